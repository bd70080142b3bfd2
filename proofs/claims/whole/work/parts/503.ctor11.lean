theorem dX11_init_0 : decode cX11_init 0 = .ok (.aload_n 0, 1) := by decide +kernel
theorem dX11_init_1 : decode cX11_init 1 = .ok (.invokespecial 1, 3) := by decide +kernel
theorem dX11_init_4 : decode cX11_init 4 = .ok (.aload_n 0, 1) := by decide +kernel
theorem dX11_init_5 : decode cX11_init 5 = .ok (.sipush 2000, 3) := by decide +kernel
theorem dX11_init_8 : decode cX11_init 8 = .ok (.newarray .byte, 2) := by decide +kernel
theorem dX11_init_10 : decode cX11_init 10 = .ok (.putfield 9, 3) := by decide +kernel
theorem dX11_init_13 : decode cX11_init 13 = .ok (.aload_n 0, 1) := by decide +kernel
theorem dX11_init_14 : decode cX11_init 14 = .ok (.new 13, 3) := by decide +kernel
theorem dX11_init_17 : decode cX11_init 17 = .ok (.dup, 1) := by decide +kernel
theorem dX11_init_18 : decode cX11_init 18 = .ok (.invokespecial 15, 3) := by decide +kernel
theorem dX11_init_21 : decode cX11_init 21 = .ok (.putfield 16, 3) := by decide +kernel
theorem dX11_init_24 : decode cX11_init 24 = .ok (.aload_n 0, 1) := by decide +kernel
theorem dX11_init_25 : decode cX11_init 25 = .ok (.new 13, 3) := by decide +kernel
theorem dX11_init_28 : decode cX11_init 28 = .ok (.dup, 1) := by decide +kernel
theorem dX11_init_29 : decode cX11_init 29 = .ok (.invokespecial 15, 3) := by decide +kernel
theorem dX11_init_32 : decode cX11_init 32 = .ok (.putfield 20, 3) := by decide +kernel
theorem dX11_init_35 : decode cX11_init 35 = .ok (.aload_n 0, 1) := by decide +kernel
theorem dX11_init_36 : decode cX11_init 36 = .ok (.new 23, 3) := by decide +kernel
theorem dX11_init_39 : decode cX11_init 39 = .ok (.dup, 1) := by decide +kernel
theorem dX11_init_40 : decode cX11_init 40 = .ok (.aload_n 0, 1) := by decide +kernel
theorem dX11_init_41 : decode cX11_init 41 = .ok (.getfield 9, 3) := by decide +kernel
theorem dX11_init_44 : decode cX11_init 44 = .ok (.aload_n 0, 1) := by decide +kernel
theorem dX11_init_45 : decode cX11_init 45 = .ok (.getfield 20, 3) := by decide +kernel
theorem dX11_init_48 : decode cX11_init 48 = .ok (.invokespecial 25, 3) := by decide +kernel
theorem dX11_init_51 : decode cX11_init 51 = .ok (.putfield 28, 3) := by decide +kernel
theorem dX11_init_54 : decode cX11_init 54 = .ok (.aload_n 0, 1) := by decide +kernel
theorem dX11_init_55 : decode cX11_init 55 = .ok (.new 32, 3) := by decide +kernel
theorem dX11_init_58 : decode cX11_init 58 = .ok (.dup, 1) := by decide +kernel
theorem dX11_init_59 : decode cX11_init 59 = .ok (.aload_n 0, 1) := by decide +kernel
theorem dX11_init_60 : decode cX11_init 60 = .ok (.getfield 16, 3) := by decide +kernel
theorem dX11_init_63 : decode cX11_init 63 = .ok (.invokespecial 34, 3) := by decide +kernel
theorem dX11_init_66 : decode cX11_init 66 = .ok (.putfield 37, 3) := by decide +kernel
theorem dX11_init_69 : decode cX11_init 69 = .ok (.aload_n 0, 1) := by decide +kernel
theorem dX11_init_70 : decode cX11_init 70 = .ok (.new 41, 3) := by decide +kernel
theorem dX11_init_73 : decode cX11_init 73 = .ok (.dup, 1) := by decide +kernel
theorem dX11_init_74 : decode cX11_init 74 = .ok (.invokespecial 43, 3) := by decide +kernel
theorem dX11_init_77 : decode cX11_init 77 = .ok (.putfield 44, 3) := by decide +kernel
theorem dX11_init_80 : decode cX11_init 80 = .ok (.aload_n 0, 1) := by decide +kernel
theorem dX11_init_81 : decode cX11_init 81 = .ok (.iconst 3, 1) := by decide +kernel
theorem dX11_init_82 : decode cX11_init 82 = .ok (.anewarray 41, 3) := by decide +kernel
theorem dX11_init_85 : decode cX11_init 85 = .ok (.putfield 48, 3) := by decide +kernel
theorem dX11_init_88 : decode cX11_init 88 = .ok (.aload_n 0, 1) := by decide +kernel
theorem dX11_init_89 : decode cX11_init 89 = .ok (.new 52, 3) := by decide +kernel
theorem dX11_init_92 : decode cX11_init 92 = .ok (.dup, 1) := by decide +kernel
theorem dX11_init_93 : decode cX11_init 93 = .ok (.invokespecial 54, 3) := by decide +kernel
theorem dX11_init_96 : decode cX11_init 96 = .ok (.putfield 55, 3) := by decide +kernel
theorem dX11_init_99 : decode cX11_init 99 = .ok (.aload_n 0, 1) := by decide +kernel
theorem dX11_init_100 : decode cX11_init 100 = .ok (.new 59, 3) := by decide +kernel
theorem dX11_init_103 : decode cX11_init 103 = .ok (.dup, 1) := by decide +kernel
theorem dX11_init_104 : decode cX11_init 104 = .ok (.aload_n 0, 1) := by decide +kernel
theorem dX11_init_105 : decode cX11_init 105 = .ok (.getfield 37, 3) := by decide +kernel
theorem dX11_init_108 : decode cX11_init 108 = .ok (.invokespecial 61, 3) := by decide +kernel
theorem dX11_init_111 : decode cX11_init 111 = .ok (.putfield 64, 3) := by decide +kernel
theorem dX11_init_114 : decode cX11_init 114 = .ok (.aload_n 0, 1) := by decide +kernel
theorem dX11_init_115 : decode cX11_init 115 = .ok (.new 68, 3) := by decide +kernel
theorem dX11_init_118 : decode cX11_init 118 = .ok (.dup, 1) := by decide +kernel
theorem dX11_init_119 : decode cX11_init 119 = .ok (.aload_n 0, 1) := by decide +kernel
theorem dX11_init_120 : decode cX11_init 120 = .ok (.getfield 37, 3) := by decide +kernel
theorem dX11_init_123 : decode cX11_init 123 = .ok (.invokespecial 70, 3) := by decide +kernel
theorem dX11_init_126 : decode cX11_init 126 = .ok (.putfield 71, 3) := by decide +kernel
theorem dX11_init_129 : decode cX11_init 129 = .ok (.aload_n 0, 1) := by decide +kernel
theorem dX11_init_130 : decode cX11_init 130 = .ok (.new 75, 3) := by decide +kernel
theorem dX11_init_133 : decode cX11_init 133 = .ok (.dup, 1) := by decide +kernel
theorem dX11_init_134 : decode cX11_init 134 = .ok (.aload_n 0, 1) := by decide +kernel
theorem dX11_init_135 : decode cX11_init 135 = .ok (.getfield 37, 3) := by decide +kernel
theorem dX11_init_138 : decode cX11_init 138 = .ok (.invokespecial 77, 3) := by decide +kernel
theorem dX11_init_141 : decode cX11_init 141 = .ok (.putfield 78, 3) := by decide +kernel
theorem dX11_init_144 : decode cX11_init 144 = .ok (.aload_n 0, 1) := by decide +kernel
theorem dX11_init_145 : decode cX11_init 145 = .ok (.new 82, 3) := by decide +kernel
theorem dX11_init_148 : decode cX11_init 148 = .ok (.dup, 1) := by decide +kernel
theorem dX11_init_149 : decode cX11_init 149 = .ok (.aload_n 0, 1) := by decide +kernel
theorem dX11_init_150 : decode cX11_init 150 = .ok (.getfield 37, 3) := by decide +kernel
theorem dX11_init_153 : decode cX11_init 153 = .ok (.invokespecial 84, 3) := by decide +kernel
theorem dX11_init_156 : decode cX11_init 156 = .ok (.putfield 85, 3) := by decide +kernel
theorem dX11_init_159 : decode cX11_init 159 = .ok (.iconst 0, 1) := by decide +kernel
theorem dX11_init_160 : decode cX11_init 160 = .ok (.istore_n 1, 1) := by decide +kernel
theorem dX11_init_161 : decode cX11_init 161 = .ok (.iload_n 1, 1) := by decide +kernel
theorem dX11_init_162 : decode cX11_init 162 = .ok (.iconst 3, 1) := by decide +kernel
theorem dX11_init_163 : decode cX11_init 163 = .ok (.if_icmp .ge 22, 3) := by decide +kernel
theorem dX11_init_166 : decode cX11_init 166 = .ok (.aload_n 0, 1) := by decide +kernel
theorem dX11_init_167 : decode cX11_init 167 = .ok (.getfield 48, 3) := by decide +kernel
theorem dX11_init_170 : decode cX11_init 170 = .ok (.iload_n 1, 1) := by decide +kernel
theorem dX11_init_171 : decode cX11_init 171 = .ok (.new 41, 3) := by decide +kernel
theorem dX11_init_174 : decode cX11_init 174 = .ok (.dup, 1) := by decide +kernel
theorem dX11_init_175 : decode cX11_init 175 = .ok (.invokespecial 43, 3) := by decide +kernel
theorem dX11_init_178 : decode cX11_init 178 = .ok (.aastore, 1) := by decide +kernel
theorem dX11_init_179 : decode cX11_init 179 = .ok (.iinc 1 1, 3) := by decide +kernel
theorem dX11_init_182 : decode cX11_init 182 = .ok (.goto (-21), 3) := by decide +kernel
theorem dX11_init_185 : decode cX11_init 185 = .ok (.aload_n 0, 1) := by decide +kernel
theorem dX11_init_186 : decode cX11_init 186 = .ok (.getfield 44, 3) := by decide +kernel
theorem dX11_init_189 : decode cX11_init 189 = .ok (.aload_n 0, 1) := by decide +kernel
theorem dX11_init_190 : decode cX11_init 190 = .ok (.getfield 16, 3) := by decide +kernel
theorem dX11_init_193 : decode cX11_init 193 = .ok (.invokevirtual 89, 3) := by decide +kernel
theorem dX11_init_196 : decode cX11_init 196 = .ok (.return_, 1) := by decide +kernel
theorem Wp.eqT {X : CX} {cc : ByteArray} {own : String} {nL : Nat} {T T' : List Dsc} {μ : Mem} {n1 n2 pc : Nat} {lo : List (Nat × Value)} {st : List Value} (h : T = T') (kk : Wp X cc own nL T' μ n1 n2 pc lo st) : Wp X cc own nL T μ n1 n2 pc lo st := by
  subst h
  exact kk
theorem Wp.newQ1 {X : CX} {cc : ByteArray} {own : String} {nL : Nat} {T : List Dsc} {μ : Mem} {n1 n2 pc : Nat} {lo : List (Nat × Value)} {st : List Value} {d M : Nat} {C : String} {n : Int32} {N ix : Nat} (hM : T.length = M) (hF : Frs μ M) (hO : XOl X M) (hX : XR X d (n1 + 1) (n2 + N)) (hst : ∀ v ∈ st, vbl M v) (hlo : ∀ q ∈ lo, vbl M q.2) (hcl : Cond.classLink own ix C ∈ gw) (hao : XAo X) (hC : C = "GalleyStroke$Crew") (hn0 : ¬ n < 0) (hN : n.toNatClampNeg = N) (hbytes : N * 4 ≤ 536870912) (hd : decode cc pc = .ok (.anewarray ix, 3))
    (kk : Wp X cc own nL (T ++ [.inr (.object C, N)]) μ (n1 + 1) (n2 + N) (pc + 3) lo (.ref M :: st)) : Wp X cc own nL T μ n1 n2 pc lo (.int n :: st) := by
  subst hM
  exact Wp.newQa hF hO hX hst hlo hcl hao hC hn0 hN hbytes hd kk
def mem0 : Mem := (fun _ _ => 0, fun _ _ => 0, fun _ _ => none)
theorem mem0_fr : Frs mem0 0 := ⟨fun _ _ _ => ⟨rfl, rfl, rfl⟩, fun _ _ _ h => by cases h⟩
theorem Frs.st {μ μ' : Mem} {N M : Nat} (h : Frs μ N) (e : μ = μ') (l : N ≤ M) : Frs μ' M := by
  subst e
  exact h.up l
theorem qdX1_begin_0 : decode cX1_begin 0 = .ok (.aload_n 0, 1) := by decide +kernel
theorem qdX1_begin_1 : decode cX1_begin 1 = .ok (.aload_n 1, 1) := by decide +kernel
theorem qdX1_begin_2 : decode cX1_begin 2 = .ok (.getfield 22, 3) := by decide +kernel
theorem qdX1_begin_5 : decode cX1_begin 5 = .ok (.putfield 28, 3) := by decide +kernel
theorem qdX1_begin_8 : decode cX1_begin 8 = .ok (.aload_n 0, 1) := by decide +kernel
theorem qdX1_begin_9 : decode cX1_begin 9 = .ok (.aload_n 1, 1) := by decide +kernel
theorem qdX1_begin_10 : decode cX1_begin 10 = .ok (.getfield 31, 3) := by decide +kernel
theorem qdX1_begin_13 : decode cX1_begin 13 = .ok (.putfield 18, 3) := by decide +kernel
theorem qdX1_begin_16 : decode cX1_begin 16 = .ok (.aload_n 0, 1) := by decide +kernel
theorem qdX1_begin_17 : decode cX1_begin 17 = .ok (.iconst 0, 1) := by decide +kernel
theorem qdX1_begin_18 : decode cX1_begin 18 = .ok (.putfield 32, 3) := by decide +kernel
theorem qdX1_begin_21 : decode cX1_begin 21 = .ok (.iconst 0, 1) := by decide +kernel
theorem qdX1_begin_22 : decode cX1_begin 22 = .ok (.istore_n 2, 1) := by decide +kernel
theorem qdX1_begin_23 : decode cX1_begin 23 = .ok (.iload_n 2, 1) := by decide +kernel
theorem qdX1_begin_24 : decode cX1_begin 24 = .ok (.aload_n 1, 1) := by decide +kernel
theorem qdX1_begin_25 : decode cX1_begin 25 = .ok (.getfield 35, 3) := by decide +kernel
theorem qdX1_begin_28 : decode cX1_begin 28 = .ok (.if_icmp .ge 28, 3) := by decide +kernel
theorem qdX1_begin_56 : decode cX1_begin 56 = .ok (.return_, 1) := by decide +kernel
theorem nk_RX1_22 : FK RX1 22 6 7 := ⟨_, _, _, rfl, by decide, gw_tb 66 (by decide +kernel) rfl⟩
theorem nf_RX1_6_7 : FKf RX1 6 7 false := by
  intro C TT N h
  cases h
  exact ⟨rfl, fun h => by cases h⟩
theorem nk_RX1_31 : FK RX1 31 6 8 := ⟨_, _, _, rfl, by decide, gw_tb 71 (by decide +kernel) rfl⟩
theorem nf_RX1_6_8 : FKf RX1 6 8 false := by
  intro C TT N h
  cases h
  exact ⟨rfl, fun h => by cases h⟩
theorem nk_RX1_35 : FK RX1 35 6 5 := ⟨_, _, _, rfl, by decide, gw_tb 55 (by decide +kernel) rfl⟩
theorem nf_RX1_6_5 : FKf RX1 6 5 false := by
  intro C TT N h
  cases h
  exact ⟨rfl, fun h => by cases h⟩
theorem nk_RX1_28 : FK RX1 28 1 0 := ⟨_, _, _, rfl, by decide, gw_tb 284 (by decide +kernel) rfl⟩
theorem nf_RX1_1_0 : FKf RX1 1 0 false := by
  intro C TT N h
  cases h
  exact ⟨rfl, fun h => by cases h⟩
theorem nk_RX1_32 : FK RX1 32 1 4 := ⟨_, _, _, rfl, by decide, gw_tb 301 (by decide +kernel) rfl⟩
theorem nf_RX1_1_4 : FKf RX1 1 4 false := by
  intro C TT N h
  cases h
  exact ⟨rfl, fun h => by cases h⟩
theorem cb_begin {T : List Dsc} {μ : Mem} {w t : Nat} (hw : T[w]? = some (.inl 1)) (ht : T[t]? = some (.inl 6)) (h0 : gI (sI (sI (sJ μ w 0 (gJ μ t 7)) w 3 (gI (sJ μ w 0 (gJ μ t 7)) t 8)) w 4 0) t 5 = 0) : Ct 1 yX1_begin cX1_begin 3 none T μ [.ref w, .ref t] none (sI (sI (sJ μ w 0 (gJ μ t 7)) w 3 (gI (sJ μ w 0 (gJ μ t 7)) t 8)) w 4 0) := by
  refine Ct.ofV (by decide +kernel) (Nat.le_of_ble_eq_true rfl) (fun X hX hk => ?_)
  refine Wp.lo' (lo' := [(0, .ref w), (1, .ref t)]) [0, 1] rfl ?_
  refine Wp.aload_n (pc := 0) 0 rfl rfl qdX1_begin_0 ?_
  refine Wp.aload_n (pc := 1) 1 rfl rfl qdX1_begin_1 ?_
  refine Wp.getJ (pc := 2) ht nk_RX1_22 rfl qdX1_begin_2 ?_
  refine Wp.putJ (pc := 5) hw nk_RX1_28 nf_RX1_1_0 rfl qdX1_begin_5 ?_
  refine Wp.aload_n (pc := 8) 0 rfl rfl qdX1_begin_8 ?_
  refine Wp.aload_n (pc := 9) 1 rfl rfl qdX1_begin_9 ?_
  refine Wp.getI (pc := 10) ht nk_RX1_31 rfl qdX1_begin_10 ?_
  refine Wp.putI (pc := 13) hw nk_RX1_18 nf_RX1_1_3 rfl qdX1_begin_13 ?_
  refine Wp.aload_n (pc := 16) 0 rfl rfl qdX1_begin_16 ?_
  refine Wp.iconst (pc := 17) (0 : Int32) (by decide) qdX1_begin_17 ?_
  refine Wp.putI (pc := 18) hw nk_RX1_32 nf_RX1_1_4 rfl qdX1_begin_18 ?_
  refine Wp.iconst (pc := 21) (0 : Int32) (by decide) qdX1_begin_21 ?_
  refine Wp.istore_n (pc := 22) (lo' := [(0, .ref w), (1, .ref t), (2, .int (0 : Int32))]) [1, 2, 0] rfl (by decide) rfl qdX1_begin_22 ?_
  refine Wp.iload_n (pc := 23) 2 rfl rfl qdX1_begin_23 ?_
  refine Wp.aload_n (pc := 24) 1 rfl rfl qdX1_begin_24 ?_
  refine Wp.getI (pc := 25) ht nk_RX1_35 rfl qdX1_begin_25 ?_
  rw [h0]
  refine Wp.icmp_ge (pc := 28) 56 qdX1_begin_28 (by decide) (fun _ => ?_) (fun q => absurd (by decide) q)
  exact hk _ _ qdX1_begin_56
theorem nmb_X1_begin : MB yX1_begin cX1_begin 3 none 1 := ⟨gw_tb 10 (by decide +kernel) rfl, gw_tb 446 (by decide +kernel) rfl, by decide +kernel, by decide +kernel, by decide +kernel⟩
theorem nmv_X1_begin : MV yX1_begin := ⟨gw_tb 444 (by decide +kernel) rfl, gw_tb 445 (by decide +kernel) rfl⟩
theorem nml_RX11_89 : ML RX11 89 yX1_begin := gw_tb 443 (by decide +kernel) rfl
def TG1 : List Dsc := [.inl 10]
theorem oi_RX11 : OI RX11 1 := ⟨gw_tb 26 (by decide +kernel) rfl, gw_tb 27 (by decide +kernel) rfl, gw_tb 28 (by decide +kernel) rfl⟩
def TG2 : List Dsc := [.inl 10, .inr (.byte, 2000)]
theorem nk_RX11_9 : FK RX11 9 10 0 := ⟨_, _, _, rfl, by decide, gw_tb 447 (by decide +kernel) rfl⟩
theorem nf_RX11_10_0 : FKf RX11 10 0 true := by
  intro C TT N h
  cases h
  exact ⟨rfl, fun h => rfl⟩
def mX1 : Mem := (sR mem0 0 0 (some 1))
theorem nn_RX11_13 : NwK RX11 13 6 := ⟨_, _, _, rfl, gw_tb 29 (by decide +kernel) rfl, gw_tb 30 (by decide +kernel) rfl, gw_tb 2 (by decide +kernel) rfl, by decide⟩
def TG3 : List Dsc := [.inl 10, .inr (.byte, 2000), .inl 6]
theorem nmb_X7_init : MB yX7_init cX7_init 1 none 0 := ⟨gw_tb 2 (by decide +kernel) rfl, gw_tb 33 (by decide +kernel) rfl, by decide +kernel, by decide +kernel, by decide +kernel⟩
theorem nmi_X7_init : Cond.instanceMethod yX7_init ∈ gw := gw_tb 32 (by decide +kernel) rfl
def TG8 : List Dsc := [.inl 10, .inr (.byte, 2000), .inl 6, .inr (.int, 6), .inr (.int, 400), .inr (.int, 12), .inr (.int, 4), .inr (.int, 4)]
def mX2 : Mem := (sR (sR (sI (sI (sR (sR (sR (sI mX1 2 0 (24)) 2 2 (some 3)) 2 3 (some 4)) 2 6 (some 5)) 2 8 (-1)) 2 10 (-1)) 2 12 (some 6)) 2 13 (some 7))
theorem nk_RX11_16 : FK RX11 16 10 2 := ⟨_, _, _, rfl, by decide, gw_tb 449 (by decide +kernel) rfl⟩
theorem nf_RX11_10_2 : FKf RX11 10 2 false := by
  intro C TT N h
  cases h
  exact ⟨rfl, fun h => by cases h⟩
def mX3 : Mem := (sR mX2 0 2 (some 2))
def TG9 : List Dsc := [.inl 10, .inr (.byte, 2000), .inl 6, .inr (.int, 6), .inr (.int, 400), .inr (.int, 12), .inr (.int, 4), .inr (.int, 4), .inl 6]
def TG14 : List Dsc := [.inl 10, .inr (.byte, 2000), .inl 6, .inr (.int, 6), .inr (.int, 400), .inr (.int, 12), .inr (.int, 4), .inr (.int, 4), .inl 6, .inr (.int, 6), .inr (.int, 400), .inr (.int, 12), .inr (.int, 4), .inr (.int, 4)]
def mX4 : Mem := (sR (sR (sI (sI (sR (sR (sR (sI mX3 8 0 (24)) 8 2 (some 9)) 8 3 (some 10)) 8 6 (some 11)) 8 8 (-1)) 8 10 (-1)) 8 12 (some 12)) 8 13 (some 13))
theorem nk_RX11_20 : FK RX11 20 10 3 := ⟨_, _, _, rfl, by decide, gw_tb 450 (by decide +kernel) rfl⟩
theorem nf_RX11_10_3 : FKf RX11 10 3 false := by
  intro C TT N h
  cases h
  exact ⟨rfl, fun h => by cases h⟩
def mX5 : Mem := (sR mX4 0 3 (some 8))
theorem nn_RX11_23 : NwK RX11 23 3 := ⟨_, _, _, rfl, gw_tb 120 (by decide +kernel) rfl, gw_tb 121 (by decide +kernel) rfl, gw_tb 3 (by decide +kernel) rfl, by decide⟩
def TG15 : List Dsc := [.inl 10, .inr (.byte, 2000), .inl 6, .inr (.int, 6), .inr (.int, 400), .inr (.int, 12), .inr (.int, 4), .inr (.int, 4), .inl 6, .inr (.int, 6), .inr (.int, 400), .inr (.int, 12), .inr (.int, 4), .inr (.int, 4), .inl 3]
theorem nmb_X4_init : MB yX4_init cX4_init 3 none 2 := ⟨gw_tb 3 (by decide +kernel) rfl, gw_tb 124 (by decide +kernel) rfl, by decide +kernel, by decide +kernel, by decide +kernel⟩
theorem nmi_X4_init : Cond.instanceMethod yX4_init ∈ gw := gw_tb 123 (by decide +kernel) rfl
theorem nml_RX11_25 : ML RX11 25 yX4_init := gw_tb 122 (by decide +kernel) rfl
def TG23 : List Dsc := [.inl 10, .inr (.byte, 2000), .inl 6, .inr (.int, 6), .inr (.int, 400), .inr (.int, 12), .inr (.int, 4), .inr (.int, 4), .inl 6, .inr (.int, 6), .inr (.int, 400), .inr (.int, 12), .inr (.int, 4), .inr (.int, 4), .inl 3, .inr (.int, 25), .inr (.long, 18), .inr (.int, 18), .inl 7, .inr (.long, 17), .inr (.int, 401), .inr (.long, 401), .inr (.int, 401)]
def mX6 : Mem := (mRd mX5 15 14 1 8)
theorem nk_RX11_28 : FK RX11 28 10 4 := ⟨_, _, _, rfl, by decide, gw_tb 451 (by decide +kernel) rfl⟩
theorem nf_RX11_10_4 : FKf RX11 10 4 true := by
  intro C TT N h
  cases h
  exact ⟨rfl, fun h => rfl⟩
def mX7 : Mem := (sR mX6 0 4 (some 14))
theorem nn_RX11_32 : NwK RX11 32 4 := ⟨_, _, _, rfl, gw_tb 251 (by decide +kernel) rfl, gw_tb 252 (by decide +kernel) rfl, gw_tb 9 (by decide +kernel) rfl, by decide⟩
def TG24 : List Dsc := [.inl 10, .inr (.byte, 2000), .inl 6, .inr (.int, 6), .inr (.int, 400), .inr (.int, 12), .inr (.int, 4), .inr (.int, 4), .inl 6, .inr (.int, 6), .inr (.int, 400), .inr (.int, 12), .inr (.int, 4), .inr (.int, 4), .inl 3, .inr (.int, 25), .inr (.long, 18), .inr (.int, 18), .inl 7, .inr (.long, 17), .inr (.int, 401), .inr (.long, 401), .inr (.int, 401), .inl 4]
theorem nmb_X5_init : MB yX5_init cX5_init 2 none 1 := ⟨gw_tb 9 (by decide +kernel) rfl, gw_tb 255 (by decide +kernel) rfl, by decide +kernel, by decide +kernel, by decide +kernel⟩
theorem nmi_X5_init : Cond.instanceMethod yX5_init ∈ gw := gw_tb 254 (by decide +kernel) rfl
theorem nml_RX11_34 : ML RX11 34 yX5_init := gw_tb 253 (by decide +kernel) rfl
def TG28 : List Dsc := [.inl 10, .inr (.byte, 2000), .inl 6, .inr (.int, 6), .inr (.int, 400), .inr (.int, 12), .inr (.int, 4), .inr (.int, 4), .inl 6, .inr (.int, 6), .inr (.int, 400), .inr (.int, 12), .inr (.int, 4), .inr (.int, 4), .inl 3, .inr (.int, 25), .inr (.long, 18), .inr (.int, 18), .inl 7, .inr (.long, 17), .inr (.int, 401), .inr (.long, 401), .inr (.int, 401), .inl 4, .inr (.int, 64), .inr (.int, 6), .inr (.int, 24), .inr (.int, 12)]
def mX8 : Mem := (sR (sR (sR (sR (sR mX7 23 1 (some 24)) 23 2 (some 25)) 23 3 (some 26)) 23 4 (some 27)) 23 0 (some 2))
theorem nk_RX11_37 : FK RX11 37 10 5 := ⟨_, _, _, rfl, by decide, gw_tb 452 (by decide +kernel) rfl⟩
theorem nf_RX11_10_5 : FKf RX11 10 5 true := by
  intro C TT N h
  cases h
  exact ⟨rfl, fun h => rfl⟩
def mX9 : Mem := (sR mX8 0 5 (some 23))
theorem nn_RX11_41 : NwK RX11 41 1 := ⟨_, _, _, rfl, gw_tb 278 (by decide +kernel) rfl, gw_tb 279 (by decide +kernel) rfl, gw_tb 10 (by decide +kernel) rfl, by decide⟩
def TG29 : List Dsc := [.inl 10, .inr (.byte, 2000), .inl 6, .inr (.int, 6), .inr (.int, 400), .inr (.int, 12), .inr (.int, 4), .inr (.int, 4), .inl 6, .inr (.int, 6), .inr (.int, 400), .inr (.int, 12), .inr (.int, 4), .inr (.int, 4), .inl 3, .inr (.int, 25), .inr (.long, 18), .inr (.int, 18), .inl 7, .inr (.long, 17), .inr (.int, 401), .inr (.long, 401), .inr (.int, 401), .inl 4, .inr (.int, 64), .inr (.int, 6), .inr (.int, 24), .inr (.int, 12), .inl 1]
theorem nmb_X1_init : MB yX1_init cX1_init 1 none 0 := ⟨gw_tb 10 (by decide +kernel) rfl, gw_tb 282 (by decide +kernel) rfl, by decide +kernel, by decide +kernel, by decide +kernel⟩
theorem nmi_X1_init : Cond.instanceMethod yX1_init ∈ gw := gw_tb 281 (by decide +kernel) rfl
def TG31 : List Dsc := [.inl 10, .inr (.byte, 2000), .inl 6, .inr (.int, 6), .inr (.int, 400), .inr (.int, 12), .inr (.int, 4), .inr (.int, 4), .inl 6, .inr (.int, 6), .inr (.int, 400), .inr (.int, 12), .inr (.int, 4), .inr (.int, 4), .inl 3, .inr (.int, 25), .inr (.long, 18), .inr (.int, 18), .inl 7, .inr (.long, 17), .inr (.int, 401), .inr (.long, 401), .inr (.int, 401), .inl 4, .inr (.int, 64), .inr (.int, 6), .inr (.int, 24), .inr (.int, 12), .inl 1, .inr (.int, 12), .inr (.int, 12)]
def mX10 : Mem := (sI (sR (sR mX9 28 1 (some 29)) 28 2 (some 30)) 28 3 (-1))
theorem nk_RX11_44 : FK RX11 44 10 6 := ⟨_, _, _, rfl, by decide, gw_tb 453 (by decide +kernel) rfl⟩
theorem nf_RX11_10_6 : FKf RX11 10 6 true := by
  intro C TT N h
  cases h
  exact ⟨rfl, fun h => rfl⟩
def mX11 : Mem := (sR mX10 0 6 (some 28))
def TG32 : List Dsc := [.inl 10, .inr (.byte, 2000), .inl 6, .inr (.int, 6), .inr (.int, 400), .inr (.int, 12), .inr (.int, 4), .inr (.int, 4), .inl 6, .inr (.int, 6), .inr (.int, 400), .inr (.int, 12), .inr (.int, 4), .inr (.int, 4), .inl 3, .inr (.int, 25), .inr (.long, 18), .inr (.int, 18), .inl 7, .inr (.long, 17), .inr (.int, 401), .inr (.long, 401), .inr (.int, 401), .inl 4, .inr (.int, 64), .inr (.int, 6), .inr (.int, 24), .inr (.int, 12), .inl 1, .inr (.int, 12), .inr (.int, 12), .inr (.object "GalleyStroke$Crew", 3)]
theorem nk_RX11_48 : FK RX11 48 10 7 := ⟨_, _, _, rfl, by decide, gw_tb 454 (by decide +kernel) rfl⟩
theorem nf_RX11_10_7 : FKf RX11 10 7 true := by
  intro C TT N h
  cases h
  exact ⟨rfl, fun h => rfl⟩
def mX12 : Mem := (sR mX11 0 7 (some 31))
theorem nn_RX11_52 : NwK RX11 52 2 := ⟨_, _, _, rfl, gw_tb 320 (by decide +kernel) rfl, gw_tb 321 (by decide +kernel) rfl, gw_tb 11 (by decide +kernel) rfl, by decide⟩
def TG33 : List Dsc := [.inl 10, .inr (.byte, 2000), .inl 6, .inr (.int, 6), .inr (.int, 400), .inr (.int, 12), .inr (.int, 4), .inr (.int, 4), .inl 6, .inr (.int, 6), .inr (.int, 400), .inr (.int, 12), .inr (.int, 4), .inr (.int, 4), .inl 3, .inr (.int, 25), .inr (.long, 18), .inr (.int, 18), .inl 7, .inr (.long, 17), .inr (.int, 401), .inr (.long, 401), .inr (.int, 401), .inl 4, .inr (.int, 64), .inr (.int, 6), .inr (.int, 24), .inr (.int, 12), .inl 1, .inr (.int, 12), .inr (.int, 12), .inr (.object "GalleyStroke$Crew", 3), .inl 2]
theorem nmb_X3_init : MB yX3_init cX3_init 1 none 0 := ⟨gw_tb 11 (by decide +kernel) rfl, gw_tb 324 (by decide +kernel) rfl, by decide +kernel, by decide +kernel, by decide +kernel⟩
theorem nmi_X3_init : Cond.instanceMethod yX3_init ∈ gw := gw_tb 323 (by decide +kernel) rfl
def TG34 : List Dsc := [.inl 10, .inr (.byte, 2000), .inl 6, .inr (.int, 6), .inr (.int, 400), .inr (.int, 12), .inr (.int, 4), .inr (.int, 4), .inl 6, .inr (.int, 6), .inr (.int, 400), .inr (.int, 12), .inr (.int, 4), .inr (.int, 4), .inl 3, .inr (.int, 25), .inr (.long, 18), .inr (.int, 18), .inl 7, .inr (.long, 17), .inr (.int, 401), .inr (.long, 401), .inr (.int, 401), .inl 4, .inr (.int, 64), .inr (.int, 6), .inr (.int, 24), .inr (.int, 12), .inl 1, .inr (.int, 12), .inr (.int, 12), .inr (.object "GalleyStroke$Crew", 3), .inl 2, .inr (.long, 100)]
def mX13 : Mem := (sR mX12 32 0 (some 33))
theorem nk_RX11_55 : FK RX11 55 10 8 := ⟨_, _, _, rfl, by decide, gw_tb 455 (by decide +kernel) rfl⟩
theorem nf_RX11_10_8 : FKf RX11 10 8 true := by
  intro C TT N h
  cases h
  exact ⟨rfl, fun h => rfl⟩
def mX14 : Mem := (sR mX13 0 8 (some 32))
theorem nn_RX11_59 : NwK RX11 59 5 := ⟨_, _, _, rfl, gw_tb 337 (by decide +kernel) rfl, gw_tb 338 (by decide +kernel) rfl, gw_tb 12 (by decide +kernel) rfl, by decide⟩
def TG35 : List Dsc := [.inl 10, .inr (.byte, 2000), .inl 6, .inr (.int, 6), .inr (.int, 400), .inr (.int, 12), .inr (.int, 4), .inr (.int, 4), .inl 6, .inr (.int, 6), .inr (.int, 400), .inr (.int, 12), .inr (.int, 4), .inr (.int, 4), .inl 3, .inr (.int, 25), .inr (.long, 18), .inr (.int, 18), .inl 7, .inr (.long, 17), .inr (.int, 401), .inr (.long, 401), .inr (.int, 401), .inl 4, .inr (.int, 64), .inr (.int, 6), .inr (.int, 24), .inr (.int, 12), .inl 1, .inr (.int, 12), .inr (.int, 12), .inr (.object "GalleyStroke$Crew", 3), .inl 2, .inr (.long, 100), .inl 5]
theorem nmb_X6_init : MB yX6_init cX6_init 2 none 1 := ⟨gw_tb 12 (by decide +kernel) rfl, gw_tb 341 (by decide +kernel) rfl, by decide +kernel, by decide +kernel, by decide +kernel⟩
theorem nmi_X6_init : Cond.instanceMethod yX6_init ∈ gw := gw_tb 340 (by decide +kernel) rfl
theorem nml_RX11_61 : ML RX11 61 yX6_init := gw_tb 339 (by decide +kernel) rfl
def TG38 : List Dsc := [.inl 10, .inr (.byte, 2000), .inl 6, .inr (.int, 6), .inr (.int, 400), .inr (.int, 12), .inr (.int, 4), .inr (.int, 4), .inl 6, .inr (.int, 6), .inr (.int, 400), .inr (.int, 12), .inr (.int, 4), .inr (.int, 4), .inl 3, .inr (.int, 25), .inr (.long, 18), .inr (.int, 18), .inl 7, .inr (.long, 17), .inr (.int, 401), .inr (.long, 401), .inr (.int, 401), .inl 4, .inr (.int, 64), .inr (.int, 6), .inr (.int, 24), .inr (.int, 12), .inl 1, .inr (.int, 12), .inr (.int, 12), .inr (.object "GalleyStroke$Crew", 3), .inl 2, .inr (.long, 100), .inl 5, .inr (.int, 12), .inr (.int, 12), .inr (.int, 12)]
def mX15 : Mem := (sR (sR (sR (sR mX14 34 1 (some 35)) 34 2 (some 36)) 34 3 (some 37)) 34 0 (some 23))
theorem nk_RX11_64 : FK RX11 64 10 9 := ⟨_, _, _, rfl, by decide, gw_tb 456 (by decide +kernel) rfl⟩
theorem nf_RX11_10_9 : FKf RX11 10 9 true := by
  intro C TT N h
  cases h
  exact ⟨rfl, fun h => rfl⟩
def mX16 : Mem := (sR mX15 0 9 (some 34))
theorem nn_RX11_68 : NwK RX11 68 0 := ⟨_, _, _, rfl, gw_tb 357 (by decide +kernel) rfl, gw_tb 358 (by decide +kernel) rfl, gw_tb 13 (by decide +kernel) rfl, by decide⟩
def TG39 : List Dsc := [.inl 10, .inr (.byte, 2000), .inl 6, .inr (.int, 6), .inr (.int, 400), .inr (.int, 12), .inr (.int, 4), .inr (.int, 4), .inl 6, .inr (.int, 6), .inr (.int, 400), .inr (.int, 12), .inr (.int, 4), .inr (.int, 4), .inl 3, .inr (.int, 25), .inr (.long, 18), .inr (.int, 18), .inl 7, .inr (.long, 17), .inr (.int, 401), .inr (.long, 401), .inr (.int, 401), .inl 4, .inr (.int, 64), .inr (.int, 6), .inr (.int, 24), .inr (.int, 12), .inl 1, .inr (.int, 12), .inr (.int, 12), .inr (.object "GalleyStroke$Crew", 3), .inl 2, .inr (.long, 100), .inl 5, .inr (.int, 12), .inr (.int, 12), .inr (.int, 12), .inl 0]
theorem nmb_X0_init : MB yX0_init cX0_init 2 none 1 := ⟨gw_tb 13 (by decide +kernel) rfl, gw_tb 361 (by decide +kernel) rfl, by decide +kernel, by decide +kernel, by decide +kernel⟩
theorem nmi_X0_init : Cond.instanceMethod yX0_init ∈ gw := gw_tb 360 (by decide +kernel) rfl
theorem nml_RX11_70 : ML RX11 70 yX0_init := gw_tb 359 (by decide +kernel) rfl
def mX17 : Mem := (sR mX16 38 0 (some 23))
theorem nk_RX11_71 : FK RX11 71 10 10 := ⟨_, _, _, rfl, by decide, gw_tb 457 (by decide +kernel) rfl⟩
theorem nf_RX11_10_10 : FKf RX11 10 10 true := by
  intro C TT N h
  cases h
  exact ⟨rfl, fun h => rfl⟩
def mX18 : Mem := (sR mX17 0 10 (some 38))
theorem nn_RX11_75 : NwK RX11 75 8 := ⟨_, _, _, rfl, gw_tb 381 (by decide +kernel) rfl, gw_tb 382 (by decide +kernel) rfl, gw_tb 14 (by decide +kernel) rfl, by decide⟩
def TG40 : List Dsc := [.inl 10, .inr (.byte, 2000), .inl 6, .inr (.int, 6), .inr (.int, 400), .inr (.int, 12), .inr (.int, 4), .inr (.int, 4), .inl 6, .inr (.int, 6), .inr (.int, 400), .inr (.int, 12), .inr (.int, 4), .inr (.int, 4), .inl 3, .inr (.int, 25), .inr (.long, 18), .inr (.int, 18), .inl 7, .inr (.long, 17), .inr (.int, 401), .inr (.long, 401), .inr (.int, 401), .inl 4, .inr (.int, 64), .inr (.int, 6), .inr (.int, 24), .inr (.int, 12), .inl 1, .inr (.int, 12), .inr (.int, 12), .inr (.object "GalleyStroke$Crew", 3), .inl 2, .inr (.long, 100), .inl 5, .inr (.int, 12), .inr (.int, 12), .inr (.int, 12), .inl 0, .inl 8]
theorem nmb_X9_init : MB yX9_init cX9_init 2 none 1 := ⟨gw_tb 14 (by decide +kernel) rfl, gw_tb 385 (by decide +kernel) rfl, by decide +kernel, by decide +kernel, by decide +kernel⟩
theorem nmi_X9_init : Cond.instanceMethod yX9_init ∈ gw := gw_tb 384 (by decide +kernel) rfl
theorem nml_RX11_77 : ML RX11 77 yX9_init := gw_tb 383 (by decide +kernel) rfl
def TG41 : List Dsc := [.inl 10, .inr (.byte, 2000), .inl 6, .inr (.int, 6), .inr (.int, 400), .inr (.int, 12), .inr (.int, 4), .inr (.int, 4), .inl 6, .inr (.int, 6), .inr (.int, 400), .inr (.int, 12), .inr (.int, 4), .inr (.int, 4), .inl 3, .inr (.int, 25), .inr (.long, 18), .inr (.int, 18), .inl 7, .inr (.long, 17), .inr (.int, 401), .inr (.long, 401), .inr (.int, 401), .inl 4, .inr (.int, 64), .inr (.int, 6), .inr (.int, 24), .inr (.int, 12), .inl 1, .inr (.int, 12), .inr (.int, 12), .inr (.object "GalleyStroke$Crew", 3), .inl 2, .inr (.long, 100), .inl 5, .inr (.int, 12), .inr (.int, 12), .inr (.int, 12), .inl 0, .inl 8, .inr (.long, 401)]
def mX19 : Mem := (sR (sR mX18 39 1 (some 40)) 39 0 (some 23))
theorem nk_RX11_78 : FK RX11 78 10 11 := ⟨_, _, _, rfl, by decide, gw_tb 458 (by decide +kernel) rfl⟩
theorem nf_RX11_10_11 : FKf RX11 10 11 true := by
  intro C TT N h
  cases h
  exact ⟨rfl, fun h => rfl⟩
def mX20 : Mem := (sR mX19 0 11 (some 39))
theorem nn_RX11_82 : NwK RX11 82 9 := ⟨_, _, _, rfl, gw_tb 414 (by decide +kernel) rfl, gw_tb 415 (by decide +kernel) rfl, gw_tb 15 (by decide +kernel) rfl, by decide⟩
def TG42 : List Dsc := [.inl 10, .inr (.byte, 2000), .inl 6, .inr (.int, 6), .inr (.int, 400), .inr (.int, 12), .inr (.int, 4), .inr (.int, 4), .inl 6, .inr (.int, 6), .inr (.int, 400), .inr (.int, 12), .inr (.int, 4), .inr (.int, 4), .inl 3, .inr (.int, 25), .inr (.long, 18), .inr (.int, 18), .inl 7, .inr (.long, 17), .inr (.int, 401), .inr (.long, 401), .inr (.int, 401), .inl 4, .inr (.int, 64), .inr (.int, 6), .inr (.int, 24), .inr (.int, 12), .inl 1, .inr (.int, 12), .inr (.int, 12), .inr (.object "GalleyStroke$Crew", 3), .inl 2, .inr (.long, 100), .inl 5, .inr (.int, 12), .inr (.int, 12), .inr (.int, 12), .inl 0, .inl 8, .inr (.long, 401), .inl 9]
theorem nmb_X10_init : MB yX10_init cX10_init 2 none 1 := ⟨gw_tb 15 (by decide +kernel) rfl, gw_tb 418 (by decide +kernel) rfl, by decide +kernel, by decide +kernel, by decide +kernel⟩
theorem nmi_X10_init : Cond.instanceMethod yX10_init ∈ gw := gw_tb 417 (by decide +kernel) rfl
theorem nml_RX11_84 : ML RX11 84 yX10_init := gw_tb 416 (by decide +kernel) rfl
def TG47 : List Dsc := [.inl 10, .inr (.byte, 2000), .inl 6, .inr (.int, 6), .inr (.int, 400), .inr (.int, 12), .inr (.int, 4), .inr (.int, 4), .inl 6, .inr (.int, 6), .inr (.int, 400), .inr (.int, 12), .inr (.int, 4), .inr (.int, 4), .inl 3, .inr (.int, 25), .inr (.long, 18), .inr (.int, 18), .inl 7, .inr (.long, 17), .inr (.int, 401), .inr (.long, 401), .inr (.int, 401), .inl 4, .inr (.int, 64), .inr (.int, 6), .inr (.int, 24), .inr (.int, 12), .inl 1, .inr (.int, 12), .inr (.int, 12), .inr (.object "GalleyStroke$Crew", 3), .inl 2, .inr (.long, 100), .inl 5, .inr (.int, 12), .inr (.int, 12), .inr (.int, 12), .inl 0, .inl 8, .inr (.long, 401), .inl 9, .inr (.int, 20), .inr (.int, 20), .inr (.int, 20), .inr (.int, 12), .inr (.int, 12)]
def mX21 : Mem := (sR (sR (sR (sR (sR (sR mX20 41 2 (some 42)) 41 3 (some 43)) 41 4 (some 44)) 41 5 (some 45)) 41 6 (some 46)) 41 0 (some 23))
theorem nk_RX11_85 : FK RX11 85 10 12 := ⟨_, _, _, rfl, by decide, gw_tb 459 (by decide +kernel) rfl⟩
theorem nf_RX11_10_12 : FKf RX11 10 12 true := by
  intro C TT N h
  cases h
  exact ⟨rfl, fun h => rfl⟩
def mX22 : Mem := (sR mX21 0 12 (some 41))
def TG48 : List Dsc := [.inl 10, .inr (.byte, 2000), .inl 6, .inr (.int, 6), .inr (.int, 400), .inr (.int, 12), .inr (.int, 4), .inr (.int, 4), .inl 6, .inr (.int, 6), .inr (.int, 400), .inr (.int, 12), .inr (.int, 4), .inr (.int, 4), .inl 3, .inr (.int, 25), .inr (.long, 18), .inr (.int, 18), .inl 7, .inr (.long, 17), .inr (.int, 401), .inr (.long, 401), .inr (.int, 401), .inl 4, .inr (.int, 64), .inr (.int, 6), .inr (.int, 24), .inr (.int, 12), .inl 1, .inr (.int, 12), .inr (.int, 12), .inr (.object "GalleyStroke$Crew", 3), .inl 2, .inr (.long, 100), .inl 5, .inr (.int, 12), .inr (.int, 12), .inr (.int, 12), .inl 0, .inl 8, .inr (.long, 401), .inl 9, .inr (.int, 20), .inr (.int, 20), .inr (.int, 20), .inr (.int, 12), .inr (.int, 12), .inl 1]
def TG50 : List Dsc := [.inl 10, .inr (.byte, 2000), .inl 6, .inr (.int, 6), .inr (.int, 400), .inr (.int, 12), .inr (.int, 4), .inr (.int, 4), .inl 6, .inr (.int, 6), .inr (.int, 400), .inr (.int, 12), .inr (.int, 4), .inr (.int, 4), .inl 3, .inr (.int, 25), .inr (.long, 18), .inr (.int, 18), .inl 7, .inr (.long, 17), .inr (.int, 401), .inr (.long, 401), .inr (.int, 401), .inl 4, .inr (.int, 64), .inr (.int, 6), .inr (.int, 24), .inr (.int, 12), .inl 1, .inr (.int, 12), .inr (.int, 12), .inr (.object "GalleyStroke$Crew", 3), .inl 2, .inr (.long, 100), .inl 5, .inr (.int, 12), .inr (.int, 12), .inr (.int, 12), .inl 0, .inl 8, .inr (.long, 401), .inl 9, .inr (.int, 20), .inr (.int, 20), .inr (.int, 20), .inr (.int, 12), .inr (.int, 12), .inl 1, .inr (.int, 12), .inr (.int, 12)]
def mX23 : Mem := (sI (sR (sR mX22 47 1 (some 48)) 47 2 (some 49)) 47 3 (-1))
def mX24 : Mem := (sR mX23 31 0 (some 47))
def TG51 : List Dsc := [.inl 10, .inr (.byte, 2000), .inl 6, .inr (.int, 6), .inr (.int, 400), .inr (.int, 12), .inr (.int, 4), .inr (.int, 4), .inl 6, .inr (.int, 6), .inr (.int, 400), .inr (.int, 12), .inr (.int, 4), .inr (.int, 4), .inl 3, .inr (.int, 25), .inr (.long, 18), .inr (.int, 18), .inl 7, .inr (.long, 17), .inr (.int, 401), .inr (.long, 401), .inr (.int, 401), .inl 4, .inr (.int, 64), .inr (.int, 6), .inr (.int, 24), .inr (.int, 12), .inl 1, .inr (.int, 12), .inr (.int, 12), .inr (.object "GalleyStroke$Crew", 3), .inl 2, .inr (.long, 100), .inl 5, .inr (.int, 12), .inr (.int, 12), .inr (.int, 12), .inl 0, .inl 8, .inr (.long, 401), .inl 9, .inr (.int, 20), .inr (.int, 20), .inr (.int, 20), .inr (.int, 12), .inr (.int, 12), .inl 1, .inr (.int, 12), .inr (.int, 12), .inl 1]
def TG53 : List Dsc := [.inl 10, .inr (.byte, 2000), .inl 6, .inr (.int, 6), .inr (.int, 400), .inr (.int, 12), .inr (.int, 4), .inr (.int, 4), .inl 6, .inr (.int, 6), .inr (.int, 400), .inr (.int, 12), .inr (.int, 4), .inr (.int, 4), .inl 3, .inr (.int, 25), .inr (.long, 18), .inr (.int, 18), .inl 7, .inr (.long, 17), .inr (.int, 401), .inr (.long, 401), .inr (.int, 401), .inl 4, .inr (.int, 64), .inr (.int, 6), .inr (.int, 24), .inr (.int, 12), .inl 1, .inr (.int, 12), .inr (.int, 12), .inr (.object "GalleyStroke$Crew", 3), .inl 2, .inr (.long, 100), .inl 5, .inr (.int, 12), .inr (.int, 12), .inr (.int, 12), .inl 0, .inl 8, .inr (.long, 401), .inl 9, .inr (.int, 20), .inr (.int, 20), .inr (.int, 20), .inr (.int, 12), .inr (.int, 12), .inl 1, .inr (.int, 12), .inr (.int, 12), .inl 1, .inr (.int, 12), .inr (.int, 12)]
def mX25 : Mem := (sI (sR (sR mX24 50 1 (some 51)) 50 2 (some 52)) 50 3 (-1))
def mX26 : Mem := (sR mX25 31 1 (some 50))
def TG54 : List Dsc := [.inl 10, .inr (.byte, 2000), .inl 6, .inr (.int, 6), .inr (.int, 400), .inr (.int, 12), .inr (.int, 4), .inr (.int, 4), .inl 6, .inr (.int, 6), .inr (.int, 400), .inr (.int, 12), .inr (.int, 4), .inr (.int, 4), .inl 3, .inr (.int, 25), .inr (.long, 18), .inr (.int, 18), .inl 7, .inr (.long, 17), .inr (.int, 401), .inr (.long, 401), .inr (.int, 401), .inl 4, .inr (.int, 64), .inr (.int, 6), .inr (.int, 24), .inr (.int, 12), .inl 1, .inr (.int, 12), .inr (.int, 12), .inr (.object "GalleyStroke$Crew", 3), .inl 2, .inr (.long, 100), .inl 5, .inr (.int, 12), .inr (.int, 12), .inr (.int, 12), .inl 0, .inl 8, .inr (.long, 401), .inl 9, .inr (.int, 20), .inr (.int, 20), .inr (.int, 20), .inr (.int, 12), .inr (.int, 12), .inl 1, .inr (.int, 12), .inr (.int, 12), .inl 1, .inr (.int, 12), .inr (.int, 12), .inl 1]
def TG56 : List Dsc := [.inl 10, .inr (.byte, 2000), .inl 6, .inr (.int, 6), .inr (.int, 400), .inr (.int, 12), .inr (.int, 4), .inr (.int, 4), .inl 6, .inr (.int, 6), .inr (.int, 400), .inr (.int, 12), .inr (.int, 4), .inr (.int, 4), .inl 3, .inr (.int, 25), .inr (.long, 18), .inr (.int, 18), .inl 7, .inr (.long, 17), .inr (.int, 401), .inr (.long, 401), .inr (.int, 401), .inl 4, .inr (.int, 64), .inr (.int, 6), .inr (.int, 24), .inr (.int, 12), .inl 1, .inr (.int, 12), .inr (.int, 12), .inr (.object "GalleyStroke$Crew", 3), .inl 2, .inr (.long, 100), .inl 5, .inr (.int, 12), .inr (.int, 12), .inr (.int, 12), .inl 0, .inl 8, .inr (.long, 401), .inl 9, .inr (.int, 20), .inr (.int, 20), .inr (.int, 20), .inr (.int, 12), .inr (.int, 12), .inl 1, .inr (.int, 12), .inr (.int, 12), .inl 1, .inr (.int, 12), .inr (.int, 12), .inl 1, .inr (.int, 12), .inr (.int, 12)]
def mX27 : Mem := (sI (sR (sR mX26 53 1 (some 54)) 53 2 (some 55)) 53 3 (-1))
def mX28 : Mem := (sR mX27 31 2 (some 53))
def mX29 : Mem := (sI (sI (sJ mX28 28 0 (gJ mX28 2 7)) 28 3 (gI (sJ mX28 28 0 (gJ mX28 2 7)) 2 8)) 28 4 0)
set_option maxHeartbeats 40000000 in
set_option maxRecDepth 100000 in
theorem fr_X11_init : Frs mX29 56 := by
  have hF : Frs mem0 1 := mem0_fr.up (by decide)
  have hF := hF.up (show 1 ≤ 2 by decide)
  have hF : Frs mX1 2 := hF.sR (k := 0) (j := 0) (r := 1) (by decide) (by decide)
  have hF := hF.up (show 2 ≤ 3 by decide)
  have hc := ct_X7_init (T := TG3) (μ := mX1) (n := 3) (b := 2) (by decide) rfl rfl hF
  have hF := hc.2
  have hF : Frs mX2 8 := hF
  have hF : Frs mX3 8 := hF.sR (k := 0) (j := 2) (r := 2) (by decide) (by decide)
  have hF := hF.up (show 8 ≤ 9 by decide)
  have hc := ct_X7_init (T := TG9) (μ := mX3) (n := 9) (b := 8) (by decide) rfl rfl hF
  have hF := hc.2
  have hF : Frs mX4 14 := hF
  have hF : Frs mX5 14 := hF.sR (k := 0) (j := 3) (r := 8) (by decide) (by decide)
  have hF := hF.up (show 14 ≤ 15 by decide)
  have hc := ct_X4_init (T := TG15) (μ := mX5) (n := 15) (b := 14) (p1 := 1) (p2 := 8) (by decide) (by decide) (by decide) rfl rfl hF
  have hF := fr_X4_init (n := 15) (b := 14) (p1 := 1) (p2 := 8) (by decide) (by decide) (by decide) hF
  have hF : Frs mX6 23 := hF
  have hF : Frs mX7 23 := hF.sR (k := 0) (j := 4) (r := 14) (by decide) (by decide)
  have hF := hF.up (show 23 ≤ 24 by decide)
  have hc := ct_X5_init (T := TG24) (μ := mX7) (n := 24) (b := 23) (p1 := 2) (by decide) (by decide) rfl rfl hF
  have hF := hc.2
  have hF : Frs mX8 28 := hF
  have hF : Frs mX9 28 := hF.sR (k := 0) (j := 5) (r := 23) (by decide) (by decide)
  have hF := hF.up (show 28 ≤ 29 by decide)
  have hc := ct_X1_init (T := TG29) (μ := mX9) (n := 29) (b := 28) (by decide) rfl rfl hF
  have hF := hc.2
  have hF : Frs mX10 31 := hF
  have hF : Frs mX11 31 := hF.sR (k := 0) (j := 6) (r := 28) (by decide) (by decide)
  have hF := hF.up (show 31 ≤ 32 by decide)
  have hF : Frs mX12 32 := hF.sR (k := 0) (j := 7) (r := 31) (by decide) (by decide)
  have hF := hF.up (show 32 ≤ 33 by decide)
  have hc := ct_X3_init (T := TG33) (μ := mX12) (n := 33) (b := 32) (by decide) rfl rfl hF
  have hF := hc.2
  have hF : Frs mX13 34 := hF
  have hF : Frs mX14 34 := hF.sR (k := 0) (j := 8) (r := 32) (by decide) (by decide)
  have hF := hF.up (show 34 ≤ 35 by decide)
  have hc := ct_X6_init (T := TG35) (μ := mX14) (n := 35) (b := 34) (p1 := 23) (by decide) (by decide) rfl rfl hF
  have hF := hc.2
  have hF : Frs mX15 38 := hF
  have hF : Frs mX16 38 := hF.sR (k := 0) (j := 9) (r := 34) (by decide) (by decide)
  have hF := hF.up (show 38 ≤ 39 by decide)
  have hc := ct_X0_init (T := TG39) (μ := mX16) (n := 39) (b := 38) (p1 := 23) (by decide) (by decide) rfl rfl hF
  have hF := hc.2
  have hF : Frs mX17 39 := hF
  have hF : Frs mX18 39 := hF.sR (k := 0) (j := 10) (r := 38) (by decide) (by decide)
  have hF := hF.up (show 39 ≤ 40 by decide)
  have hc := ct_X9_init (T := TG40) (μ := mX18) (n := 40) (b := 39) (p1 := 23) (by decide) (by decide) rfl rfl hF
  have hF := hc.2
  have hF : Frs mX19 41 := hF
  have hF : Frs mX20 41 := hF.sR (k := 0) (j := 11) (r := 39) (by decide) (by decide)
  have hF := hF.up (show 41 ≤ 42 by decide)
  have hc := ct_X10_init (T := TG42) (μ := mX20) (n := 42) (b := 41) (p1 := 23) (by decide) (by decide) rfl rfl hF
  have hF := hc.2
  have hF : Frs mX21 47 := hF
  have hF : Frs mX22 47 := hF.sR (k := 0) (j := 12) (r := 41) (by decide) (by decide)
  have hF := hF.up (show 47 ≤ 48 by decide)
  have hc := ct_X1_init (T := TG48) (μ := mX22) (n := 48) (b := 47) (by decide) rfl rfl hF
  have hF := hc.2
  have hF : Frs mX23 50 := hF
  have hF : Frs mX24 50 := hF.sR (k := 31) (j := 0) (r := 47) (by decide) (by decide)
  have hF := hF.up (show 50 ≤ 51 by decide)
  have hc := ct_X1_init (T := TG51) (μ := mX24) (n := 51) (b := 50) (by decide) rfl rfl hF
  have hF := hc.2
  have hF : Frs mX25 53 := hF
  have hF : Frs mX26 53 := hF.sR (k := 31) (j := 1) (r := 50) (by decide) (by decide)
  have hF := hF.up (show 53 ≤ 54 by decide)
  have hc := ct_X1_init (T := TG54) (μ := mX26) (n := 54) (b := 53) (by decide) rfl rfl hF
  have hF := hc.2
  have hF : Frs mX27 56 := hF
  have hF : Frs mX28 56 := hF.sR (k := 31) (j := 2) (r := 53) (by decide) (by decide)
  have hF : Frs mX29 56 := ((hF.sJ (k := 28) (by decide)).sI (k := 28) (by decide)).sI (k := 28) (by decide)
  exact hF
set_option maxHeartbeats 40000000 in
set_option maxRecDepth 100000 in
theorem ct_X11_init : CtQ 7 yX11_init cX11_init 2 none TG1 mem0 [.ref 0] none TG56 mX29 55 5062 := by
  refine CtQ.ofV (by decide +kernel) (Nat.le_of_ble_eq_true rfl) (fun X a v f hX hN hO hS0 hAo hQ => ?_)
  refine Wp.lo' (lo' := [(0, .ref 0)]) [0] rfl ?_
  have hO : XOl X 1 := hO
  have hF : Frs mem0 1 := mem0_fr.up (by decide)
  refine Wp.aload_n (pc := 0) 0 rfl rfl dX11_init_0 ?_
  refine Wp.objI (pc := 1) oi_RX11 (hX.le (Nat.le_refl _) (by decide) (by decide)) (by decide) (by decide) dX11_init_1 ?_
  refine Wp.aload_n (pc := 4) 0 rfl rfl dX11_init_4 ?_
  refine Wp.sipush (pc := 5) (2000 : Int32) (by decide) dX11_init_5 ?_
  refine Wp.newA1 (pc := 8) (M := 1) (N := 2000) (atype := .byte) (ty := .byte) rfl hF (hO.up (show 1 ≤ 1 by decide)) (hX.le (Nat.le_refl _) (by decide) (by decide)) (vbc (vbr (by decide)) vbn) (lbc (vbr (by decide)) lbn) ar_byte rfl (Or.inl rfl) (by decide) (by decide) (by decide) dX11_init_8 ?_
  refine Wp.eqT (T' := TG2) rfl ?_
  have hF := hF.up (show 1 ≤ 2 by decide)
  refine Wp.putFR (pc := 10) (k := 0) hN rfl nk_RX11_9 nf_RX11_10_0 rfl dX11_init_10 ?_
  have hF : Frs mX1 2 := hF.sR (k := 0) (j := 0) (r := 1) (by decide) (by decide)
  show Wp X _ _ _ _ mX1 _ _ _ _ _
  refine Wp.aload_n (pc := 13) 0 rfl rfl dX11_init_13 ?_
  refine Wp.newO1 (pc := 14) (M := 2) rfl hF (hO.up (show 1 ≤ 2 by decide)) (hX.le (Nat.le_refl _) (by decide) (by decide)) (vbc (vbr (by decide)) vbn) (lbc (vbr (by decide)) lbn) nn_RX11_13 dX11_init_14 ?_
  refine Wp.eqT (T' := TG3) rfl ?_
  have hF := hF.up (show 2 ≤ 3 by decide)
  refine Wp.dup (pc := 17) rfl dX11_init_17 ?_
  have hc := ct_X7_init (T := TG3) (μ := mX1) (n := 3) (b := 2) (by decide) rfl rfl hF
  have hF := hc.2
  refine Wp.callIN (pc := 18) (st := [.ref 2, .ref 0]) (as := []) hc.1 rfl (show MLN RX11 15 yX7_init "GalleyStroke" by unfold MLN; decide +kernel) nmi_X7_init nmb_X7_init (hX.le (Nat.le_refl _) (by decide) (by decide)) (hO.up (show 1 ≤ 3 by decide)) (vbc (vbr (by decide)) (vbc (vbr (by decide)) vbn)) (lbc (vbr (by decide)) lbn) (by decide) (by decide) rfl (by decide) dX11_init_18 rfl ?_
  refine Wp.eqT (T' := TG8) rfl ?_
  have hF : Frs mX2 8 := hF
  show Wp X _ _ _ _ mX2 _ _ _ _ _
  refine Wp.putR (pc := 21) (k := 0) rfl nk_RX11_16 nf_RX11_10_2 rfl dX11_init_21 ?_
  have hF : Frs mX3 8 := hF.sR (k := 0) (j := 2) (r := 2) (by decide) (by decide)
  show Wp X _ _ _ _ mX3 _ _ _ _ _
  refine Wp.aload_n (pc := 24) 0 rfl rfl dX11_init_24 ?_
  refine Wp.newO1 (pc := 25) (M := 8) rfl hF (hO.up (show 1 ≤ 8 by decide)) (hX.le (Nat.le_refl _) (by decide) (by decide)) (vbc (vbr (by decide)) vbn) (lbc (vbr (by decide)) lbn) nn_RX11_13 dX11_init_25 ?_
  refine Wp.eqT (T' := TG9) rfl ?_
  have hF := hF.up (show 8 ≤ 9 by decide)
  refine Wp.dup (pc := 28) rfl dX11_init_28 ?_
  have hc := ct_X7_init (T := TG9) (μ := mX3) (n := 9) (b := 8) (by decide) rfl rfl hF
  have hF := hc.2
  refine Wp.callIN (pc := 29) (st := [.ref 8, .ref 0]) (as := []) hc.1 rfl (show MLN RX11 15 yX7_init "GalleyStroke" by unfold MLN; decide +kernel) nmi_X7_init nmb_X7_init (hX.le (Nat.le_refl _) (by decide) (by decide)) (hO.up (show 1 ≤ 9 by decide)) (vbc (vbr (by decide)) (vbc (vbr (by decide)) vbn)) (lbc (vbr (by decide)) lbn) (by decide) (by decide) rfl (by decide) dX11_init_29 rfl ?_
  refine Wp.eqT (T' := TG14) rfl ?_
  have hF : Frs mX4 14 := hF
  show Wp X _ _ _ _ mX4 _ _ _ _ _
  refine Wp.putR (pc := 32) (k := 0) rfl nk_RX11_20 nf_RX11_10_3 rfl dX11_init_32 ?_
  have hF : Frs mX5 14 := hF.sR (k := 0) (j := 3) (r := 8) (by decide) (by decide)
  show Wp X _ _ _ _ mX5 _ _ _ _ _
  refine Wp.aload_n (pc := 35) 0 rfl rfl dX11_init_35 ?_
  refine Wp.newO1 (pc := 36) (M := 14) rfl hF (hO.up (show 1 ≤ 14 by decide)) (hX.le (Nat.le_refl _) (by decide) (by decide)) (vbc (vbr (by decide)) vbn) (lbc (vbr (by decide)) lbn) nn_RX11_23 dX11_init_36 ?_
  refine Wp.eqT (T' := TG15) rfl ?_
  have hF := hF.up (show 14 ≤ 15 by decide)
  refine Wp.dup (pc := 39) rfl dX11_init_39 ?_
  refine Wp.aload_n (pc := 40) 0 rfl rfl dX11_init_40 ?_
  refine Wp.getR (pc := 41) (k := 0) (r := 1) rfl rfl nk_RX11_9 rfl dX11_init_41 ?_
  refine Wp.aload_n (pc := 44) 0 rfl rfl dX11_init_44 ?_
  refine Wp.getR (pc := 45) (k := 0) (r := 8) rfl rfl nk_RX11_20 rfl dX11_init_45 ?_
  have hc := ct_X4_init (T := TG15) (μ := mX5) (n := 15) (b := 14) (p1 := 1) (p2 := 8) (by decide) (by decide) (by decide) rfl rfl hF
  have hF := fr_X4_init (n := 15) (b := 14) (p1 := 1) (p2 := 8) (by decide) (by decide) (by decide) hF
  refine Wp.callIS (pc := 48) (st := [.ref 14, .ref 0]) (as := [.ref 1, .ref 8]) hS0 hc rfl nml_RX11_25 nmi_X4_init nmb_X4_init (hX.le (Nat.le_refl _) (by decide) (by decide)) (hO.up (show 1 ≤ 15 by decide)) (vbc (vbr (by decide)) (vbc (vbr (by decide)) vbn)) (lbc (vbr (by decide)) lbn) (by decide) (by decide) rfl (by decide) dX11_init_48 rfl ?_
  refine Wp.eqT (T' := TG23) rfl ?_
  have hF : Frs mX6 23 := hF
  show Wp X _ _ _ _ mX6 _ _ _ _ _
  refine Wp.putFR (pc := 51) (k := 0) hN rfl nk_RX11_28 nf_RX11_10_4 rfl dX11_init_51 ?_
  have hF : Frs mX7 23 := hF.sR (k := 0) (j := 4) (r := 14) (by decide) (by decide)
  show Wp X _ _ _ _ mX7 _ _ _ _ _
  refine Wp.aload_n (pc := 54) 0 rfl rfl dX11_init_54 ?_
  refine Wp.newO1 (pc := 55) (M := 23) rfl hF (hO.up (show 1 ≤ 23 by decide)) (hX.le (Nat.le_refl _) (by decide) (by decide)) (vbc (vbr (by decide)) vbn) (lbc (vbr (by decide)) lbn) nn_RX11_32 dX11_init_55 ?_
  refine Wp.eqT (T' := TG24) rfl ?_
  have hF := hF.up (show 23 ≤ 24 by decide)
  refine Wp.dup (pc := 58) rfl dX11_init_58 ?_
  refine Wp.aload_n (pc := 59) 0 rfl rfl dX11_init_59 ?_
  refine Wp.getR (pc := 60) (k := 0) (r := 2) rfl rfl nk_RX11_16 rfl dX11_init_60 ?_
  have hc := ct_X5_init (T := TG24) (μ := mX7) (n := 24) (b := 23) (p1 := 2) (by decide) (by decide) rfl rfl hF
  have hF := hc.2
  refine Wp.callI (pc := 63) (st := [.ref 23, .ref 0]) (as := [.ref 2]) hc.1 rfl nml_RX11_34 nmi_X5_init nmb_X5_init (hX.le (Nat.le_refl _) (by decide) (by decide)) (hO.up (show 1 ≤ 24 by decide)) (vbc (vbr (by decide)) (vbc (vbr (by decide)) vbn)) (lbc (vbr (by decide)) lbn) (by decide) (by decide) rfl (by decide) dX11_init_63 rfl ?_
  refine Wp.eqT (T' := TG28) rfl ?_
  have hF : Frs mX8 28 := hF
  show Wp X _ _ _ _ mX8 _ _ _ _ _
  refine Wp.putFR (pc := 66) (k := 0) hN rfl nk_RX11_37 nf_RX11_10_5 rfl dX11_init_66 ?_
  have hF : Frs mX9 28 := hF.sR (k := 0) (j := 5) (r := 23) (by decide) (by decide)
  show Wp X _ _ _ _ mX9 _ _ _ _ _
  refine Wp.aload_n (pc := 69) 0 rfl rfl dX11_init_69 ?_
  refine Wp.newO1 (pc := 70) (M := 28) rfl hF (hO.up (show 1 ≤ 28 by decide)) (hX.le (Nat.le_refl _) (by decide) (by decide)) (vbc (vbr (by decide)) vbn) (lbc (vbr (by decide)) lbn) nn_RX11_41 dX11_init_70 ?_
  refine Wp.eqT (T' := TG29) rfl ?_
  have hF := hF.up (show 28 ≤ 29 by decide)
  refine Wp.dup (pc := 73) rfl dX11_init_73 ?_
  have hc := ct_X1_init (T := TG29) (μ := mX9) (n := 29) (b := 28) (by decide) rfl rfl hF
  have hF := hc.2
  refine Wp.callIN (pc := 74) (st := [.ref 28, .ref 0]) (as := []) hc.1 rfl (show MLN RX11 43 yX1_init "GalleyStroke" by unfold MLN; decide +kernel) nmi_X1_init nmb_X1_init (hX.le (Nat.le_refl _) (by decide) (by decide)) (hO.up (show 1 ≤ 29 by decide)) (vbc (vbr (by decide)) (vbc (vbr (by decide)) vbn)) (lbc (vbr (by decide)) lbn) (by decide) (by decide) rfl (by decide) dX11_init_74 rfl ?_
  refine Wp.eqT (T' := TG31) rfl ?_
  have hF : Frs mX10 31 := hF
  show Wp X _ _ _ _ mX10 _ _ _ _ _
  refine Wp.putFR (pc := 77) (k := 0) hN rfl nk_RX11_44 nf_RX11_10_6 rfl dX11_init_77 ?_
  have hF : Frs mX11 31 := hF.sR (k := 0) (j := 6) (r := 28) (by decide) (by decide)
  show Wp X _ _ _ _ mX11 _ _ _ _ _
  refine Wp.aload_n (pc := 80) 0 rfl rfl dX11_init_80 ?_
  refine Wp.iconst (pc := 81) (3 : Int32) (by decide) dX11_init_81 ?_
  refine Wp.newQ1 (pc := 82) (M := 31) (N := 3) (C := "GalleyStroke$Crew") rfl hF (hO.up (show 1 ≤ 31 by decide)) (hX.le (Nat.le_refl _) (by decide) (by decide)) (vbc (vbr (by decide)) vbn) (lbc (vbr (by decide)) lbn) (gw_tb 278 (by decide +kernel) rfl) hAo rfl (by decide) (by decide) (by decide) dX11_init_82 ?_
  refine Wp.eqT (T' := TG32) rfl ?_
  have hF := hF.up (show 31 ≤ 32 by decide)
  refine Wp.putFR (pc := 85) (k := 0) hN rfl nk_RX11_48 nf_RX11_10_7 rfl dX11_init_85 ?_
  have hF : Frs mX12 32 := hF.sR (k := 0) (j := 7) (r := 31) (by decide) (by decide)
  show Wp X _ _ _ _ mX12 _ _ _ _ _
  refine Wp.aload_n (pc := 88) 0 rfl rfl dX11_init_88 ?_
  refine Wp.newO1 (pc := 89) (M := 32) rfl hF (hO.up (show 1 ≤ 32 by decide)) (hX.le (Nat.le_refl _) (by decide) (by decide)) (vbc (vbr (by decide)) vbn) (lbc (vbr (by decide)) lbn) nn_RX11_52 dX11_init_89 ?_
  refine Wp.eqT (T' := TG33) rfl ?_
  have hF := hF.up (show 32 ≤ 33 by decide)
  refine Wp.dup (pc := 92) rfl dX11_init_92 ?_
  have hc := ct_X3_init (T := TG33) (μ := mX12) (n := 33) (b := 32) (by decide) rfl rfl hF
  have hF := hc.2
  refine Wp.callIN (pc := 93) (st := [.ref 32, .ref 0]) (as := []) hc.1 rfl (show MLN RX11 54 yX3_init "GalleyStroke" by unfold MLN; decide +kernel) nmi_X3_init nmb_X3_init (hX.le (Nat.le_refl _) (by decide) (by decide)) (hO.up (show 1 ≤ 33 by decide)) (vbc (vbr (by decide)) (vbc (vbr (by decide)) vbn)) (lbc (vbr (by decide)) lbn) (by decide) (by decide) rfl (by decide) dX11_init_93 rfl ?_
  refine Wp.eqT (T' := TG34) rfl ?_
  have hF : Frs mX13 34 := hF
  show Wp X _ _ _ _ mX13 _ _ _ _ _
  refine Wp.putFR (pc := 96) (k := 0) hN rfl nk_RX11_55 nf_RX11_10_8 rfl dX11_init_96 ?_
  have hF : Frs mX14 34 := hF.sR (k := 0) (j := 8) (r := 32) (by decide) (by decide)
  show Wp X _ _ _ _ mX14 _ _ _ _ _
  refine Wp.aload_n (pc := 99) 0 rfl rfl dX11_init_99 ?_
  refine Wp.newO1 (pc := 100) (M := 34) rfl hF (hO.up (show 1 ≤ 34 by decide)) (hX.le (Nat.le_refl _) (by decide) (by decide)) (vbc (vbr (by decide)) vbn) (lbc (vbr (by decide)) lbn) nn_RX11_59 dX11_init_100 ?_
  refine Wp.eqT (T' := TG35) rfl ?_
  have hF := hF.up (show 34 ≤ 35 by decide)
  refine Wp.dup (pc := 103) rfl dX11_init_103 ?_
  refine Wp.aload_n (pc := 104) 0 rfl rfl dX11_init_104 ?_
  refine Wp.getR (pc := 105) (k := 0) (r := 23) rfl rfl nk_RX11_37 rfl dX11_init_105 ?_
  have hc := ct_X6_init (T := TG35) (μ := mX14) (n := 35) (b := 34) (p1 := 23) (by decide) (by decide) rfl rfl hF
  have hF := hc.2
  refine Wp.callI (pc := 108) (st := [.ref 34, .ref 0]) (as := [.ref 23]) hc.1 rfl nml_RX11_61 nmi_X6_init nmb_X6_init (hX.le (Nat.le_refl _) (by decide) (by decide)) (hO.up (show 1 ≤ 35 by decide)) (vbc (vbr (by decide)) (vbc (vbr (by decide)) vbn)) (lbc (vbr (by decide)) lbn) (by decide) (by decide) rfl (by decide) dX11_init_108 rfl ?_
  refine Wp.eqT (T' := TG38) rfl ?_
  have hF : Frs mX15 38 := hF
  show Wp X _ _ _ _ mX15 _ _ _ _ _
  refine Wp.putFR (pc := 111) (k := 0) hN rfl nk_RX11_64 nf_RX11_10_9 rfl dX11_init_111 ?_
  have hF : Frs mX16 38 := hF.sR (k := 0) (j := 9) (r := 34) (by decide) (by decide)
  show Wp X _ _ _ _ mX16 _ _ _ _ _
  refine Wp.aload_n (pc := 114) 0 rfl rfl dX11_init_114 ?_
  refine Wp.newO1 (pc := 115) (M := 38) rfl hF (hO.up (show 1 ≤ 38 by decide)) (hX.le (Nat.le_refl _) (by decide) (by decide)) (vbc (vbr (by decide)) vbn) (lbc (vbr (by decide)) lbn) nn_RX11_68 dX11_init_115 ?_
  refine Wp.eqT (T' := TG39) rfl ?_
  have hF := hF.up (show 38 ≤ 39 by decide)
  refine Wp.dup (pc := 118) rfl dX11_init_118 ?_
  refine Wp.aload_n (pc := 119) 0 rfl rfl dX11_init_119 ?_
  refine Wp.getR (pc := 120) (k := 0) (r := 23) rfl rfl nk_RX11_37 rfl dX11_init_120 ?_
  have hc := ct_X0_init (T := TG39) (μ := mX16) (n := 39) (b := 38) (p1 := 23) (by decide) (by decide) rfl rfl hF
  have hF := hc.2
  refine Wp.callI (pc := 123) (st := [.ref 38, .ref 0]) (as := [.ref 23]) hc.1 rfl nml_RX11_70 nmi_X0_init nmb_X0_init (hX.le (Nat.le_refl _) (by decide) (by decide)) (hO.up (show 1 ≤ 39 by decide)) (vbc (vbr (by decide)) (vbc (vbr (by decide)) vbn)) (lbc (vbr (by decide)) lbn) (by decide) (by decide) rfl (by decide) dX11_init_123 rfl ?_
  have hF : Frs mX17 39 := hF
  show Wp X _ _ _ _ mX17 _ _ _ _ _
  refine Wp.putFR (pc := 126) (k := 0) hN rfl nk_RX11_71 nf_RX11_10_10 rfl dX11_init_126 ?_
  have hF : Frs mX18 39 := hF.sR (k := 0) (j := 10) (r := 38) (by decide) (by decide)
  show Wp X _ _ _ _ mX18 _ _ _ _ _
  refine Wp.aload_n (pc := 129) 0 rfl rfl dX11_init_129 ?_
  refine Wp.newO1 (pc := 130) (M := 39) rfl hF (hO.up (show 1 ≤ 39 by decide)) (hX.le (Nat.le_refl _) (by decide) (by decide)) (vbc (vbr (by decide)) vbn) (lbc (vbr (by decide)) lbn) nn_RX11_75 dX11_init_130 ?_
  refine Wp.eqT (T' := TG40) rfl ?_
  have hF := hF.up (show 39 ≤ 40 by decide)
  refine Wp.dup (pc := 133) rfl dX11_init_133 ?_
  refine Wp.aload_n (pc := 134) 0 rfl rfl dX11_init_134 ?_
  refine Wp.getR (pc := 135) (k := 0) (r := 23) rfl rfl nk_RX11_37 rfl dX11_init_135 ?_
  have hc := ct_X9_init (T := TG40) (μ := mX18) (n := 40) (b := 39) (p1 := 23) (by decide) (by decide) rfl rfl hF
  have hF := hc.2
  refine Wp.callI (pc := 138) (st := [.ref 39, .ref 0]) (as := [.ref 23]) hc.1 rfl nml_RX11_77 nmi_X9_init nmb_X9_init (hX.le (Nat.le_refl _) (by decide) (by decide)) (hO.up (show 1 ≤ 40 by decide)) (vbc (vbr (by decide)) (vbc (vbr (by decide)) vbn)) (lbc (vbr (by decide)) lbn) (by decide) (by decide) rfl (by decide) dX11_init_138 rfl ?_
  refine Wp.eqT (T' := TG41) rfl ?_
  have hF : Frs mX19 41 := hF
  show Wp X _ _ _ _ mX19 _ _ _ _ _
  refine Wp.putFR (pc := 141) (k := 0) hN rfl nk_RX11_78 nf_RX11_10_11 rfl dX11_init_141 ?_
  have hF : Frs mX20 41 := hF.sR (k := 0) (j := 11) (r := 39) (by decide) (by decide)
  show Wp X _ _ _ _ mX20 _ _ _ _ _
  refine Wp.aload_n (pc := 144) 0 rfl rfl dX11_init_144 ?_
  refine Wp.newO1 (pc := 145) (M := 41) rfl hF (hO.up (show 1 ≤ 41 by decide)) (hX.le (Nat.le_refl _) (by decide) (by decide)) (vbc (vbr (by decide)) vbn) (lbc (vbr (by decide)) lbn) nn_RX11_82 dX11_init_145 ?_
  refine Wp.eqT (T' := TG42) rfl ?_
  have hF := hF.up (show 41 ≤ 42 by decide)
  refine Wp.dup (pc := 148) rfl dX11_init_148 ?_
  refine Wp.aload_n (pc := 149) 0 rfl rfl dX11_init_149 ?_
  refine Wp.getR (pc := 150) (k := 0) (r := 23) rfl rfl nk_RX11_37 rfl dX11_init_150 ?_
  have hc := ct_X10_init (T := TG42) (μ := mX20) (n := 42) (b := 41) (p1 := 23) (by decide) (by decide) rfl rfl hF
  have hF := hc.2
  refine Wp.callI (pc := 153) (st := [.ref 41, .ref 0]) (as := [.ref 23]) hc.1 rfl nml_RX11_84 nmi_X10_init nmb_X10_init (hX.le (Nat.le_refl _) (by decide) (by decide)) (hO.up (show 1 ≤ 42 by decide)) (vbc (vbr (by decide)) (vbc (vbr (by decide)) vbn)) (lbc (vbr (by decide)) lbn) (by decide) (by decide) rfl (by decide) dX11_init_153 rfl ?_
  refine Wp.eqT (T' := TG47) rfl ?_
  have hF : Frs mX21 47 := hF
  show Wp X _ _ _ _ mX21 _ _ _ _ _
  refine Wp.putFR (pc := 156) (k := 0) hN rfl nk_RX11_85 nf_RX11_10_12 rfl dX11_init_156 ?_
  have hF : Frs mX22 47 := hF.sR (k := 0) (j := 12) (r := 41) (by decide) (by decide)
  show Wp X _ _ _ _ mX22 _ _ _ _ _
  refine Wp.iconst (pc := 159) (0 : Int32) (by decide) dX11_init_159 ?_
  refine Wp.istore_n (pc := 160) (lo' := [(0, .ref 0), (1, .int 0)]) [1, 0] rfl (by decide) rfl dX11_init_160 ?_
  refine Wp.iload_n (pc := 161) 1 rfl rfl dX11_init_161 ?_
  refine Wp.iconst (pc := 162) (3 : Int32) (by decide) dX11_init_162 ?_
  refine Wp.icmp_ge (pc := 163) 185 dX11_init_163 (by decide) (fun q => absurd q (by decide)) (fun _ => ?_)
  refine Wp.aload_n (pc := 166) 0 rfl rfl dX11_init_166 ?_
  refine Wp.getR (pc := 167) (k := 0) (r := 31) rfl rfl nk_RX11_48 rfl dX11_init_167 ?_
  refine Wp.iload_n (pc := 170) 1 rfl rfl dX11_init_170 ?_
  refine Wp.newO1 (pc := 171) (M := 47) rfl hF (hO.up (show 1 ≤ 47 by decide)) (hX.le (Nat.le_refl _) (by decide) (by decide)) (vbc trivial (vbc (vbr (by decide)) vbn)) (lbc (vbr (by decide)) (lbc trivial lbn)) nn_RX11_41 dX11_init_171 ?_
  refine Wp.eqT (T' := TG48) rfl ?_
  have hF := hF.up (show 47 ≤ 48 by decide)
  refine Wp.dup (pc := 174) rfl dX11_init_174 ?_
  have hc := ct_X1_init (T := TG48) (μ := mX22) (n := 48) (b := 47) (by decide) rfl rfl hF
  have hF := hc.2
  refine Wp.callIN (pc := 175) (st := [.ref 47, .int 0, .ref 31]) (as := []) hc.1 rfl (show MLN RX11 43 yX1_init "GalleyStroke" by unfold MLN; decide +kernel) nmi_X1_init nmb_X1_init (hX.le (Nat.le_refl _) (by decide) (by decide)) (hO.up (show 1 ≤ 48 by decide)) (vbc (vbr (by decide)) (vbc trivial (vbc (vbr (by decide)) vbn))) (lbc (vbr (by decide)) (lbc trivial lbn)) (by decide) (by decide) rfl (by decide) dX11_init_175 rfl ?_
  refine Wp.eqT (T' := TG50) rfl ?_
  have hF : Frs mX23 50 := hF
  show Wp X _ _ _ _ mX23 _ _ _ _ _
  refine Wp.aast (pc := 178) (k := 31) (r := 47) (ci := 1) rfl rfl rfl (by decide) dX11_init_178 ?_
  have hF : Frs mX24 50 := hF.sR (k := 31) (j := 0) (r := 47) (by decide) (by decide)
  show Wp X _ _ _ _ mX24 _ _ _ _ _
  refine Wp.iincN (pc := 179) (lo' := [(0, .ref 0), (1, .int 1)]) (1 : Int32) (by decide) (congrArg some (by decide)) 1 rfl [1, 0] rfl (by decide) dX11_init_179 ?_
  refine Wp.goto (pc := 182) 161 dX11_init_182 (by decide) ?_
  refine Wp.iload_n (pc := 161) 1 rfl rfl dX11_init_161 ?_
  refine Wp.iconst (pc := 162) (3 : Int32) (by decide) dX11_init_162 ?_
  refine Wp.icmp_ge (pc := 163) 185 dX11_init_163 (by decide) (fun q => absurd q (by decide)) (fun _ => ?_)
  refine Wp.aload_n (pc := 166) 0 rfl rfl dX11_init_166 ?_
  refine Wp.getR (pc := 167) (k := 0) (r := 31) rfl rfl nk_RX11_48 rfl dX11_init_167 ?_
  refine Wp.iload_n (pc := 170) 1 rfl rfl dX11_init_170 ?_
  refine Wp.newO1 (pc := 171) (M := 50) rfl hF (hO.up (show 1 ≤ 50 by decide)) (hX.le (Nat.le_refl _) (by decide) (by decide)) (vbc trivial (vbc (vbr (by decide)) vbn)) (lbc (vbr (by decide)) (lbc trivial lbn)) nn_RX11_41 dX11_init_171 ?_
  refine Wp.eqT (T' := TG51) rfl ?_
  have hF := hF.up (show 50 ≤ 51 by decide)
  refine Wp.dup (pc := 174) rfl dX11_init_174 ?_
  have hc := ct_X1_init (T := TG51) (μ := mX24) (n := 51) (b := 50) (by decide) rfl rfl hF
  have hF := hc.2
  refine Wp.callIN (pc := 175) (st := [.ref 50, .int 1, .ref 31]) (as := []) hc.1 rfl (show MLN RX11 43 yX1_init "GalleyStroke" by unfold MLN; decide +kernel) nmi_X1_init nmb_X1_init (hX.le (Nat.le_refl _) (by decide) (by decide)) (hO.up (show 1 ≤ 51 by decide)) (vbc (vbr (by decide)) (vbc trivial (vbc (vbr (by decide)) vbn))) (lbc (vbr (by decide)) (lbc trivial lbn)) (by decide) (by decide) rfl (by decide) dX11_init_175 rfl ?_
  refine Wp.eqT (T' := TG53) rfl ?_
  have hF : Frs mX25 53 := hF
  show Wp X _ _ _ _ mX25 _ _ _ _ _
  refine Wp.aast (pc := 178) (k := 31) (r := 50) (ci := 1) rfl rfl rfl (by decide) dX11_init_178 ?_
  have hF : Frs mX26 53 := hF.sR (k := 31) (j := 1) (r := 50) (by decide) (by decide)
  show Wp X _ _ _ _ mX26 _ _ _ _ _
  refine Wp.iincN (pc := 179) (lo' := [(0, .ref 0), (1, .int 2)]) (1 : Int32) (by decide) (congrArg some (by decide)) 1 rfl [1, 0] rfl (by decide) dX11_init_179 ?_
  refine Wp.goto (pc := 182) 161 dX11_init_182 (by decide) ?_
  refine Wp.iload_n (pc := 161) 1 rfl rfl dX11_init_161 ?_
  refine Wp.iconst (pc := 162) (3 : Int32) (by decide) dX11_init_162 ?_
  refine Wp.icmp_ge (pc := 163) 185 dX11_init_163 (by decide) (fun q => absurd q (by decide)) (fun _ => ?_)
  refine Wp.aload_n (pc := 166) 0 rfl rfl dX11_init_166 ?_
  refine Wp.getR (pc := 167) (k := 0) (r := 31) rfl rfl nk_RX11_48 rfl dX11_init_167 ?_
  refine Wp.iload_n (pc := 170) 1 rfl rfl dX11_init_170 ?_
  refine Wp.newO1 (pc := 171) (M := 53) rfl hF (hO.up (show 1 ≤ 53 by decide)) (hX.le (Nat.le_refl _) (by decide) (by decide)) (vbc trivial (vbc (vbr (by decide)) vbn)) (lbc (vbr (by decide)) (lbc trivial lbn)) nn_RX11_41 dX11_init_171 ?_
  refine Wp.eqT (T' := TG54) rfl ?_
  have hF := hF.up (show 53 ≤ 54 by decide)
  refine Wp.dup (pc := 174) rfl dX11_init_174 ?_
  have hc := ct_X1_init (T := TG54) (μ := mX26) (n := 54) (b := 53) (by decide) rfl rfl hF
  have hF := hc.2
  refine Wp.callIN (pc := 175) (st := [.ref 53, .int 2, .ref 31]) (as := []) hc.1 rfl (show MLN RX11 43 yX1_init "GalleyStroke" by unfold MLN; decide +kernel) nmi_X1_init nmb_X1_init (hX.le (Nat.le_refl _) (by decide) (by decide)) (hO.up (show 1 ≤ 54 by decide)) (vbc (vbr (by decide)) (vbc trivial (vbc (vbr (by decide)) vbn))) (lbc (vbr (by decide)) (lbc trivial lbn)) (by decide) (by decide) rfl (by decide) dX11_init_175 rfl ?_
  refine Wp.eqT (T' := TG56) rfl ?_
  have hF : Frs mX27 56 := hF
  show Wp X _ _ _ _ mX27 _ _ _ _ _
  refine Wp.aast (pc := 178) (k := 31) (r := 53) (ci := 1) rfl rfl rfl (by decide) dX11_init_178 ?_
  have hF : Frs mX28 56 := hF.sR (k := 31) (j := 2) (r := 53) (by decide) (by decide)
  show Wp X _ _ _ _ mX28 _ _ _ _ _
  refine Wp.iincN (pc := 179) (lo' := [(0, .ref 0), (1, .int 3)]) (1 : Int32) (by decide) (congrArg some (by decide)) 1 rfl [1, 0] rfl (by decide) dX11_init_179 ?_
  refine Wp.goto (pc := 182) 161 dX11_init_182 (by decide) ?_
  refine Wp.iload_n (pc := 161) 1 rfl rfl dX11_init_161 ?_
  refine Wp.iconst (pc := 162) (3 : Int32) (by decide) dX11_init_162 ?_
  refine Wp.icmp_ge (pc := 163) 185 dX11_init_163 (by decide) (fun _ => ?_) (fun q => absurd (by decide) q)
  refine Wp.aload_n (pc := 185) 0 rfl rfl dX11_init_185 ?_
  refine Wp.getR (pc := 186) (k := 0) (r := 28) rfl rfl nk_RX11_44 rfl dX11_init_186 ?_
  refine Wp.aload_n (pc := 189) 0 rfl rfl dX11_init_189 ?_
  refine Wp.getR (pc := 190) (k := 0) (r := 2) rfl rfl nk_RX11_16 rfl dX11_init_190 ?_
  refine Wp.callVv (pc := 193) (b := 28) (st := []) (as := [.ref 2]) (ci := 1) (cb_begin (w := 28) (t := 2) rfl rfl rfl) nml_RX11_89 nmv_X1_begin nmb_X1_begin (hX.le (Nat.le_refl _) (by decide) (by decide)) (by decide) (by decide) rfl rfl rfl (by decide) dX11_init_193 rfl ?_
  show Wp X _ _ _ _ mX29 _ _ _ _ _
  have hF : Frs mX29 56 := ((hF.sJ (k := 28) (by decide)).sI (k := 28) (by decide)).sI (k := 28) (by decide)
  exact hQ 196 _ dX11_init_196
