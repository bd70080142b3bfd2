theorem dX6_goToNextOrder_0 : decode cX6_goToNextOrder 0 = .ok (.iload_n 1, 1) := by decide +kernel
theorem dX6_goToNextOrder_1 : decode cX6_goToNextOrder 1 = .ok (.iconst 2, 1) := by decide +kernel
theorem dX6_goToNextOrder_2 : decode cX6_goToNextOrder 2 = .ok (.isub, 1) := by decide +kernel
theorem dX6_goToNextOrder_3 : decode cX6_goToNextOrder 3 = .ok (.istore_n 2, 1) := by decide +kernel
theorem dX6_goToNextOrder_4 : decode cX6_goToNextOrder 4 = .ok (.iload_n 2, 1) := by decide +kernel
theorem dX6_goToNextOrder_5 : decode cX6_goToNextOrder 5 = .ok (.ifCond .lt 26, 3) := by decide +kernel
theorem dX6_goToNextOrder_8 : decode cX6_goToNextOrder 8 = .ok (.aload_n 0, 1) := by decide +kernel
theorem dX6_goToNextOrder_9 : decode cX6_goToNextOrder 9 = .ok (.getfield 9, 3) := by decide +kernel
theorem dX6_goToNextOrder_12 : decode cX6_goToNextOrder 12 = .ok (.iload_n 2, 1) := by decide +kernel
theorem dX6_goToNextOrder_13 : decode cX6_goToNextOrder 13 = .ok (.iaload, 1) := by decide +kernel
theorem dX6_goToNextOrder_14 : decode cX6_goToNextOrder 14 = .ok (.aload_n 0, 1) := by decide +kernel
theorem dX6_goToNextOrder_15 : decode cX6_goToNextOrder 15 = .ok (.getfield 9, 3) := by decide +kernel
theorem dX6_goToNextOrder_18 : decode cX6_goToNextOrder 18 = .ok (.iload_n 2, 1) := by decide +kernel
theorem dX6_goToNextOrder_19 : decode cX6_goToNextOrder 19 = .ok (.iconst 1, 1) := by decide +kernel
theorem dX6_goToNextOrder_20 : decode cX6_goToNextOrder 20 = .ok (.iadd, 1) := by decide +kernel
theorem dX6_goToNextOrder_21 : decode cX6_goToNextOrder 21 = .ok (.iaload, 1) := by decide +kernel
theorem dX6_goToNextOrder_22 : decode cX6_goToNextOrder 22 = .ok (.if_icmp .le 9, 3) := by decide +kernel
theorem dX6_goToNextOrder_25 : decode cX6_goToNextOrder 25 = .ok (.iinc 2 (-1), 3) := by decide +kernel
theorem dX6_goToNextOrder_28 : decode cX6_goToNextOrder 28 = .ok (.goto (-24), 3) := by decide +kernel
theorem dX6_goToNextOrder_31 : decode cX6_goToNextOrder 31 = .ok (.iload_n 2, 1) := by decide +kernel
theorem dX6_goToNextOrder_32 : decode cX6_goToNextOrder 32 = .ok (.ifCond .ge 5, 3) := by decide +kernel
theorem dX6_goToNextOrder_35 : decode cX6_goToNextOrder 35 = .ok (.iconst 0, 1) := by decide +kernel
theorem dX6_goToNextOrder_36 : decode cX6_goToNextOrder 36 = .ok (.ireturn, 1) := by decide +kernel
theorem dX6_goToNextOrder_37 : decode cX6_goToNextOrder 37 = .ok (.iload_n 1, 1) := by decide +kernel
theorem dX6_goToNextOrder_38 : decode cX6_goToNextOrder 38 = .ok (.iconst 1, 1) := by decide +kernel
theorem dX6_goToNextOrder_39 : decode cX6_goToNextOrder 39 = .ok (.isub, 1) := by decide +kernel
theorem dX6_goToNextOrder_40 : decode cX6_goToNextOrder 40 = .ok (.istore_n 3, 1) := by decide +kernel
theorem dX6_goToNextOrder_41 : decode cX6_goToNextOrder 41 = .ok (.iload_n 3, 1) := by decide +kernel
theorem dX6_goToNextOrder_42 : decode cX6_goToNextOrder 42 = .ok (.iload_n 2, 1) := by decide +kernel
theorem dX6_goToNextOrder_43 : decode cX6_goToNextOrder 43 = .ok (.if_icmp .le 24, 3) := by decide +kernel
theorem dX6_goToNextOrder_46 : decode cX6_goToNextOrder 46 = .ok (.aload_n 0, 1) := by decide +kernel
theorem dX6_goToNextOrder_47 : decode cX6_goToNextOrder 47 = .ok (.getfield 9, 3) := by decide +kernel
theorem dX6_goToNextOrder_50 : decode cX6_goToNextOrder 50 = .ok (.iload_n 3, 1) := by decide +kernel
theorem dX6_goToNextOrder_51 : decode cX6_goToNextOrder 51 = .ok (.iaload, 1) := by decide +kernel
theorem dX6_goToNextOrder_52 : decode cX6_goToNextOrder 52 = .ok (.aload_n 0, 1) := by decide +kernel
theorem dX6_goToNextOrder_53 : decode cX6_goToNextOrder 53 = .ok (.getfield 9, 3) := by decide +kernel
theorem dX6_goToNextOrder_56 : decode cX6_goToNextOrder 56 = .ok (.iload_n 2, 1) := by decide +kernel
theorem dX6_goToNextOrder_57 : decode cX6_goToNextOrder 57 = .ok (.iaload, 1) := by decide +kernel
theorem dX6_goToNextOrder_58 : decode cX6_goToNextOrder 58 = .ok (.if_icmp .ge 9, 3) := by decide +kernel
theorem dX6_goToNextOrder_61 : decode cX6_goToNextOrder 61 = .ok (.iinc 3 (-1), 3) := by decide +kernel
theorem dX6_goToNextOrder_64 : decode cX6_goToNextOrder 64 = .ok (.goto (-23), 3) := by decide +kernel
theorem dX6_goToNextOrder_67 : decode cX6_goToNextOrder 67 = .ok (.aload_n 0, 1) := by decide +kernel
theorem dX6_goToNextOrder_68 : decode cX6_goToNextOrder 68 = .ok (.iload_n 2, 1) := by decide +kernel
theorem dX6_goToNextOrder_69 : decode cX6_goToNextOrder 69 = .ok (.iload_n 3, 1) := by decide +kernel
theorem dX6_goToNextOrder_70 : decode cX6_goToNextOrder 70 = .ok (.invokevirtual 54, 3) := by decide +kernel
theorem dX6_goToNextOrder_73 : decode cX6_goToNextOrder 73 = .ok (.iload_n 2, 1) := by decide +kernel
theorem dX6_goToNextOrder_74 : decode cX6_goToNextOrder 74 = .ok (.iconst 1, 1) := by decide +kernel
theorem dX6_goToNextOrder_75 : decode cX6_goToNextOrder 75 = .ok (.iadd, 1) := by decide +kernel
theorem dX6_goToNextOrder_76 : decode cX6_goToNextOrder 76 = .ok (.istore 4, 2) := by decide +kernel
theorem dX6_goToNextOrder_78 : decode cX6_goToNextOrder 78 = .ok (.iload_n 1, 1) := by decide +kernel
theorem dX6_goToNextOrder_79 : decode cX6_goToNextOrder 79 = .ok (.iconst 1, 1) := by decide +kernel
theorem dX6_goToNextOrder_80 : decode cX6_goToNextOrder 80 = .ok (.isub, 1) := by decide +kernel
theorem dX6_goToNextOrder_81 : decode cX6_goToNextOrder 81 = .ok (.istore 5, 2) := by decide +kernel
theorem dX6_goToNextOrder_83 : decode cX6_goToNextOrder 83 = .ok (.iload 4, 2) := by decide +kernel
theorem dX6_goToNextOrder_85 : decode cX6_goToNextOrder 85 = .ok (.iload 5, 2) := by decide +kernel
theorem dX6_goToNextOrder_87 : decode cX6_goToNextOrder 87 = .ok (.if_icmp .ge 20, 3) := by decide +kernel
theorem dX6_goToNextOrder_90 : decode cX6_goToNextOrder 90 = .ok (.aload_n 0, 1) := by decide +kernel
theorem dX6_goToNextOrder_91 : decode cX6_goToNextOrder 91 = .ok (.iload 4, 2) := by decide +kernel
theorem dX6_goToNextOrder_93 : decode cX6_goToNextOrder 93 = .ok (.iload 5, 2) := by decide +kernel
theorem dX6_goToNextOrder_95 : decode cX6_goToNextOrder 95 = .ok (.invokevirtual 54, 3) := by decide +kernel
theorem dX6_goToNextOrder_98 : decode cX6_goToNextOrder 98 = .ok (.iinc 4 1, 3) := by decide +kernel
theorem dX6_goToNextOrder_101 : decode cX6_goToNextOrder 101 = .ok (.iinc 5 (-1), 3) := by decide +kernel
theorem dX6_goToNextOrder_104 : decode cX6_goToNextOrder 104 = .ok (.goto (-21), 3) := by decide +kernel
theorem dX6_goToNextOrder_107 : decode cX6_goToNextOrder 107 = .ok (.iconst 1, 1) := by decide +kernel
theorem dX6_goToNextOrder_108 : decode cX6_goToNextOrder 108 = .ok (.ireturn, 1) := by decide +kernel
def k_X6_goToNextOrder_4 (X : CX) (T : List Dsc) (R : RM) (n1 n2 : Nat) (x1 : Int32) (r : ((Int32 × M2) ⊕ ((Int32 × M2)))) : Prop := match r with
  | .inl s => Wp X cX6_goToNextOrder RX6 6 T (mk s.2 R) n1 n2 4 [(0, .ref 34), (1, .int x1), (2, .int s.1)] []
  | .inr e => Wp X cX6_goToNextOrder RX6 6 T (mk e.2 R) n1 n2 31 [(0, .ref 34), (1, .int x1), (2, .int e.1)] []
def k_X6_goToNextOrder_41 (X : CX) (T : List Dsc) (R : RM) (n1 n2 : Nat) (x1 : Int32) (x2 : Int32) (r : ((Int32 × M2) ⊕ ((Int32 × M2)))) : Prop := match r with
  | .inl s => Wp X cX6_goToNextOrder RX6 6 T (mk s.2 R) n1 n2 41 [(0, .ref 34), (1, .int x1), (2, .int x2), (3, .int s.1)] []
  | .inr e => Wp X cX6_goToNextOrder RX6 6 T (mk e.2 R) n1 n2 67 [(0, .ref 34), (1, .int x1), (2, .int x2), (3, .int e.1)] []
def k_X6_goToNextOrder_83 (X : CX) (T : List Dsc) (R : RM) (n1 n2 : Nat) (r : ((Int32 × Int32 × M2) ⊕ ((M2)))) : Prop := match r with
  | .inl s => Wp X cX6_goToNextOrder RX6 6 T (mk s.2.2 R) n1 n2 83 [(0, .ref 34), (4, .int s.1), (5, .int s.2.1)] []
  | .inr e => Wp X cX6_goToNextOrder RX6 6 T (mk e R) n1 n2 107 [] []
set_option maxHeartbeats 4000000 in
set_option maxRecDepth 100000 in
theorem w_X6_goToNextOrder_4 {X : CX} {T : List Dsc} {R : RM} {c e : Nat} {n1 n2 : Nat} {x1 : Int32} {x2 : Int32} {m : M2} {r : ((Int32 × M2) ⊕ ((Int32 × M2)))} (hX : XR X 2 n1 n2) (hG : Geo T R c e) (hf : f_X6_goToNextOrder_4 c x1 x2 m = some r) (hk : k_X6_goToNextOrder_4 X T R n1 n2 x1 r) : Wp X cX6_goToNextOrder RX6 6 T (mk m R) n1 n2 4 [(0, .ref 34), (1, .int x1), (2, .int x2)] [] := by
  unfold f_X6_goToNextOrder_4 at hf
  refine Wp.iload_n (pc := 4) 2 rfl rfl dX6_goToNextOrder_4 ?_
  refine Wp.if_lt (pc := 5) 31 dX6_goToNextOrder_5 (by decide) (fun hc1 => ?_) (fun hc1 => ?_)
  · rw [if_pos hc1] at hf
    cases hf
    exact hk
  · rw [if_neg hc1] at hf
    refine Wp.aload_n (pc := 8) 0 rfl rfl dX6_goToNextOrder_8 ?_
    refine Wp.getR2 (pc := 9) (hG.r 34 1 rfl) (hG.t 34 rfl) fk_RX6_9 rfl dX6_goToNextOrder_9 ?_
    refine Wp.iload_n (pc := 12) 2 rfl rfl dX6_goToNextOrder_12 ?_
    obtain ⟨v2, h3, hf⟩ := bnd hf
    refine Wp.iald2 (pc := 13) h3 (hG.a 35 0 rfl) dX6_goToNextOrder_13 ?_
    refine Wp.aload_n (pc := 14) 0 rfl rfl dX6_goToNextOrder_14 ?_
    refine Wp.getR2 (pc := 15) (hG.r 34 1 rfl) (hG.t 34 rfl) fk_RX6_9 rfl dX6_goToNextOrder_15 ?_
    refine Wp.iload_n (pc := 18) 2 rfl rfl dX6_goToNextOrder_18 ?_
    refine Wp.iconst (pc := 19) (1 : Int32) (by decide) dX6_goToNextOrder_19 ?_
    refine Wp.iadd (pc := 20) dX6_goToNextOrder_20 ?_
    obtain ⟨v4, h5, hf⟩ := bnd hf
    refine Wp.iald2 (pc := 21) h5 (hG.a 35 0 rfl) dX6_goToNextOrder_21 ?_
    refine Wp.icmp_le (pc := 22) 31 dX6_goToNextOrder_22 (by decide) (fun hc6 => ?_) (fun hc6 => ?_)
    · rw [if_pos hc6] at hf
      cases hf
      exact hk
    · rw [if_neg hc6] at hf
      obtain ⟨v7, h8, hf⟩ := bnd hf
      refine Wp.iincN (pc := 25) (lo' := [(0, .ref 34), (1, .int x1), (2, .int v7)]) (-1 : Int32) (by decide) h8 2 rfl [1, 2, 0] rfl (by decide) dX6_goToNextOrder_25 ?_
      refine Wp.goto (pc := 28) 4 dX6_goToNextOrder_28 (by decide) ?_
      cases hf
      exact hk
theorem wl_X6_goToNextOrder_4 {X : CX} {T : List Dsc} {R : RM} {c e : Nat} {n1 n2 : Nat} {x1 : Int32} {x2 : Int32} {m : M2} {e1 : ((Int32 × M2))} (hX : XR X 2 n1 n2) (hG : Geo T R c e) (h : loop (g_X6_goToNextOrder_4 c x1) (x2, m) = some e1) (he : Wp X cX6_goToNextOrder RX6 6 T (mk e1.2 R) n1 n2 31 [(0, .ref 34), (1, .int x1), (2, .int e1.1)] []) : Wp X cX6_goToNextOrder RX6 6 T (mk m R) n1 n2 4 [(0, .ref 34), (1, .int x1), (2, .int x2)] [] :=
  loop_ok (K := k_X6_goToNextOrder_4 X T R n1 n2 x1) (fun s r hf hk => w_X6_goToNextOrder_4 hX hG hf hk) h he
set_option maxHeartbeats 4000000 in
set_option maxRecDepth 100000 in
theorem w_X6_goToNextOrder_41 {X : CX} {T : List Dsc} {R : RM} {c e : Nat} {n1 n2 : Nat} {x1 : Int32} {x2 : Int32} {x3 : Int32} {m : M2} {r : ((Int32 × M2) ⊕ ((Int32 × M2)))} (hX : XR X 2 n1 n2) (hG : Geo T R c e) (hf : f_X6_goToNextOrder_41 c x1 x2 x3 m = some r) (hk : k_X6_goToNextOrder_41 X T R n1 n2 x1 x2 r) : Wp X cX6_goToNextOrder RX6 6 T (mk m R) n1 n2 41 [(0, .ref 34), (1, .int x1), (2, .int x2), (3, .int x3)] [] := by
  unfold f_X6_goToNextOrder_41 at hf
  refine Wp.iload_n (pc := 41) 3 rfl rfl dX6_goToNextOrder_41 ?_
  refine Wp.iload_n (pc := 42) 2 rfl rfl dX6_goToNextOrder_42 ?_
  refine Wp.icmp_le (pc := 43) 67 dX6_goToNextOrder_43 (by decide) (fun hc1 => ?_) (fun hc1 => ?_)
  · rw [if_pos hc1] at hf
    cases hf
    exact hk
  · rw [if_neg hc1] at hf
    refine Wp.aload_n (pc := 46) 0 rfl rfl dX6_goToNextOrder_46 ?_
    refine Wp.getR2 (pc := 47) (hG.r 34 1 rfl) (hG.t 34 rfl) fk_RX6_9 rfl dX6_goToNextOrder_47 ?_
    refine Wp.iload_n (pc := 50) 3 rfl rfl dX6_goToNextOrder_50 ?_
    obtain ⟨v2, h3, hf⟩ := bnd hf
    refine Wp.iald2 (pc := 51) h3 (hG.a 35 0 rfl) dX6_goToNextOrder_51 ?_
    refine Wp.aload_n (pc := 52) 0 rfl rfl dX6_goToNextOrder_52 ?_
    refine Wp.getR2 (pc := 53) (hG.r 34 1 rfl) (hG.t 34 rfl) fk_RX6_9 rfl dX6_goToNextOrder_53 ?_
    refine Wp.iload_n (pc := 56) 2 rfl rfl dX6_goToNextOrder_56 ?_
    obtain ⟨v4, h5, hf⟩ := bnd hf
    refine Wp.iald2 (pc := 57) h5 (hG.a 35 0 rfl) dX6_goToNextOrder_57 ?_
    refine Wp.icmp_ge (pc := 58) 67 dX6_goToNextOrder_58 (by decide) (fun hc6 => ?_) (fun hc6 => ?_)
    · rw [if_pos hc6] at hf
      cases hf
      exact hk
    · rw [if_neg hc6] at hf
      obtain ⟨v7, h8, hf⟩ := bnd hf
      refine Wp.iincN (pc := 61) (lo' := [(0, .ref 34), (1, .int x1), (2, .int x2), (3, .int v7)]) (-1 : Int32) (by decide) h8 3 rfl [1, 2, 3, 0] rfl (by decide) dX6_goToNextOrder_61 ?_
      refine Wp.goto (pc := 64) 41 dX6_goToNextOrder_64 (by decide) ?_
      cases hf
      exact hk
theorem wl_X6_goToNextOrder_41 {X : CX} {T : List Dsc} {R : RM} {c e : Nat} {n1 n2 : Nat} {x1 : Int32} {x2 : Int32} {x3 : Int32} {m : M2} {e1 : ((Int32 × M2))} (hX : XR X 2 n1 n2) (hG : Geo T R c e) (h : loop (g_X6_goToNextOrder_41 c x1 x2) (x3, m) = some e1) (he : Wp X cX6_goToNextOrder RX6 6 T (mk e1.2 R) n1 n2 67 [(0, .ref 34), (1, .int x1), (2, .int x2), (3, .int e1.1)] []) : Wp X cX6_goToNextOrder RX6 6 T (mk m R) n1 n2 41 [(0, .ref 34), (1, .int x1), (2, .int x2), (3, .int x3)] [] :=
  loop_ok (K := k_X6_goToNextOrder_41 X T R n1 n2 x1 x2) (fun s r hf hk => w_X6_goToNextOrder_41 hX hG hf hk) h he
set_option maxHeartbeats 4000000 in
set_option maxRecDepth 100000 in
theorem w_X6_goToNextOrder_83 {X : CX} {T : List Dsc} {R : RM} {c e : Nat} {n1 n2 : Nat} {x4 : Int32} {x5 : Int32} {m : M2} {r : ((Int32 × Int32 × M2) ⊕ ((M2)))} (hX : XR X 2 n1 n2) (hG : Geo T R c e) (hf : f_X6_goToNextOrder_83 c x4 x5 m = some r) (hk : k_X6_goToNextOrder_83 X T R n1 n2 r) : Wp X cX6_goToNextOrder RX6 6 T (mk m R) n1 n2 83 [(0, .ref 34), (4, .int x4), (5, .int x5)] [] := by
  unfold f_X6_goToNextOrder_83 at hf
  refine Wp.iload (pc := 83) 1 rfl dX6_goToNextOrder_83 ?_
  refine Wp.iload (pc := 85) 2 rfl dX6_goToNextOrder_85 ?_
  refine Wp.icmp_ge (pc := 87) 107 dX6_goToNextOrder_87 (by decide) (fun hc1 => ?_) (fun hc1 => ?_)
  · rw [if_pos hc1] at hf
    refine Wp.lo' (lo' := []) [] rfl ?_
    cases hf
    exact hk
  · rw [if_neg hc1] at hf
    refine Wp.aload_n (pc := 90) 0 rfl rfl dX6_goToNextOrder_90 ?_
    refine Wp.iload (pc := 91) 1 rfl dX6_goToNextOrder_91 ?_
    refine Wp.iload (pc := 93) 2 rfl dX6_goToNextOrder_93 ?_
    obtain ⟨c2, h3, hf⟩ := bnd hf
    refine Wp.callVv (pc := 95) (st := []) (as := [.int x4, .int x5]) (c_X6_swap hG h3) ml_RX6_54 mv_X6_swap mb_X6_swap hX (Nat.le_of_ble_eq_true rfl) (by decide) rfl (hG.t 34 rfl) rfl (by simp) dX6_goToNextOrder_95 rfl ?_
    obtain ⟨v4, h5, hf⟩ := bnd hf
    refine Wp.iincN (pc := 98) (lo' := [(0, .ref 34), (4, .int v4), (5, .int x5)]) (1 : Int32) (by decide) h5 1 rfl [1, 0, 2] rfl (by decide) dX6_goToNextOrder_98 ?_
    obtain ⟨v6, h7, hf⟩ := bnd hf
    refine Wp.iincN (pc := 101) (lo' := [(0, .ref 34), (4, .int v4), (5, .int v6)]) (-1 : Int32) (by decide) h7 2 rfl [1, 2, 0] rfl (by decide) dX6_goToNextOrder_101 ?_
    refine Wp.goto (pc := 104) 83 dX6_goToNextOrder_104 (by decide) ?_
    cases hf
    exact hk
theorem wl_X6_goToNextOrder_83 {X : CX} {T : List Dsc} {R : RM} {c e : Nat} {n1 n2 : Nat} {x4 : Int32} {x5 : Int32} {m : M2} {e1 : ((M2))} (hX : XR X 2 n1 n2) (hG : Geo T R c e) (h : loop (g_X6_goToNextOrder_83 c) (x4, x5, m) = some e1) (he : Wp X cX6_goToNextOrder RX6 6 T (mk e1 R) n1 n2 107 [] []) : Wp X cX6_goToNextOrder RX6 6 T (mk m R) n1 n2 83 [(0, .ref 34), (4, .int x4), (5, .int x5)] [] :=
  loop_ok (K := k_X6_goToNextOrder_83 X T R n1 n2) (fun s r hf hk => w_X6_goToNextOrder_83 hX hG hf hk) h he
set_option maxHeartbeats 4000000 in
set_option maxRecDepth 100000 in
theorem w_X6_goToNextOrder_67 {X : CX} {T : List Dsc} {R : RM} {c e : Nat} {n1 n2 : Nat} {x1 : Int32} {x2 : Int32} {x3 : Int32} {m : M2} {r : (Int32 × M2)} (hX : XR X 2 n1 n2) (hG : Geo T R c e) (hf : f_X6_goToNextOrder_67 c x1 x2 x3 m = some r) (hk : FnZ X cX6_goToNextOrder RX6 6 T n1 n2 (r.1, mk r.2 R)) : Wp X cX6_goToNextOrder RX6 6 T (mk m R) n1 n2 67 [(0, .ref 34), (1, .int x1), (2, .int x2), (3, .int x3)] [] := by
  unfold f_X6_goToNextOrder_67 at hf
  refine Wp.aload_n (pc := 67) 0 rfl rfl dX6_goToNextOrder_67 ?_
  refine Wp.iload_n (pc := 68) 2 rfl rfl dX6_goToNextOrder_68 ?_
  refine Wp.iload_n (pc := 69) 3 rfl rfl dX6_goToNextOrder_69 ?_
  obtain ⟨c1, h2, hf⟩ := bnd hf
  refine Wp.callVv (pc := 70) (st := []) (as := [.int x2, .int x3]) (c_X6_swap hG h2) ml_RX6_54 mv_X6_swap mb_X6_swap hX (Nat.le_of_ble_eq_true rfl) (by decide) rfl (hG.t 34 rfl) rfl (by simp) dX6_goToNextOrder_70 rfl ?_
  refine Wp.iload_n (pc := 73) 2 rfl rfl dX6_goToNextOrder_73 ?_
  refine Wp.iconst (pc := 74) (1 : Int32) (by decide) dX6_goToNextOrder_74 ?_
  refine Wp.iadd (pc := 75) dX6_goToNextOrder_75 ?_
  obtain ⟨v3, h4, hf⟩ := bnd hf
  refine Wp.nI' h4 ?_
  refine Wp.istore (pc := 76) (lo' := [(0, .ref 34), (1, .int x1), (4, .int v3)]) [1, 2, 0] rfl (by decide) dX6_goToNextOrder_76 ?_
  refine Wp.iload_n (pc := 78) 1 rfl rfl dX6_goToNextOrder_78 ?_
  refine Wp.iconst (pc := 79) (1 : Int32) (by decide) dX6_goToNextOrder_79 ?_
  refine Wp.isub (pc := 80) dX6_goToNextOrder_80 ?_
  obtain ⟨v5, h6, hf⟩ := bnd hf
  refine Wp.nI' h6 ?_
  refine Wp.istore (pc := 81) (lo' := [(0, .ref 34), (4, .int v3), (5, .int v5)]) [1, 3, 0] rfl (by decide) dX6_goToNextOrder_81 ?_
  obtain ⟨e7, h8, hf⟩ := bnd hf
  refine wl_X6_goToNextOrder_83 hX hG h8 ?_
  refine Wp.iconst (pc := 107) (1 : Int32) (by decide) dX6_goToNextOrder_107 ?_
  cases hf
  exact hk _ _ (Or.inr rfl) dX6_goToNextOrder_108
set_option maxHeartbeats 4000000 in
set_option maxRecDepth 100000 in
theorem w_X6_goToNextOrder_31 {X : CX} {T : List Dsc} {R : RM} {c e : Nat} {n1 n2 : Nat} {x1 : Int32} {x2 : Int32} {m : M2} {r : (Int32 × M2)} (hX : XR X 2 n1 n2) (hG : Geo T R c e) (hf : f_X6_goToNextOrder_31 c x1 x2 m = some r) (hk : FnZ X cX6_goToNextOrder RX6 6 T n1 n2 (r.1, mk r.2 R)) : Wp X cX6_goToNextOrder RX6 6 T (mk m R) n1 n2 31 [(0, .ref 34), (1, .int x1), (2, .int x2)] [] := by
  unfold f_X6_goToNextOrder_31 at hf
  refine Wp.iload_n (pc := 31) 2 rfl rfl dX6_goToNextOrder_31 ?_
  refine Wp.if_ge (pc := 32) 37 dX6_goToNextOrder_32 (by decide) (fun hc1 => ?_) (fun hc1 => ?_)
  · rw [if_pos hc1] at hf
    refine Wp.iload_n (pc := 37) 1 rfl rfl dX6_goToNextOrder_37 ?_
    refine Wp.iconst (pc := 38) (1 : Int32) (by decide) dX6_goToNextOrder_38 ?_
    refine Wp.isub (pc := 39) dX6_goToNextOrder_39 ?_
    obtain ⟨v2, h3, hf⟩ := bnd hf
    refine Wp.nI' h3 ?_
    refine Wp.istore_n (pc := 40) (lo' := [(0, .ref 34), (1, .int x1), (2, .int x2), (3, .int v2)]) [1, 2, 3, 0] rfl (by decide) rfl dX6_goToNextOrder_40 ?_
    obtain ⟨e4, h5, hf⟩ := bnd hf
    refine wl_X6_goToNextOrder_41 hX hG h5 ?_
    exact w_X6_goToNextOrder_67 hX hG hf hk
  · rw [if_neg hc1] at hf
    refine Wp.iconst (pc := 35) (0 : Int32) (by decide) dX6_goToNextOrder_35 ?_
    cases hf
    exact hk _ _ (Or.inl rfl) dX6_goToNextOrder_36
set_option maxHeartbeats 4000000 in
set_option maxRecDepth 100000 in
theorem w_X6_goToNextOrder {X : CX} {T : List Dsc} {R : RM} {c e : Nat} {n1 n2 : Nat} {x1 : Int32} {m : M2} {r : (Int32 × M2)} (hX : XR X 2 n1 n2) (hG : Geo T R c e) (hf : F_X6_goToNextOrder c x1 m = some r) (hk : FnZ X cX6_goToNextOrder RX6 6 T n1 n2 (r.1, mk r.2 R)) : Wp X cX6_goToNextOrder RX6 6 T (mk m R) n1 n2 0 [(0, .ref 34), (1, .int x1)] [] := by
  unfold F_X6_goToNextOrder at hf
  refine Wp.iload_n (pc := 0) 1 rfl rfl dX6_goToNextOrder_0 ?_
  refine Wp.iconst (pc := 1) (2 : Int32) (by decide) dX6_goToNextOrder_1 ?_
  refine Wp.isub (pc := 2) dX6_goToNextOrder_2 ?_
  obtain ⟨v1, h2, hf⟩ := bnd hf
  refine Wp.nI' h2 ?_
  refine Wp.istore_n (pc := 3) (lo' := [(0, .ref 34), (1, .int x1), (2, .int v1)]) [1, 2, 0] rfl (by decide) rfl dX6_goToNextOrder_3 ?_
  obtain ⟨e3, h4, hf⟩ := bnd hf
  refine wl_X6_goToNextOrder_4 hX hG h4 ?_
  exact w_X6_goToNextOrder_31 hX hG hf hk
theorem c_X6_goToNextOrder {T : List Dsc} {R : RM} {c e : Nat} {x1 : Int32} {m : M2} {r : (Int32 × M2)} (hG : Geo T R c e) (hf : F_X6_goToNextOrder c x1 m = some r) : Ct 2 yX6_goToNextOrder cX6_goToNextOrder 6 (some .boolean) T (mk m R) [.ref 34, .int x1] (some (.int r.1)) (mk r.2 R) := Ct.ofZ (r := (r.1, mk r.2 R)) (by decide +kernel) (Nat.le_of_ble_eq_true rfl) (fun X hX hk => w_X6_goToNextOrder hX hG hf hk)
theorem dX6_bestOrder_0 : decode cX6_bestOrder 0 = .ok (.aload_n 0, 1) := by decide +kernel
theorem dX6_bestOrder_1 : decode cX6_bestOrder 1 = .ok (.getfield 21, 3) := by decide +kernel
theorem dX6_bestOrder_4 : decode cX6_bestOrder 4 = .ok (.getfield 25, 3) := by decide +kernel
theorem dX6_bestOrder_7 : decode cX6_bestOrder 7 = .ok (.getfield 31, 3) := by decide +kernel
theorem dX6_bestOrder_10 : decode cX6_bestOrder 10 = .ok (.istore 4, 2) := by decide +kernel
theorem dX6_bestOrder_12 : decode cX6_bestOrder 12 = .ok (.aload_n 0, 1) := by decide +kernel
theorem dX6_bestOrder_13 : decode cX6_bestOrder 13 = .ok (.invokevirtual 37, 3) := by decide +kernel
theorem dX6_bestOrder_16 : decode cX6_bestOrder 16 = .ok (.aload_n 0, 1) := by decide +kernel
theorem dX6_bestOrder_17 : decode cX6_bestOrder 17 = .ok (.getfield 9, 3) := by decide +kernel
theorem dX6_bestOrder_20 : decode cX6_bestOrder 20 = .ok (.iconst 0, 1) := by decide +kernel
theorem dX6_bestOrder_21 : decode cX6_bestOrder 21 = .ok (.aload_n 0, 1) := by decide +kernel
theorem dX6_bestOrder_22 : decode cX6_bestOrder 22 = .ok (.getfield 15, 3) := by decide +kernel
theorem dX6_bestOrder_25 : decode cX6_bestOrder 25 = .ok (.iconst 0, 1) := by decide +kernel
theorem dX6_bestOrder_26 : decode cX6_bestOrder 26 = .ok (.bipush 12, 2) := by decide +kernel
theorem dX6_bestOrder_28 : decode cX6_bestOrder 28 = .ok (.invokestatic 40, 3) := by decide +kernel
theorem dX6_bestOrder_31 : decode cX6_bestOrder 31 = .ok (.aload_n 0, 1) := by decide +kernel
theorem dX6_bestOrder_32 : decode cX6_bestOrder 32 = .ok (.aload_n 1, 1) := by decide +kernel
theorem dX6_bestOrder_33 : decode cX6_bestOrder 33 = .ok (.iload_n 2, 1) := by decide +kernel
theorem dX6_bestOrder_34 : decode cX6_bestOrder 34 = .ok (.iload_n 3, 1) := by decide +kernel
theorem dX6_bestOrder_35 : decode cX6_bestOrder 35 = .ok (.invokevirtual 46, 3) := by decide +kernel
theorem dX6_bestOrder_38 : decode cX6_bestOrder 38 = .ok (.istore 5, 2) := by decide +kernel
theorem dX6_bestOrder_40 : decode cX6_bestOrder 40 = .ok (.iconst 1, 1) := by decide +kernel
theorem dX6_bestOrder_41 : decode cX6_bestOrder 41 = .ok (.istore 6, 2) := by decide +kernel
theorem dX6_bestOrder_43 : decode cX6_bestOrder 43 = .ok (.iload 6, 2) := by decide +kernel
theorem dX6_bestOrder_45 : decode cX6_bestOrder 45 = .ok (.sipush 720, 3) := by decide +kernel
theorem dX6_bestOrder_48 : decode cX6_bestOrder 48 = .ok (.if_icmp .ge 53, 3) := by decide +kernel
theorem dX6_bestOrder_51 : decode cX6_bestOrder 51 = .ok (.aload_n 0, 1) := by decide +kernel
theorem dX6_bestOrder_52 : decode cX6_bestOrder 52 = .ok (.iload 4, 2) := by decide +kernel
theorem dX6_bestOrder_54 : decode cX6_bestOrder 54 = .ok (.invokevirtual 50, 3) := by decide +kernel
theorem dX6_bestOrder_57 : decode cX6_bestOrder 57 = .ok (.ifCond .eq 44, 3) := by decide +kernel
theorem dX6_bestOrder_60 : decode cX6_bestOrder 60 = .ok (.aload_n 0, 1) := by decide +kernel
theorem dX6_bestOrder_61 : decode cX6_bestOrder 61 = .ok (.aload_n 1, 1) := by decide +kernel
theorem dX6_bestOrder_62 : decode cX6_bestOrder 62 = .ok (.iload_n 2, 1) := by decide +kernel
theorem dX6_bestOrder_63 : decode cX6_bestOrder 63 = .ok (.iload_n 3, 1) := by decide +kernel
theorem dX6_bestOrder_64 : decode cX6_bestOrder 64 = .ok (.invokevirtual 46, 3) := by decide +kernel
theorem dX6_bestOrder_67 : decode cX6_bestOrder 67 = .ok (.istore 7, 2) := by decide +kernel
theorem dX6_bestOrder_69 : decode cX6_bestOrder 69 = .ok (.iload 7, 2) := by decide +kernel
theorem dX6_bestOrder_71 : decode cX6_bestOrder 71 = .ok (.iload 5, 2) := by decide +kernel
theorem dX6_bestOrder_73 : decode cX6_bestOrder 73 = .ok (.if_icmp .ge 22, 3) := by decide +kernel
theorem dX6_bestOrder_76 : decode cX6_bestOrder 76 = .ok (.iload 7, 2) := by decide +kernel
theorem dX6_bestOrder_78 : decode cX6_bestOrder 78 = .ok (.istore 5, 2) := by decide +kernel
theorem dX6_bestOrder_80 : decode cX6_bestOrder 80 = .ok (.aload_n 0, 1) := by decide +kernel
theorem dX6_bestOrder_81 : decode cX6_bestOrder 81 = .ok (.getfield 9, 3) := by decide +kernel
theorem dX6_bestOrder_84 : decode cX6_bestOrder 84 = .ok (.iconst 0, 1) := by decide +kernel
theorem dX6_bestOrder_85 : decode cX6_bestOrder 85 = .ok (.aload_n 0, 1) := by decide +kernel
theorem dX6_bestOrder_86 : decode cX6_bestOrder 86 = .ok (.getfield 15, 3) := by decide +kernel
theorem dX6_bestOrder_89 : decode cX6_bestOrder 89 = .ok (.iconst 0, 1) := by decide +kernel
theorem dX6_bestOrder_90 : decode cX6_bestOrder 90 = .ok (.bipush 12, 2) := by decide +kernel
theorem dX6_bestOrder_92 : decode cX6_bestOrder 92 = .ok (.invokestatic 40, 3) := by decide +kernel
theorem dX6_bestOrder_95 : decode cX6_bestOrder 95 = .ok (.iinc 6 1, 3) := by decide +kernel
theorem dX6_bestOrder_98 : decode cX6_bestOrder 98 = .ok (.goto (-55), 3) := by decide +kernel
theorem dX6_bestOrder_101 : decode cX6_bestOrder 101 = .ok (.iload_n 2, 1) := by decide +kernel
theorem dX6_bestOrder_102 : decode cX6_bestOrder 102 = .ok (.iconst 2, 1) := by decide +kernel
theorem dX6_bestOrder_103 : decode cX6_bestOrder 103 = .ok (.if_icmp .ne 9, 3) := by decide +kernel
theorem dX6_bestOrder_106 : decode cX6_bestOrder 106 = .ok (.iload 5, 2) := by decide +kernel
theorem dX6_bestOrder_108 : decode cX6_bestOrder 108 = .ok (.ineg, 1) := by decide +kernel
theorem dX6_bestOrder_109 : decode cX6_bestOrder 109 = .ok (.goto 5, 3) := by decide +kernel
theorem dX6_bestOrder_112 : decode cX6_bestOrder 112 = .ok (.iload 5, 2) := by decide +kernel
theorem dX6_bestOrder_114 : decode cX6_bestOrder 114 = .ok (.ireturn, 1) := by decide +kernel
def k_X6_bestOrder_43 (X : CX) (T : List Dsc) (R : RM) (n1 n2 : Nat) (x1 : Nat) (x2 : Int32) (x3 : Int32) (x4 : Int32) (r : ((Int32 × Int32 × M2) ⊕ ((Int32 × M2)))) : Prop := match r with
  | .inl s => Wp X cX6_bestOrder RX6 8 T (mk s.2.2 R) n1 n2 43 [(0, .ref 34), (1, .ref x1), (2, .int x2), (3, .int x3), (4, .int x4), (5, .int s.1), (6, .int s.2.1)] []
  | .inr e => Wp X cX6_bestOrder RX6 8 T (mk e.2 R) n1 n2 101 [(2, .int x2), (5, .int e.1)] []
set_option maxHeartbeats 4000000 in
set_option maxRecDepth 100000 in
theorem w_X6_bestOrder_95 {X : CX} {T : List Dsc} {R : RM} {c e : Nat} {n1 n2 : Nat} {x1 : Nat} {x2 : Int32} {x3 : Int32} {x4 : Int32} {x5 : Int32} {x6 : Int32} {m : M2} {r : ((Int32 × Int32 × M2) ⊕ ((Int32 × M2)))} (hX : XR X 7 n1 n2) (hG : Geo T R c e) (hx1 : cw x1) (hf : f_X6_bestOrder_95 c x1 x2 x3 x4 x5 x6 m = some r) (hk : k_X6_bestOrder_43 X T R n1 n2 x1 x2 x3 x4 r) : Wp X cX6_bestOrder RX6 8 T (mk m R) n1 n2 95 [(0, .ref 34), (1, .ref x1), (2, .int x2), (3, .int x3), (4, .int x4), (5, .int x5), (6, .int x6)] [] := by
  unfold f_X6_bestOrder_95 at hf
  obtain ⟨v1, h2, hf⟩ := bnd hf
  refine Wp.iincN (pc := 95) (lo' := [(0, .ref 34), (1, .ref x1), (2, .int x2), (3, .int x3), (4, .int x4), (5, .int x5), (6, .int v1)]) (1 : Int32) (by decide) h2 6 rfl [1, 2, 3, 4, 5, 6, 0] rfl (by decide) dX6_bestOrder_95 ?_
  refine Wp.goto (pc := 98) 43 dX6_bestOrder_98 (by decide) ?_
  cases hf
  exact hk
set_option maxHeartbeats 4000000 in
set_option maxRecDepth 100000 in
theorem w_X6_bestOrder_43 {X : CX} {T : List Dsc} {R : RM} {c e : Nat} {n1 n2 : Nat} {x1 : Nat} {x2 : Int32} {x3 : Int32} {x4 : Int32} {x5 : Int32} {x6 : Int32} {m : M2} {r : ((Int32 × Int32 × M2) ⊕ ((Int32 × M2)))} (hX : XR X 7 n1 n2) (hG : Geo T R c e) (hx1 : cw x1) (hf : f_X6_bestOrder_43 c x1 x2 x3 x4 x5 x6 m = some r) (hk : k_X6_bestOrder_43 X T R n1 n2 x1 x2 x3 x4 r) : Wp X cX6_bestOrder RX6 8 T (mk m R) n1 n2 43 [(0, .ref 34), (1, .ref x1), (2, .int x2), (3, .int x3), (4, .int x4), (5, .int x5), (6, .int x6)] [] := by
  unfold f_X6_bestOrder_43 at hf
  refine Wp.iload (pc := 43) 6 rfl dX6_bestOrder_43 ?_
  refine Wp.sipush (pc := 45) (720 : Int32) (by decide) dX6_bestOrder_45 ?_
  refine Wp.icmp_ge (pc := 48) 101 dX6_bestOrder_48 (by decide) (fun hc1 => ?_) (fun hc1 => ?_)
  · rw [if_pos hc1] at hf
    refine Wp.lo' (lo' := [(2, .int x2), (5, .int x5)]) [2, 5] rfl ?_
    cases hf
    exact hk
  · rw [if_neg hc1] at hf
    refine Wp.aload_n (pc := 51) 0 rfl rfl dX6_bestOrder_51 ?_
    refine Wp.iload (pc := 52) 4 rfl dX6_bestOrder_52 ?_
    obtain ⟨c2, h3, hf⟩ := bnd hf
    refine Wp.callVi (pc := 54) (st := []) (as := [.int x4]) (c_X6_goToNextOrder hG h3) ml_RX6_50 mv_X6_goToNextOrder mb_X6_goToNextOrder hX (Nat.le_of_ble_eq_true rfl) (by decide) rfl (hG.t 34 rfl) rfl (by simp) dX6_bestOrder_54 rfl ?_
    refine Wp.if_eq (pc := 57) 101 dX6_bestOrder_57 (by decide) (fun hc4 => ?_) (fun hc4 => ?_)
    · rw [if_pos hc4] at hf
      refine Wp.lo' (lo' := [(2, .int x2), (5, .int x5)]) [2, 5] rfl ?_
      cases hf
      exact hk
    · rw [if_neg hc4] at hf
      refine Wp.aload_n (pc := 60) 0 rfl rfl dX6_bestOrder_60 ?_
      refine Wp.aload_n (pc := 61) 1 rfl rfl dX6_bestOrder_61 ?_
      refine Wp.iload_n (pc := 62) 2 rfl rfl dX6_bestOrder_62 ?_
      refine Wp.iload_n (pc := 63) 3 rfl rfl dX6_bestOrder_63 ?_
      obtain ⟨c5, h6, hf⟩ := bnd hf
      refine Wp.callVi (pc := 64) (st := []) (as := [.ref x1, .int x2, .int x3]) (c_X6_cost hG hx1 h6) ml_RX6_46 mv_X6_cost mb_X6_cost hX (Nat.le_of_ble_eq_true rfl) (by decide) rfl (hG.t 34 rfl) rfl (by simp) dX6_bestOrder_64 rfl ?_
      refine Wp.istore (pc := 67) (lo' := [(0, .ref 34), (1, .ref x1), (2, .int x2), (3, .int x3), (4, .int x4), (5, .int x5), (6, .int x6), (7, .int c5.1)]) [1, 2, 3, 4, 5, 6, 7, 0] rfl (by decide) dX6_bestOrder_67 ?_
      refine Wp.iload (pc := 69) 7 rfl dX6_bestOrder_69 ?_
      refine Wp.iload (pc := 71) 5 rfl dX6_bestOrder_71 ?_
      refine Wp.icmp_ge (pc := 73) 95 dX6_bestOrder_73 (by decide) (fun hc7 => ?_) (fun hc7 => ?_)
      · rw [if_pos hc7] at hf
        refine Wp.lo' (lo' := [(0, .ref 34), (1, .ref x1), (2, .int x2), (3, .int x3), (4, .int x4), (5, .int x5), (6, .int x6)]) [0, 1, 2, 3, 4, 5, 6] rfl ?_
        exact w_X6_bestOrder_95 hX hG hx1 hf hk
      · rw [if_neg hc7] at hf
        refine Wp.iload (pc := 76) 7 rfl dX6_bestOrder_76 ?_
        refine Wp.istore (pc := 78) (lo' := [(0, .ref 34), (1, .ref x1), (2, .int x2), (3, .int x3), (4, .int x4), (5, .int c5.1), (6, .int x6)]) [1, 2, 3, 4, 5, 0, 6] rfl (by decide) dX6_bestOrder_78 ?_
        refine Wp.aload_n (pc := 80) 0 rfl rfl dX6_bestOrder_80 ?_
        refine Wp.getR2 (pc := 81) (hG.r 34 1 rfl) (hG.t 34 rfl) fk_RX6_9 rfl dX6_bestOrder_81 ?_
        refine Wp.iconst (pc := 84) (0 : Int32) (by decide) dX6_bestOrder_84 ?_
        refine Wp.aload_n (pc := 85) 0 rfl rfl dX6_bestOrder_85 ?_
        refine Wp.getR2 (pc := 86) (hG.r 34 2 rfl) (hG.t 34 rfl) fk_RX6_15 rfl dX6_bestOrder_86 ?_
        refine Wp.iconst (pc := 89) (0 : Int32) (by decide) dX6_bestOrder_89 ?_
        refine Wp.bipush (pc := 90) (12 : Int32) (by decide) dX6_bestOrder_90 ?_
        obtain ⟨m8, h9, hf⟩ := bnd hf
        refine Wp.acopy2 (pc := 92) h9 (hG.a 35 0 rfl) (hG.a 36 0 rfl) ac_RX6_40 ac_nat ac_stat ac_ini hX (Nat.le_of_ble_eq_true rfl) (by simp) dX6_bestOrder_92 ?_
        exact w_X6_bestOrder_95 hX hG hx1 hf hk
theorem wl_X6_bestOrder_43 {X : CX} {T : List Dsc} {R : RM} {c e : Nat} {n1 n2 : Nat} {x1 : Nat} {x2 : Int32} {x3 : Int32} {x4 : Int32} {x5 : Int32} {x6 : Int32} {m : M2} {e1 : ((Int32 × M2))} (hX : XR X 7 n1 n2) (hG : Geo T R c e) (hx1 : cw x1) (h : loop (g_X6_bestOrder_43 c x1 x2 x3 x4) (x5, x6, m) = some e1) (he : Wp X cX6_bestOrder RX6 8 T (mk e1.2 R) n1 n2 101 [(2, .int x2), (5, .int e1.1)] []) : Wp X cX6_bestOrder RX6 8 T (mk m R) n1 n2 43 [(0, .ref 34), (1, .ref x1), (2, .int x2), (3, .int x3), (4, .int x4), (5, .int x5), (6, .int x6)] [] :=
  loop_ok (K := k_X6_bestOrder_43 X T R n1 n2 x1 x2 x3 x4) (fun s r hf hk => w_X6_bestOrder_43 hX hG hx1 hf hk) h he
set_option maxHeartbeats 4000000 in
set_option maxRecDepth 100000 in
theorem w_X6_bestOrder_114 {X : CX} {T : List Dsc} {R : RM} {c e : Nat} {n1 n2 : Nat} {s0 : Int32} {m : M2} {r : (Int32 × M2)} (hX : XR X 7 n1 n2) (hG : Geo T R c e) (hf : f_X6_bestOrder_114 c s0 m = some r) (hk : FnI X cX6_bestOrder RX6 8 T n1 n2 (r.1, mk r.2 R)) : Wp X cX6_bestOrder RX6 8 T (mk m R) n1 n2 114 [] [.int s0] := by
  unfold f_X6_bestOrder_114 at hf
  cases hf
  exact hk _ _ dX6_bestOrder_114
set_option maxHeartbeats 4000000 in
set_option maxRecDepth 100000 in
theorem w_X6_bestOrder_101 {X : CX} {T : List Dsc} {R : RM} {c e : Nat} {n1 n2 : Nat} {x2 : Int32} {x5 : Int32} {m : M2} {r : (Int32 × M2)} (hX : XR X 7 n1 n2) (hG : Geo T R c e) (hf : f_X6_bestOrder_101 c x2 x5 m = some r) (hk : FnI X cX6_bestOrder RX6 8 T n1 n2 (r.1, mk r.2 R)) : Wp X cX6_bestOrder RX6 8 T (mk m R) n1 n2 101 [(2, .int x2), (5, .int x5)] [] := by
  unfold f_X6_bestOrder_101 at hf
  refine Wp.iload_n (pc := 101) 0 rfl rfl dX6_bestOrder_101 ?_
  refine Wp.iconst (pc := 102) (2 : Int32) (by decide) dX6_bestOrder_102 ?_
  refine Wp.icmp_ne (pc := 103) 112 dX6_bestOrder_103 (by decide) (fun hc1 => ?_) (fun hc1 => ?_)
  · rw [if_neg hc1] at hf
    refine Wp.iload (pc := 112) 1 rfl dX6_bestOrder_112 ?_
    refine Wp.lo' (lo' := []) [] rfl ?_
    exact w_X6_bestOrder_114 hX hG hf hk
  · rw [if_pos hc1] at hf
    refine Wp.iload (pc := 106) 1 rfl dX6_bestOrder_106 ?_
    refine Wp.ineg (pc := 108) dX6_bestOrder_108 ?_
    refine Wp.goto (pc := 109) 114 dX6_bestOrder_109 (by decide) ?_
    refine Wp.lo' (lo' := []) [] rfl ?_
    exact w_X6_bestOrder_114 hX hG hf hk
set_option maxHeartbeats 4000000 in
set_option maxRecDepth 100000 in
theorem w_X6_bestOrder {X : CX} {T : List Dsc} {R : RM} {c e : Nat} {n1 n2 : Nat} {x1 : Nat} {x2 : Int32} {x3 : Int32} {m : M2} {r : (Int32 × M2)} (hX : XR X 7 n1 n2) (hG : Geo T R c e) (hx1 : cw x1) (hf : F_X6_bestOrder c x1 x2 x3 m = some r) (hk : FnI X cX6_bestOrder RX6 8 T n1 n2 (r.1, mk r.2 R)) : Wp X cX6_bestOrder RX6 8 T (mk m R) n1 n2 0 [(0, .ref 34), (1, .ref x1), (2, .int x2), (3, .int x3)] [] := by
  unfold F_X6_bestOrder at hf
  refine Wp.aload_n (pc := 0) 0 rfl rfl dX6_bestOrder_0 ?_
  refine Wp.getR2 (pc := 1) (hG.r 34 0 rfl) (hG.t 34 rfl) fk_RX6_21 rfl dX6_bestOrder_1 ?_
  refine Wp.getR2 (pc := 4) hG.r2 (hG.t 23 rfl) fk_RX6_25 rfl dX6_bestOrder_4 ?_
  refine Wp.getI2 (pc := 7) (hG.tt hG.hc) fk_RX6_31 rfl dX6_bestOrder_7 ?_
  obtain ⟨v1, h2, hf⟩ := bnd hf
  refine Wp.nI' h2 ?_
  refine Wp.istore (pc := 10) (lo' := [(0, .ref 34), (1, .ref x1), (2, .int x2), (3, .int x3), (4, .int v1)]) [1, 2, 3, 4, 0] rfl (by decide) dX6_bestOrder_10 ?_
  refine Wp.aload_n (pc := 12) 0 rfl rfl dX6_bestOrder_12 ?_
  obtain ⟨c3, h4, hf⟩ := bnd hf
  refine Wp.callVv (pc := 13) (st := []) (as := []) (c_X6_sitAsNow hG h4) ml_RX6_37 mv_X6_sitAsNow mb_X6_sitAsNow hX (Nat.le_of_ble_eq_true rfl) (by decide) rfl (hG.t 34 rfl) rfl (by simp) dX6_bestOrder_13 rfl ?_
  refine Wp.aload_n (pc := 16) 0 rfl rfl dX6_bestOrder_16 ?_
  refine Wp.getR2 (pc := 17) (hG.r 34 1 rfl) (hG.t 34 rfl) fk_RX6_9 rfl dX6_bestOrder_17 ?_
  refine Wp.iconst (pc := 20) (0 : Int32) (by decide) dX6_bestOrder_20 ?_
  refine Wp.aload_n (pc := 21) 0 rfl rfl dX6_bestOrder_21 ?_
  refine Wp.getR2 (pc := 22) (hG.r 34 2 rfl) (hG.t 34 rfl) fk_RX6_15 rfl dX6_bestOrder_22 ?_
  refine Wp.iconst (pc := 25) (0 : Int32) (by decide) dX6_bestOrder_25 ?_
  refine Wp.bipush (pc := 26) (12 : Int32) (by decide) dX6_bestOrder_26 ?_
  obtain ⟨m5, h6, hf⟩ := bnd hf
  refine Wp.acopy2 (pc := 28) h6 (hG.a 35 0 rfl) (hG.a 36 0 rfl) ac_RX6_40 ac_nat ac_stat ac_ini hX (Nat.le_of_ble_eq_true rfl) (by simp) dX6_bestOrder_28 ?_
  refine Wp.aload_n (pc := 31) 0 rfl rfl dX6_bestOrder_31 ?_
  refine Wp.aload_n (pc := 32) 1 rfl rfl dX6_bestOrder_32 ?_
  refine Wp.iload_n (pc := 33) 2 rfl rfl dX6_bestOrder_33 ?_
  refine Wp.iload_n (pc := 34) 3 rfl rfl dX6_bestOrder_34 ?_
  obtain ⟨c7, h8, hf⟩ := bnd hf
  refine Wp.callVi (pc := 35) (st := []) (as := [.ref x1, .int x2, .int x3]) (c_X6_cost hG hx1 h8) ml_RX6_46 mv_X6_cost mb_X6_cost hX (Nat.le_of_ble_eq_true rfl) (by decide) rfl (hG.t 34 rfl) rfl (by simp) dX6_bestOrder_35 rfl ?_
  refine Wp.istore (pc := 38) (lo' := [(0, .ref 34), (1, .ref x1), (2, .int x2), (3, .int x3), (4, .int v1), (5, .int c7.1)]) [1, 2, 3, 4, 5, 0] rfl (by decide) dX6_bestOrder_38 ?_
  refine Wp.iconst (pc := 40) (1 : Int32) (by decide) dX6_bestOrder_40 ?_
  refine Wp.istore (pc := 41) (lo' := [(0, .ref 34), (1, .ref x1), (2, .int x2), (3, .int x3), (4, .int v1), (5, .int c7.1), (6, .int (1 : Int32))]) [1, 2, 3, 4, 5, 6, 0] rfl (by decide) dX6_bestOrder_41 ?_
  obtain ⟨e9, h10, hf⟩ := bnd hf
  refine wl_X6_bestOrder_43 hX hG hx1 h10 ?_
  exact w_X6_bestOrder_101 hX hG hf hk
theorem c_X6_bestOrder {T : List Dsc} {R : RM} {c e : Nat} {x1 : Nat} {x2 : Int32} {x3 : Int32} {m : M2} {r : (Int32 × M2)} (hG : Geo T R c e) (hx1 : cw x1) (hf : F_X6_bestOrder c x1 x2 x3 m = some r) : Ct 7 yX6_bestOrder cX6_bestOrder 8 (some .int) T (mk m R) [.ref 34, .ref x1, .int x2, .int x3] (some (.int r.1)) (mk r.2 R) := Ct.ofI (r := (r.1, mk r.2 R)) (by decide +kernel) (Nat.le_of_ble_eq_true rfl) (fun X hX hk => w_X6_bestOrder hX hG hx1 hf hk)
theorem dX6_bestExchange_0 : decode cX6_bestExchange 0 = .ok (.aload_n 0, 1) := by decide +kernel
theorem dX6_bestExchange_1 : decode cX6_bestExchange 1 = .ok (.getfield 21, 3) := by decide +kernel
theorem dX6_bestExchange_4 : decode cX6_bestExchange 4 = .ok (.getfield 25, 3) := by decide +kernel
theorem dX6_bestExchange_7 : decode cX6_bestExchange 7 = .ok (.getfield 31, 3) := by decide +kernel
theorem dX6_bestExchange_10 : decode cX6_bestExchange 10 = .ok (.istore 4, 2) := by decide +kernel
theorem dX6_bestExchange_12 : decode cX6_bestExchange 12 = .ok (.aload_n 0, 1) := by decide +kernel
theorem dX6_bestExchange_13 : decode cX6_bestExchange 13 = .ok (.invokevirtual 37, 3) := by decide +kernel
theorem dX6_bestExchange_16 : decode cX6_bestExchange 16 = .ok (.aload_n 0, 1) := by decide +kernel
theorem dX6_bestExchange_17 : decode cX6_bestExchange 17 = .ok (.aload_n 1, 1) := by decide +kernel
theorem dX6_bestExchange_18 : decode cX6_bestExchange 18 = .ok (.iload_n 2, 1) := by decide +kernel
theorem dX6_bestExchange_19 : decode cX6_bestExchange 19 = .ok (.iload_n 3, 1) := by decide +kernel
theorem dX6_bestExchange_20 : decode cX6_bestExchange 20 = .ok (.invokevirtual 46, 3) := by decide +kernel
theorem dX6_bestExchange_23 : decode cX6_bestExchange 23 = .ok (.istore 5, 2) := by decide +kernel
theorem dX6_bestExchange_25 : decode cX6_bestExchange 25 = .ok (.bipush (-2), 2) := by decide +kernel
theorem dX6_bestExchange_27 : decode cX6_bestExchange 27 = .ok (.istore 6, 2) := by decide +kernel
theorem dX6_bestExchange_29 : decode cX6_bestExchange 29 = .ok (.iconst 0, 1) := by decide +kernel
theorem dX6_bestExchange_30 : decode cX6_bestExchange 30 = .ok (.istore 7, 2) := by decide +kernel
theorem dX6_bestExchange_32 : decode cX6_bestExchange 32 = .ok (.iload 7, 2) := by decide +kernel
theorem dX6_bestExchange_34 : decode cX6_bestExchange 34 = .ok (.iload 4, 2) := by decide +kernel
theorem dX6_bestExchange_36 : decode cX6_bestExchange 36 = .ok (.if_icmp .ge 74, 3) := by decide +kernel
theorem dX6_bestExchange_39 : decode cX6_bestExchange 39 = .ok (.iload 7, 2) := by decide +kernel
theorem dX6_bestExchange_41 : decode cX6_bestExchange 41 = .ok (.iconst 1, 1) := by decide +kernel
theorem dX6_bestExchange_42 : decode cX6_bestExchange 42 = .ok (.iadd, 1) := by decide +kernel
theorem dX6_bestExchange_43 : decode cX6_bestExchange 43 = .ok (.istore 8, 2) := by decide +kernel
theorem dX6_bestExchange_45 : decode cX6_bestExchange 45 = .ok (.iload 8, 2) := by decide +kernel
theorem dX6_bestExchange_47 : decode cX6_bestExchange 47 = .ok (.iload 4, 2) := by decide +kernel
theorem dX6_bestExchange_49 : decode cX6_bestExchange 49 = .ok (.if_icmp .ge 55, 3) := by decide +kernel
theorem dX6_bestExchange_52 : decode cX6_bestExchange 52 = .ok (.aload_n 0, 1) := by decide +kernel
theorem dX6_bestExchange_53 : decode cX6_bestExchange 53 = .ok (.iload 7, 2) := by decide +kernel
theorem dX6_bestExchange_55 : decode cX6_bestExchange 55 = .ok (.iload 8, 2) := by decide +kernel
theorem dX6_bestExchange_57 : decode cX6_bestExchange 57 = .ok (.invokevirtual 54, 3) := by decide +kernel
theorem dX6_bestExchange_60 : decode cX6_bestExchange 60 = .ok (.aload_n 0, 1) := by decide +kernel
theorem dX6_bestExchange_61 : decode cX6_bestExchange 61 = .ok (.aload_n 1, 1) := by decide +kernel
theorem dX6_bestExchange_62 : decode cX6_bestExchange 62 = .ok (.iload_n 2, 1) := by decide +kernel
theorem dX6_bestExchange_63 : decode cX6_bestExchange 63 = .ok (.iload_n 3, 1) := by decide +kernel
theorem dX6_bestExchange_64 : decode cX6_bestExchange 64 = .ok (.invokevirtual 46, 3) := by decide +kernel
theorem dX6_bestExchange_67 : decode cX6_bestExchange 67 = .ok (.istore 9, 2) := by decide +kernel
theorem dX6_bestExchange_69 : decode cX6_bestExchange 69 = .ok (.iload 9, 2) := by decide +kernel
theorem dX6_bestExchange_71 : decode cX6_bestExchange 71 = .ok (.iload 5, 2) := by decide +kernel
theorem dX6_bestExchange_73 : decode cX6_bestExchange 73 = .ok (.if_icmp .ge 17, 3) := by decide +kernel
theorem dX6_bestExchange_76 : decode cX6_bestExchange 76 = .ok (.iload 9, 2) := by decide +kernel
theorem dX6_bestExchange_78 : decode cX6_bestExchange 78 = .ok (.istore 5, 2) := by decide +kernel
theorem dX6_bestExchange_80 : decode cX6_bestExchange 80 = .ok (.bipush 100, 2) := by decide +kernel
theorem dX6_bestExchange_82 : decode cX6_bestExchange 82 = .ok (.iload 7, 2) := by decide +kernel
theorem dX6_bestExchange_84 : decode cX6_bestExchange 84 = .ok (.imul, 1) := by decide +kernel
theorem dX6_bestExchange_85 : decode cX6_bestExchange 85 = .ok (.iload 8, 2) := by decide +kernel
theorem dX6_bestExchange_87 : decode cX6_bestExchange 87 = .ok (.iadd, 1) := by decide +kernel
theorem dX6_bestExchange_88 : decode cX6_bestExchange 88 = .ok (.istore 6, 2) := by decide +kernel
theorem dX6_bestExchange_90 : decode cX6_bestExchange 90 = .ok (.aload_n 0, 1) := by decide +kernel
theorem dX6_bestExchange_91 : decode cX6_bestExchange 91 = .ok (.iload 7, 2) := by decide +kernel
theorem dX6_bestExchange_93 : decode cX6_bestExchange 93 = .ok (.iload 8, 2) := by decide +kernel
theorem dX6_bestExchange_95 : decode cX6_bestExchange 95 = .ok (.invokevirtual 54, 3) := by decide +kernel
theorem dX6_bestExchange_98 : decode cX6_bestExchange 98 = .ok (.iinc 8 1, 3) := by decide +kernel
theorem dX6_bestExchange_101 : decode cX6_bestExchange 101 = .ok (.goto (-56), 3) := by decide +kernel
theorem dX6_bestExchange_104 : decode cX6_bestExchange 104 = .ok (.iinc 7 1, 3) := by decide +kernel
theorem dX6_bestExchange_107 : decode cX6_bestExchange 107 = .ok (.goto (-75), 3) := by decide +kernel
theorem dX6_bestExchange_110 : decode cX6_bestExchange 110 = .ok (.iload 6, 2) := by decide +kernel
theorem dX6_bestExchange_112 : decode cX6_bestExchange 112 = .ok (.ireturn, 1) := by decide +kernel
def k_X6_bestExchange_45 (X : CX) (T : List Dsc) (R : RM) (n1 n2 : Nat) (x1 : Nat) (x2 : Int32) (x3 : Int32) (x4 : Int32) (x7 : Int32) (r : ((Int32 × Int32 × Int32 × M2) ⊕ ((Int32 × Int32 × M2)))) : Prop := match r with
  | .inl s => Wp X cX6_bestExchange RX6 10 T (mk s.2.2.2 R) n1 n2 45 [(0, .ref 34), (1, .ref x1), (2, .int x2), (3, .int x3), (4, .int x4), (5, .int s.1), (6, .int s.2.1), (7, .int x7), (8, .int s.2.2.1)] []
  | .inr e => Wp X cX6_bestExchange RX6 10 T (mk e.2.2 R) n1 n2 104 [(0, .ref 34), (1, .ref x1), (2, .int x2), (3, .int x3), (4, .int x4), (5, .int e.1), (6, .int e.2.1), (7, .int x7)] []
def k_X6_bestExchange_32 (X : CX) (T : List Dsc) (R : RM) (n1 n2 : Nat) (x1 : Nat) (x2 : Int32) (x3 : Int32) (x4 : Int32) (r : ((Int32 × Int32 × Int32 × M2) ⊕ ((Int32 × M2)))) : Prop := match r with
  | .inl s => Wp X cX6_bestExchange RX6 10 T (mk s.2.2.2 R) n1 n2 32 [(0, .ref 34), (1, .ref x1), (2, .int x2), (3, .int x3), (4, .int x4), (5, .int s.1), (6, .int s.2.1), (7, .int s.2.2.1)] []
  | .inr e => Wp X cX6_bestExchange RX6 10 T (mk e.2 R) n1 n2 110 [(6, .int e.1)] []
set_option maxHeartbeats 4000000 in
set_option maxRecDepth 100000 in
theorem w_X6_bestExchange_90 {X : CX} {T : List Dsc} {R : RM} {c e : Nat} {n1 n2 : Nat} {x1 : Nat} {x2 : Int32} {x3 : Int32} {x4 : Int32} {x5 : Int32} {x6 : Int32} {x7 : Int32} {x8 : Int32} {m : M2} {r : ((Int32 × Int32 × Int32 × M2) ⊕ ((Int32 × Int32 × M2)))} (hX : XR X 7 n1 n2) (hG : Geo T R c e) (hx1 : cw x1) (hf : f_X6_bestExchange_90 c x1 x2 x3 x4 x5 x6 x7 x8 m = some r) (hk : k_X6_bestExchange_45 X T R n1 n2 x1 x2 x3 x4 x7 r) : Wp X cX6_bestExchange RX6 10 T (mk m R) n1 n2 90 [(0, .ref 34), (1, .ref x1), (2, .int x2), (3, .int x3), (4, .int x4), (5, .int x5), (6, .int x6), (7, .int x7), (8, .int x8)] [] := by
  unfold f_X6_bestExchange_90 at hf
  refine Wp.aload_n (pc := 90) 0 rfl rfl dX6_bestExchange_90 ?_
  refine Wp.iload (pc := 91) 7 rfl dX6_bestExchange_91 ?_
  refine Wp.iload (pc := 93) 8 rfl dX6_bestExchange_93 ?_
  obtain ⟨c1, h2, hf⟩ := bnd hf
  refine Wp.callVv (pc := 95) (st := []) (as := [.int x7, .int x8]) (c_X6_swap hG h2) ml_RX6_54 mv_X6_swap mb_X6_swap hX (Nat.le_of_ble_eq_true rfl) (by decide) rfl (hG.t 34 rfl) rfl (by simp) dX6_bestExchange_95 rfl ?_
  obtain ⟨v3, h4, hf⟩ := bnd hf
  refine Wp.iincN (pc := 98) (lo' := [(0, .ref 34), (1, .ref x1), (2, .int x2), (3, .int x3), (4, .int x4), (5, .int x5), (6, .int x6), (7, .int x7), (8, .int v3)]) (1 : Int32) (by decide) h4 8 rfl [1, 2, 3, 4, 5, 6, 7, 8, 0] rfl (by decide) dX6_bestExchange_98 ?_
  refine Wp.goto (pc := 101) 45 dX6_bestExchange_101 (by decide) ?_
  cases hf
  exact hk
set_option maxHeartbeats 4000000 in
set_option maxRecDepth 100000 in
theorem w_X6_bestExchange_45 {X : CX} {T : List Dsc} {R : RM} {c e : Nat} {n1 n2 : Nat} {x1 : Nat} {x2 : Int32} {x3 : Int32} {x4 : Int32} {x5 : Int32} {x6 : Int32} {x7 : Int32} {x8 : Int32} {m : M2} {r : ((Int32 × Int32 × Int32 × M2) ⊕ ((Int32 × Int32 × M2)))} (hX : XR X 7 n1 n2) (hG : Geo T R c e) (hx1 : cw x1) (hf : f_X6_bestExchange_45 c x1 x2 x3 x4 x5 x6 x7 x8 m = some r) (hk : k_X6_bestExchange_45 X T R n1 n2 x1 x2 x3 x4 x7 r) : Wp X cX6_bestExchange RX6 10 T (mk m R) n1 n2 45 [(0, .ref 34), (1, .ref x1), (2, .int x2), (3, .int x3), (4, .int x4), (5, .int x5), (6, .int x6), (7, .int x7), (8, .int x8)] [] := by
  unfold f_X6_bestExchange_45 at hf
  refine Wp.iload (pc := 45) 8 rfl dX6_bestExchange_45 ?_
  refine Wp.iload (pc := 47) 4 rfl dX6_bestExchange_47 ?_
  refine Wp.icmp_ge (pc := 49) 104 dX6_bestExchange_49 (by decide) (fun hc1 => ?_) (fun hc1 => ?_)
  · rw [if_pos hc1] at hf
    refine Wp.lo' (lo' := [(0, .ref 34), (1, .ref x1), (2, .int x2), (3, .int x3), (4, .int x4), (5, .int x5), (6, .int x6), (7, .int x7)]) [0, 1, 2, 3, 4, 5, 6, 7] rfl ?_
    cases hf
    exact hk
  · rw [if_neg hc1] at hf
    refine Wp.aload_n (pc := 52) 0 rfl rfl dX6_bestExchange_52 ?_
    refine Wp.iload (pc := 53) 7 rfl dX6_bestExchange_53 ?_
    refine Wp.iload (pc := 55) 8 rfl dX6_bestExchange_55 ?_
    obtain ⟨c2, h3, hf⟩ := bnd hf
    refine Wp.callVv (pc := 57) (st := []) (as := [.int x7, .int x8]) (c_X6_swap hG h3) ml_RX6_54 mv_X6_swap mb_X6_swap hX (Nat.le_of_ble_eq_true rfl) (by decide) rfl (hG.t 34 rfl) rfl (by simp) dX6_bestExchange_57 rfl ?_
    refine Wp.aload_n (pc := 60) 0 rfl rfl dX6_bestExchange_60 ?_
    refine Wp.aload_n (pc := 61) 1 rfl rfl dX6_bestExchange_61 ?_
    refine Wp.iload_n (pc := 62) 2 rfl rfl dX6_bestExchange_62 ?_
    refine Wp.iload_n (pc := 63) 3 rfl rfl dX6_bestExchange_63 ?_
    obtain ⟨c4, h5, hf⟩ := bnd hf
    refine Wp.callVi (pc := 64) (st := []) (as := [.ref x1, .int x2, .int x3]) (c_X6_cost hG hx1 h5) ml_RX6_46 mv_X6_cost mb_X6_cost hX (Nat.le_of_ble_eq_true rfl) (by decide) rfl (hG.t 34 rfl) rfl (by simp) dX6_bestExchange_64 rfl ?_
    refine Wp.istore (pc := 67) (lo' := [(0, .ref 34), (1, .ref x1), (2, .int x2), (3, .int x3), (4, .int x4), (5, .int x5), (6, .int x6), (7, .int x7), (8, .int x8), (9, .int c4.1)]) [1, 2, 3, 4, 5, 6, 7, 8, 9, 0] rfl (by decide) dX6_bestExchange_67 ?_
    refine Wp.iload (pc := 69) 9 rfl dX6_bestExchange_69 ?_
    refine Wp.iload (pc := 71) 5 rfl dX6_bestExchange_71 ?_
    refine Wp.icmp_ge (pc := 73) 90 dX6_bestExchange_73 (by decide) (fun hc6 => ?_) (fun hc6 => ?_)
    · rw [if_pos hc6] at hf
      refine Wp.lo' (lo' := [(0, .ref 34), (1, .ref x1), (2, .int x2), (3, .int x3), (4, .int x4), (5, .int x5), (6, .int x6), (7, .int x7), (8, .int x8)]) [0, 1, 2, 3, 4, 5, 6, 7, 8] rfl ?_
      exact w_X6_bestExchange_90 hX hG hx1 hf hk
    · rw [if_neg hc6] at hf
      refine Wp.iload (pc := 76) 9 rfl dX6_bestExchange_76 ?_
      refine Wp.istore (pc := 78) (lo' := [(0, .ref 34), (1, .ref x1), (2, .int x2), (3, .int x3), (4, .int x4), (5, .int c4.1), (7, .int x7), (8, .int x8)]) [1, 2, 3, 4, 5, 0, 7, 8] rfl (by decide) dX6_bestExchange_78 ?_
      refine Wp.bipush (pc := 80) (100 : Int32) (by decide) dX6_bestExchange_80 ?_
      refine Wp.iload (pc := 82) 6 rfl dX6_bestExchange_82 ?_
      refine Wp.imul (pc := 84) dX6_bestExchange_84 ?_
      refine Wp.iload (pc := 85) 7 rfl dX6_bestExchange_85 ?_
      refine Wp.iadd (pc := 87) dX6_bestExchange_87 ?_
      obtain ⟨v7, h8, hf⟩ := bnd hf
      refine Wp.nI' h8 ?_
      refine Wp.istore (pc := 88) (lo' := [(0, .ref 34), (1, .ref x1), (2, .int x2), (3, .int x3), (4, .int x4), (5, .int c4.1), (6, .int v7), (7, .int x7), (8, .int x8)]) [1, 2, 3, 4, 5, 6, 0, 7, 8] rfl (by decide) dX6_bestExchange_88 ?_
      exact w_X6_bestExchange_90 hX hG hx1 hf hk
theorem wl_X6_bestExchange_45 {X : CX} {T : List Dsc} {R : RM} {c e : Nat} {n1 n2 : Nat} {x1 : Nat} {x2 : Int32} {x3 : Int32} {x4 : Int32} {x5 : Int32} {x6 : Int32} {x7 : Int32} {x8 : Int32} {m : M2} {e1 : ((Int32 × Int32 × M2))} (hX : XR X 7 n1 n2) (hG : Geo T R c e) (hx1 : cw x1) (h : loop (g_X6_bestExchange_45 c x1 x2 x3 x4 x7) (x5, x6, x8, m) = some e1) (he : Wp X cX6_bestExchange RX6 10 T (mk e1.2.2 R) n1 n2 104 [(0, .ref 34), (1, .ref x1), (2, .int x2), (3, .int x3), (4, .int x4), (5, .int e1.1), (6, .int e1.2.1), (7, .int x7)] []) : Wp X cX6_bestExchange RX6 10 T (mk m R) n1 n2 45 [(0, .ref 34), (1, .ref x1), (2, .int x2), (3, .int x3), (4, .int x4), (5, .int x5), (6, .int x6), (7, .int x7), (8, .int x8)] [] :=
  loop_ok (K := k_X6_bestExchange_45 X T R n1 n2 x1 x2 x3 x4 x7) (fun s r hf hk => w_X6_bestExchange_45 hX hG hx1 hf hk) h he
set_option maxHeartbeats 4000000 in
set_option maxRecDepth 100000 in
theorem w_X6_bestExchange_32 {X : CX} {T : List Dsc} {R : RM} {c e : Nat} {n1 n2 : Nat} {x1 : Nat} {x2 : Int32} {x3 : Int32} {x4 : Int32} {x5 : Int32} {x6 : Int32} {x7 : Int32} {m : M2} {r : ((Int32 × Int32 × Int32 × M2) ⊕ ((Int32 × M2)))} (hX : XR X 7 n1 n2) (hG : Geo T R c e) (hx1 : cw x1) (hf : f_X6_bestExchange_32 c x1 x2 x3 x4 x5 x6 x7 m = some r) (hk : k_X6_bestExchange_32 X T R n1 n2 x1 x2 x3 x4 r) : Wp X cX6_bestExchange RX6 10 T (mk m R) n1 n2 32 [(0, .ref 34), (1, .ref x1), (2, .int x2), (3, .int x3), (4, .int x4), (5, .int x5), (6, .int x6), (7, .int x7)] [] := by
  unfold f_X6_bestExchange_32 at hf
  refine Wp.iload (pc := 32) 7 rfl dX6_bestExchange_32 ?_
  refine Wp.iload (pc := 34) 4 rfl dX6_bestExchange_34 ?_
  refine Wp.icmp_ge (pc := 36) 110 dX6_bestExchange_36 (by decide) (fun hc1 => ?_) (fun hc1 => ?_)
  · rw [if_pos hc1] at hf
    refine Wp.lo' (lo' := [(6, .int x6)]) [6] rfl ?_
    cases hf
    exact hk
  · rw [if_neg hc1] at hf
    refine Wp.iload (pc := 39) 7 rfl dX6_bestExchange_39 ?_
    refine Wp.iconst (pc := 41) (1 : Int32) (by decide) dX6_bestExchange_41 ?_
    refine Wp.iadd (pc := 42) dX6_bestExchange_42 ?_
    obtain ⟨v2, h3, hf⟩ := bnd hf
    refine Wp.nI' h3 ?_
    refine Wp.istore (pc := 43) (lo' := [(0, .ref 34), (1, .ref x1), (2, .int x2), (3, .int x3), (4, .int x4), (5, .int x5), (6, .int x6), (7, .int x7), (8, .int v2)]) [1, 2, 3, 4, 5, 6, 7, 8, 0] rfl (by decide) dX6_bestExchange_43 ?_
    obtain ⟨e4, h5, hf⟩ := bnd hf
    refine wl_X6_bestExchange_45 hX hG hx1 h5 ?_
    obtain ⟨v6, h7, hf⟩ := bnd hf
    refine Wp.iincN (pc := 104) (lo' := [(0, .ref 34), (1, .ref x1), (2, .int x2), (3, .int x3), (4, .int x4), (5, .int e4.1), (6, .int e4.2.1), (7, .int v6)]) (1 : Int32) (by decide) h7 7 rfl [1, 2, 3, 4, 5, 6, 7, 0] rfl (by decide) dX6_bestExchange_104 ?_
    refine Wp.goto (pc := 107) 32 dX6_bestExchange_107 (by decide) ?_
    cases hf
    exact hk
theorem wl_X6_bestExchange_32 {X : CX} {T : List Dsc} {R : RM} {c e : Nat} {n1 n2 : Nat} {x1 : Nat} {x2 : Int32} {x3 : Int32} {x4 : Int32} {x5 : Int32} {x6 : Int32} {x7 : Int32} {m : M2} {e1 : ((Int32 × M2))} (hX : XR X 7 n1 n2) (hG : Geo T R c e) (hx1 : cw x1) (h : loop (g_X6_bestExchange_32 c x1 x2 x3 x4) (x5, x6, x7, m) = some e1) (he : Wp X cX6_bestExchange RX6 10 T (mk e1.2 R) n1 n2 110 [(6, .int e1.1)] []) : Wp X cX6_bestExchange RX6 10 T (mk m R) n1 n2 32 [(0, .ref 34), (1, .ref x1), (2, .int x2), (3, .int x3), (4, .int x4), (5, .int x5), (6, .int x6), (7, .int x7)] [] :=
  loop_ok (K := k_X6_bestExchange_32 X T R n1 n2 x1 x2 x3 x4) (fun s r hf hk => w_X6_bestExchange_32 hX hG hx1 hf hk) h he
set_option maxHeartbeats 4000000 in
set_option maxRecDepth 100000 in
theorem w_X6_bestExchange {X : CX} {T : List Dsc} {R : RM} {c e : Nat} {n1 n2 : Nat} {x1 : Nat} {x2 : Int32} {x3 : Int32} {m : M2} {r : (Int32 × M2)} (hX : XR X 7 n1 n2) (hG : Geo T R c e) (hx1 : cw x1) (hf : F_X6_bestExchange c x1 x2 x3 m = some r) (hk : FnI X cX6_bestExchange RX6 10 T n1 n2 (r.1, mk r.2 R)) : Wp X cX6_bestExchange RX6 10 T (mk m R) n1 n2 0 [(0, .ref 34), (1, .ref x1), (2, .int x2), (3, .int x3)] [] := by
  unfold F_X6_bestExchange at hf
  refine Wp.aload_n (pc := 0) 0 rfl rfl dX6_bestExchange_0 ?_
  refine Wp.getR2 (pc := 1) (hG.r 34 0 rfl) (hG.t 34 rfl) fk_RX6_21 rfl dX6_bestExchange_1 ?_
  refine Wp.getR2 (pc := 4) hG.r2 (hG.t 23 rfl) fk_RX6_25 rfl dX6_bestExchange_4 ?_
  refine Wp.getI2 (pc := 7) (hG.tt hG.hc) fk_RX6_31 rfl dX6_bestExchange_7 ?_
  obtain ⟨v1, h2, hf⟩ := bnd hf
  refine Wp.nI' h2 ?_
  refine Wp.istore (pc := 10) (lo' := [(0, .ref 34), (1, .ref x1), (2, .int x2), (3, .int x3), (4, .int v1)]) [1, 2, 3, 4, 0] rfl (by decide) dX6_bestExchange_10 ?_
  refine Wp.aload_n (pc := 12) 0 rfl rfl dX6_bestExchange_12 ?_
  obtain ⟨c3, h4, hf⟩ := bnd hf
  refine Wp.callVv (pc := 13) (st := []) (as := []) (c_X6_sitAsNow hG h4) ml_RX6_37 mv_X6_sitAsNow mb_X6_sitAsNow hX (Nat.le_of_ble_eq_true rfl) (by decide) rfl (hG.t 34 rfl) rfl (by simp) dX6_bestExchange_13 rfl ?_
  refine Wp.aload_n (pc := 16) 0 rfl rfl dX6_bestExchange_16 ?_
  refine Wp.aload_n (pc := 17) 1 rfl rfl dX6_bestExchange_17 ?_
  refine Wp.iload_n (pc := 18) 2 rfl rfl dX6_bestExchange_18 ?_
  refine Wp.iload_n (pc := 19) 3 rfl rfl dX6_bestExchange_19 ?_
  obtain ⟨c5, h6, hf⟩ := bnd hf
  refine Wp.callVi (pc := 20) (st := []) (as := [.ref x1, .int x2, .int x3]) (c_X6_cost hG hx1 h6) ml_RX6_46 mv_X6_cost mb_X6_cost hX (Nat.le_of_ble_eq_true rfl) (by decide) rfl (hG.t 34 rfl) rfl (by simp) dX6_bestExchange_20 rfl ?_
  refine Wp.istore (pc := 23) (lo' := [(0, .ref 34), (1, .ref x1), (2, .int x2), (3, .int x3), (4, .int v1), (5, .int c5.1)]) [1, 2, 3, 4, 5, 0] rfl (by decide) dX6_bestExchange_23 ?_
  refine Wp.bipush (pc := 25) (-2 : Int32) (by decide) dX6_bestExchange_25 ?_
  refine Wp.istore (pc := 27) (lo' := [(0, .ref 34), (1, .ref x1), (2, .int x2), (3, .int x3), (4, .int v1), (5, .int c5.1), (6, .int (-2 : Int32))]) [1, 2, 3, 4, 5, 6, 0] rfl (by decide) dX6_bestExchange_27 ?_
  refine Wp.iconst (pc := 29) (0 : Int32) (by decide) dX6_bestExchange_29 ?_
  refine Wp.istore (pc := 30) (lo' := [(0, .ref 34), (1, .ref x1), (2, .int x2), (3, .int x3), (4, .int v1), (5, .int c5.1), (6, .int (-2 : Int32)), (7, .int (0 : Int32))]) [1, 2, 3, 4, 5, 6, 7, 0] rfl (by decide) dX6_bestExchange_30 ?_
  obtain ⟨e7, h8, hf⟩ := bnd hf
  refine wl_X6_bestExchange_32 hX hG hx1 h8 ?_
  refine Wp.iload (pc := 110) 0 rfl dX6_bestExchange_110 ?_
  cases hf
  exact hk _ _ dX6_bestExchange_112
theorem c_X6_bestExchange {T : List Dsc} {R : RM} {c e : Nat} {x1 : Nat} {x2 : Int32} {x3 : Int32} {m : M2} {r : (Int32 × M2)} (hG : Geo T R c e) (hx1 : cw x1) (hf : F_X6_bestExchange c x1 x2 x3 m = some r) : Ct 7 yX6_bestExchange cX6_bestExchange 10 (some .int) T (mk m R) [.ref 34, .ref x1, .int x2, .int x3] (some (.int r.1)) (mk r.2 R) := Ct.ofI (r := (r.1, mk r.2 R)) (by decide +kernel) (Nat.le_of_ble_eq_true rfl) (fun X hX hk => w_X6_bestExchange hX hG hx1 hf hk)
theorem dX9_findRound_0 : decode cX9_findRound 0 = .ok (.aload_n 0, 1) := by decide +kernel
theorem dX9_findRound_1 : decode cX9_findRound 1 = .ok (.getfield 9, 3) := by decide +kernel
theorem dX9_findRound_4 : decode cX9_findRound 4 = .ok (.iconst 0, 1) := by decide +kernel
theorem dX9_findRound_5 : decode cX9_findRound 5 = .ok (.aload_n 1, 1) := by decide +kernel
theorem dX9_findRound_6 : decode cX9_findRound 6 = .ok (.getfield 17, 3) := by decide +kernel
theorem dX9_findRound_9 : decode cX9_findRound 9 = .ok (.lastore, 1) := by decide +kernel
theorem dX9_findRound_10 : decode cX9_findRound 10 = .ok (.iconst 1, 1) := by decide +kernel
theorem dX9_findRound_11 : decode cX9_findRound 11 = .ok (.istore_n 2, 1) := by decide +kernel
theorem dX9_findRound_12 : decode cX9_findRound 12 = .ok (.iload_n 2, 1) := by decide +kernel
theorem dX9_findRound_13 : decode cX9_findRound 13 = .ok (.sipush 400, 3) := by decide +kernel
theorem dX9_findRound_16 : decode cX9_findRound 16 = .ok (.if_icmp .gt 71, 3) := by decide +kernel
theorem dX9_findRound_19 : decode cX9_findRound 19 = .ok (.aload_n 0, 1) := by decide +kernel
theorem dX9_findRound_20 : decode cX9_findRound 20 = .ok (.getfield 9, 3) := by decide +kernel
theorem dX9_findRound_23 : decode cX9_findRound 23 = .ok (.iload_n 2, 1) := by decide +kernel
theorem dX9_findRound_24 : decode cX9_findRound 24 = .ok (.aload_n 0, 1) := by decide +kernel
theorem dX9_findRound_25 : decode cX9_findRound 25 = .ok (.getfield 13, 3) := by decide +kernel
theorem dX9_findRound_28 : decode cX9_findRound 28 = .ok (.aload_n 0, 1) := by decide +kernel
theorem dX9_findRound_29 : decode cX9_findRound 29 = .ok (.getfield 9, 3) := by decide +kernel
theorem dX9_findRound_32 : decode cX9_findRound 32 = .ok (.iload_n 2, 1) := by decide +kernel
theorem dX9_findRound_33 : decode cX9_findRound 33 = .ok (.iconst 1, 1) := by decide +kernel
theorem dX9_findRound_34 : decode cX9_findRound 34 = .ok (.isub, 1) := by decide +kernel
theorem dX9_findRound_35 : decode cX9_findRound 35 = .ok (.laload, 1) := by decide +kernel
theorem dX9_findRound_36 : decode cX9_findRound 36 = .ok (.aload_n 1, 1) := by decide +kernel
theorem dX9_findRound_37 : decode cX9_findRound 37 = .ok (.getfield 23, 3) := by decide +kernel
theorem dX9_findRound_40 : decode cX9_findRound 40 = .ok (.aload_n 1, 1) := by decide +kernel
theorem dX9_findRound_41 : decode cX9_findRound 41 = .ok (.getfield 27, 3) := by decide +kernel
theorem dX9_findRound_44 : decode cX9_findRound 44 = .ok (.iconst 0, 1) := by decide +kernel
theorem dX9_findRound_45 : decode cX9_findRound 45 = .ok (.invokevirtual 31, 3) := by decide +kernel
theorem dX9_findRound_48 : decode cX9_findRound 48 = .ok (.lastore, 1) := by decide +kernel
theorem dX9_findRound_49 : decode cX9_findRound 49 = .ok (.aload_n 0, 1) := by decide +kernel
theorem dX9_findRound_50 : decode cX9_findRound 50 = .ok (.getfield 9, 3) := by decide +kernel
theorem dX9_findRound_53 : decode cX9_findRound 53 = .ok (.iload_n 2, 1) := by decide +kernel
theorem dX9_findRound_54 : decode cX9_findRound 54 = .ok (.laload, 1) := by decide +kernel
theorem dX9_findRound_55 : decode cX9_findRound 55 = .ok (.aload_n 0, 1) := by decide +kernel
theorem dX9_findRound_56 : decode cX9_findRound 56 = .ok (.getfield 9, 3) := by decide +kernel
theorem dX9_findRound_59 : decode cX9_findRound 59 = .ok (.iload_n 2, 1) := by decide +kernel
theorem dX9_findRound_60 : decode cX9_findRound 60 = .ok (.iconst 1, 1) := by decide +kernel
theorem dX9_findRound_61 : decode cX9_findRound 61 = .ok (.isub, 1) := by decide +kernel
theorem dX9_findRound_62 : decode cX9_findRound 62 = .ok (.laload, 1) := by decide +kernel
theorem dX9_findRound_63 : decode cX9_findRound 63 = .ok (.lcmp, 1) := by decide +kernel
theorem dX9_findRound_64 : decode cX9_findRound 64 = .ok (.ifCond .ne 17, 3) := by decide +kernel
theorem dX9_findRound_67 : decode cX9_findRound 67 = .ok (.aload_n 0, 1) := by decide +kernel
theorem dX9_findRound_68 : decode cX9_findRound 68 = .ok (.iconst 1, 1) := by decide +kernel
theorem dX9_findRound_69 : decode cX9_findRound 69 = .ok (.putfield 37, 3) := by decide +kernel
theorem dX9_findRound_72 : decode cX9_findRound 72 = .ok (.aload_n 0, 1) := by decide +kernel
theorem dX9_findRound_73 : decode cX9_findRound 73 = .ok (.iload_n 2, 1) := by decide +kernel
theorem dX9_findRound_74 : decode cX9_findRound 74 = .ok (.iconst 1, 1) := by decide +kernel
theorem dX9_findRound_75 : decode cX9_findRound 75 = .ok (.isub, 1) := by decide +kernel
theorem dX9_findRound_76 : decode cX9_findRound 76 = .ok (.putfield 40, 3) := by decide +kernel
theorem dX9_findRound_79 : decode cX9_findRound 79 = .ok (.iconst 1, 1) := by decide +kernel
theorem dX9_findRound_80 : decode cX9_findRound 80 = .ok (.ireturn, 1) := by decide +kernel
theorem dX9_findRound_81 : decode cX9_findRound 81 = .ok (.iinc 2 1, 3) := by decide +kernel
theorem dX9_findRound_84 : decode cX9_findRound 84 = .ok (.goto (-72), 3) := by decide +kernel
theorem dX9_findRound_87 : decode cX9_findRound 87 = .ok (.aload_n 0, 1) := by decide +kernel
theorem dX9_findRound_88 : decode cX9_findRound 88 = .ok (.iconst 1, 1) := by decide +kernel
theorem dX9_findRound_89 : decode cX9_findRound 89 = .ok (.putfield 37, 3) := by decide +kernel
theorem dX9_findRound_92 : decode cX9_findRound 92 = .ok (.aload_n 0, 1) := by decide +kernel
theorem dX9_findRound_93 : decode cX9_findRound 93 = .ok (.getfield 37, 3) := by decide +kernel
theorem dX9_findRound_96 : decode cX9_findRound 96 = .ok (.sipush 400, 3) := by decide +kernel
theorem dX9_findRound_99 : decode cX9_findRound 99 = .ok (.if_icmp .gt 41, 3) := by decide +kernel
theorem dX9_findRound_102 : decode cX9_findRound 102 = .ok (.aload_n 0, 1) := by decide +kernel
theorem dX9_findRound_103 : decode cX9_findRound 103 = .ok (.getfield 9, 3) := by decide +kernel
theorem dX9_findRound_106 : decode cX9_findRound 106 = .ok (.sipush 400, 3) := by decide +kernel
theorem dX9_findRound_109 : decode cX9_findRound 109 = .ok (.aload_n 0, 1) := by decide +kernel
theorem dX9_findRound_110 : decode cX9_findRound 110 = .ok (.getfield 37, 3) := by decide +kernel
theorem dX9_findRound_113 : decode cX9_findRound 113 = .ok (.isub, 1) := by decide +kernel
theorem dX9_findRound_114 : decode cX9_findRound 114 = .ok (.laload, 1) := by decide +kernel
theorem dX9_findRound_115 : decode cX9_findRound 115 = .ok (.aload_n 0, 1) := by decide +kernel
theorem dX9_findRound_116 : decode cX9_findRound 116 = .ok (.getfield 9, 3) := by decide +kernel
theorem dX9_findRound_119 : decode cX9_findRound 119 = .ok (.sipush 400, 3) := by decide +kernel
theorem dX9_findRound_122 : decode cX9_findRound 122 = .ok (.laload, 1) := by decide +kernel
theorem dX9_findRound_123 : decode cX9_findRound 123 = .ok (.lcmp, 1) := by decide +kernel
theorem dX9_findRound_124 : decode cX9_findRound 124 = .ok (.ifCond .eq 16, 3) := by decide +kernel
theorem dX9_findRound_127 : decode cX9_findRound 127 = .ok (.aload_n 0, 1) := by decide +kernel
theorem dX9_findRound_128 : decode cX9_findRound 128 = .ok (.dup, 1) := by decide +kernel
theorem dX9_findRound_129 : decode cX9_findRound 129 = .ok (.getfield 37, 3) := by decide +kernel
theorem dX9_findRound_132 : decode cX9_findRound 132 = .ok (.iconst 1, 1) := by decide +kernel
theorem dX9_findRound_133 : decode cX9_findRound 133 = .ok (.iadd, 1) := by decide +kernel
theorem dX9_findRound_134 : decode cX9_findRound 134 = .ok (.putfield 37, 3) := by decide +kernel
theorem dX9_findRound_137 : decode cX9_findRound 137 = .ok (.goto (-45), 3) := by decide +kernel
theorem dX9_findRound_140 : decode cX9_findRound 140 = .ok (.aload_n 0, 1) := by decide +kernel
theorem dX9_findRound_141 : decode cX9_findRound 141 = .ok (.iconst 0, 1) := by decide +kernel
theorem dX9_findRound_142 : decode cX9_findRound 142 = .ok (.putfield 40, 3) := by decide +kernel
theorem dX9_findRound_145 : decode cX9_findRound 145 = .ok (.aload_n 0, 1) := by decide +kernel
theorem dX9_findRound_146 : decode cX9_findRound 146 = .ok (.getfield 40, 3) := by decide +kernel
theorem dX9_findRound_149 : decode cX9_findRound 149 = .ok (.aload_n 0, 1) := by decide +kernel
theorem dX9_findRound_150 : decode cX9_findRound 150 = .ok (.getfield 37, 3) := by decide +kernel
theorem dX9_findRound_153 : decode cX9_findRound 153 = .ok (.iadd, 1) := by decide +kernel
theorem dX9_findRound_154 : decode cX9_findRound 154 = .ok (.sipush 400, 3) := by decide +kernel
theorem dX9_findRound_157 : decode cX9_findRound 157 = .ok (.if_icmp .ge 43, 3) := by decide +kernel
theorem dX9_findRound_160 : decode cX9_findRound 160 = .ok (.aload_n 0, 1) := by decide +kernel
theorem dX9_findRound_161 : decode cX9_findRound 161 = .ok (.getfield 9, 3) := by decide +kernel
theorem dX9_findRound_164 : decode cX9_findRound 164 = .ok (.aload_n 0, 1) := by decide +kernel
theorem dX9_findRound_165 : decode cX9_findRound 165 = .ok (.getfield 40, 3) := by decide +kernel
theorem dX9_findRound_168 : decode cX9_findRound 168 = .ok (.laload, 1) := by decide +kernel
theorem dX9_findRound_169 : decode cX9_findRound 169 = .ok (.aload_n 0, 1) := by decide +kernel
theorem dX9_findRound_170 : decode cX9_findRound 170 = .ok (.getfield 9, 3) := by decide +kernel
theorem dX9_findRound_173 : decode cX9_findRound 173 = .ok (.aload_n 0, 1) := by decide +kernel
theorem dX9_findRound_174 : decode cX9_findRound 174 = .ok (.getfield 40, 3) := by decide +kernel
theorem dX9_findRound_177 : decode cX9_findRound 177 = .ok (.aload_n 0, 1) := by decide +kernel
theorem dX9_findRound_178 : decode cX9_findRound 178 = .ok (.getfield 37, 3) := by decide +kernel
theorem dX9_findRound_181 : decode cX9_findRound 181 = .ok (.iadd, 1) := by decide +kernel
theorem dX9_findRound_182 : decode cX9_findRound 182 = .ok (.laload, 1) := by decide +kernel
theorem dX9_findRound_183 : decode cX9_findRound 183 = .ok (.lcmp, 1) := by decide +kernel
theorem dX9_findRound_184 : decode cX9_findRound 184 = .ok (.ifCond .eq 16, 3) := by decide +kernel
theorem dX9_findRound_187 : decode cX9_findRound 187 = .ok (.aload_n 0, 1) := by decide +kernel
theorem dX9_findRound_188 : decode cX9_findRound 188 = .ok (.dup, 1) := by decide +kernel
theorem dX9_findRound_189 : decode cX9_findRound 189 = .ok (.getfield 40, 3) := by decide +kernel
theorem dX9_findRound_192 : decode cX9_findRound 192 = .ok (.iconst 1, 1) := by decide +kernel
theorem dX9_findRound_193 : decode cX9_findRound 193 = .ok (.iadd, 1) := by decide +kernel
theorem dX9_findRound_194 : decode cX9_findRound 194 = .ok (.putfield 40, 3) := by decide +kernel
theorem dX9_findRound_197 : decode cX9_findRound 197 = .ok (.goto (-52), 3) := by decide +kernel
theorem dX9_findRound_200 : decode cX9_findRound 200 = .ok (.aload_n 0, 1) := by decide +kernel
theorem dX9_findRound_201 : decode cX9_findRound 201 = .ok (.getfield 37, 3) := by decide +kernel
theorem dX9_findRound_204 : decode cX9_findRound 204 = .ok (.sipush 400, 3) := by decide +kernel
theorem dX9_findRound_207 : decode cX9_findRound 207 = .ok (.if_icmp .gt 7, 3) := by decide +kernel
theorem dX9_findRound_210 : decode cX9_findRound 210 = .ok (.iconst 1, 1) := by decide +kernel
theorem dX9_findRound_211 : decode cX9_findRound 211 = .ok (.goto 4, 3) := by decide +kernel
theorem dX9_findRound_214 : decode cX9_findRound 214 = .ok (.iconst 0, 1) := by decide +kernel
theorem dX9_findRound_215 : decode cX9_findRound 215 = .ok (.ireturn, 1) := by decide +kernel
def k_X9_findRound_12 (X : CX) (T : List Dsc) (R : RM) (n1 n2 : Nat) (x1 : Nat) (r : ((Int32 × M2) ⊕ ((Int32 × M2) ⊕ (M2)))) : Prop := match r with
  | .inl s => Wp X cX9_findRound RX9 3 T (mk s.2 R) n1 n2 12 [(0, .ref 39), (1, .ref x1), (2, .int s.1)] []
  | .inr (.inl e) => Wp X cX9_findRound RX9 3 T (mk e.2 R) n1 n2 67 [(0, .ref 39), (2, .int e.1)] []
  | .inr (.inr e) => Wp X cX9_findRound RX9 3 T (mk e R) n1 n2 87 [(0, .ref 39)] []
def k_X9_findRound_92 (X : CX) (T : List Dsc) (R : RM) (n1 n2 : Nat) (r : ((M2) ⊕ ((M2)))) : Prop := match r with
  | .inl s => Wp X cX9_findRound RX9 3 T (mk s R) n1 n2 92 [(0, .ref 39)] []
  | .inr e => Wp X cX9_findRound RX9 3 T (mk e R) n1 n2 140 [(0, .ref 39)] []
def k_X9_findRound_145 (X : CX) (T : List Dsc) (R : RM) (n1 n2 : Nat) (r : ((M2) ⊕ ((M2)))) : Prop := match r with
  | .inl s => Wp X cX9_findRound RX9 3 T (mk s R) n1 n2 145 [(0, .ref 39)] []
  | .inr e => Wp X cX9_findRound RX9 3 T (mk e R) n1 n2 200 [(0, .ref 39)] []
set_option maxHeartbeats 4000000 in
set_option maxRecDepth 100000 in
theorem w_X9_findRound_12 {X : CX} {T : List Dsc} {R : RM} {c e : Nat} {n1 n2 : Nat} {x1 : Nat} {x2 : Int32} {m : M2} {r : ((Int32 × M2) ⊕ ((Int32 × M2) ⊕ (M2)))} (hX : XR X 6 n1 n2) (hG : Geo T R c e) (hx1 : cw x1) (hf : f_X9_findRound_12 c x1 x2 m = some r) (hk : k_X9_findRound_12 X T R n1 n2 x1 r) : Wp X cX9_findRound RX9 3 T (mk m R) n1 n2 12 [(0, .ref 39), (1, .ref x1), (2, .int x2)] [] := by
  unfold f_X9_findRound_12 at hf
  refine Wp.iload_n (pc := 12) 2 rfl rfl dX9_findRound_12 ?_
  refine Wp.sipush (pc := 13) (400 : Int32) (by decide) dX9_findRound_13 ?_
  refine Wp.icmp_gt (pc := 16) 87 dX9_findRound_16 (by decide) (fun hc1 => ?_) (fun hc1 => ?_)
  · rw [if_pos hc1] at hf
    refine Wp.lo' (lo' := [(0, .ref 39)]) [0] rfl ?_
    cases hf
    exact hk
  · rw [if_neg hc1] at hf
    refine Wp.aload_n (pc := 19) 0 rfl rfl dX9_findRound_19 ?_
    refine Wp.getR2 (pc := 20) (hG.r 39 1 rfl) (hG.t 39 rfl) fk_RX9_9 rfl dX9_findRound_20 ?_
    refine Wp.iload_n (pc := 23) 2 rfl rfl dX9_findRound_23 ?_
    refine Wp.aload_n (pc := 24) 0 rfl rfl dX9_findRound_24 ?_
    refine Wp.getR2 (pc := 25) (hG.r 39 0 rfl) (hG.t 39 rfl) fk_RX9_13 rfl dX9_findRound_25 ?_
    refine Wp.aload_n (pc := 28) 0 rfl rfl dX9_findRound_28 ?_
    refine Wp.getR2 (pc := 29) (hG.r 39 1 rfl) (hG.t 39 rfl) fk_RX9_9 rfl dX9_findRound_29 ?_
    refine Wp.iload_n (pc := 32) 2 rfl rfl dX9_findRound_32 ?_
    refine Wp.iconst (pc := 33) (1 : Int32) (by decide) dX9_findRound_33 ?_
    refine Wp.isub (pc := 34) dX9_findRound_34 ?_
    obtain ⟨v2, h3, hf⟩ := bnd hf
    refine Wp.lald2 (pc := 35) h3 (hG.a 40 1 rfl) dX9_findRound_35 ?_
    refine Wp.aload_n (pc := 36) 1 rfl rfl dX9_findRound_36 ?_
    refine Wp.getR2 (pc := 37) (hG.wr hx1 2 (Or.inr rfl)) (hG.wt hx1) fk_RX9_23 rfl dX9_findRound_37 ?_
    refine Wp.aload_n (pc := 40) 1 rfl rfl dX9_findRound_40 ?_
    refine Wp.getI2 (pc := 41) (hG.wt hx1) fk_RX9_27 rfl dX9_findRound_41 ?_
    refine Wp.iconst (pc := 44) (0 : Int32) (by decide) dX9_findRound_44 ?_
    obtain ⟨c4, h5, hf⟩ := bnd hf
    refine Wp.callVl (pc := 45) (st := [.int x2, .ref 40]) (as := [.long v2, .ref (x1 + 2), .int (hI m x1 3), .int (0 : Int32)]) (c_X5_stroke hG (hG.wa hx1 2 (Or.inr rfl)) h5) ml_RX9_31 mv_X5_stroke mb_X5_stroke hX (Nat.le_of_ble_eq_true rfl) (by decide) rfl (hG.t 23 rfl) rfl (by simp [Value.category]) dX9_findRound_45 rfl ?_
    obtain ⟨m6, h7, hf⟩ := bnd hf
    refine Wp.last2 (pc := 48) h7 (hG.a 40 1 rfl) dX9_findRound_48 ?_
    refine Wp.aload_n (pc := 49) 0 rfl rfl dX9_findRound_49 ?_
    refine Wp.getR2 (pc := 50) (hG.r 39 1 rfl) (hG.t 39 rfl) fk_RX9_9 rfl dX9_findRound_50 ?_
    refine Wp.iload_n (pc := 53) 2 rfl rfl dX9_findRound_53 ?_
    obtain ⟨v8, h9, hf⟩ := bnd hf
    refine Wp.lald2 (pc := 54) h9 (hG.a 40 1 rfl) dX9_findRound_54 ?_
    refine Wp.aload_n (pc := 55) 0 rfl rfl dX9_findRound_55 ?_
    refine Wp.getR2 (pc := 56) (hG.r 39 1 rfl) (hG.t 39 rfl) fk_RX9_9 rfl dX9_findRound_56 ?_
    refine Wp.iload_n (pc := 59) 2 rfl rfl dX9_findRound_59 ?_
    refine Wp.iconst (pc := 60) (1 : Int32) (by decide) dX9_findRound_60 ?_
    refine Wp.isub (pc := 61) dX9_findRound_61 ?_
    obtain ⟨v10, h11, hf⟩ := bnd hf
    refine Wp.lald2 (pc := 62) h11 (hG.a 40 1 rfl) dX9_findRound_62 ?_
    refine Wp.lcmp (pc := 63) dX9_findRound_63 ?_
    refine Wp.if_ne (pc := 64) 81 dX9_findRound_64 (by decide) (fun hc12 => ?_) (fun hc12 => ?_)
    · rw [if_neg hc12] at hf
      obtain ⟨v13, h14, hf⟩ := bnd hf
      refine Wp.iincN (pc := 81) (lo' := [(0, .ref 39), (1, .ref x1), (2, .int v13)]) (1 : Int32) (by decide) h14 2 rfl [1, 2, 0] rfl (by decide) dX9_findRound_81 ?_
      refine Wp.goto (pc := 84) 12 dX9_findRound_84 (by decide) ?_
      cases hf
      exact hk
    · rw [if_pos hc12] at hf
      refine Wp.lo' (lo' := [(0, .ref 39), (2, .int x2)]) [0, 2] rfl ?_
      cases hf
      exact hk
theorem wl_X9_findRound_12 {X : CX} {T : List Dsc} {R : RM} {c e : Nat} {n1 n2 : Nat} {x1 : Nat} {x2 : Int32} {m : M2} {e1 : ((Int32 × M2) ⊕ (M2))} (hX : XR X 6 n1 n2) (hG : Geo T R c e) (hx1 : cw x1) (h : loop (g_X9_findRound_12 c x1) (x2, m) = some e1) (he0 : ∀ e_, e1 = (Sum.inl e_) → Wp X cX9_findRound RX9 3 T (mk e_.2 R) n1 n2 67 [(0, .ref 39), (2, .int e_.1)] []) (he1 : ∀ e_, e1 = (Sum.inr e_) → Wp X cX9_findRound RX9 3 T (mk e_ R) n1 n2 87 [(0, .ref 39)] []) : Wp X cX9_findRound RX9 3 T (mk m R) n1 n2 12 [(0, .ref 39), (1, .ref x1), (2, .int x2)] [] :=
  loop_ok (K := k_X9_findRound_12 X T R n1 n2 x1) (fun s r hf hk => w_X9_findRound_12 hX hG hx1 hf hk) h (by rcases e1 with e_ | e_ <;> first | exact he0 _ rfl | exact he1 _ rfl)
set_option maxHeartbeats 4000000 in
set_option maxRecDepth 100000 in
theorem w_X9_findRound_92 {X : CX} {T : List Dsc} {R : RM} {c e : Nat} {n1 n2 : Nat} {m : M2} {r : ((M2) ⊕ ((M2)))} (hX : XR X 6 n1 n2) (hG : Geo T R c e) (hf : f_X9_findRound_92 c m = some r) (hk : k_X9_findRound_92 X T R n1 n2 r) : Wp X cX9_findRound RX9 3 T (mk m R) n1 n2 92 [(0, .ref 39)] [] := by
  unfold f_X9_findRound_92 at hf
  refine Wp.aload_n (pc := 92) 0 rfl rfl dX9_findRound_92 ?_
  refine Wp.getI2 (pc := 93) (hG.t 39 rfl) fk_RX9_37 rfl dX9_findRound_93 ?_
  refine Wp.sipush (pc := 96) (400 : Int32) (by decide) dX9_findRound_96 ?_
  refine Wp.icmp_gt (pc := 99) 140 dX9_findRound_99 (by decide) (fun hc1 => ?_) (fun hc1 => ?_)
  · rw [if_pos hc1] at hf
    cases hf
    exact hk
  · rw [if_neg hc1] at hf
    refine Wp.aload_n (pc := 102) 0 rfl rfl dX9_findRound_102 ?_
    refine Wp.getR2 (pc := 103) (hG.r 39 1 rfl) (hG.t 39 rfl) fk_RX9_9 rfl dX9_findRound_103 ?_
    refine Wp.sipush (pc := 106) (400 : Int32) (by decide) dX9_findRound_106 ?_
    refine Wp.aload_n (pc := 109) 0 rfl rfl dX9_findRound_109 ?_
    refine Wp.getI2 (pc := 110) (hG.t 39 rfl) fk_RX9_37 rfl dX9_findRound_110 ?_
    refine Wp.isub (pc := 113) dX9_findRound_113 ?_
    obtain ⟨v2, h3, hf⟩ := bnd hf
    refine Wp.lald2 (pc := 114) h3 (hG.a 40 1 rfl) dX9_findRound_114 ?_
    refine Wp.aload_n (pc := 115) 0 rfl rfl dX9_findRound_115 ?_
    refine Wp.getR2 (pc := 116) (hG.r 39 1 rfl) (hG.t 39 rfl) fk_RX9_9 rfl dX9_findRound_116 ?_
    refine Wp.sipush (pc := 119) (400 : Int32) (by decide) dX9_findRound_119 ?_
    obtain ⟨v4, h5, hf⟩ := bnd hf
    refine Wp.lald2 (pc := 122) h5 (hG.a 40 1 rfl) dX9_findRound_122 ?_
    refine Wp.lcmp (pc := 123) dX9_findRound_123 ?_
    refine Wp.if_eq (pc := 124) 140 dX9_findRound_124 (by decide) (fun hc6 => ?_) (fun hc6 => ?_)
    · rw [if_pos hc6] at hf
      cases hf
      exact hk
    · rw [if_neg hc6] at hf
      refine Wp.aload_n (pc := 127) 0 rfl rfl dX9_findRound_127 ?_
      refine Wp.dup (pc := 128) rfl dX9_findRound_128 ?_
      refine Wp.getI2 (pc := 129) (hG.t 39 rfl) fk_RX9_37 rfl dX9_findRound_129 ?_
      refine Wp.iconst (pc := 132) (1 : Int32) (by decide) dX9_findRound_132 ?_
      refine Wp.iadd (pc := 133) dX9_findRound_133 ?_
      obtain ⟨m7, h8, hf⟩ := bnd hf
      refine Wp.ptI2 (pc := 134) h8 (hG.t 39 rfl) fk_RX9_37 ff_RX9_8_2 rfl dX9_findRound_134 ?_
      refine Wp.goto (pc := 137) 92 dX9_findRound_137 (by decide) ?_
      cases hf
      exact hk
theorem wl_X9_findRound_92 {X : CX} {T : List Dsc} {R : RM} {c e : Nat} {n1 n2 : Nat} {m : M2} {e1 : ((M2))} (hX : XR X 6 n1 n2) (hG : Geo T R c e) (h : loop (g_X9_findRound_92 c) m = some e1) (he : Wp X cX9_findRound RX9 3 T (mk e1 R) n1 n2 140 [(0, .ref 39)] []) : Wp X cX9_findRound RX9 3 T (mk m R) n1 n2 92 [(0, .ref 39)] [] :=
  loop_ok (K := k_X9_findRound_92 X T R n1 n2) (fun s r hf hk => w_X9_findRound_92 hX hG hf hk) h he
set_option maxHeartbeats 4000000 in
set_option maxRecDepth 100000 in
theorem w_X9_findRound_145 {X : CX} {T : List Dsc} {R : RM} {c e : Nat} {n1 n2 : Nat} {m : M2} {r : ((M2) ⊕ ((M2)))} (hX : XR X 6 n1 n2) (hG : Geo T R c e) (hf : f_X9_findRound_145 c m = some r) (hk : k_X9_findRound_145 X T R n1 n2 r) : Wp X cX9_findRound RX9 3 T (mk m R) n1 n2 145 [(0, .ref 39)] [] := by
  unfold f_X9_findRound_145 at hf
  refine Wp.aload_n (pc := 145) 0 rfl rfl dX9_findRound_145 ?_
  refine Wp.getI2 (pc := 146) (hG.t 39 rfl) fk_RX9_40 rfl dX9_findRound_146 ?_
  refine Wp.aload_n (pc := 149) 0 rfl rfl dX9_findRound_149 ?_
  refine Wp.getI2 (pc := 150) (hG.t 39 rfl) fk_RX9_37 rfl dX9_findRound_150 ?_
  refine Wp.iadd (pc := 153) dX9_findRound_153 ?_
  refine Wp.sipush (pc := 154) (400 : Int32) (by decide) dX9_findRound_154 ?_
  refine Wp.icmp_ge (pc := 157) 200 dX9_findRound_157 (by decide) (fun hc1 => ?_) (fun hc1 => ?_)
  · rw [if_pos hc1] at hf
    cases hf
    exact hk
  · rw [if_neg hc1] at hf
    refine Wp.aload_n (pc := 160) 0 rfl rfl dX9_findRound_160 ?_
    refine Wp.getR2 (pc := 161) (hG.r 39 1 rfl) (hG.t 39 rfl) fk_RX9_9 rfl dX9_findRound_161 ?_
    refine Wp.aload_n (pc := 164) 0 rfl rfl dX9_findRound_164 ?_
    refine Wp.getI2 (pc := 165) (hG.t 39 rfl) fk_RX9_40 rfl dX9_findRound_165 ?_
    obtain ⟨v2, h3, hf⟩ := bnd hf
    refine Wp.lald2 (pc := 168) h3 (hG.a 40 1 rfl) dX9_findRound_168 ?_
    refine Wp.aload_n (pc := 169) 0 rfl rfl dX9_findRound_169 ?_
    refine Wp.getR2 (pc := 170) (hG.r 39 1 rfl) (hG.t 39 rfl) fk_RX9_9 rfl dX9_findRound_170 ?_
    refine Wp.aload_n (pc := 173) 0 rfl rfl dX9_findRound_173 ?_
    refine Wp.getI2 (pc := 174) (hG.t 39 rfl) fk_RX9_40 rfl dX9_findRound_174 ?_
    refine Wp.aload_n (pc := 177) 0 rfl rfl dX9_findRound_177 ?_
    refine Wp.getI2 (pc := 178) (hG.t 39 rfl) fk_RX9_37 rfl dX9_findRound_178 ?_
    refine Wp.iadd (pc := 181) dX9_findRound_181 ?_
    obtain ⟨v4, h5, hf⟩ := bnd hf
    refine Wp.lald2 (pc := 182) h5 (hG.a 40 1 rfl) dX9_findRound_182 ?_
    refine Wp.lcmp (pc := 183) dX9_findRound_183 ?_
    refine Wp.if_eq (pc := 184) 200 dX9_findRound_184 (by decide) (fun hc6 => ?_) (fun hc6 => ?_)
    · rw [if_pos hc6] at hf
      cases hf
      exact hk
    · rw [if_neg hc6] at hf
      refine Wp.aload_n (pc := 187) 0 rfl rfl dX9_findRound_187 ?_
      refine Wp.dup (pc := 188) rfl dX9_findRound_188 ?_
      refine Wp.getI2 (pc := 189) (hG.t 39 rfl) fk_RX9_40 rfl dX9_findRound_189 ?_
      refine Wp.iconst (pc := 192) (1 : Int32) (by decide) dX9_findRound_192 ?_
      refine Wp.iadd (pc := 193) dX9_findRound_193 ?_
      obtain ⟨m7, h8, hf⟩ := bnd hf
      refine Wp.ptI2 (pc := 194) h8 (hG.t 39 rfl) fk_RX9_40 ff_RX9_8_3 rfl dX9_findRound_194 ?_
      refine Wp.goto (pc := 197) 145 dX9_findRound_197 (by decide) ?_
      cases hf
      exact hk
theorem wl_X9_findRound_145 {X : CX} {T : List Dsc} {R : RM} {c e : Nat} {n1 n2 : Nat} {m : M2} {e1 : ((M2))} (hX : XR X 6 n1 n2) (hG : Geo T R c e) (h : loop (g_X9_findRound_145 c) m = some e1) (he : Wp X cX9_findRound RX9 3 T (mk e1 R) n1 n2 200 [(0, .ref 39)] []) : Wp X cX9_findRound RX9 3 T (mk m R) n1 n2 145 [(0, .ref 39)] [] :=
  loop_ok (K := k_X9_findRound_145 X T R n1 n2) (fun s r hf hk => w_X9_findRound_145 hX hG hf hk) h he
set_option maxHeartbeats 4000000 in
set_option maxRecDepth 100000 in
theorem w_X9_findRound_215 {X : CX} {T : List Dsc} {R : RM} {c e : Nat} {n1 n2 : Nat} {s0 : Int32} {m : M2} {r : (Int32 × M2)} (hX : XR X 6 n1 n2) (hG : Geo T R c e) (hf : f_X9_findRound_215 c s0 m = some r) (hk : FnZ X cX9_findRound RX9 3 T n1 n2 (r.1, mk r.2 R)) : Wp X cX9_findRound RX9 3 T (mk m R) n1 n2 215 [] [.int s0] := by
  unfold f_X9_findRound_215 at hf
  obtain ⟨v1, h2, hf⟩ := bnd hf
  refine Wp.zb' h2 (fun h2 => ?_)
  cases hf
  exact hk _ _ h2 dX9_findRound_215
set_option maxHeartbeats 4000000 in
set_option maxRecDepth 100000 in
theorem w_X9_findRound_200 {X : CX} {T : List Dsc} {R : RM} {c e : Nat} {n1 n2 : Nat} {m : M2} {r : (Int32 × M2)} (hX : XR X 6 n1 n2) (hG : Geo T R c e) (hf : f_X9_findRound_200 c m = some r) (hk : FnZ X cX9_findRound RX9 3 T n1 n2 (r.1, mk r.2 R)) : Wp X cX9_findRound RX9 3 T (mk m R) n1 n2 200 [(0, .ref 39)] [] := by
  unfold f_X9_findRound_200 at hf
  refine Wp.aload_n (pc := 200) 0 rfl rfl dX9_findRound_200 ?_
  refine Wp.getI2 (pc := 201) (hG.t 39 rfl) fk_RX9_37 rfl dX9_findRound_201 ?_
  refine Wp.sipush (pc := 204) (400 : Int32) (by decide) dX9_findRound_204 ?_
  refine Wp.icmp_gt (pc := 207) 214 dX9_findRound_207 (by decide) (fun hc1 => ?_) (fun hc1 => ?_)
  · rw [if_pos hc1] at hf
    refine Wp.iconst (pc := 214) (0 : Int32) (by decide) dX9_findRound_214 ?_
    refine Wp.lo' (lo' := []) [] rfl ?_
    exact w_X9_findRound_215 hX hG hf hk
  · rw [if_neg hc1] at hf
    refine Wp.iconst (pc := 210) (1 : Int32) (by decide) dX9_findRound_210 ?_
    refine Wp.goto (pc := 211) 215 dX9_findRound_211 (by decide) ?_
    refine Wp.lo' (lo' := []) [] rfl ?_
    exact w_X9_findRound_215 hX hG hf hk
set_option maxHeartbeats 4000000 in
set_option maxRecDepth 100000 in
theorem w_X9_findRound_140 {X : CX} {T : List Dsc} {R : RM} {c e : Nat} {n1 n2 : Nat} {m : M2} {r : (Int32 × M2)} (hX : XR X 6 n1 n2) (hG : Geo T R c e) (hf : f_X9_findRound_140 c m = some r) (hk : FnZ X cX9_findRound RX9 3 T n1 n2 (r.1, mk r.2 R)) : Wp X cX9_findRound RX9 3 T (mk m R) n1 n2 140 [(0, .ref 39)] [] := by
  unfold f_X9_findRound_140 at hf
  refine Wp.aload_n (pc := 140) 0 rfl rfl dX9_findRound_140 ?_
  refine Wp.iconst (pc := 141) (0 : Int32) (by decide) dX9_findRound_141 ?_
  obtain ⟨m1, h2, hf⟩ := bnd hf
  refine Wp.ptI2 (pc := 142) h2 (hG.t 39 rfl) fk_RX9_40 ff_RX9_8_3 rfl dX9_findRound_142 ?_
  obtain ⟨e3, h4, hf⟩ := bnd hf
  refine wl_X9_findRound_145 hX hG h4 ?_
  exact w_X9_findRound_200 hX hG hf hk
set_option maxHeartbeats 4000000 in
set_option maxRecDepth 100000 in
theorem w_X9_findRound {X : CX} {T : List Dsc} {R : RM} {c e : Nat} {n1 n2 : Nat} {x1 : Nat} {m : M2} {r : (Int32 × M2)} (hX : XR X 6 n1 n2) (hG : Geo T R c e) (hx1 : cw x1) (hf : F_X9_findRound c x1 m = some r) (hk : FnZ X cX9_findRound RX9 3 T n1 n2 (r.1, mk r.2 R)) : Wp X cX9_findRound RX9 3 T (mk m R) n1 n2 0 [(0, .ref 39), (1, .ref x1)] [] := by
  unfold F_X9_findRound at hf
  refine Wp.aload_n (pc := 0) 0 rfl rfl dX9_findRound_0 ?_
  refine Wp.getR2 (pc := 1) (hG.r 39 1 rfl) (hG.t 39 rfl) fk_RX9_9 rfl dX9_findRound_1 ?_
  refine Wp.iconst (pc := 4) (0 : Int32) (by decide) dX9_findRound_4 ?_
  refine Wp.aload_n (pc := 5) 1 rfl rfl dX9_findRound_5 ?_
  refine Wp.getJ2 (pc := 6) (hG.wt hx1) fk_RX9_17 rfl dX9_findRound_6 ?_
  obtain ⟨m1, h2, hf⟩ := bnd hf
  refine Wp.last2 (pc := 9) h2 (hG.a 40 1 rfl) dX9_findRound_9 ?_
  refine Wp.iconst (pc := 10) (1 : Int32) (by decide) dX9_findRound_10 ?_
  refine Wp.istore_n (pc := 11) (lo' := [(0, .ref 39), (1, .ref x1), (2, .int (1 : Int32))]) [1, 2, 0] rfl (by decide) rfl dX9_findRound_11 ?_
  obtain ⟨e3, h4, hf⟩ := bnd hf
  refine wl_X9_findRound_12 hX hG hx1 h4 (fun e3_0 hq => ?_) (fun e3_1 hq => ?_)
  · rw [hq, Sum.elim_inl] at hf
    refine Wp.aload_n (pc := 67) 0 rfl rfl dX9_findRound_67 ?_
    refine Wp.iconst (pc := 68) (1 : Int32) (by decide) dX9_findRound_68 ?_
    obtain ⟨m5, h6, hf⟩ := bnd hf
    refine Wp.ptI2 (pc := 69) h6 (hG.t 39 rfl) fk_RX9_37 ff_RX9_8_2 rfl dX9_findRound_69 ?_
    refine Wp.aload_n (pc := 72) 0 rfl rfl dX9_findRound_72 ?_
    refine Wp.iload_n (pc := 73) 1 rfl rfl dX9_findRound_73 ?_
    refine Wp.iconst (pc := 74) (1 : Int32) (by decide) dX9_findRound_74 ?_
    refine Wp.isub (pc := 75) dX9_findRound_75 ?_
    obtain ⟨m7, h8, hf⟩ := bnd hf
    refine Wp.ptI2 (pc := 76) h8 (hG.t 39 rfl) fk_RX9_40 ff_RX9_8_3 rfl dX9_findRound_76 ?_
    refine Wp.iconst (pc := 79) (1 : Int32) (by decide) dX9_findRound_79 ?_
    cases hf
    exact hk _ _ (Or.inr rfl) dX9_findRound_80
  · rw [hq, Sum.elim_inr] at hf
    refine Wp.aload_n (pc := 87) 0 rfl rfl dX9_findRound_87 ?_
    refine Wp.iconst (pc := 88) (1 : Int32) (by decide) dX9_findRound_88 ?_
    obtain ⟨m9, h10, hf⟩ := bnd hf
    refine Wp.ptI2 (pc := 89) h10 (hG.t 39 rfl) fk_RX9_37 ff_RX9_8_2 rfl dX9_findRound_89 ?_
    obtain ⟨e11, h12, hf⟩ := bnd hf
    refine wl_X9_findRound_92 hX hG h12 ?_
    exact w_X9_findRound_140 hX hG hf hk
theorem c_X9_findRound {T : List Dsc} {R : RM} {c e : Nat} {x1 : Nat} {m : M2} {r : (Int32 × M2)} (hG : Geo T R c e) (hx1 : cw x1) (hf : F_X9_findRound c x1 m = some r) : Ct 6 yX9_findRound cX9_findRound 3 (some .boolean) T (mk m R) [.ref 39, .ref x1] (some (.int r.1)) (mk r.2 R) := Ct.ofZ (r := (r.1, mk r.2 R)) (by decide +kernel) (Nat.le_of_ble_eq_true rfl) (fun X hX hk => w_X9_findRound hX hG hx1 hf hk)
theorem dX9_wayBehind_0 : decode cX9_wayBehind 0 = .ok (.aload_n 0, 1) := by decide +kernel
theorem dX9_wayBehind_1 : decode cX9_wayBehind 1 = .ok (.getfield 9, 3) := by decide +kernel
theorem dX9_wayBehind_4 : decode cX9_wayBehind 4 = .ok (.iload_n 2, 1) := by decide +kernel
theorem dX9_wayBehind_5 : decode cX9_wayBehind 5 = .ok (.iconst 1, 1) := by decide +kernel
theorem dX9_wayBehind_6 : decode cX9_wayBehind 6 = .ok (.isub, 1) := by decide +kernel
theorem dX9_wayBehind_7 : decode cX9_wayBehind 7 = .ok (.laload, 1) := by decide +kernel
theorem dX9_wayBehind_8 : decode cX9_wayBehind 8 = .ok (.lstore 5, 2) := by decide +kernel
theorem dX9_wayBehind_10 : decode cX9_wayBehind 10 = .ok (.iload_n 2, 1) := by decide +kernel
theorem dX9_wayBehind_11 : decode cX9_wayBehind 11 = .ok (.istore 7, 2) := by decide +kernel
theorem dX9_wayBehind_13 : decode cX9_wayBehind 13 = .ok (.iload 7, 2) := by decide +kernel
theorem dX9_wayBehind_15 : decode cX9_wayBehind 15 = .ok (.iload_n 3, 1) := by decide +kernel
theorem dX9_wayBehind_16 : decode cX9_wayBehind 16 = .ok (.if_icmp .gt 70, 3) := by decide +kernel
theorem dX9_wayBehind_19 : decode cX9_wayBehind 19 = .ok (.aload_n 0, 1) := by decide +kernel
theorem dX9_wayBehind_20 : decode cX9_wayBehind 20 = .ok (.getfield 13, 3) := by decide +kernel
theorem dX9_wayBehind_23 : decode cX9_wayBehind 23 = .ok (.lload 5, 2) := by decide +kernel
theorem dX9_wayBehind_25 : decode cX9_wayBehind 25 = .ok (.aload_n 1, 1) := by decide +kernel
theorem dX9_wayBehind_26 : decode cX9_wayBehind 26 = .ok (.getfield 23, 3) := by decide +kernel
theorem dX9_wayBehind_29 : decode cX9_wayBehind 29 = .ok (.iload 4, 2) := by decide +kernel
theorem dX9_wayBehind_31 : decode cX9_wayBehind 31 = .ok (.aload_n 0, 1) := by decide +kernel
theorem dX9_wayBehind_32 : decode cX9_wayBehind 32 = .ok (.getfield 13, 3) := by decide +kernel
theorem dX9_wayBehind_35 : decode cX9_wayBehind 35 = .ok (.getfield 49, 3) := by decide +kernel
theorem dX9_wayBehind_38 : decode cX9_wayBehind 38 = .ok (.aload_n 1, 1) := by decide +kernel
theorem dX9_wayBehind_39 : decode cX9_wayBehind 39 = .ok (.getfield 53, 3) := by decide +kernel
theorem dX9_wayBehind_42 : decode cX9_wayBehind 42 = .ok (.iload 7, 2) := by decide +kernel
theorem dX9_wayBehind_44 : decode cX9_wayBehind 44 = .ok (.iadd, 1) := by decide +kernel
theorem dX9_wayBehind_45 : decode cX9_wayBehind 45 = .ok (.iconst 1, 1) := by decide +kernel
theorem dX9_wayBehind_46 : decode cX9_wayBehind 46 = .ok (.isub, 1) := by decide +kernel
theorem dX9_wayBehind_47 : decode cX9_wayBehind 47 = .ok (.invokevirtual 55, 3) := by decide +kernel
theorem dX9_wayBehind_50 : decode cX9_wayBehind 50 = .ok (.invokevirtual 31, 3) := by decide +kernel
theorem dX9_wayBehind_53 : decode cX9_wayBehind 53 = .ok (.lstore 5, 2) := by decide +kernel
theorem dX9_wayBehind_55 : decode cX9_wayBehind 55 = .ok (.iload 7, 2) := by decide +kernel
theorem dX9_wayBehind_57 : decode cX9_wayBehind 57 = .ok (.iload_n 2, 1) := by decide +kernel
theorem dX9_wayBehind_58 : decode cX9_wayBehind 58 = .ok (.if_icmp .ne 22, 3) := by decide +kernel
theorem dX9_wayBehind_61 : decode cX9_wayBehind 61 = .ok (.iload_n 2, 1) := by decide +kernel
theorem dX9_wayBehind_62 : decode cX9_wayBehind 62 = .ok (.iload_n 3, 1) := by decide +kernel
theorem dX9_wayBehind_63 : decode cX9_wayBehind 63 = .ok (.if_icmp .ge 17, 3) := by decide +kernel
theorem dX9_wayBehind_66 : decode cX9_wayBehind 66 = .ok (.lload 5, 2) := by decide +kernel
theorem dX9_wayBehind_68 : decode cX9_wayBehind 68 = .ok (.aload_n 0, 1) := by decide +kernel
theorem dX9_wayBehind_69 : decode cX9_wayBehind 69 = .ok (.getfield 9, 3) := by decide +kernel
theorem dX9_wayBehind_72 : decode cX9_wayBehind 72 = .ok (.iload_n 2, 1) := by decide +kernel
theorem dX9_wayBehind_73 : decode cX9_wayBehind 73 = .ok (.laload, 1) := by decide +kernel
theorem dX9_wayBehind_74 : decode cX9_wayBehind 74 = .ok (.lcmp, 1) := by decide +kernel
theorem dX9_wayBehind_75 : decode cX9_wayBehind 75 = .ok (.ifCond .ne 5, 3) := by decide +kernel
theorem dX9_wayBehind_78 : decode cX9_wayBehind 78 = .ok (.iconst 0, 1) := by decide +kernel
theorem dX9_wayBehind_79 : decode cX9_wayBehind 79 = .ok (.ireturn, 1) := by decide +kernel
theorem dX9_wayBehind_80 : decode cX9_wayBehind 80 = .ok (.iinc 7 1, 3) := by decide +kernel
theorem dX9_wayBehind_83 : decode cX9_wayBehind 83 = .ok (.goto (-70), 3) := by decide +kernel
theorem dX9_wayBehind_86 : decode cX9_wayBehind 86 = .ok (.aload_n 0, 1) := by decide +kernel
theorem dX9_wayBehind_87 : decode cX9_wayBehind 87 = .ok (.getfield 13, 3) := by decide +kernel
theorem dX9_wayBehind_90 : decode cX9_wayBehind 90 = .ok (.lload 5, 2) := by decide +kernel
theorem dX9_wayBehind_92 : decode cX9_wayBehind 92 = .ok (.invokevirtual 80, 3) := by decide +kernel
theorem dX9_wayBehind_95 : decode cX9_wayBehind 95 = .ok (.ireturn, 1) := by decide +kernel
def k_X9_wayBehind_13 (X : CX) (T : List Dsc) (R : RM) (n1 n2 : Nat) (x1 : Nat) (x2 : Int32) (x3 : Int32) (x4 : Int32) (r : ((Int64 × Int32 × M2) ⊕ ((M2) ⊕ (Int64 × M2)))) : Prop := match r with
  | .inl s => Wp X cX9_wayBehind RX9 8 T (mk s.2.2 R) n1 n2 13 [(0, .ref 39), (1, .ref x1), (2, .int x2), (3, .int x3), (4, .int x4), (5, .long s.1), (7, .int s.2.1)] []
  | .inr (.inl e) => Wp X cX9_wayBehind RX9 8 T (mk e R) n1 n2 78 [] []
  | .inr (.inr e) => Wp X cX9_wayBehind RX9 8 T (mk e.2 R) n1 n2 86 [(0, .ref 39), (5, .long e.1)] []
set_option maxHeartbeats 4000000 in
set_option maxRecDepth 100000 in
theorem w_X9_wayBehind_80 {X : CX} {T : List Dsc} {R : RM} {c e : Nat} {n1 n2 : Nat} {x1 : Nat} {x2 : Int32} {x3 : Int32} {x4 : Int32} {x5 : Int64} {x7 : Int32} {m : M2} {r : ((Int64 × Int32 × M2) ⊕ ((M2) ⊕ (Int64 × M2)))} (hX : XR X 6 n1 n2) (hG : Geo T R c e) (hx1 : cw x1) (hf : f_X9_wayBehind_80 c x1 x2 x3 x4 x5 x7 m = some r) (hk : k_X9_wayBehind_13 X T R n1 n2 x1 x2 x3 x4 r) : Wp X cX9_wayBehind RX9 8 T (mk m R) n1 n2 80 [(0, .ref 39), (1, .ref x1), (2, .int x2), (3, .int x3), (4, .int x4), (5, .long x5), (7, .int x7)] [] := by
  unfold f_X9_wayBehind_80 at hf
  obtain ⟨v1, h2, hf⟩ := bnd hf
  refine Wp.iincN (pc := 80) (lo' := [(0, .ref 39), (1, .ref x1), (2, .int x2), (3, .int x3), (4, .int x4), (5, .long x5), (7, .int v1)]) (1 : Int32) (by decide) h2 6 rfl [1, 2, 3, 4, 5, 6, 0] rfl (by decide) dX9_wayBehind_80 ?_
  refine Wp.goto (pc := 83) 13 dX9_wayBehind_83 (by decide) ?_
  cases hf
  exact hk
set_option maxHeartbeats 4000000 in
set_option maxRecDepth 100000 in
theorem w_X9_wayBehind_13 {X : CX} {T : List Dsc} {R : RM} {c e : Nat} {n1 n2 : Nat} {x1 : Nat} {x2 : Int32} {x3 : Int32} {x4 : Int32} {x5 : Int64} {x7 : Int32} {m : M2} {r : ((Int64 × Int32 × M2) ⊕ ((M2) ⊕ (Int64 × M2)))} (hX : XR X 6 n1 n2) (hG : Geo T R c e) (hx1 : cw x1) (hf : f_X9_wayBehind_13 c x1 x2 x3 x4 x5 x7 m = some r) (hk : k_X9_wayBehind_13 X T R n1 n2 x1 x2 x3 x4 r) : Wp X cX9_wayBehind RX9 8 T (mk m R) n1 n2 13 [(0, .ref 39), (1, .ref x1), (2, .int x2), (3, .int x3), (4, .int x4), (5, .long x5), (7, .int x7)] [] := by
  unfold f_X9_wayBehind_13 at hf
  refine Wp.iload (pc := 13) 6 rfl dX9_wayBehind_13 ?_
  refine Wp.iload_n (pc := 15) 3 rfl rfl dX9_wayBehind_15 ?_
  refine Wp.icmp_gt (pc := 16) 86 dX9_wayBehind_16 (by decide) (fun hc1 => ?_) (fun hc1 => ?_)
  · rw [if_pos hc1] at hf
    refine Wp.lo' (lo' := [(0, .ref 39), (5, .long x5)]) [0, 5] rfl ?_
    cases hf
    exact hk
  · rw [if_neg hc1] at hf
    refine Wp.aload_n (pc := 19) 0 rfl rfl dX9_wayBehind_19 ?_
    refine Wp.getR2 (pc := 20) (hG.r 39 0 rfl) (hG.t 39 rfl) fk_RX9_13 rfl dX9_wayBehind_20 ?_
    refine Wp.lload (pc := 23) 5 rfl dX9_wayBehind_23 ?_
    refine Wp.aload_n (pc := 25) 1 rfl rfl dX9_wayBehind_25 ?_
    refine Wp.getR2 (pc := 26) (hG.wr hx1 2 (Or.inr rfl)) (hG.wt hx1) fk_RX9_23 rfl dX9_wayBehind_26 ?_
    refine Wp.iload (pc := 29) 4 rfl dX9_wayBehind_29 ?_
    refine Wp.aload_n (pc := 31) 0 rfl rfl dX9_wayBehind_31 ?_
    refine Wp.getR2 (pc := 32) (hG.r 39 0 rfl) (hG.t 39 rfl) fk_RX9_13 rfl dX9_wayBehind_32 ?_
    refine Wp.getR2 (pc := 35) hG.r2 (hG.t 23 rfl) fk_RX9_49 rfl dX9_wayBehind_35 ?_
    refine Wp.aload_n (pc := 38) 1 rfl rfl dX9_wayBehind_38 ?_
    refine Wp.getI2 (pc := 39) (hG.wt hx1) fk_RX9_53 rfl dX9_wayBehind_39 ?_
    refine Wp.iload (pc := 42) 6 rfl dX9_wayBehind_42 ?_
    refine Wp.iadd (pc := 44) dX9_wayBehind_44 ?_
    refine Wp.iconst (pc := 45) (1 : Int32) (by decide) dX9_wayBehind_45 ?_
    refine Wp.isub (pc := 46) dX9_wayBehind_46 ?_
    obtain ⟨c2, h3, hf⟩ := bnd hf
    refine Wp.callVi (pc := 47) (st := [.int x4, .ref (x1 + 2), .long x5, .ref 23]) (as := [.int (((hI m x1 4) + x7) - (1 : Int32))]) (c_X7_isFog hG hG.hc h3) ml_RX9_55 mv_X7_isFog mb_X7_isFog hX (Nat.le_of_ble_eq_true rfl) (by decide) rfl (hG.tt hG.hc) rfl (by simp [Value.category]) dX9_wayBehind_47 rfl ?_
    obtain ⟨c4, h5, hf⟩ := bnd hf
    refine Wp.callVl (pc := 50) (st := []) (as := [.long x5, .ref (x1 + 2), .int x4, .int c2.1]) (c_X5_stroke hG (hG.wa hx1 2 (Or.inr rfl)) h5) ml_RX9_31 mv_X5_stroke mb_X5_stroke hX (Nat.le_of_ble_eq_true rfl) (by decide) rfl (hG.t 23 rfl) rfl (by simp) dX9_wayBehind_50 rfl ?_
    refine Wp.lstore (pc := 53) (lo' := [(0, .ref 39), (1, .ref x1), (2, .int x2), (3, .int x3), (4, .int x4), (5, .long c4.1), (7, .int x7)]) [1, 2, 3, 4, 5, 0, 6] rfl (by decide) dX9_wayBehind_53 ?_
    refine Wp.iload (pc := 55) 6 rfl dX9_wayBehind_55 ?_
    refine Wp.iload_n (pc := 57) 2 rfl rfl dX9_wayBehind_57 ?_
    refine Wp.icmp_ne (pc := 58) 80 dX9_wayBehind_58 (by decide) (fun hc6 => ?_) (fun hc6 => ?_)
    · rw [if_neg hc6] at hf
      exact w_X9_wayBehind_80 hX hG hx1 hf hk
    · rw [if_pos hc6] at hf
      refine Wp.iload_n (pc := 61) 2 rfl rfl dX9_wayBehind_61 ?_
      refine Wp.iload_n (pc := 62) 3 rfl rfl dX9_wayBehind_62 ?_
      refine Wp.icmp_ge (pc := 63) 80 dX9_wayBehind_63 (by decide) (fun hc7 => ?_) (fun hc7 => ?_)
      · rw [if_pos hc7] at hf
        exact w_X9_wayBehind_80 hX hG hx1 hf hk
      · rw [if_neg hc7] at hf
        refine Wp.lload (pc := 66) 5 rfl dX9_wayBehind_66 ?_
        refine Wp.aload_n (pc := 68) 0 rfl rfl dX9_wayBehind_68 ?_
        refine Wp.getR2 (pc := 69) (hG.r 39 1 rfl) (hG.t 39 rfl) fk_RX9_9 rfl dX9_wayBehind_69 ?_
        refine Wp.iload_n (pc := 72) 2 rfl rfl dX9_wayBehind_72 ?_
        obtain ⟨v8, h9, hf⟩ := bnd hf
        refine Wp.lald2 (pc := 73) h9 (hG.a 40 1 rfl) dX9_wayBehind_73 ?_
        refine Wp.lcmp (pc := 74) dX9_wayBehind_74 ?_
        refine Wp.if_ne (pc := 75) 80 dX9_wayBehind_75 (by decide) (fun hc10 => ?_) (fun hc10 => ?_)
        · rw [if_neg hc10] at hf
          exact w_X9_wayBehind_80 hX hG hx1 hf hk
        · rw [if_pos hc10] at hf
          refine Wp.lo' (lo' := []) [] rfl ?_
          cases hf
          exact hk
theorem wl_X9_wayBehind_13 {X : CX} {T : List Dsc} {R : RM} {c e : Nat} {n1 n2 : Nat} {x1 : Nat} {x2 : Int32} {x3 : Int32} {x4 : Int32} {x5 : Int64} {x7 : Int32} {m : M2} {e1 : ((M2) ⊕ (Int64 × M2))} (hX : XR X 6 n1 n2) (hG : Geo T R c e) (hx1 : cw x1) (h : loop (g_X9_wayBehind_13 c x1 x2 x3 x4) (x5, x7, m) = some e1) (he0 : ∀ e_, e1 = (Sum.inl e_) → Wp X cX9_wayBehind RX9 8 T (mk e_ R) n1 n2 78 [] []) (he1 : ∀ e_, e1 = (Sum.inr e_) → Wp X cX9_wayBehind RX9 8 T (mk e_.2 R) n1 n2 86 [(0, .ref 39), (5, .long e_.1)] []) : Wp X cX9_wayBehind RX9 8 T (mk m R) n1 n2 13 [(0, .ref 39), (1, .ref x1), (2, .int x2), (3, .int x3), (4, .int x4), (5, .long x5), (7, .int x7)] [] :=
  loop_ok (K := k_X9_wayBehind_13 X T R n1 n2 x1 x2 x3 x4) (fun s r hf hk => w_X9_wayBehind_13 hX hG hx1 hf hk) h (by rcases e1 with e_ | e_ <;> first | exact he0 _ rfl | exact he1 _ rfl)
set_option maxHeartbeats 4000000 in
set_option maxRecDepth 100000 in
theorem w_X9_wayBehind {X : CX} {T : List Dsc} {R : RM} {c e : Nat} {n1 n2 : Nat} {x1 : Nat} {x2 : Int32} {x3 : Int32} {x4 : Int32} {m : M2} {r : (Int32 × M2)} (hX : XR X 6 n1 n2) (hG : Geo T R c e) (hx1 : cw x1) (hf : F_X9_wayBehind c x1 x2 x3 x4 m = some r) (hk : FnI X cX9_wayBehind RX9 8 T n1 n2 (r.1, mk r.2 R)) : Wp X cX9_wayBehind RX9 8 T (mk m R) n1 n2 0 [(0, .ref 39), (1, .ref x1), (2, .int x2), (3, .int x3), (4, .int x4)] [] := by
  unfold F_X9_wayBehind at hf
  refine Wp.aload_n (pc := 0) 0 rfl rfl dX9_wayBehind_0 ?_
  refine Wp.getR2 (pc := 1) (hG.r 39 1 rfl) (hG.t 39 rfl) fk_RX9_9 rfl dX9_wayBehind_1 ?_
  refine Wp.iload_n (pc := 4) 2 rfl rfl dX9_wayBehind_4 ?_
  refine Wp.iconst (pc := 5) (1 : Int32) (by decide) dX9_wayBehind_5 ?_
  refine Wp.isub (pc := 6) dX9_wayBehind_6 ?_
  obtain ⟨v1, h2, hf⟩ := bnd hf
  refine Wp.lald2 (pc := 7) h2 (hG.a 40 1 rfl) dX9_wayBehind_7 ?_
  refine Wp.lstore (pc := 8) (lo' := [(0, .ref 39), (1, .ref x1), (2, .int x2), (3, .int x3), (4, .int x4), (5, .long v1)]) [1, 2, 3, 4, 5, 0] rfl (by decide) dX9_wayBehind_8 ?_
  refine Wp.iload_n (pc := 10) 2 rfl rfl dX9_wayBehind_10 ?_
  refine Wp.istore (pc := 11) (lo' := [(0, .ref 39), (1, .ref x1), (2, .int x2), (3, .int x3), (4, .int x4), (5, .long v1), (7, .int x2)]) [1, 2, 3, 4, 5, 6, 0] rfl (by decide) dX9_wayBehind_11 ?_
  obtain ⟨e3, h4, hf⟩ := bnd hf
  refine wl_X9_wayBehind_13 hX hG hx1 h4 (fun e3_0 hq => ?_) (fun e3_1 hq => ?_)
  · rw [hq, Sum.elim_inl] at hf
    refine Wp.iconst (pc := 78) (0 : Int32) (by decide) dX9_wayBehind_78 ?_
    cases hf
    exact hk _ _ dX9_wayBehind_79
  · rw [hq, Sum.elim_inr] at hf
    refine Wp.aload_n (pc := 86) 0 rfl rfl dX9_wayBehind_86 ?_
    refine Wp.getR2 (pc := 87) (hG.r 39 0 rfl) (hG.t 39 rfl) fk_RX9_13 rfl dX9_wayBehind_87 ?_
    refine Wp.lload (pc := 90) 1 rfl dX9_wayBehind_90 ?_
    obtain ⟨c5, h6, hf⟩ := bnd hf
    refine Wp.callVi (pc := 92) (st := []) (as := [.long e3_1.1]) (c_X5_wayOf hG h6) ml_RX9_80 mv_X5_wayOf mb_X5_wayOf hX (Nat.le_of_ble_eq_true rfl) (by decide) rfl (hG.t 23 rfl) rfl (by simp) dX9_wayBehind_92 rfl ?_
    cases hf
    exact hk _ _ dX9_wayBehind_95
theorem c_X9_wayBehind {T : List Dsc} {R : RM} {c e : Nat} {x1 : Nat} {x2 : Int32} {x3 : Int32} {x4 : Int32} {m : M2} {r : (Int32 × M2)} (hG : Geo T R c e) (hx1 : cw x1) (hf : F_X9_wayBehind c x1 x2 x3 x4 m = some r) : Ct 6 yX9_wayBehind cX9_wayBehind 8 (some .int) T (mk m R) [.ref 39, .ref x1, .int x2, .int x3, .int x4] (some (.int r.1)) (mk r.2 R) := Ct.ofI (r := (r.1, mk r.2 R)) (by decide +kernel) (Nat.le_of_ble_eq_true rfl) (fun X hX hk => w_X9_wayBehind hX hG hx1 hf hk)
theorem dX9_planRam_0 : decode cX9_planRam 0 = .ok (.iload_n 2, 1) := by decide +kernel
theorem dX9_planRam_1 : decode cX9_planRam 1 = .ok (.bipush 60, 2) := by decide +kernel
theorem dX9_planRam_3 : decode cX9_planRam 3 = .ok (.invokestatic 43, 3) := by decide +kernel
theorem dX9_planRam_6 : decode cX9_planRam 6 = .ok (.istore_n 3, 1) := by decide +kernel
theorem dX9_planRam_7 : decode cX9_planRam 7 = .ok (.aload_n 0, 1) := by decide +kernel
theorem dX9_planRam_8 : decode cX9_planRam 8 = .ok (.getfield 9, 3) := by decide +kernel
theorem dX9_planRam_11 : decode cX9_planRam 11 = .ok (.iconst 0, 1) := by decide +kernel
theorem dX9_planRam_12 : decode cX9_planRam 12 = .ok (.aload_n 1, 1) := by decide +kernel
theorem dX9_planRam_13 : decode cX9_planRam 13 = .ok (.getfield 17, 3) := by decide +kernel
theorem dX9_planRam_16 : decode cX9_planRam 16 = .ok (.lastore, 1) := by decide +kernel
theorem dX9_planRam_17 : decode cX9_planRam 17 = .ok (.iconst 1, 1) := by decide +kernel
theorem dX9_planRam_18 : decode cX9_planRam 18 = .ok (.istore 4, 2) := by decide +kernel
theorem dX9_planRam_20 : decode cX9_planRam 20 = .ok (.iload 4, 2) := by decide +kernel
theorem dX9_planRam_22 : decode cX9_planRam 22 = .ok (.iload_n 3, 1) := by decide +kernel
theorem dX9_planRam_23 : decode cX9_planRam 23 = .ok (.if_icmp .ge 59, 3) := by decide +kernel
theorem dX9_planRam_26 : decode cX9_planRam 26 = .ok (.aload_n 0, 1) := by decide +kernel
theorem dX9_planRam_27 : decode cX9_planRam 27 = .ok (.getfield 9, 3) := by decide +kernel
theorem dX9_planRam_30 : decode cX9_planRam 30 = .ok (.iload 4, 2) := by decide +kernel
theorem dX9_planRam_32 : decode cX9_planRam 32 = .ok (.aload_n 0, 1) := by decide +kernel
theorem dX9_planRam_33 : decode cX9_planRam 33 = .ok (.getfield 13, 3) := by decide +kernel
theorem dX9_planRam_36 : decode cX9_planRam 36 = .ok (.aload_n 0, 1) := by decide +kernel
theorem dX9_planRam_37 : decode cX9_planRam 37 = .ok (.getfield 9, 3) := by decide +kernel
theorem dX9_planRam_40 : decode cX9_planRam 40 = .ok (.iload 4, 2) := by decide +kernel
theorem dX9_planRam_42 : decode cX9_planRam 42 = .ok (.iconst 1, 1) := by decide +kernel
theorem dX9_planRam_43 : decode cX9_planRam 43 = .ok (.isub, 1) := by decide +kernel
theorem dX9_planRam_44 : decode cX9_planRam 44 = .ok (.laload, 1) := by decide +kernel
theorem dX9_planRam_45 : decode cX9_planRam 45 = .ok (.aload_n 1, 1) := by decide +kernel
theorem dX9_planRam_46 : decode cX9_planRam 46 = .ok (.getfield 23, 3) := by decide +kernel
theorem dX9_planRam_49 : decode cX9_planRam 49 = .ok (.aload_n 1, 1) := by decide +kernel
theorem dX9_planRam_50 : decode cX9_planRam 50 = .ok (.getfield 27, 3) := by decide +kernel
theorem dX9_planRam_53 : decode cX9_planRam 53 = .ok (.aload_n 0, 1) := by decide +kernel
theorem dX9_planRam_54 : decode cX9_planRam 54 = .ok (.getfield 13, 3) := by decide +kernel
theorem dX9_planRam_57 : decode cX9_planRam 57 = .ok (.getfield 49, 3) := by decide +kernel
theorem dX9_planRam_60 : decode cX9_planRam 60 = .ok (.aload_n 1, 1) := by decide +kernel
theorem dX9_planRam_61 : decode cX9_planRam 61 = .ok (.getfield 53, 3) := by decide +kernel
theorem dX9_planRam_64 : decode cX9_planRam 64 = .ok (.iload 4, 2) := by decide +kernel
theorem dX9_planRam_66 : decode cX9_planRam 66 = .ok (.iadd, 1) := by decide +kernel
theorem dX9_planRam_67 : decode cX9_planRam 67 = .ok (.iconst 1, 1) := by decide +kernel
theorem dX9_planRam_68 : decode cX9_planRam 68 = .ok (.isub, 1) := by decide +kernel
theorem dX9_planRam_69 : decode cX9_planRam 69 = .ok (.invokevirtual 55, 3) := by decide +kernel
theorem dX9_planRam_72 : decode cX9_planRam 72 = .ok (.invokevirtual 31, 3) := by decide +kernel
theorem dX9_planRam_75 : decode cX9_planRam 75 = .ok (.lastore, 1) := by decide +kernel
theorem dX9_planRam_76 : decode cX9_planRam 76 = .ok (.iinc 4 1, 3) := by decide +kernel
theorem dX9_planRam_79 : decode cX9_planRam 79 = .ok (.goto (-59), 3) := by decide +kernel
theorem dX9_planRam_82 : decode cX9_planRam 82 = .ok (.aload_n 0, 1) := by decide +kernel
theorem dX9_planRam_83 : decode cX9_planRam 83 = .ok (.iconst 0, 1) := by decide +kernel
theorem dX9_planRam_84 : decode cX9_planRam 84 = .ok (.putfield 61, 3) := by decide +kernel
theorem dX9_planRam_87 : decode cX9_planRam 87 = .ok (.iload_n 3, 1) := by decide +kernel
theorem dX9_planRam_88 : decode cX9_planRam 88 = .ok (.istore 4, 2) := by decide +kernel
theorem dX9_planRam_90 : decode cX9_planRam 90 = .ok (.iload 4, 2) := by decide +kernel
theorem dX9_planRam_92 : decode cX9_planRam 92 = .ok (.iconst 1, 1) := by decide +kernel
theorem dX9_planRam_93 : decode cX9_planRam 93 = .ok (.if_icmp .lt 106, 3) := by decide +kernel
theorem dX9_planRam_96 : decode cX9_planRam 96 = .ok (.aload_n 0, 1) := by decide +kernel
theorem dX9_planRam_97 : decode cX9_planRam 97 = .ok (.getfield 61, 3) := by decide +kernel
theorem dX9_planRam_100 : decode cX9_planRam 100 = .ok (.aload_n 0, 1) := by decide +kernel
theorem dX9_planRam_101 : decode cX9_planRam 101 = .ok (.getfield 13, 3) := by decide +kernel
theorem dX9_planRam_104 : decode cX9_planRam 104 = .ok (.getfield 49, 3) := by decide +kernel
theorem dX9_planRam_107 : decode cX9_planRam 107 = .ok (.getfield 64, 3) := by decide +kernel
theorem dX9_planRam_110 : decode cX9_planRam 110 = .ok (.if_icmp .ge 89, 3) := by decide +kernel
theorem dX9_planRam_113 : decode cX9_planRam 113 = .ok (.iconst 0, 1) := by decide +kernel
theorem dX9_planRam_114 : decode cX9_planRam 114 = .ok (.istore 5, 2) := by decide +kernel
theorem dX9_planRam_116 : decode cX9_planRam 116 = .ok (.iload 5, 2) := by decide +kernel
theorem dX9_planRam_118 : decode cX9_planRam 118 = .ok (.aload_n 0, 1) := by decide +kernel
theorem dX9_planRam_119 : decode cX9_planRam 119 = .ok (.getfield 13, 3) := by decide +kernel
theorem dX9_planRam_122 : decode cX9_planRam 122 = .ok (.getfield 49, 3) := by decide +kernel
theorem dX9_planRam_125 : decode cX9_planRam 125 = .ok (.getfield 67, 3) := by decide +kernel
theorem dX9_planRam_128 : decode cX9_planRam 128 = .ok (.if_icmp .ge 65, 3) := by decide +kernel
theorem dX9_planRam_131 : decode cX9_planRam 131 = .ok (.aload_n 0, 1) := by decide +kernel
theorem dX9_planRam_132 : decode cX9_planRam 132 = .ok (.getfield 61, 3) := by decide +kernel
theorem dX9_planRam_135 : decode cX9_planRam 135 = .ok (.aload_n 0, 1) := by decide +kernel
theorem dX9_planRam_136 : decode cX9_planRam 136 = .ok (.getfield 13, 3) := by decide +kernel
theorem dX9_planRam_139 : decode cX9_planRam 139 = .ok (.getfield 49, 3) := by decide +kernel
theorem dX9_planRam_142 : decode cX9_planRam 142 = .ok (.getfield 64, 3) := by decide +kernel
theorem dX9_planRam_145 : decode cX9_planRam 145 = .ok (.if_icmp .ge 48, 3) := by decide +kernel
theorem dX9_planRam_148 : decode cX9_planRam 148 = .ok (.aload_n 0, 1) := by decide +kernel
theorem dX9_planRam_149 : decode cX9_planRam 149 = .ok (.aload_n 1, 1) := by decide +kernel
theorem dX9_planRam_150 : decode cX9_planRam 150 = .ok (.iload 4, 2) := by decide +kernel
theorem dX9_planRam_152 : decode cX9_planRam 152 = .ok (.iload_n 3, 1) := by decide +kernel
theorem dX9_planRam_153 : decode cX9_planRam 153 = .ok (.iload 5, 2) := by decide +kernel
theorem dX9_planRam_155 : decode cX9_planRam 155 = .ok (.invokevirtual 70, 3) := by decide +kernel
theorem dX9_planRam_158 : decode cX9_planRam 158 = .ok (.istore 6, 2) := by decide +kernel
theorem dX9_planRam_160 : decode cX9_planRam 160 = .ok (.iload 6, 2) := by decide +kernel
theorem dX9_planRam_162 : decode cX9_planRam 162 = .ok (.aload_n 0, 1) := by decide +kernel
theorem dX9_planRam_163 : decode cX9_planRam 163 = .ok (.getfield 61, 3) := by decide +kernel
theorem dX9_planRam_166 : decode cX9_planRam 166 = .ok (.if_icmp .le 21, 3) := by decide +kernel
theorem dX9_planRam_169 : decode cX9_planRam 169 = .ok (.aload_n 0, 1) := by decide +kernel
theorem dX9_planRam_170 : decode cX9_planRam 170 = .ok (.iload 6, 2) := by decide +kernel
theorem dX9_planRam_172 : decode cX9_planRam 172 = .ok (.putfield 61, 3) := by decide +kernel
theorem dX9_planRam_175 : decode cX9_planRam 175 = .ok (.aload_n 0, 1) := by decide +kernel
theorem dX9_planRam_176 : decode cX9_planRam 176 = .ok (.iload 4, 2) := by decide +kernel
theorem dX9_planRam_178 : decode cX9_planRam 178 = .ok (.putfield 74, 3) := by decide +kernel
theorem dX9_planRam_181 : decode cX9_planRam 181 = .ok (.aload_n 0, 1) := by decide +kernel
theorem dX9_planRam_182 : decode cX9_planRam 182 = .ok (.iload 5, 2) := by decide +kernel
theorem dX9_planRam_184 : decode cX9_planRam 184 = .ok (.putfield 77, 3) := by decide +kernel
theorem dX9_planRam_187 : decode cX9_planRam 187 = .ok (.iinc 5 1, 3) := by decide +kernel
theorem dX9_planRam_190 : decode cX9_planRam 190 = .ok (.goto (-74), 3) := by decide +kernel
theorem dX9_planRam_193 : decode cX9_planRam 193 = .ok (.iinc 4 (-1), 3) := by decide +kernel
theorem dX9_planRam_196 : decode cX9_planRam 196 = .ok (.goto (-106), 3) := by decide +kernel
theorem dX9_planRam_199 : decode cX9_planRam 199 = .ok (.return_, 1) := by decide +kernel
def k_X9_planRam_20 (X : CX) (T : List Dsc) (R : RM) (n1 n2 : Nat) (x1 : Nat) (x3 : Int32) (r : ((Int32 × M2) ⊕ ((M2)))) : Prop := match r with
  | .inl s => Wp X cX9_planRam RX9 7 T (mk s.2 R) n1 n2 20 [(0, .ref 39), (1, .ref x1), (3, .int x3), (4, .int s.1)] []
  | .inr e => Wp X cX9_planRam RX9 7 T (mk e R) n1 n2 82 [(0, .ref 39), (1, .ref x1), (3, .int x3)] []
def k_X9_planRam_116 (X : CX) (T : List Dsc) (R : RM) (n1 n2 : Nat) (x1 : Nat) (x3 : Int32) (x4 : Int32) (r : ((Int32 × M2) ⊕ ((M2)))) : Prop := match r with
  | .inl s => Wp X cX9_planRam RX9 7 T (mk s.2 R) n1 n2 116 [(0, .ref 39), (1, .ref x1), (3, .int x3), (4, .int x4), (5, .int s.1)] []
  | .inr e => Wp X cX9_planRam RX9 7 T (mk e R) n1 n2 193 [(0, .ref 39), (1, .ref x1), (3, .int x3), (4, .int x4)] []
def k_X9_planRam_90 (X : CX) (T : List Dsc) (R : RM) (n1 n2 : Nat) (x1 : Nat) (x3 : Int32) (r : ((Int32 × M2) ⊕ ((M2)))) : Prop := match r with
  | .inl s => Wp X cX9_planRam RX9 7 T (mk s.2 R) n1 n2 90 [(0, .ref 39), (1, .ref x1), (3, .int x3), (4, .int s.1)] []
  | .inr e => Wp X cX9_planRam RX9 7 T (mk e R) n1 n2 199 [] []
set_option maxHeartbeats 4000000 in
set_option maxRecDepth 100000 in
theorem w_X9_planRam_20 {X : CX} {T : List Dsc} {R : RM} {c e : Nat} {n1 n2 : Nat} {x1 : Nat} {x3 : Int32} {x4 : Int32} {m : M2} {r : ((Int32 × M2) ⊕ ((M2)))} (hX : XR X 7 n1 n2) (hG : Geo T R c e) (hx1 : cw x1) (hf : f_X9_planRam_20 c x1 x3 x4 m = some r) (hk : k_X9_planRam_20 X T R n1 n2 x1 x3 r) : Wp X cX9_planRam RX9 7 T (mk m R) n1 n2 20 [(0, .ref 39), (1, .ref x1), (3, .int x3), (4, .int x4)] [] := by
  unfold f_X9_planRam_20 at hf
  refine Wp.iload (pc := 20) 3 rfl dX9_planRam_20 ?_
  refine Wp.iload_n (pc := 22) 2 rfl rfl dX9_planRam_22 ?_
  refine Wp.icmp_ge (pc := 23) 82 dX9_planRam_23 (by decide) (fun hc1 => ?_) (fun hc1 => ?_)
  · rw [if_pos hc1] at hf
    refine Wp.lo' (lo' := [(0, .ref 39), (1, .ref x1), (3, .int x3)]) [0, 1, 2] rfl ?_
    cases hf
    exact hk
  · rw [if_neg hc1] at hf
    refine Wp.aload_n (pc := 26) 0 rfl rfl dX9_planRam_26 ?_
    refine Wp.getR2 (pc := 27) (hG.r 39 1 rfl) (hG.t 39 rfl) fk_RX9_9 rfl dX9_planRam_27 ?_
    refine Wp.iload (pc := 30) 3 rfl dX9_planRam_30 ?_
    refine Wp.aload_n (pc := 32) 0 rfl rfl dX9_planRam_32 ?_
    refine Wp.getR2 (pc := 33) (hG.r 39 0 rfl) (hG.t 39 rfl) fk_RX9_13 rfl dX9_planRam_33 ?_
    refine Wp.aload_n (pc := 36) 0 rfl rfl dX9_planRam_36 ?_
    refine Wp.getR2 (pc := 37) (hG.r 39 1 rfl) (hG.t 39 rfl) fk_RX9_9 rfl dX9_planRam_37 ?_
    refine Wp.iload (pc := 40) 3 rfl dX9_planRam_40 ?_
    refine Wp.iconst (pc := 42) (1 : Int32) (by decide) dX9_planRam_42 ?_
    refine Wp.isub (pc := 43) dX9_planRam_43 ?_
    obtain ⟨v2, h3, hf⟩ := bnd hf
    refine Wp.lald2 (pc := 44) h3 (hG.a 40 1 rfl) dX9_planRam_44 ?_
    refine Wp.aload_n (pc := 45) 1 rfl rfl dX9_planRam_45 ?_
    refine Wp.getR2 (pc := 46) (hG.wr hx1 2 (Or.inr rfl)) (hG.wt hx1) fk_RX9_23 rfl dX9_planRam_46 ?_
    refine Wp.aload_n (pc := 49) 1 rfl rfl dX9_planRam_49 ?_
    refine Wp.getI2 (pc := 50) (hG.wt hx1) fk_RX9_27 rfl dX9_planRam_50 ?_
    refine Wp.aload_n (pc := 53) 0 rfl rfl dX9_planRam_53 ?_
    refine Wp.getR2 (pc := 54) (hG.r 39 0 rfl) (hG.t 39 rfl) fk_RX9_13 rfl dX9_planRam_54 ?_
    refine Wp.getR2 (pc := 57) hG.r2 (hG.t 23 rfl) fk_RX9_49 rfl dX9_planRam_57 ?_
    refine Wp.aload_n (pc := 60) 1 rfl rfl dX9_planRam_60 ?_
    refine Wp.getI2 (pc := 61) (hG.wt hx1) fk_RX9_53 rfl dX9_planRam_61 ?_
    refine Wp.iload (pc := 64) 3 rfl dX9_planRam_64 ?_
    refine Wp.iadd (pc := 66) dX9_planRam_66 ?_
    refine Wp.iconst (pc := 67) (1 : Int32) (by decide) dX9_planRam_67 ?_
    refine Wp.isub (pc := 68) dX9_planRam_68 ?_
    obtain ⟨c4, h5, hf⟩ := bnd hf
    refine Wp.callVi (pc := 69) (st := [.int (hI m x1 3), .ref (x1 + 2), .long v2, .ref 23, .int x4, .ref 40]) (as := [.int (((hI m x1 4) + x4) - (1 : Int32))]) (c_X7_isFog hG hG.hc h5) ml_RX9_55 mv_X7_isFog mb_X7_isFog hX (Nat.le_of_ble_eq_true rfl) (by decide) rfl (hG.tt hG.hc) rfl (by simp [Value.category]) dX9_planRam_69 rfl ?_
    obtain ⟨c6, h7, hf⟩ := bnd hf
    refine Wp.callVl (pc := 72) (st := [.int x4, .ref 40]) (as := [.long v2, .ref (x1 + 2), .int (hI m x1 3), .int c4.1]) (c_X5_stroke hG (hG.wa hx1 2 (Or.inr rfl)) h7) ml_RX9_31 mv_X5_stroke mb_X5_stroke hX (Nat.le_of_ble_eq_true rfl) (by decide) rfl (hG.t 23 rfl) rfl (by simp [Value.category]) dX9_planRam_72 rfl ?_
    obtain ⟨m8, h9, hf⟩ := bnd hf
    refine Wp.last2 (pc := 75) h9 (hG.a 40 1 rfl) dX9_planRam_75 ?_
    obtain ⟨v10, h11, hf⟩ := bnd hf
    refine Wp.iincN (pc := 76) (lo' := [(0, .ref 39), (1, .ref x1), (3, .int x3), (4, .int v10)]) (1 : Int32) (by decide) h11 3 rfl [1, 2, 3, 0] rfl (by decide) dX9_planRam_76 ?_
    refine Wp.goto (pc := 79) 20 dX9_planRam_79 (by decide) ?_
    cases hf
    exact hk
theorem wl_X9_planRam_20 {X : CX} {T : List Dsc} {R : RM} {c e : Nat} {n1 n2 : Nat} {x1 : Nat} {x3 : Int32} {x4 : Int32} {m : M2} {e1 : ((M2))} (hX : XR X 7 n1 n2) (hG : Geo T R c e) (hx1 : cw x1) (h : loop (g_X9_planRam_20 c x1 x3) (x4, m) = some e1) (he : Wp X cX9_planRam RX9 7 T (mk e1 R) n1 n2 82 [(0, .ref 39), (1, .ref x1), (3, .int x3)] []) : Wp X cX9_planRam RX9 7 T (mk m R) n1 n2 20 [(0, .ref 39), (1, .ref x1), (3, .int x3), (4, .int x4)] [] :=
  loop_ok (K := k_X9_planRam_20 X T R n1 n2 x1 x3) (fun s r hf hk => w_X9_planRam_20 hX hG hx1 hf hk) h he
set_option maxHeartbeats 4000000 in
set_option maxRecDepth 100000 in
theorem w_X9_planRam_187 {X : CX} {T : List Dsc} {R : RM} {c e : Nat} {n1 n2 : Nat} {x1 : Nat} {x3 : Int32} {x4 : Int32} {x5 : Int32} {m : M2} {r : ((Int32 × M2) ⊕ ((M2)))} (hX : XR X 7 n1 n2) (hG : Geo T R c e) (hx1 : cw x1) (hf : f_X9_planRam_187 c x1 x3 x4 x5 m = some r) (hk : k_X9_planRam_116 X T R n1 n2 x1 x3 x4 r) : Wp X cX9_planRam RX9 7 T (mk m R) n1 n2 187 [(0, .ref 39), (1, .ref x1), (3, .int x3), (4, .int x4), (5, .int x5)] [] := by
  unfold f_X9_planRam_187 at hf
  obtain ⟨v1, h2, hf⟩ := bnd hf
  refine Wp.iincN (pc := 187) (lo' := [(0, .ref 39), (1, .ref x1), (3, .int x3), (4, .int x4), (5, .int v1)]) (1 : Int32) (by decide) h2 4 rfl [1, 2, 3, 4, 0] rfl (by decide) dX9_planRam_187 ?_
  refine Wp.goto (pc := 190) 116 dX9_planRam_190 (by decide) ?_
  cases hf
  exact hk
set_option maxHeartbeats 4000000 in
set_option maxRecDepth 100000 in
theorem w_X9_planRam_116 {X : CX} {T : List Dsc} {R : RM} {c e : Nat} {n1 n2 : Nat} {x1 : Nat} {x3 : Int32} {x4 : Int32} {x5 : Int32} {m : M2} {r : ((Int32 × M2) ⊕ ((M2)))} (hX : XR X 7 n1 n2) (hG : Geo T R c e) (hx1 : cw x1) (hf : f_X9_planRam_116 c x1 x3 x4 x5 m = some r) (hk : k_X9_planRam_116 X T R n1 n2 x1 x3 x4 r) : Wp X cX9_planRam RX9 7 T (mk m R) n1 n2 116 [(0, .ref 39), (1, .ref x1), (3, .int x3), (4, .int x4), (5, .int x5)] [] := by
  unfold f_X9_planRam_116 at hf
  refine Wp.iload (pc := 116) 4 rfl dX9_planRam_116 ?_
  refine Wp.aload_n (pc := 118) 0 rfl rfl dX9_planRam_118 ?_
  refine Wp.getR2 (pc := 119) (hG.r 39 0 rfl) (hG.t 39 rfl) fk_RX9_13 rfl dX9_planRam_119 ?_
  refine Wp.getR2 (pc := 122) hG.r2 (hG.t 23 rfl) fk_RX9_49 rfl dX9_planRam_122 ?_
  refine Wp.getI2 (pc := 125) (hG.tt hG.hc) fk_RX9_67 rfl dX9_planRam_125 ?_
  refine Wp.icmp_ge (pc := 128) 193 dX9_planRam_128 (by decide) (fun hc1 => ?_) (fun hc1 => ?_)
  · rw [if_pos hc1] at hf
    refine Wp.lo' (lo' := [(0, .ref 39), (1, .ref x1), (3, .int x3), (4, .int x4)]) [0, 1, 2, 3] rfl ?_
    cases hf
    exact hk
  · rw [if_neg hc1] at hf
    refine Wp.aload_n (pc := 131) 0 rfl rfl dX9_planRam_131 ?_
    refine Wp.getI2 (pc := 132) (hG.t 39 rfl) fk_RX9_61 rfl dX9_planRam_132 ?_
    refine Wp.aload_n (pc := 135) 0 rfl rfl dX9_planRam_135 ?_
    refine Wp.getR2 (pc := 136) (hG.r 39 0 rfl) (hG.t 39 rfl) fk_RX9_13 rfl dX9_planRam_136 ?_
    refine Wp.getR2 (pc := 139) hG.r2 (hG.t 23 rfl) fk_RX9_49 rfl dX9_planRam_139 ?_
    refine Wp.getI2 (pc := 142) (hG.tt hG.hc) fk_RX9_64 rfl dX9_planRam_142 ?_
    refine Wp.icmp_ge (pc := 145) 193 dX9_planRam_145 (by decide) (fun hc2 => ?_) (fun hc2 => ?_)
    · rw [if_pos hc2] at hf
      refine Wp.lo' (lo' := [(0, .ref 39), (1, .ref x1), (3, .int x3), (4, .int x4)]) [0, 1, 2, 3] rfl ?_
      cases hf
      exact hk
    · rw [if_neg hc2] at hf
      refine Wp.aload_n (pc := 148) 0 rfl rfl dX9_planRam_148 ?_
      refine Wp.aload_n (pc := 149) 1 rfl rfl dX9_planRam_149 ?_
      refine Wp.iload (pc := 150) 3 rfl dX9_planRam_150 ?_
      refine Wp.iload_n (pc := 152) 2 rfl rfl dX9_planRam_152 ?_
      refine Wp.iload (pc := 153) 4 rfl dX9_planRam_153 ?_
      obtain ⟨c3, h4, hf⟩ := bnd hf
      refine Wp.callVi (pc := 155) (st := []) (as := [.ref x1, .int x4, .int x3, .int x5]) (c_X9_wayBehind hG hx1 h4) ml_RX9_70 mv_X9_wayBehind mb_X9_wayBehind hX (Nat.le_of_ble_eq_true rfl) (by decide) rfl (hG.t 39 rfl) rfl (by simp) dX9_planRam_155 rfl ?_
      refine Wp.istore (pc := 158) (lo' := [(0, .ref 39), (1, .ref x1), (3, .int x3), (4, .int x4), (5, .int x5), (6, .int c3.1)]) [1, 2, 3, 4, 5, 0] rfl (by decide) dX9_planRam_158 ?_
      refine Wp.iload (pc := 160) 5 rfl dX9_planRam_160 ?_
      refine Wp.aload_n (pc := 162) 0 rfl rfl dX9_planRam_162 ?_
      refine Wp.getI2 (pc := 163) (hG.t 39 rfl) fk_RX9_61 rfl dX9_planRam_163 ?_
      refine Wp.icmp_le (pc := 166) 187 dX9_planRam_166 (by decide) (fun hc5 => ?_) (fun hc5 => ?_)
      · rw [if_pos hc5] at hf
        refine Wp.lo' (lo' := [(0, .ref 39), (1, .ref x1), (3, .int x3), (4, .int x4), (5, .int x5)]) [0, 1, 2, 3, 4] rfl ?_
        exact w_X9_planRam_187 hX hG hx1 hf hk
      · rw [if_neg hc5] at hf
        refine Wp.aload_n (pc := 169) 0 rfl rfl dX9_planRam_169 ?_
        refine Wp.iload (pc := 170) 5 rfl dX9_planRam_170 ?_
        obtain ⟨m6, h7, hf⟩ := bnd hf
        refine Wp.ptI2 (pc := 172) h7 (hG.t 39 rfl) fk_RX9_61 ff_RX9_8_4 rfl dX9_planRam_172 ?_
        refine Wp.aload_n (pc := 175) 0 rfl rfl dX9_planRam_175 ?_
        refine Wp.iload (pc := 176) 3 rfl dX9_planRam_176 ?_
        obtain ⟨m8, h9, hf⟩ := bnd hf
        refine Wp.ptI2 (pc := 178) h9 (hG.t 39 rfl) fk_RX9_74 ff_RX9_8_5 rfl dX9_planRam_178 ?_
        refine Wp.aload_n (pc := 181) 0 rfl rfl dX9_planRam_181 ?_
        refine Wp.iload (pc := 182) 4 rfl dX9_planRam_182 ?_
        obtain ⟨m10, h11, hf⟩ := bnd hf
        refine Wp.ptI2 (pc := 184) h11 (hG.t 39 rfl) fk_RX9_77 ff_RX9_8_6 rfl dX9_planRam_184 ?_
        refine Wp.lo' (lo' := [(0, .ref 39), (1, .ref x1), (3, .int x3), (4, .int x4), (5, .int x5)]) [0, 1, 2, 3, 4] rfl ?_
        exact w_X9_planRam_187 hX hG hx1 hf hk
theorem wl_X9_planRam_116 {X : CX} {T : List Dsc} {R : RM} {c e : Nat} {n1 n2 : Nat} {x1 : Nat} {x3 : Int32} {x4 : Int32} {x5 : Int32} {m : M2} {e1 : ((M2))} (hX : XR X 7 n1 n2) (hG : Geo T R c e) (hx1 : cw x1) (h : loop (g_X9_planRam_116 c x1 x3 x4) (x5, m) = some e1) (he : Wp X cX9_planRam RX9 7 T (mk e1 R) n1 n2 193 [(0, .ref 39), (1, .ref x1), (3, .int x3), (4, .int x4)] []) : Wp X cX9_planRam RX9 7 T (mk m R) n1 n2 116 [(0, .ref 39), (1, .ref x1), (3, .int x3), (4, .int x4), (5, .int x5)] [] :=
  loop_ok (K := k_X9_planRam_116 X T R n1 n2 x1 x3 x4) (fun s r hf hk => w_X9_planRam_116 hX hG hx1 hf hk) h he
set_option maxHeartbeats 4000000 in
set_option maxRecDepth 100000 in
theorem w_X9_planRam_193 {X : CX} {T : List Dsc} {R : RM} {c e : Nat} {n1 n2 : Nat} {x1 : Nat} {x3 : Int32} {x4 : Int32} {m : M2} {r : ((Int32 × M2) ⊕ ((M2)))} (hX : XR X 7 n1 n2) (hG : Geo T R c e) (hx1 : cw x1) (hf : f_X9_planRam_193 c x1 x3 x4 m = some r) (hk : k_X9_planRam_90 X T R n1 n2 x1 x3 r) : Wp X cX9_planRam RX9 7 T (mk m R) n1 n2 193 [(0, .ref 39), (1, .ref x1), (3, .int x3), (4, .int x4)] [] := by
  unfold f_X9_planRam_193 at hf
  obtain ⟨v1, h2, hf⟩ := bnd hf
  refine Wp.iincN (pc := 193) (lo' := [(0, .ref 39), (1, .ref x1), (3, .int x3), (4, .int v1)]) (-1 : Int32) (by decide) h2 3 rfl [1, 2, 3, 0] rfl (by decide) dX9_planRam_193 ?_
  refine Wp.goto (pc := 196) 90 dX9_planRam_196 (by decide) ?_
  cases hf
  exact hk
set_option maxHeartbeats 4000000 in
set_option maxRecDepth 100000 in
theorem w_X9_planRam_90 {X : CX} {T : List Dsc} {R : RM} {c e : Nat} {n1 n2 : Nat} {x1 : Nat} {x3 : Int32} {x4 : Int32} {m : M2} {r : ((Int32 × M2) ⊕ ((M2)))} (hX : XR X 7 n1 n2) (hG : Geo T R c e) (hx1 : cw x1) (hf : f_X9_planRam_90 c x1 x3 x4 m = some r) (hk : k_X9_planRam_90 X T R n1 n2 x1 x3 r) : Wp X cX9_planRam RX9 7 T (mk m R) n1 n2 90 [(0, .ref 39), (1, .ref x1), (3, .int x3), (4, .int x4)] [] := by
  unfold f_X9_planRam_90 at hf
  refine Wp.iload (pc := 90) 3 rfl dX9_planRam_90 ?_
  refine Wp.iconst (pc := 92) (1 : Int32) (by decide) dX9_planRam_92 ?_
  refine Wp.icmp_lt (pc := 93) 199 dX9_planRam_93 (by decide) (fun hc1 => ?_) (fun hc1 => ?_)
  · rw [if_pos hc1] at hf
    refine Wp.lo' (lo' := []) [] rfl ?_
    cases hf
    exact hk
  · rw [if_neg hc1] at hf
    refine Wp.aload_n (pc := 96) 0 rfl rfl dX9_planRam_96 ?_
    refine Wp.getI2 (pc := 97) (hG.t 39 rfl) fk_RX9_61 rfl dX9_planRam_97 ?_
    refine Wp.aload_n (pc := 100) 0 rfl rfl dX9_planRam_100 ?_
    refine Wp.getR2 (pc := 101) (hG.r 39 0 rfl) (hG.t 39 rfl) fk_RX9_13 rfl dX9_planRam_101 ?_
    refine Wp.getR2 (pc := 104) hG.r2 (hG.t 23 rfl) fk_RX9_49 rfl dX9_planRam_104 ?_
    refine Wp.getI2 (pc := 107) (hG.tt hG.hc) fk_RX9_64 rfl dX9_planRam_107 ?_
    refine Wp.icmp_ge (pc := 110) 199 dX9_planRam_110 (by decide) (fun hc2 => ?_) (fun hc2 => ?_)
    · rw [if_pos hc2] at hf
      refine Wp.lo' (lo' := []) [] rfl ?_
      cases hf
      exact hk
    · rw [if_neg hc2] at hf
      refine Wp.iconst (pc := 113) (0 : Int32) (by decide) dX9_planRam_113 ?_
      refine Wp.istore (pc := 114) (lo' := [(0, .ref 39), (1, .ref x1), (3, .int x3), (4, .int x4), (5, .int (0 : Int32))]) [1, 2, 3, 4, 0] rfl (by decide) dX9_planRam_114 ?_
      obtain ⟨e3, h4, hf⟩ := bnd hf
      refine wl_X9_planRam_116 hX hG hx1 h4 ?_
      exact w_X9_planRam_193 hX hG hx1 hf hk
theorem wl_X9_planRam_90 {X : CX} {T : List Dsc} {R : RM} {c e : Nat} {n1 n2 : Nat} {x1 : Nat} {x3 : Int32} {x4 : Int32} {m : M2} {e1 : ((M2))} (hX : XR X 7 n1 n2) (hG : Geo T R c e) (hx1 : cw x1) (h : loop (g_X9_planRam_90 c x1 x3) (x4, m) = some e1) (he : Wp X cX9_planRam RX9 7 T (mk e1 R) n1 n2 199 [] []) : Wp X cX9_planRam RX9 7 T (mk m R) n1 n2 90 [(0, .ref 39), (1, .ref x1), (3, .int x3), (4, .int x4)] [] :=
  loop_ok (K := k_X9_planRam_90 X T R n1 n2 x1 x3) (fun s r hf hk => w_X9_planRam_90 hX hG hx1 hf hk) h he
set_option maxHeartbeats 4000000 in
set_option maxRecDepth 100000 in
theorem w_X9_planRam_199 {X : CX} {T : List Dsc} {R : RM} {c e : Nat} {n1 n2 : Nat} {m : M2} {r : M2} (hX : XR X 7 n1 n2) (hG : Geo T R c e) (hf : f_X9_planRam_199 c m = some r) (hk : FnV X cX9_planRam RX9 7 T n1 n2 (mk r R)) : Wp X cX9_planRam RX9 7 T (mk m R) n1 n2 199 [] [] := by
  unfold f_X9_planRam_199 at hf
  cases hf
  exact hk _ _ dX9_planRam_199
set_option maxHeartbeats 4000000 in
set_option maxRecDepth 100000 in
theorem w_X9_planRam {X : CX} {T : List Dsc} {R : RM} {c e : Nat} {n1 n2 : Nat} {x1 : Nat} {x2 : Int32} {m : M2} {r : M2} (hX : XR X 7 n1 n2) (hG : Geo T R c e) (hx1 : cw x1) (hf : F_X9_planRam c x1 x2 m = some r) (hk : FnV X cX9_planRam RX9 7 T n1 n2 (mk r R)) : Wp X cX9_planRam RX9 7 T (mk m R) n1 n2 0 [(0, .ref 39), (1, .ref x1), (2, .int x2)] [] := by
  unfold F_X9_planRam at hf
  refine Wp.iload_n (pc := 0) 2 rfl rfl dX9_planRam_0 ?_
  refine Wp.bipush (pc := 1) (60 : Int32) (by decide) dX9_planRam_1 ?_
  refine Wp.mmin (pc := 3) mm_RX9_43 hX (Nat.le_of_ble_eq_true rfl) (by simp) dX9_planRam_3 ?_
  obtain ⟨v1, h2, hf⟩ := bnd hf
  refine Wp.nI' h2 ?_
  refine Wp.istore_n (pc := 6) (lo' := [(0, .ref 39), (1, .ref x1), (3, .int v1)]) [1, 2, 0] rfl (by decide) rfl dX9_planRam_6 ?_
  refine Wp.aload_n (pc := 7) 0 rfl rfl dX9_planRam_7 ?_
  refine Wp.getR2 (pc := 8) (hG.r 39 1 rfl) (hG.t 39 rfl) fk_RX9_9 rfl dX9_planRam_8 ?_
  refine Wp.iconst (pc := 11) (0 : Int32) (by decide) dX9_planRam_11 ?_
  refine Wp.aload_n (pc := 12) 1 rfl rfl dX9_planRam_12 ?_
  refine Wp.getJ2 (pc := 13) (hG.wt hx1) fk_RX9_17 rfl dX9_planRam_13 ?_
  obtain ⟨m3, h4, hf⟩ := bnd hf
  refine Wp.last2 (pc := 16) h4 (hG.a 40 1 rfl) dX9_planRam_16 ?_
  refine Wp.iconst (pc := 17) (1 : Int32) (by decide) dX9_planRam_17 ?_
  refine Wp.istore (pc := 18) (lo' := [(0, .ref 39), (1, .ref x1), (3, .int v1), (4, .int (1 : Int32))]) [1, 2, 3, 0] rfl (by decide) dX9_planRam_18 ?_
  obtain ⟨e5, h6, hf⟩ := bnd hf
  refine wl_X9_planRam_20 hX hG hx1 h6 ?_
  refine Wp.aload_n (pc := 82) 0 rfl rfl dX9_planRam_82 ?_
  refine Wp.iconst (pc := 83) (0 : Int32) (by decide) dX9_planRam_83 ?_
  obtain ⟨m7, h8, hf⟩ := bnd hf
  refine Wp.ptI2 (pc := 84) h8 (hG.t 39 rfl) fk_RX9_61 ff_RX9_8_4 rfl dX9_planRam_84 ?_
  refine Wp.iload_n (pc := 87) 2 rfl rfl dX9_planRam_87 ?_
  refine Wp.istore (pc := 88) (lo' := [(0, .ref 39), (1, .ref x1), (3, .int v1), (4, .int v1)]) [1, 2, 3, 0] rfl (by decide) dX9_planRam_88 ?_
  obtain ⟨e9, h10, hf⟩ := bnd hf
  refine wl_X9_planRam_90 hX hG hx1 h10 ?_
  exact w_X9_planRam_199 hX hG hf hk
theorem c_X9_planRam {T : List Dsc} {R : RM} {c e : Nat} {x1 : Nat} {x2 : Int32} {m : M2} {r : M2} (hG : Geo T R c e) (hx1 : cw x1) (hf : F_X9_planRam c x1 x2 m = some r) : Ct 7 yX9_planRam cX9_planRam 7 none T (mk m R) [.ref 39, .ref x1, .int x2] none (mk r R) := Ct.ofV (r := mk r R) (by decide +kernel) (Nat.le_of_ble_eq_true rfl) (fun X hX hk => w_X9_planRam hX hG hx1 hf hk)
theorem dX9_weighed_0 : decode cX9_weighed 0 = .ok (.iload 4, 2) := by decide +kernel
theorem dX9_weighed_2 : decode cX9_weighed 2 = .ok (.ifCond .gt 13, 3) := by decide +kernel
theorem dX9_weighed_5 : decode cX9_weighed 5 = .ok (.aload_n 0, 1) := by decide +kernel
theorem dX9_weighed_6 : decode cX9_weighed 6 = .ok (.getfield 13, 3) := by decide +kernel
theorem dX9_weighed_9 : decode cX9_weighed 9 = .ok (.lload_n 2, 1) := by decide +kernel
theorem dX9_weighed_10 : decode cX9_weighed 10 = .ok (.invokevirtual 80, 3) := by decide +kernel
theorem dX9_weighed_13 : decode cX9_weighed 13 = .ok (.i2l, 1) := by decide +kernel
theorem dX9_weighed_14 : decode cX9_weighed 14 = .ok (.lreturn, 1) := by decide +kernel
theorem dX9_weighed_15 : decode cX9_weighed 15 = .ok (.aload_n 0, 1) := by decide +kernel
theorem dX9_weighed_16 : decode cX9_weighed 16 = .ok (.getfield 13, 3) := by decide +kernel
theorem dX9_weighed_19 : decode cX9_weighed 19 = .ok (.lload_n 2, 1) := by decide +kernel
theorem dX9_weighed_20 : decode cX9_weighed 20 = .ok (.aload_n 1, 1) := by decide +kernel
theorem dX9_weighed_21 : decode cX9_weighed 21 = .ok (.getfield 23, 3) := by decide +kernel
theorem dX9_weighed_24 : decode cX9_weighed 24 = .ok (.aload_n 1, 1) := by decide +kernel
theorem dX9_weighed_25 : decode cX9_weighed 25 = .ok (.getfield 27, 3) := by decide +kernel
theorem dX9_weighed_28 : decode cX9_weighed 28 = .ok (.iconst 1, 1) := by decide +kernel
theorem dX9_weighed_29 : decode cX9_weighed 29 = .ok (.invokevirtual 31, 3) := by decide +kernel
theorem dX9_weighed_32 : decode cX9_weighed 32 = .ok (.lstore 7, 2) := by decide +kernel
theorem dX9_weighed_34 : decode cX9_weighed 34 = .ok (.aload_n 0, 1) := by decide +kernel
theorem dX9_weighed_35 : decode cX9_weighed 35 = .ok (.getfield 13, 3) := by decide +kernel
theorem dX9_weighed_38 : decode cX9_weighed 38 = .ok (.lload_n 2, 1) := by decide +kernel
theorem dX9_weighed_39 : decode cX9_weighed 39 = .ok (.aload_n 1, 1) := by decide +kernel
theorem dX9_weighed_40 : decode cX9_weighed 40 = .ok (.getfield 23, 3) := by decide +kernel
theorem dX9_weighed_43 : decode cX9_weighed 43 = .ok (.aload_n 1, 1) := by decide +kernel
theorem dX9_weighed_44 : decode cX9_weighed 44 = .ok (.getfield 27, 3) := by decide +kernel
theorem dX9_weighed_47 : decode cX9_weighed 47 = .ok (.iconst 0, 1) := by decide +kernel
theorem dX9_weighed_48 : decode cX9_weighed 48 = .ok (.invokevirtual 31, 3) := by decide +kernel
theorem dX9_weighed_51 : decode cX9_weighed 51 = .ok (.lstore 9, 2) := by decide +kernel
theorem dX9_weighed_53 : decode cX9_weighed 53 = .ok (.lload 7, 2) := by decide +kernel
theorem dX9_weighed_55 : decode cX9_weighed 55 = .ok (.lload 9, 2) := by decide +kernel
theorem dX9_weighed_57 : decode cX9_weighed 57 = .ok (.lcmp, 1) := by decide +kernel
theorem dX9_weighed_58 : decode cX9_weighed 58 = .ok (.ifCond .ne 23, 3) := by decide +kernel
theorem dX9_weighed_61 : decode cX9_weighed 61 = .ok (.iload 6, 2) := by decide +kernel
theorem dX9_weighed_63 : decode cX9_weighed 63 = .ok (.i2l, 1) := by decide +kernel
theorem dX9_weighed_64 : decode cX9_weighed 64 = .ok (.aload_n 0, 1) := by decide +kernel
theorem dX9_weighed_65 : decode cX9_weighed 65 = .ok (.aload_n 1, 1) := by decide +kernel
theorem dX9_weighed_66 : decode cX9_weighed 66 = .ok (.lload 9, 2) := by decide +kernel
theorem dX9_weighed_68 : decode cX9_weighed 68 = .ok (.iload 4, 2) := by decide +kernel
theorem dX9_weighed_70 : decode cX9_weighed 70 = .ok (.iconst 1, 1) := by decide +kernel
theorem dX9_weighed_71 : decode cX9_weighed 71 = .ok (.isub, 1) := by decide +kernel
theorem dX9_weighed_72 : decode cX9_weighed 72 = .ok (.iload 5, 2) := by decide +kernel
theorem dX9_weighed_74 : decode cX9_weighed 74 = .ok (.iload 6, 2) := by decide +kernel
theorem dX9_weighed_76 : decode cX9_weighed 76 = .ok (.invokevirtual 84, 3) := by decide +kernel
theorem dX9_weighed_79 : decode cX9_weighed 79 = .ok (.lmul, 1) := by decide +kernel
theorem dX9_weighed_80 : decode cX9_weighed 80 = .ok (.lreturn, 1) := by decide +kernel
theorem dX9_weighed_81 : decode cX9_weighed 81 = .ok (.lconst 0, 1) := by decide +kernel
theorem dX9_weighed_82 : decode cX9_weighed 82 = .ok (.lstore 11, 2) := by decide +kernel
theorem dX9_weighed_84 : decode cX9_weighed 84 = .ok (.iload 5, 2) := by decide +kernel
theorem dX9_weighed_86 : decode cX9_weighed 86 = .ok (.ifCond .le 27, 3) := by decide +kernel
theorem dX9_weighed_89 : decode cX9_weighed 89 = .ok (.lload 11, 2) := by decide +kernel
theorem dX9_weighed_91 : decode cX9_weighed 91 = .ok (.iload 5, 2) := by decide +kernel
theorem dX9_weighed_93 : decode cX9_weighed 93 = .ok (.i2l, 1) := by decide +kernel
theorem dX9_weighed_94 : decode cX9_weighed 94 = .ok (.aload_n 0, 1) := by decide +kernel
theorem dX9_weighed_95 : decode cX9_weighed 95 = .ok (.aload_n 1, 1) := by decide +kernel
theorem dX9_weighed_96 : decode cX9_weighed 96 = .ok (.lload 7, 2) := by decide +kernel
theorem dX9_weighed_98 : decode cX9_weighed 98 = .ok (.iload 4, 2) := by decide +kernel
theorem dX9_weighed_100 : decode cX9_weighed 100 = .ok (.iconst 1, 1) := by decide +kernel
theorem dX9_weighed_101 : decode cX9_weighed 101 = .ok (.isub, 1) := by decide +kernel
theorem dX9_weighed_102 : decode cX9_weighed 102 = .ok (.iload 5, 2) := by decide +kernel
theorem dX9_weighed_104 : decode cX9_weighed 104 = .ok (.iload 6, 2) := by decide +kernel
theorem dX9_weighed_106 : decode cX9_weighed 106 = .ok (.invokevirtual 84, 3) := by decide +kernel
theorem dX9_weighed_109 : decode cX9_weighed 109 = .ok (.lmul, 1) := by decide +kernel
theorem dX9_weighed_110 : decode cX9_weighed 110 = .ok (.ladd, 1) := by decide +kernel
theorem dX9_weighed_111 : decode cX9_weighed 111 = .ok (.lstore 11, 2) := by decide +kernel
theorem dX9_weighed_113 : decode cX9_weighed 113 = .ok (.iload 5, 2) := by decide +kernel
theorem dX9_weighed_115 : decode cX9_weighed 115 = .ok (.iload 6, 2) := by decide +kernel
theorem dX9_weighed_117 : decode cX9_weighed 117 = .ok (.if_icmp .ge 30, 3) := by decide +kernel
theorem dX9_weighed_120 : decode cX9_weighed 120 = .ok (.lload 11, 2) := by decide +kernel
theorem dX9_weighed_122 : decode cX9_weighed 122 = .ok (.iload 6, 2) := by decide +kernel
theorem dX9_weighed_124 : decode cX9_weighed 124 = .ok (.iload 5, 2) := by decide +kernel
theorem dX9_weighed_126 : decode cX9_weighed 126 = .ok (.isub, 1) := by decide +kernel
theorem dX9_weighed_127 : decode cX9_weighed 127 = .ok (.i2l, 1) := by decide +kernel
theorem dX9_weighed_128 : decode cX9_weighed 128 = .ok (.aload_n 0, 1) := by decide +kernel
theorem dX9_weighed_129 : decode cX9_weighed 129 = .ok (.aload_n 1, 1) := by decide +kernel
theorem dX9_weighed_130 : decode cX9_weighed 130 = .ok (.lload 9, 2) := by decide +kernel
theorem dX9_weighed_132 : decode cX9_weighed 132 = .ok (.iload 4, 2) := by decide +kernel
theorem dX9_weighed_134 : decode cX9_weighed 134 = .ok (.iconst 1, 1) := by decide +kernel
theorem dX9_weighed_135 : decode cX9_weighed 135 = .ok (.isub, 1) := by decide +kernel
theorem dX9_weighed_136 : decode cX9_weighed 136 = .ok (.iload 5, 2) := by decide +kernel
theorem dX9_weighed_138 : decode cX9_weighed 138 = .ok (.iload 6, 2) := by decide +kernel
theorem dX9_weighed_140 : decode cX9_weighed 140 = .ok (.invokevirtual 84, 3) := by decide +kernel
theorem dX9_weighed_143 : decode cX9_weighed 143 = .ok (.lmul, 1) := by decide +kernel
theorem dX9_weighed_144 : decode cX9_weighed 144 = .ok (.ladd, 1) := by decide +kernel
theorem dX9_weighed_145 : decode cX9_weighed 145 = .ok (.lstore 11, 2) := by decide +kernel
theorem dX9_weighed_147 : decode cX9_weighed 147 = .ok (.lload 11, 2) := by decide +kernel
theorem dX9_weighed_149 : decode cX9_weighed 149 = .ok (.lreturn, 1) := by decide +kernel
set_option maxHeartbeats 4000000 in
set_option maxRecDepth 100000 in
theorem w_X9_weighed_147 {E : Nat → Nat → Int64 → Int32 → Int32 → Int32 → M2 → Option (Int64 × M2)} {dE : Nat} {X : CX} {T : List Dsc} {R : RM} {c e : Nat} {n1 n2 : Nat} {x11 : Int64} {m : M2} {r : (Int64 × M2)} (hX : XR X (dE + 1) n1 n2) (hG : Geo T R c e) (hdE : 10 ≤ dE) (hE : ∀ {T : List Dsc} {R : RM} {c e : Nat} {x1 : Nat} {x2 : Int64} {x4 : Int32} {x5 : Int32} {x6 : Int32} {m : M2} {r : (Int64 × M2)}, Geo T R c e → cw x1 → E c x1 x2 x4 x5 x6 m = some r → Ct dE yX9_weighed cX9_weighed 13 (some .long) T (mk m R) [.ref 39, .ref x1, .long x2, .int x4, .int x5, .int x6] (some (.long r.1)) (mk r.2 R)) (hf : f_X9_weighed_147 E c x11 m = some r) (hk : FnJ X cX9_weighed RX9 13 T n1 n2 (r.1, mk r.2 R)) : Wp X cX9_weighed RX9 13 T (mk m R) n1 n2 147 [(11, .long x11)] [] := by
  unfold f_X9_weighed_147 at hf
  refine Wp.lload (pc := 147) 0 rfl dX9_weighed_147 ?_
  cases hf
  exact hk _ _ dX9_weighed_149
set_option maxHeartbeats 4000000 in
set_option maxRecDepth 100000 in
theorem w_X9_weighed_113 {E : Nat → Nat → Int64 → Int32 → Int32 → Int32 → M2 → Option (Int64 × M2)} {dE : Nat} {X : CX} {T : List Dsc} {R : RM} {c e : Nat} {n1 n2 : Nat} {x1 : Nat} {x4 : Int32} {x5 : Int32} {x6 : Int32} {x9 : Int64} {x11 : Int64} {m : M2} {r : (Int64 × M2)} (hX : XR X (dE + 1) n1 n2) (hG : Geo T R c e) (hdE : 10 ≤ dE) (hE : ∀ {T : List Dsc} {R : RM} {c e : Nat} {x1 : Nat} {x2 : Int64} {x4 : Int32} {x5 : Int32} {x6 : Int32} {m : M2} {r : (Int64 × M2)}, Geo T R c e → cw x1 → E c x1 x2 x4 x5 x6 m = some r → Ct dE yX9_weighed cX9_weighed 13 (some .long) T (mk m R) [.ref 39, .ref x1, .long x2, .int x4, .int x5, .int x6] (some (.long r.1)) (mk r.2 R)) (hx1 : cw x1) (hf : f_X9_weighed_113 E c x1 x4 x5 x6 x9 x11 m = some r) (hk : FnJ X cX9_weighed RX9 13 T n1 n2 (r.1, mk r.2 R)) : Wp X cX9_weighed RX9 13 T (mk m R) n1 n2 113 [(0, .ref 39), (1, .ref x1), (4, .int x4), (5, .int x5), (6, .int x6), (9, .long x9), (11, .long x11)] [] := by
  unfold f_X9_weighed_113 at hf
  refine Wp.iload (pc := 113) 3 rfl dX9_weighed_113 ?_
  refine Wp.iload (pc := 115) 4 rfl dX9_weighed_115 ?_
  refine Wp.icmp_ge (pc := 117) 147 dX9_weighed_117 (by decide) (fun hc1 => ?_) (fun hc1 => ?_)
  · rw [if_pos hc1] at hf
    refine Wp.lo' (lo' := [(11, .long x11)]) [6] rfl ?_
    exact w_X9_weighed_147 hX hG hdE hE hf hk
  · rw [if_neg hc1] at hf
    refine Wp.lload (pc := 120) 6 rfl dX9_weighed_120 ?_
    refine Wp.iload (pc := 122) 4 rfl dX9_weighed_122 ?_
    refine Wp.iload (pc := 124) 3 rfl dX9_weighed_124 ?_
    refine Wp.isub (pc := 126) dX9_weighed_126 ?_
    refine Wp.i2l (pc := 127) dX9_weighed_127 ?_
    refine Wp.aload_n (pc := 128) 0 rfl rfl dX9_weighed_128 ?_
    refine Wp.aload_n (pc := 129) 1 rfl rfl dX9_weighed_129 ?_
    refine Wp.lload (pc := 130) 5 rfl dX9_weighed_130 ?_
    refine Wp.iload (pc := 132) 2 rfl dX9_weighed_132 ?_
    refine Wp.iconst (pc := 134) (1 : Int32) (by decide) dX9_weighed_134 ?_
    refine Wp.isub (pc := 135) dX9_weighed_135 ?_
    refine Wp.iload (pc := 136) 3 rfl dX9_weighed_136 ?_
    refine Wp.iload (pc := 138) 4 rfl dX9_weighed_138 ?_
    obtain ⟨c2, h3, hf⟩ := bnd hf
    refine Wp.callVl (pc := 140) (st := [.long (x6 - x5).toInt64, .long x11]) (as := [.ref x1, .long x9, .int (x4 - (1 : Int32)), .int x5, .int x6]) (hE hG hx1 h3) ml_RX9_84 mv_X9_weighed mb_X9_weighed hX (by omega) (by decide) rfl (hG.t 39 rfl) rfl (by simp [Value.category]) dX9_weighed_140 rfl ?_
    refine Wp.lmul (pc := 143) dX9_weighed_143 ?_
    refine Wp.ladd (pc := 144) dX9_weighed_144 ?_
    obtain ⟨v4, h5, hf⟩ := bnd hf
    refine Wp.nJ' h5 ?_
    refine Wp.lstore (pc := 145) (lo' := [(11, .long v4)]) [0] rfl (by decide) dX9_weighed_145 ?_
    exact w_X9_weighed_147 hX hG hdE hE hf hk
set_option maxHeartbeats 4000000 in
set_option maxRecDepth 100000 in
theorem w_X9_weighed {E : Nat → Nat → Int64 → Int32 → Int32 → Int32 → M2 → Option (Int64 × M2)} {dE : Nat} {X : CX} {T : List Dsc} {R : RM} {c e : Nat} {n1 n2 : Nat} {x1 : Nat} {x2 : Int64} {x4 : Int32} {x5 : Int32} {x6 : Int32} {m : M2} {r : (Int64 × M2)} (hX : XR X (dE + 1) n1 n2) (hG : Geo T R c e) (hdE : 10 ≤ dE) (hE : ∀ {T : List Dsc} {R : RM} {c e : Nat} {x1 : Nat} {x2 : Int64} {x4 : Int32} {x5 : Int32} {x6 : Int32} {m : M2} {r : (Int64 × M2)}, Geo T R c e → cw x1 → E c x1 x2 x4 x5 x6 m = some r → Ct dE yX9_weighed cX9_weighed 13 (some .long) T (mk m R) [.ref 39, .ref x1, .long x2, .int x4, .int x5, .int x6] (some (.long r.1)) (mk r.2 R)) (hx1 : cw x1) (hf : B_X9_weighed E c x1 x2 x4 x5 x6 m = some r) (hk : FnJ X cX9_weighed RX9 13 T n1 n2 (r.1, mk r.2 R)) : Wp X cX9_weighed RX9 13 T (mk m R) n1 n2 0 [(0, .ref 39), (1, .ref x1), (2, .long x2), (4, .int x4), (5, .int x5), (6, .int x6)] [] := by
  unfold B_X9_weighed at hf
  refine Wp.iload (pc := 0) 3 rfl dX9_weighed_0 ?_
  refine Wp.if_gt (pc := 2) 15 dX9_weighed_2 (by decide) (fun hc1 => ?_) (fun hc1 => ?_)
  · rw [if_pos hc1] at hf
    refine Wp.aload_n (pc := 15) 0 rfl rfl dX9_weighed_15 ?_
    refine Wp.getR2 (pc := 16) (hG.r 39 0 rfl) (hG.t 39 rfl) fk_RX9_13 rfl dX9_weighed_16 ?_
    refine Wp.lload_n (pc := 19) 2 rfl rfl dX9_weighed_19 ?_
    refine Wp.aload_n (pc := 20) 1 rfl rfl dX9_weighed_20 ?_
    refine Wp.getR2 (pc := 21) (hG.wr hx1 2 (Or.inr rfl)) (hG.wt hx1) fk_RX9_23 rfl dX9_weighed_21 ?_
    refine Wp.aload_n (pc := 24) 1 rfl rfl dX9_weighed_24 ?_
    refine Wp.getI2 (pc := 25) (hG.wt hx1) fk_RX9_27 rfl dX9_weighed_25 ?_
    refine Wp.iconst (pc := 28) (1 : Int32) (by decide) dX9_weighed_28 ?_
    obtain ⟨c2, h3, hf⟩ := bnd hf
    refine Wp.callVl (pc := 29) (st := []) (as := [.long x2, .ref (x1 + 2), .int (hI m x1 3), .int (1 : Int32)]) (c_X5_stroke hG (hG.wa hx1 2 (Or.inr rfl)) h3) ml_RX9_31 mv_X5_stroke mb_X5_stroke hX (by omega) (by decide) rfl (hG.t 23 rfl) rfl (by simp) dX9_weighed_29 rfl ?_
    refine Wp.lstore (pc := 32) (lo' := [(0, .ref 39), (1, .ref x1), (2, .long x2), (4, .int x4), (5, .int x5), (6, .int x6), (7, .long c2.1)]) [1, 2, 3, 4, 5, 6, 0] rfl (by decide) dX9_weighed_32 ?_
    refine Wp.aload_n (pc := 34) 0 rfl rfl dX9_weighed_34 ?_
    refine Wp.getR2 (pc := 35) (hG.r 39 0 rfl) (hG.t 39 rfl) fk_RX9_13 rfl dX9_weighed_35 ?_
    refine Wp.lload_n (pc := 38) 2 rfl rfl dX9_weighed_38 ?_
    refine Wp.aload_n (pc := 39) 1 rfl rfl dX9_weighed_39 ?_
    refine Wp.getR2 (pc := 40) (hG.wr hx1 2 (Or.inr rfl)) (hG.wt hx1) fk_RX9_23 rfl dX9_weighed_40 ?_
    refine Wp.aload_n (pc := 43) 1 rfl rfl dX9_weighed_43 ?_
    refine Wp.getI2 (pc := 44) (hG.wt hx1) fk_RX9_27 rfl dX9_weighed_44 ?_
    refine Wp.iconst (pc := 47) (0 : Int32) (by decide) dX9_weighed_47 ?_
    obtain ⟨c4, h5, hf⟩ := bnd hf
    refine Wp.callVl (pc := 48) (st := []) (as := [.long x2, .ref (x1 + 2), .int (hI c2.2 x1 3), .int (0 : Int32)]) (c_X5_stroke hG (hG.wa hx1 2 (Or.inr rfl)) h5) ml_RX9_31 mv_X5_stroke mb_X5_stroke hX (by omega) (by decide) rfl (hG.t 23 rfl) rfl (by simp) dX9_weighed_48 rfl ?_
    refine Wp.lstore (pc := 51) (lo' := [(0, .ref 39), (1, .ref x1), (4, .int x4), (5, .int x5), (6, .int x6), (7, .long c2.1), (9, .long c4.1)]) [1, 2, 4, 5, 6, 7, 0] rfl (by decide) dX9_weighed_51 ?_
    refine Wp.lload (pc := 53) 5 rfl dX9_weighed_53 ?_
    refine Wp.lload (pc := 55) 6 rfl dX9_weighed_55 ?_
    refine Wp.lcmp (pc := 57) dX9_weighed_57 ?_
    refine Wp.if_ne (pc := 58) 81 dX9_weighed_58 (by decide) (fun hc6 => ?_) (fun hc6 => ?_)
    · rw [if_neg hc6] at hf
      refine Wp.lconst (pc := 81) (0 : Int64) (by decide) dX9_weighed_81 ?_
      refine Wp.lstore (pc := 82) (lo' := [(0, .ref 39), (1, .ref x1), (4, .int x4), (5, .int x5), (6, .int x6), (7, .long c2.1), (9, .long c4.1), (11, .long (0 : Int64))]) [1, 2, 3, 4, 5, 6, 7, 0] rfl (by decide) dX9_weighed_82 ?_
      refine Wp.iload (pc := 84) 3 rfl dX9_weighed_84 ?_
      refine Wp.if_le (pc := 86) 113 dX9_weighed_86 (by decide) (fun hc7 => ?_) (fun hc7 => ?_)
      · rw [if_pos hc7] at hf
        refine Wp.lo' (lo' := [(0, .ref 39), (1, .ref x1), (4, .int x4), (5, .int x5), (6, .int x6), (9, .long c4.1), (11, .long (0 : Int64))]) [0, 1, 2, 3, 4, 6, 7] rfl ?_
        exact w_X9_weighed_113 hX hG hdE hE hx1 hf hk
      · rw [if_neg hc7] at hf
        refine Wp.lload (pc := 89) 7 rfl dX9_weighed_89 ?_
        refine Wp.iload (pc := 91) 3 rfl dX9_weighed_91 ?_
        refine Wp.i2l (pc := 93) dX9_weighed_93 ?_
        refine Wp.aload_n (pc := 94) 0 rfl rfl dX9_weighed_94 ?_
        refine Wp.aload_n (pc := 95) 1 rfl rfl dX9_weighed_95 ?_
        refine Wp.lload (pc := 96) 5 rfl dX9_weighed_96 ?_
        refine Wp.iload (pc := 98) 2 rfl dX9_weighed_98 ?_
        refine Wp.iconst (pc := 100) (1 : Int32) (by decide) dX9_weighed_100 ?_
        refine Wp.isub (pc := 101) dX9_weighed_101 ?_
        refine Wp.iload (pc := 102) 3 rfl dX9_weighed_102 ?_
        refine Wp.iload (pc := 104) 4 rfl dX9_weighed_104 ?_
        obtain ⟨c8, h9, hf⟩ := bnd hf
        refine Wp.callVl (pc := 106) (st := [.long x5.toInt64, .long (0 : Int64)]) (as := [.ref x1, .long c2.1, .int (x4 - (1 : Int32)), .int x5, .int x6]) (hE hG hx1 h9) ml_RX9_84 mv_X9_weighed mb_X9_weighed hX (by omega) (by decide) rfl (hG.t 39 rfl) rfl (by simp [Value.category]) dX9_weighed_106 rfl ?_
        refine Wp.lmul (pc := 109) dX9_weighed_109 ?_
        refine Wp.ladd (pc := 110) dX9_weighed_110 ?_
        obtain ⟨v10, h11, hf⟩ := bnd hf
        refine Wp.nJ' h11 ?_
        refine Wp.lstore (pc := 111) (lo' := [(0, .ref 39), (1, .ref x1), (4, .int x4), (5, .int x5), (6, .int x6), (9, .long c4.1), (11, .long v10)]) [1, 2, 3, 4, 5, 7, 0] rfl (by decide) dX9_weighed_111 ?_
        exact w_X9_weighed_113 hX hG hdE hE hx1 hf hk
    · rw [if_pos hc6] at hf
      refine Wp.iload (pc := 61) 4 rfl dX9_weighed_61 ?_
      refine Wp.i2l (pc := 63) dX9_weighed_63 ?_
      refine Wp.aload_n (pc := 64) 0 rfl rfl dX9_weighed_64 ?_
      refine Wp.aload_n (pc := 65) 1 rfl rfl dX9_weighed_65 ?_
      refine Wp.lload (pc := 66) 6 rfl dX9_weighed_66 ?_
      refine Wp.iload (pc := 68) 2 rfl dX9_weighed_68 ?_
      refine Wp.iconst (pc := 70) (1 : Int32) (by decide) dX9_weighed_70 ?_
      refine Wp.isub (pc := 71) dX9_weighed_71 ?_
      refine Wp.iload (pc := 72) 3 rfl dX9_weighed_72 ?_
      refine Wp.iload (pc := 74) 4 rfl dX9_weighed_74 ?_
      obtain ⟨c12, h13, hf⟩ := bnd hf
      refine Wp.callVl (pc := 76) (st := [.long x6.toInt64]) (as := [.ref x1, .long c4.1, .int (x4 - (1 : Int32)), .int x5, .int x6]) (hE hG hx1 h13) ml_RX9_84 mv_X9_weighed mb_X9_weighed hX (by omega) (by decide) rfl (hG.t 39 rfl) rfl (by simp [Value.category]) dX9_weighed_76 rfl ?_
      refine Wp.lmul (pc := 79) dX9_weighed_79 ?_
      cases hf
      exact hk _ _ dX9_weighed_80
  · rw [if_neg hc1] at hf
    refine Wp.aload_n (pc := 5) 0 rfl rfl dX9_weighed_5 ?_
    refine Wp.getR2 (pc := 6) (hG.r 39 0 rfl) (hG.t 39 rfl) fk_RX9_13 rfl dX9_weighed_6 ?_
    refine Wp.lload_n (pc := 9) 2 rfl rfl dX9_weighed_9 ?_
    obtain ⟨c14, h15, hf⟩ := bnd hf
    refine Wp.callVi (pc := 10) (st := []) (as := [.long x2]) (c_X5_wayOf hG h15) ml_RX9_80 mv_X5_wayOf mb_X5_wayOf hX (by omega) (by decide) rfl (hG.t 23 rfl) rfl (by simp) dX9_weighed_10 rfl ?_
    refine Wp.i2l (pc := 13) dX9_weighed_13 ?_
    cases hf
    exact hk _ _ dX9_weighed_14
theorem b_X9_weighed {E : Nat → Nat → Int64 → Int32 → Int32 → Int32 → M2 → Option (Int64 × M2)} {dE : Nat} {T : List Dsc} {R : RM} {c e : Nat} {x1 : Nat} {x2 : Int64} {x4 : Int32} {x5 : Int32} {x6 : Int32} {m : M2} {r : (Int64 × M2)} (hG : Geo T R c e) (hdE : 10 ≤ dE) (hE : ∀ {T : List Dsc} {R : RM} {c e : Nat} {x1 : Nat} {x2 : Int64} {x4 : Int32} {x5 : Int32} {x6 : Int32} {m : M2} {r : (Int64 × M2)}, Geo T R c e → cw x1 → E c x1 x2 x4 x5 x6 m = some r → Ct dE yX9_weighed cX9_weighed 13 (some .long) T (mk m R) [.ref 39, .ref x1, .long x2, .int x4, .int x5, .int x6] (some (.long r.1)) (mk r.2 R)) (hx1 : cw x1) (hf : B_X9_weighed E c x1 x2 x4 x5 x6 m = some r) : Ct (dE + 1) yX9_weighed cX9_weighed 13 (some .long) T (mk m R) [.ref 39, .ref x1, .long x2, .int x4, .int x5, .int x6] (some (.long r.1)) (mk r.2 R) := Ct.ofJ (r := (r.1, mk r.2 R)) (by decide +kernel) (Nat.le_of_ble_eq_true rfl) (fun X hX hk => w_X9_weighed hX hG hdE hE hx1 hf hk)
theorem c_X9_weighed : ∀ {n : Nat}, ∀ {T : List Dsc} {R : RM} {c e : Nat} {x1 : Nat} {x2 : Int64} {x4 : Int32} {x5 : Int32} {x6 : Int32} {m : M2} {r : (Int64 × M2)}, Geo T R c e → cw x1 → F_X9_weighed n c x1 x2 x4 x5 x6 m = some r → Ct (20 + 1 * n) yX9_weighed cX9_weighed 13 (some .long) T (mk m R) [.ref 39, .ref x1, .long x2, .int x4, .int x5, .int x6] (some (.long r.1)) (mk r.2 R) := by
  intro n
  induction n with
  | zero => intro T R c e x1 x2 x4 x5 x6 m r hG hx1 hf; cases hf
  | succ n ih => intro T R c e x1 x2 x4 x5 x6 m r hG hx1 hf; exact b_X9_weighed (E := F_X9_weighed n) (dE := 20 + 1 * n) hG (by omega) ih hx1 hf
theorem dX10_isStroke_0 : decode cX10_isStroke 0 = .ok (.iload_n 0, 1) := by decide +kernel
theorem dX10_isStroke_1 : decode cX10_isStroke 1 = .ok (.ifCond .lt 13, 3) := by decide +kernel
theorem dX10_isStroke_4 : decode cX10_isStroke 4 = .ok (.iload_n 0, 1) := by decide +kernel
theorem dX10_isStroke_5 : decode cX10_isStroke 5 = .ok (.bipush 99, 2) := by decide +kernel
theorem dX10_isStroke_7 : decode cX10_isStroke 7 = .ok (.if_icmp .gt 7, 3) := by decide +kernel
theorem dX10_isStroke_10 : decode cX10_isStroke 10 = .ok (.iconst 1, 1) := by decide +kernel
theorem dX10_isStroke_11 : decode cX10_isStroke 11 = .ok (.goto 4, 3) := by decide +kernel
theorem dX10_isStroke_14 : decode cX10_isStroke 14 = .ok (.iconst 0, 1) := by decide +kernel
theorem dX10_isStroke_15 : decode cX10_isStroke 15 = .ok (.ireturn, 1) := by decide +kernel
set_option maxHeartbeats 4000000 in
set_option maxRecDepth 100000 in
theorem w_X10_isStroke_15 {X : CX} {T : List Dsc} {R : RM} {c e : Nat} {n1 n2 : Nat} {s0 : Int32} {m : M2} {r : (Int32 × M2)} (hX : XR X 1 n1 n2) (hG : Geo T R c e) (hf : f_X10_isStroke_15 s0 m = some r) (hk : FnZ X cX10_isStroke RX10 1 T n1 n2 (r.1, mk r.2 R)) : Wp X cX10_isStroke RX10 1 T (mk m R) n1 n2 15 [] [.int s0] := by
  unfold f_X10_isStroke_15 at hf
  obtain ⟨v1, h2, hf⟩ := bnd hf
  refine Wp.zb' h2 (fun h2 => ?_)
  cases hf
  exact hk _ _ h2 dX10_isStroke_15
set_option maxHeartbeats 4000000 in
set_option maxRecDepth 100000 in
theorem w_X10_isStroke_14 {X : CX} {T : List Dsc} {R : RM} {c e : Nat} {n1 n2 : Nat} {m : M2} {r : (Int32 × M2)} (hX : XR X 1 n1 n2) (hG : Geo T R c e) (hf : f_X10_isStroke_14 m = some r) (hk : FnZ X cX10_isStroke RX10 1 T n1 n2 (r.1, mk r.2 R)) : Wp X cX10_isStroke RX10 1 T (mk m R) n1 n2 14 [] [] := by
  unfold f_X10_isStroke_14 at hf
  refine Wp.iconst (pc := 14) (0 : Int32) (by decide) dX10_isStroke_14 ?_
  exact w_X10_isStroke_15 hX hG hf hk
set_option maxHeartbeats 4000000 in
set_option maxRecDepth 100000 in
theorem w_X10_isStroke {X : CX} {T : List Dsc} {R : RM} {c e : Nat} {n1 n2 : Nat} {x0 : Int32} {m : M2} {r : (Int32 × M2)} (hX : XR X 1 n1 n2) (hG : Geo T R c e) (hf : F_X10_isStroke x0 m = some r) (hk : FnZ X cX10_isStroke RX10 1 T n1 n2 (r.1, mk r.2 R)) : Wp X cX10_isStroke RX10 1 T (mk m R) n1 n2 0 [(0, .int x0)] [] := by
  unfold F_X10_isStroke at hf
  refine Wp.iload_n (pc := 0) 0 rfl rfl dX10_isStroke_0 ?_
  refine Wp.if_lt (pc := 1) 14 dX10_isStroke_1 (by decide) (fun hc1 => ?_) (fun hc1 => ?_)
  · rw [if_pos hc1] at hf
    refine Wp.lo' (lo' := []) [] rfl ?_
    exact w_X10_isStroke_14 hX hG hf hk
  · rw [if_neg hc1] at hf
    refine Wp.iload_n (pc := 4) 0 rfl rfl dX10_isStroke_4 ?_
    refine Wp.bipush (pc := 5) (99 : Int32) (by decide) dX10_isStroke_5 ?_
    refine Wp.icmp_gt (pc := 7) 14 dX10_isStroke_7 (by decide) (fun hc2 => ?_) (fun hc2 => ?_)
    · rw [if_pos hc2] at hf
      refine Wp.lo' (lo' := []) [] rfl ?_
      exact w_X10_isStroke_14 hX hG hf hk
    · rw [if_neg hc2] at hf
      refine Wp.iconst (pc := 10) (1 : Int32) (by decide) dX10_isStroke_10 ?_
      refine Wp.goto (pc := 11) 15 dX10_isStroke_11 (by decide) ?_
      refine Wp.lo' (lo' := []) [] rfl ?_
      exact w_X10_isStroke_15 hX hG hf hk
theorem c_X10_isStroke {T : List Dsc} {R : RM} {c e : Nat} {x0 : Int32} {m : M2} {r : (Int32 × M2)} (hG : Geo T R c e) (hf : F_X10_isStroke x0 m = some r) : Ct 1 yX10_isStroke cX10_isStroke 1 (some .boolean) T (mk m R) [.int x0] (some (.int r.1)) (mk r.2 R) := Ct.ofZ (r := (r.1, mk r.2 R)) (by decide +kernel) (Nat.le_of_ble_eq_true rfl) (fun X hX hk => w_X10_isStroke hX hG hf hk)
theorem dX10_isQuestion_0 : decode cX10_isQuestion 0 = .ok (.iload_n 1, 1) := by decide +kernel
theorem dX10_isQuestion_1 : decode cX10_isQuestion 1 = .ok (.ifCond .lt 24, 3) := by decide +kernel
theorem dX10_isQuestion_4 : decode cX10_isQuestion 4 = .ok (.iload_n 1, 1) := by decide +kernel
theorem dX10_isQuestion_5 : decode cX10_isQuestion 5 = .ok (.iconst 2, 1) := by decide +kernel
theorem dX10_isQuestion_6 : decode cX10_isQuestion 6 = .ok (.if_icmp .gt 19, 3) := by decide +kernel
theorem dX10_isQuestion_9 : decode cX10_isQuestion 9 = .ok (.iload_n 2, 1) := by decide +kernel
theorem dX10_isQuestion_10 : decode cX10_isQuestion 10 = .ok (.ifCond .lt 15, 3) := by decide +kernel
theorem dX10_isQuestion_13 : decode cX10_isQuestion 13 = .ok (.iload_n 2, 1) := by decide +kernel
theorem dX10_isQuestion_14 : decode cX10_isQuestion 14 = .ok (.aload_n 0, 1) := by decide +kernel
theorem dX10_isQuestion_15 : decode cX10_isQuestion 15 = .ok (.getfield 31, 3) := by decide +kernel
theorem dX10_isQuestion_18 : decode cX10_isQuestion 18 = .ok (.if_icmp .gt 7, 3) := by decide +kernel
theorem dX10_isQuestion_21 : decode cX10_isQuestion 21 = .ok (.iconst 1, 1) := by decide +kernel
theorem dX10_isQuestion_22 : decode cX10_isQuestion 22 = .ok (.goto 4, 3) := by decide +kernel
theorem dX10_isQuestion_25 : decode cX10_isQuestion 25 = .ok (.iconst 0, 1) := by decide +kernel
theorem dX10_isQuestion_26 : decode cX10_isQuestion 26 = .ok (.ireturn, 1) := by decide +kernel
set_option maxHeartbeats 4000000 in
set_option maxRecDepth 100000 in
theorem w_X10_isQuestion_26 {X : CX} {T : List Dsc} {R : RM} {c e : Nat} {n1 n2 : Nat} {s0 : Int32} {m : M2} {r : (Int32 × M2)} (hX : XR X 1 n1 n2) (hG : Geo T R c e) (hf : f_X10_isQuestion_26 c s0 m = some r) (hk : FnZ X cX10_isQuestion RX10 3 T n1 n2 (r.1, mk r.2 R)) : Wp X cX10_isQuestion RX10 3 T (mk m R) n1 n2 26 [] [.int s0] := by
  unfold f_X10_isQuestion_26 at hf
  obtain ⟨v1, h2, hf⟩ := bnd hf
  refine Wp.zb' h2 (fun h2 => ?_)
  cases hf
  exact hk _ _ h2 dX10_isQuestion_26
set_option maxHeartbeats 4000000 in
set_option maxRecDepth 100000 in
theorem w_X10_isQuestion_25 {X : CX} {T : List Dsc} {R : RM} {c e : Nat} {n1 n2 : Nat} {m : M2} {r : (Int32 × M2)} (hX : XR X 1 n1 n2) (hG : Geo T R c e) (hf : f_X10_isQuestion_25 c m = some r) (hk : FnZ X cX10_isQuestion RX10 3 T n1 n2 (r.1, mk r.2 R)) : Wp X cX10_isQuestion RX10 3 T (mk m R) n1 n2 25 [] [] := by
  unfold f_X10_isQuestion_25 at hf
  refine Wp.iconst (pc := 25) (0 : Int32) (by decide) dX10_isQuestion_25 ?_
  exact w_X10_isQuestion_26 hX hG hf hk
set_option maxHeartbeats 4000000 in
set_option maxRecDepth 100000 in
theorem w_X10_isQuestion {X : CX} {T : List Dsc} {R : RM} {c e : Nat} {n1 n2 : Nat} {x1 : Int32} {x2 : Int32} {m : M2} {r : (Int32 × M2)} (hX : XR X 1 n1 n2) (hG : Geo T R c e) (hf : F_X10_isQuestion c x1 x2 m = some r) (hk : FnZ X cX10_isQuestion RX10 3 T n1 n2 (r.1, mk r.2 R)) : Wp X cX10_isQuestion RX10 3 T (mk m R) n1 n2 0 [(0, .ref 41), (1, .int x1), (2, .int x2)] [] := by
  unfold F_X10_isQuestion at hf
  refine Wp.iload_n (pc := 0) 1 rfl rfl dX10_isQuestion_0 ?_
  refine Wp.if_lt (pc := 1) 25 dX10_isQuestion_1 (by decide) (fun hc1 => ?_) (fun hc1 => ?_)
  · rw [if_pos hc1] at hf
    refine Wp.lo' (lo' := []) [] rfl ?_
    exact w_X10_isQuestion_25 hX hG hf hk
  · rw [if_neg hc1] at hf
    refine Wp.iload_n (pc := 4) 1 rfl rfl dX10_isQuestion_4 ?_
    refine Wp.iconst (pc := 5) (2 : Int32) (by decide) dX10_isQuestion_5 ?_
    refine Wp.icmp_gt (pc := 6) 25 dX10_isQuestion_6 (by decide) (fun hc2 => ?_) (fun hc2 => ?_)
    · rw [if_pos hc2] at hf
      refine Wp.lo' (lo' := []) [] rfl ?_
      exact w_X10_isQuestion_25 hX hG hf hk
    · rw [if_neg hc2] at hf
      refine Wp.iload_n (pc := 9) 2 rfl rfl dX10_isQuestion_9 ?_
      refine Wp.if_lt (pc := 10) 25 dX10_isQuestion_10 (by decide) (fun hc3 => ?_) (fun hc3 => ?_)
      · rw [if_pos hc3] at hf
        refine Wp.lo' (lo' := []) [] rfl ?_
        exact w_X10_isQuestion_25 hX hG hf hk
      · rw [if_neg hc3] at hf
        refine Wp.iload_n (pc := 13) 2 rfl rfl dX10_isQuestion_13 ?_
        refine Wp.aload_n (pc := 14) 0 rfl rfl dX10_isQuestion_14 ?_
        refine Wp.getI2 (pc := 15) (hG.t 41 rfl) fk_RX10_31 rfl dX10_isQuestion_15 ?_
        refine Wp.icmp_gt (pc := 18) 25 dX10_isQuestion_18 (by decide) (fun hc4 => ?_) (fun hc4 => ?_)
        · rw [if_pos hc4] at hf
          refine Wp.lo' (lo' := []) [] rfl ?_
          exact w_X10_isQuestion_25 hX hG hf hk
        · rw [if_neg hc4] at hf
          refine Wp.iconst (pc := 21) (1 : Int32) (by decide) dX10_isQuestion_21 ?_
          refine Wp.goto (pc := 22) 26 dX10_isQuestion_22 (by decide) ?_
          refine Wp.lo' (lo' := []) [] rfl ?_
          exact w_X10_isQuestion_26 hX hG hf hk
theorem c_X10_isQuestion {T : List Dsc} {R : RM} {c e : Nat} {x1 : Int32} {x2 : Int32} {m : M2} {r : (Int32 × M2)} (hG : Geo T R c e) (hf : F_X10_isQuestion c x1 x2 m = some r) : Ct 1 yX10_isQuestion cX10_isQuestion 3 (some .boolean) T (mk m R) [.ref 41, .int x1, .int x2] (some (.int r.1)) (mk r.2 R) := Ct.ofZ (r := (r.1, mk r.2 R)) (by decide +kernel) (Nat.le_of_ble_eq_true rfl) (fun X hX hk => w_X10_isQuestion hX hG hf hk)
theorem dX10_note_0 : decode cX10_note 0 = .ok (.aload_n 0, 1) := by decide +kernel
theorem dX10_note_1 : decode cX10_note 1 = .ok (.getfield 31, 3) := by decide +kernel
theorem dX10_note_4 : decode cX10_note 4 = .ok (.bipush 20, 2) := by decide +kernel
theorem dX10_note_6 : decode cX10_note 6 = .ok (.if_icmp .lt 5, 3) := by decide +kernel
theorem dX10_note_9 : decode cX10_note 9 = .ok (.iconst (-1), 1) := by decide +kernel
theorem dX10_note_10 : decode cX10_note 10 = .ok (.ireturn, 1) := by decide +kernel
theorem dX10_note_11 : decode cX10_note 11 = .ok (.aload_n 0, 1) := by decide +kernel
theorem dX10_note_12 : decode cX10_note 12 = .ok (.getfield 9, 3) := by decide +kernel
theorem dX10_note_15 : decode cX10_note 15 = .ok (.aload_n 0, 1) := by decide +kernel
theorem dX10_note_16 : decode cX10_note 16 = .ok (.getfield 31, 3) := by decide +kernel
theorem dX10_note_19 : decode cX10_note 19 = .ok (.iload_n 1, 1) := by decide +kernel
theorem dX10_note_20 : decode cX10_note 20 = .ok (.iastore, 1) := by decide +kernel
theorem dX10_note_21 : decode cX10_note 21 = .ok (.aload_n 0, 1) := by decide +kernel
theorem dX10_note_22 : decode cX10_note 22 = .ok (.getfield 15, 3) := by decide +kernel
theorem dX10_note_25 : decode cX10_note 25 = .ok (.aload_n 0, 1) := by decide +kernel
theorem dX10_note_26 : decode cX10_note 26 = .ok (.getfield 31, 3) := by decide +kernel
theorem dX10_note_29 : decode cX10_note 29 = .ok (.iload_n 2, 1) := by decide +kernel
theorem dX10_note_30 : decode cX10_note 30 = .ok (.iastore, 1) := by decide +kernel
theorem dX10_note_31 : decode cX10_note 31 = .ok (.aload_n 0, 1) := by decide +kernel
theorem dX10_note_32 : decode cX10_note 32 = .ok (.getfield 18, 3) := by decide +kernel
theorem dX10_note_35 : decode cX10_note 35 = .ok (.aload_n 0, 1) := by decide +kernel
theorem dX10_note_36 : decode cX10_note 36 = .ok (.getfield 31, 3) := by decide +kernel
theorem dX10_note_39 : decode cX10_note 39 = .ok (.iload_n 3, 1) := by decide +kernel
theorem dX10_note_40 : decode cX10_note 40 = .ok (.ifCond .eq 7, 3) := by decide +kernel
theorem dX10_note_43 : decode cX10_note 43 = .ok (.iconst 1, 1) := by decide +kernel
theorem dX10_note_44 : decode cX10_note 44 = .ok (.goto 4, 3) := by decide +kernel
theorem dX10_note_47 : decode cX10_note 47 = .ok (.iconst 0, 1) := by decide +kernel
theorem dX10_note_48 : decode cX10_note 48 = .ok (.iastore, 1) := by decide +kernel
theorem dX10_note_49 : decode cX10_note 49 = .ok (.aload_n 0, 1) := by decide +kernel
theorem dX10_note_50 : decode cX10_note 50 = .ok (.dup, 1) := by decide +kernel
theorem dX10_note_51 : decode cX10_note 51 = .ok (.getfield 31, 3) := by decide +kernel
theorem dX10_note_54 : decode cX10_note 54 = .ok (.iconst 1, 1) := by decide +kernel
theorem dX10_note_55 : decode cX10_note 55 = .ok (.iadd, 1) := by decide +kernel
theorem dX10_note_56 : decode cX10_note 56 = .ok (.putfield 31, 3) := by decide +kernel
theorem dX10_note_59 : decode cX10_note 59 = .ok (.aload_n 0, 1) := by decide +kernel
theorem dX10_note_60 : decode cX10_note 60 = .ok (.getfield 31, 3) := by decide +kernel
theorem dX10_note_63 : decode cX10_note 63 = .ok (.iconst 1, 1) := by decide +kernel
theorem dX10_note_64 : decode cX10_note 64 = .ok (.isub, 1) := by decide +kernel
theorem dX10_note_65 : decode cX10_note 65 = .ok (.ireturn, 1) := by decide +kernel
set_option maxHeartbeats 4000000 in
set_option maxRecDepth 100000 in
theorem w_X10_note_48 {X : CX} {T : List Dsc} {R : RM} {c e : Nat} {n1 n2 : Nat} {s1 : Int32} {s2 : Int32} {m : M2} {r : (Int32 × M2)} (hX : XR X 1 n1 n2) (hG : Geo T R c e) (hf : f_X10_note_48 c s1 s2 m = some r) (hk : FnI X cX10_note RX10 4 T n1 n2 (r.1, mk r.2 R)) : Wp X cX10_note RX10 4 T (mk m R) n1 n2 48 [(0, .ref 41)] [.int s2, .int s1, .ref 44] := by
  unfold f_X10_note_48 at hf
  obtain ⟨m1, h2, hf⟩ := bnd hf
  refine Wp.iast2 (pc := 48) h2 (hG.a 44 0 rfl) dX10_note_48 ?_
  refine Wp.aload_n (pc := 49) 0 rfl rfl dX10_note_49 ?_
  refine Wp.dup (pc := 50) rfl dX10_note_50 ?_
  refine Wp.getI2 (pc := 51) (hG.t 41 rfl) fk_RX10_31 rfl dX10_note_51 ?_
  refine Wp.iconst (pc := 54) (1 : Int32) (by decide) dX10_note_54 ?_
  refine Wp.iadd (pc := 55) dX10_note_55 ?_
  obtain ⟨m3, h4, hf⟩ := bnd hf
  refine Wp.ptI2 (pc := 56) h4 (hG.t 41 rfl) fk_RX10_31 ff_RX10_9_1 rfl dX10_note_56 ?_
  refine Wp.aload_n (pc := 59) 0 rfl rfl dX10_note_59 ?_
  refine Wp.getI2 (pc := 60) (hG.t 41 rfl) fk_RX10_31 rfl dX10_note_60 ?_
  refine Wp.iconst (pc := 63) (1 : Int32) (by decide) dX10_note_63 ?_
  refine Wp.isub (pc := 64) dX10_note_64 ?_
  cases hf
  exact hk _ _ dX10_note_65
set_option maxHeartbeats 4000000 in
set_option maxRecDepth 100000 in
theorem w_X10_note {X : CX} {T : List Dsc} {R : RM} {c e : Nat} {n1 n2 : Nat} {x1 : Int32} {x2 : Int32} {x3 : Int32} {m : M2} {r : (Int32 × M2)} (hX : XR X 1 n1 n2) (hG : Geo T R c e) (hf : F_X10_note c x1 x2 x3 m = some r) (hk : FnI X cX10_note RX10 4 T n1 n2 (r.1, mk r.2 R)) : Wp X cX10_note RX10 4 T (mk m R) n1 n2 0 [(0, .ref 41), (1, .int x1), (2, .int x2), (3, .int x3)] [] := by
  unfold F_X10_note at hf
  refine Wp.aload_n (pc := 0) 0 rfl rfl dX10_note_0 ?_
  refine Wp.getI2 (pc := 1) (hG.t 41 rfl) fk_RX10_31 rfl dX10_note_1 ?_
  refine Wp.bipush (pc := 4) (20 : Int32) (by decide) dX10_note_4 ?_
  refine Wp.icmp_lt (pc := 6) 11 dX10_note_6 (by decide) (fun hc1 => ?_) (fun hc1 => ?_)
  · rw [if_pos hc1] at hf
    refine Wp.aload_n (pc := 11) 0 rfl rfl dX10_note_11 ?_
    refine Wp.getR2 (pc := 12) (hG.r 41 2 rfl) (hG.t 41 rfl) fk_RX10_9 rfl dX10_note_12 ?_
    refine Wp.aload_n (pc := 15) 0 rfl rfl dX10_note_15 ?_
    refine Wp.getI2 (pc := 16) (hG.t 41 rfl) fk_RX10_31 rfl dX10_note_16 ?_
    refine Wp.iload_n (pc := 19) 1 rfl rfl dX10_note_19 ?_
    obtain ⟨m2, h3, hf⟩ := bnd hf
    refine Wp.iast2 (pc := 20) h3 (hG.a 42 0 rfl) dX10_note_20 ?_
    refine Wp.aload_n (pc := 21) 0 rfl rfl dX10_note_21 ?_
    refine Wp.getR2 (pc := 22) (hG.r 41 3 rfl) (hG.t 41 rfl) fk_RX10_15 rfl dX10_note_22 ?_
    refine Wp.aload_n (pc := 25) 0 rfl rfl dX10_note_25 ?_
    refine Wp.getI2 (pc := 26) (hG.t 41 rfl) fk_RX10_31 rfl dX10_note_26 ?_
    refine Wp.iload_n (pc := 29) 2 rfl rfl dX10_note_29 ?_
    obtain ⟨m4, h5, hf⟩ := bnd hf
    refine Wp.iast2 (pc := 30) h5 (hG.a 43 0 rfl) dX10_note_30 ?_
    refine Wp.aload_n (pc := 31) 0 rfl rfl dX10_note_31 ?_
    refine Wp.getR2 (pc := 32) (hG.r 41 4 rfl) (hG.t 41 rfl) fk_RX10_18 rfl dX10_note_32 ?_
    refine Wp.aload_n (pc := 35) 0 rfl rfl dX10_note_35 ?_
    refine Wp.getI2 (pc := 36) (hG.t 41 rfl) fk_RX10_31 rfl dX10_note_36 ?_
    refine Wp.iload_n (pc := 39) 3 rfl rfl dX10_note_39 ?_
    refine Wp.if_eq (pc := 40) 47 dX10_note_40 (by decide) (fun hc6 => ?_) (fun hc6 => ?_)
    · rw [if_pos hc6] at hf
      refine Wp.iconst (pc := 47) (0 : Int32) (by decide) dX10_note_47 ?_
      refine Wp.lo' (lo' := [(0, .ref 41)]) [0] rfl ?_
      exact w_X10_note_48 hX hG hf hk
    · rw [if_neg hc6] at hf
      refine Wp.iconst (pc := 43) (1 : Int32) (by decide) dX10_note_43 ?_
      refine Wp.goto (pc := 44) 48 dX10_note_44 (by decide) ?_
      refine Wp.lo' (lo' := [(0, .ref 41)]) [0] rfl ?_
      exact w_X10_note_48 hX hG hf hk
  · rw [if_neg hc1] at hf
    refine Wp.iconst (pc := 9) (-1 : Int32) (by decide) dX10_note_9 ?_
    cases hf
    exact hk _ _ dX10_note_10
theorem c_X10_note {T : List Dsc} {R : RM} {c e : Nat} {x1 : Int32} {x2 : Int32} {x3 : Int32} {m : M2} {r : (Int32 × M2)} (hG : Geo T R c e) (hf : F_X10_note c x1 x2 x3 m = some r) : Ct 1 yX10_note cX10_note 4 (some .int) T (mk m R) [.ref 41, .int x1, .int x2, .int x3] (some (.int r.1)) (mk r.2 R) := Ct.ofI (r := (r.1, mk r.2 R)) (by decide +kernel) (Nat.le_of_ble_eq_true rfl) (fun X hX hk => w_X10_note hX hG hf hk)
theorem dX10_breakMen_0 : decode cX10_breakMen 0 = .ok (.iconst 0, 1) := by decide +kernel
theorem dX10_breakMen_1 : decode cX10_breakMen 1 = .ok (.istore_n 2, 1) := by decide +kernel
theorem dX10_breakMen_2 : decode cX10_breakMen 2 = .ok (.iload_n 2, 1) := by decide +kernel
theorem dX10_breakMen_3 : decode cX10_breakMen 3 = .ok (.aload_n 0, 1) := by decide +kernel
theorem dX10_breakMen_4 : decode cX10_breakMen 4 = .ok (.getfield 27, 3) := by decide +kernel
theorem dX10_breakMen_7 : decode cX10_breakMen 7 = .ok (.getfield 35, 3) := by decide +kernel
theorem dX10_breakMen_10 : decode cX10_breakMen 10 = .ok (.getfield 41, 3) := by decide +kernel
theorem dX10_breakMen_13 : decode cX10_breakMen 13 = .ok (.if_icmp .ge 40, 3) := by decide +kernel
theorem dX10_breakMen_16 : decode cX10_breakMen 16 = .ok (.aload_n 0, 1) := by decide +kernel
theorem dX10_breakMen_17 : decode cX10_breakMen 17 = .ok (.getfield 21, 3) := by decide +kernel
theorem dX10_breakMen_20 : decode cX10_breakMen 20 = .ok (.iload_n 2, 1) := by decide +kernel
theorem dX10_breakMen_21 : decode cX10_breakMen 21 = .ok (.iload_n 1, 1) := by decide +kernel
theorem dX10_breakMen_22 : decode cX10_breakMen 22 = .ok (.iload_n 2, 1) := by decide +kernel
theorem dX10_breakMen_23 : decode cX10_breakMen 23 = .ok (.ishr, 1) := by decide +kernel
theorem dX10_breakMen_24 : decode cX10_breakMen 24 = .ok (.iconst 1, 1) := by decide +kernel
theorem dX10_breakMen_25 : decode cX10_breakMen 25 = .ok (.iand, 1) := by decide +kernel
theorem dX10_breakMen_26 : decode cX10_breakMen 26 = .ok (.iconst 1, 1) := by decide +kernel
theorem dX10_breakMen_27 : decode cX10_breakMen 27 = .ok (.if_icmp .ne 7, 3) := by decide +kernel
theorem dX10_breakMen_30 : decode cX10_breakMen 30 = .ok (.iconst (-1), 1) := by decide +kernel
theorem dX10_breakMen_31 : decode cX10_breakMen 31 = .ok (.goto 15, 3) := by decide +kernel
theorem dX10_breakMen_34 : decode cX10_breakMen 34 = .ok (.aload_n 0, 1) := by decide +kernel
theorem dX10_breakMen_35 : decode cX10_breakMen 35 = .ok (.getfield 27, 3) := by decide +kernel
theorem dX10_breakMen_38 : decode cX10_breakMen 38 = .ok (.getfield 35, 3) := by decide +kernel
theorem dX10_breakMen_41 : decode cX10_breakMen 41 = .ok (.getfield 103, 3) := by decide +kernel
theorem dX10_breakMen_44 : decode cX10_breakMen 44 = .ok (.iload_n 2, 1) := by decide +kernel
theorem dX10_breakMen_45 : decode cX10_breakMen 45 = .ok (.iaload, 1) := by decide +kernel
theorem dX10_breakMen_46 : decode cX10_breakMen 46 = .ok (.iastore, 1) := by decide +kernel
theorem dX10_breakMen_47 : decode cX10_breakMen 47 = .ok (.iinc 2 1, 3) := by decide +kernel
theorem dX10_breakMen_50 : decode cX10_breakMen 50 = .ok (.goto (-48), 3) := by decide +kernel
theorem dX10_breakMen_53 : decode cX10_breakMen 53 = .ok (.return_, 1) := by decide +kernel
def k_X10_breakMen_2 (X : CX) (T : List Dsc) (R : RM) (n1 n2 : Nat) (x1 : Int32) (r : ((Int32 × M2) ⊕ ((M2)))) : Prop := match r with
  | .inl s => Wp X cX10_breakMen RX10 3 T (mk s.2 R) n1 n2 2 [(0, .ref 41), (1, .int x1), (2, .int s.1)] []
  | .inr e => Wp X cX10_breakMen RX10 3 T (mk e R) n1 n2 53 [] []
set_option maxHeartbeats 4000000 in
set_option maxRecDepth 100000 in
theorem w_X10_breakMen_46 {X : CX} {T : List Dsc} {R : RM} {c e : Nat} {n1 n2 : Nat} {x1 : Int32} {x2 : Int32} {s1 : Int32} {s2 : Int32} {m : M2} {r : ((Int32 × M2) ⊕ ((M2)))} (hX : XR X 1 n1 n2) (hG : Geo T R c e) (hf : f_X10_breakMen_46 c x1 x2 s1 s2 m = some r) (hk : k_X10_breakMen_2 X T R n1 n2 x1 r) : Wp X cX10_breakMen RX10 3 T (mk m R) n1 n2 46 [(0, .ref 41), (1, .int x1), (2, .int x2)] [.int s2, .int s1, .ref 45] := by
  unfold f_X10_breakMen_46 at hf
  obtain ⟨m1, h2, hf⟩ := bnd hf
  refine Wp.iast2 (pc := 46) h2 (hG.a 45 0 rfl) dX10_breakMen_46 ?_
  obtain ⟨v3, h4, hf⟩ := bnd hf
  refine Wp.iincN (pc := 47) (lo' := [(0, .ref 41), (1, .int x1), (2, .int v3)]) (1 : Int32) (by decide) h4 2 rfl [1, 2, 0] rfl (by decide) dX10_breakMen_47 ?_
  refine Wp.goto (pc := 50) 2 dX10_breakMen_50 (by decide) ?_
  cases hf
  exact hk
set_option maxHeartbeats 4000000 in
set_option maxRecDepth 100000 in
theorem w_X10_breakMen_2 {X : CX} {T : List Dsc} {R : RM} {c e : Nat} {n1 n2 : Nat} {x1 : Int32} {x2 : Int32} {m : M2} {r : ((Int32 × M2) ⊕ ((M2)))} (hX : XR X 1 n1 n2) (hG : Geo T R c e) (hf : f_X10_breakMen_2 c x1 x2 m = some r) (hk : k_X10_breakMen_2 X T R n1 n2 x1 r) : Wp X cX10_breakMen RX10 3 T (mk m R) n1 n2 2 [(0, .ref 41), (1, .int x1), (2, .int x2)] [] := by
  unfold f_X10_breakMen_2 at hf
  refine Wp.iload_n (pc := 2) 2 rfl rfl dX10_breakMen_2 ?_
  refine Wp.aload_n (pc := 3) 0 rfl rfl dX10_breakMen_3 ?_
  refine Wp.getR2 (pc := 4) (hG.r 41 0 rfl) (hG.t 41 rfl) fk_RX10_27 rfl dX10_breakMen_4 ?_
  refine Wp.getR2 (pc := 7) hG.r2 (hG.t 23 rfl) fk_RX10_35 rfl dX10_breakMen_7 ?_
  refine Wp.getI2 (pc := 10) (hG.tt hG.hc) fk_RX10_41 rfl dX10_breakMen_10 ?_
  refine Wp.icmp_ge (pc := 13) 53 dX10_breakMen_13 (by decide) (fun hc1 => ?_) (fun hc1 => ?_)
  · rw [if_pos hc1] at hf
    refine Wp.lo' (lo' := []) [] rfl ?_
    cases hf
    exact hk
  · rw [if_neg hc1] at hf
    refine Wp.aload_n (pc := 16) 0 rfl rfl dX10_breakMen_16 ?_
    refine Wp.getR2 (pc := 17) (hG.r 41 5 rfl) (hG.t 41 rfl) fk_RX10_21 rfl dX10_breakMen_17 ?_
    refine Wp.iload_n (pc := 20) 2 rfl rfl dX10_breakMen_20 ?_
    refine Wp.iload_n (pc := 21) 1 rfl rfl dX10_breakMen_21 ?_
    refine Wp.iload_n (pc := 22) 2 rfl rfl dX10_breakMen_22 ?_
    refine Wp.ishr (pc := 23) dX10_breakMen_23 ?_
    refine Wp.iconst (pc := 24) (1 : Int32) (by decide) dX10_breakMen_24 ?_
    refine Wp.iand (pc := 25) dX10_breakMen_25 ?_
    refine Wp.iconst (pc := 26) (1 : Int32) (by decide) dX10_breakMen_26 ?_
    refine Wp.icmp_ne (pc := 27) 34 dX10_breakMen_27 (by decide) (fun hc2 => ?_) (fun hc2 => ?_)
    · rw [if_neg hc2] at hf
      refine Wp.aload_n (pc := 34) 0 rfl rfl dX10_breakMen_34 ?_
      refine Wp.getR2 (pc := 35) (hG.r 41 0 rfl) (hG.t 41 rfl) fk_RX10_27 rfl dX10_breakMen_35 ?_
      refine Wp.getR2 (pc := 38) hG.r2 (hG.t 23 rfl) fk_RX10_35 rfl dX10_breakMen_38 ?_
      refine Wp.getR2 (pc := 41) (hG.tr hG.hc 6 3 rfl rfl) (hG.tt hG.hc) fk_RX10_103 rfl dX10_breakMen_41 ?_
      refine Wp.iload_n (pc := 44) 2 rfl rfl dX10_breakMen_44 ?_
      obtain ⟨v3, h4, hf⟩ := bnd hf
      refine Wp.iald2 (pc := 45) h4 (hG.ta hG.hc 3 12 rfl rfl) dX10_breakMen_45 ?_
      exact w_X10_breakMen_46 hX hG hf hk
    · rw [if_pos hc2] at hf
      refine Wp.iconst (pc := 30) (-1 : Int32) (by decide) dX10_breakMen_30 ?_
      refine Wp.goto (pc := 31) 46 dX10_breakMen_31 (by decide) ?_
      exact w_X10_breakMen_46 hX hG hf hk
theorem wl_X10_breakMen_2 {X : CX} {T : List Dsc} {R : RM} {c e : Nat} {n1 n2 : Nat} {x1 : Int32} {x2 : Int32} {m : M2} {e1 : ((M2))} (hX : XR X 1 n1 n2) (hG : Geo T R c e) (h : loop (g_X10_breakMen_2 c x1) (x2, m) = some e1) (he : Wp X cX10_breakMen RX10 3 T (mk e1 R) n1 n2 53 [] []) : Wp X cX10_breakMen RX10 3 T (mk m R) n1 n2 2 [(0, .ref 41), (1, .int x1), (2, .int x2)] [] :=
  loop_ok (K := k_X10_breakMen_2 X T R n1 n2 x1) (fun s r hf hk => w_X10_breakMen_2 hX hG hf hk) h he
set_option maxHeartbeats 4000000 in
set_option maxRecDepth 100000 in
theorem w_X10_breakMen {X : CX} {T : List Dsc} {R : RM} {c e : Nat} {n1 n2 : Nat} {x1 : Int32} {m : M2} {r : M2} (hX : XR X 1 n1 n2) (hG : Geo T R c e) (hf : F_X10_breakMen c x1 m = some r) (hk : FnV X cX10_breakMen RX10 3 T n1 n2 (mk r R)) : Wp X cX10_breakMen RX10 3 T (mk m R) n1 n2 0 [(0, .ref 41), (1, .int x1)] [] := by
  unfold F_X10_breakMen at hf
  refine Wp.iconst (pc := 0) (0 : Int32) (by decide) dX10_breakMen_0 ?_
  refine Wp.istore_n (pc := 1) (lo' := [(0, .ref 41), (1, .int x1), (2, .int (0 : Int32))]) [1, 2, 0] rfl (by decide) rfl dX10_breakMen_1 ?_
  obtain ⟨e1, h2, hf⟩ := bnd hf
  refine wl_X10_breakMen_2 hX hG h2 ?_
  cases hf
  exact hk _ _ dX10_breakMen_53
theorem c_X10_breakMen {T : List Dsc} {R : RM} {c e : Nat} {x1 : Int32} {m : M2} {r : M2} (hG : Geo T R c e) (hf : F_X10_breakMen c x1 m = some r) : Ct 1 yX10_breakMen cX10_breakMen 3 none T (mk m R) [.ref 41, .int x1] none (mk r R) := Ct.ofV (r := mk r R) (by decide +kernel) (Nat.le_of_ble_eq_true rfl) (fun X hX hk => w_X10_breakMen hX hG hf hk)
theorem dX10_lastKnown_0 : decode cX10_lastKnown 0 = .ok (.iconst (-1), 1) := by decide +kernel
theorem dX10_lastKnown_1 : decode cX10_lastKnown 1 = .ok (.istore_n 2, 1) := by decide +kernel
theorem dX10_lastKnown_2 : decode cX10_lastKnown 2 = .ok (.iconst 0, 1) := by decide +kernel
theorem dX10_lastKnown_3 : decode cX10_lastKnown 3 = .ok (.istore_n 3, 1) := by decide +kernel
theorem dX10_lastKnown_4 : decode cX10_lastKnown 4 = .ok (.iload_n 3, 1) := by decide +kernel
theorem dX10_lastKnown_5 : decode cX10_lastKnown 5 = .ok (.iload_n 1, 1) := by decide +kernel
theorem dX10_lastKnown_6 : decode cX10_lastKnown 6 = .ok (.if_icmp .ge 26, 3) := by decide +kernel
theorem dX10_lastKnown_9 : decode cX10_lastKnown 9 = .ok (.iload_n 3, 1) := by decide +kernel
theorem dX10_lastKnown_10 : decode cX10_lastKnown 10 = .ok (.bipush 20, 2) := by decide +kernel
theorem dX10_lastKnown_12 : decode cX10_lastKnown 12 = .ok (.if_icmp .ge 20, 3) := by decide +kernel
theorem dX10_lastKnown_15 : decode cX10_lastKnown 15 = .ok (.iload_n 2, 1) := by decide +kernel
theorem dX10_lastKnown_16 : decode cX10_lastKnown 16 = .ok (.aload_n 0, 1) := by decide +kernel
theorem dX10_lastKnown_17 : decode cX10_lastKnown 17 = .ok (.getfield 9, 3) := by decide +kernel
theorem dX10_lastKnown_20 : decode cX10_lastKnown 20 = .ok (.iload_n 3, 1) := by decide +kernel
theorem dX10_lastKnown_21 : decode cX10_lastKnown 21 = .ok (.iaload, 1) := by decide +kernel
theorem dX10_lastKnown_22 : decode cX10_lastKnown 22 = .ok (.invokestatic 63, 3) := by decide +kernel
theorem dX10_lastKnown_25 : decode cX10_lastKnown 25 = .ok (.istore_n 2, 1) := by decide +kernel
theorem dX10_lastKnown_26 : decode cX10_lastKnown 26 = .ok (.iinc 3 1, 3) := by decide +kernel
theorem dX10_lastKnown_29 : decode cX10_lastKnown 29 = .ok (.goto (-25), 3) := by decide +kernel
theorem dX10_lastKnown_32 : decode cX10_lastKnown 32 = .ok (.iload_n 2, 1) := by decide +kernel
theorem dX10_lastKnown_33 : decode cX10_lastKnown 33 = .ok (.ireturn, 1) := by decide +kernel
def k_X10_lastKnown_4 (X : CX) (T : List Dsc) (R : RM) (n1 n2 : Nat) (x1 : Int32) (r : ((Int32 × Int32 × M2) ⊕ ((Int32 × M2)))) : Prop := match r with
  | .inl s => Wp X cX10_lastKnown RX10 4 T (mk s.2.2 R) n1 n2 4 [(0, .ref 41), (1, .int x1), (2, .int s.1), (3, .int s.2.1)] []
  | .inr e => Wp X cX10_lastKnown RX10 4 T (mk e.2 R) n1 n2 32 [(2, .int e.1)] []
set_option maxHeartbeats 4000000 in
set_option maxRecDepth 100000 in
theorem w_X10_lastKnown_4 {X : CX} {T : List Dsc} {R : RM} {c e : Nat} {n1 n2 : Nat} {x1 : Int32} {x2 : Int32} {x3 : Int32} {m : M2} {r : ((Int32 × Int32 × M2) ⊕ ((Int32 × M2)))} (hX : XR X 1 n1 n2) (hG : Geo T R c e) (hf : f_X10_lastKnown_4 c x1 x2 x3 m = some r) (hk : k_X10_lastKnown_4 X T R n1 n2 x1 r) : Wp X cX10_lastKnown RX10 4 T (mk m R) n1 n2 4 [(0, .ref 41), (1, .int x1), (2, .int x2), (3, .int x3)] [] := by
  unfold f_X10_lastKnown_4 at hf
  refine Wp.iload_n (pc := 4) 3 rfl rfl dX10_lastKnown_4 ?_
  refine Wp.iload_n (pc := 5) 1 rfl rfl dX10_lastKnown_5 ?_
  refine Wp.icmp_ge (pc := 6) 32 dX10_lastKnown_6 (by decide) (fun hc1 => ?_) (fun hc1 => ?_)
  · rw [if_pos hc1] at hf
    refine Wp.lo' (lo' := [(2, .int x2)]) [2] rfl ?_
    cases hf
    exact hk
  · rw [if_neg hc1] at hf
    refine Wp.iload_n (pc := 9) 3 rfl rfl dX10_lastKnown_9 ?_
    refine Wp.bipush (pc := 10) (20 : Int32) (by decide) dX10_lastKnown_10 ?_
    refine Wp.icmp_ge (pc := 12) 32 dX10_lastKnown_12 (by decide) (fun hc2 => ?_) (fun hc2 => ?_)
    · rw [if_pos hc2] at hf
      refine Wp.lo' (lo' := [(2, .int x2)]) [2] rfl ?_
      cases hf
      exact hk
    · rw [if_neg hc2] at hf
      refine Wp.iload_n (pc := 15) 2 rfl rfl dX10_lastKnown_15 ?_
      refine Wp.aload_n (pc := 16) 0 rfl rfl dX10_lastKnown_16 ?_
      refine Wp.getR2 (pc := 17) (hG.r 41 2 rfl) (hG.t 41 rfl) fk_RX10_9 rfl dX10_lastKnown_17 ?_
      refine Wp.iload_n (pc := 20) 3 rfl rfl dX10_lastKnown_20 ?_
      obtain ⟨v3, h4, hf⟩ := bnd hf
      refine Wp.iald2 (pc := 21) h4 (hG.a 42 0 rfl) dX10_lastKnown_21 ?_
      refine Wp.mmax (pc := 22) mm_RX10_63 hX (Nat.le_of_ble_eq_true rfl) (by simp) dX10_lastKnown_22 ?_
      obtain ⟨v5, h6, hf⟩ := bnd hf
      refine Wp.nI' h6 ?_
      refine Wp.istore_n (pc := 25) (lo' := [(0, .ref 41), (1, .int x1), (2, .int v5), (3, .int x3)]) [1, 2, 0, 3] rfl (by decide) rfl dX10_lastKnown_25 ?_
      obtain ⟨v7, h8, hf⟩ := bnd hf
      refine Wp.iincN (pc := 26) (lo' := [(0, .ref 41), (1, .int x1), (2, .int v5), (3, .int v7)]) (1 : Int32) (by decide) h8 3 rfl [1, 2, 3, 0] rfl (by decide) dX10_lastKnown_26 ?_
      refine Wp.goto (pc := 29) 4 dX10_lastKnown_29 (by decide) ?_
      cases hf
      exact hk
theorem wl_X10_lastKnown_4 {X : CX} {T : List Dsc} {R : RM} {c e : Nat} {n1 n2 : Nat} {x1 : Int32} {x2 : Int32} {x3 : Int32} {m : M2} {e1 : ((Int32 × M2))} (hX : XR X 1 n1 n2) (hG : Geo T R c e) (h : loop (g_X10_lastKnown_4 c x1) (x2, x3, m) = some e1) (he : Wp X cX10_lastKnown RX10 4 T (mk e1.2 R) n1 n2 32 [(2, .int e1.1)] []) : Wp X cX10_lastKnown RX10 4 T (mk m R) n1 n2 4 [(0, .ref 41), (1, .int x1), (2, .int x2), (3, .int x3)] [] :=
  loop_ok (K := k_X10_lastKnown_4 X T R n1 n2 x1) (fun s r hf hk => w_X10_lastKnown_4 hX hG hf hk) h he
set_option maxHeartbeats 4000000 in
set_option maxRecDepth 100000 in
theorem w_X10_lastKnown_32 {X : CX} {T : List Dsc} {R : RM} {c e : Nat} {n1 n2 : Nat} {x2 : Int32} {m : M2} {r : (Int32 × M2)} (hX : XR X 1 n1 n2) (hG : Geo T R c e) (hf : f_X10_lastKnown_32 c x2 m = some r) (hk : FnI X cX10_lastKnown RX10 4 T n1 n2 (r.1, mk r.2 R)) : Wp X cX10_lastKnown RX10 4 T (mk m R) n1 n2 32 [(2, .int x2)] [] := by
  unfold f_X10_lastKnown_32 at hf
  refine Wp.iload_n (pc := 32) 0 rfl rfl dX10_lastKnown_32 ?_
  cases hf
  exact hk _ _ dX10_lastKnown_33
set_option maxHeartbeats 4000000 in
set_option maxRecDepth 100000 in
theorem w_X10_lastKnown {X : CX} {T : List Dsc} {R : RM} {c e : Nat} {n1 n2 : Nat} {x1 : Int32} {m : M2} {r : (Int32 × M2)} (hX : XR X 1 n1 n2) (hG : Geo T R c e) (hf : F_X10_lastKnown c x1 m = some r) (hk : FnI X cX10_lastKnown RX10 4 T n1 n2 (r.1, mk r.2 R)) : Wp X cX10_lastKnown RX10 4 T (mk m R) n1 n2 0 [(0, .ref 41), (1, .int x1)] [] := by
  unfold F_X10_lastKnown at hf
  refine Wp.iconst (pc := 0) (-1 : Int32) (by decide) dX10_lastKnown_0 ?_
  refine Wp.istore_n (pc := 1) (lo' := [(0, .ref 41), (1, .int x1), (2, .int (-1 : Int32))]) [1, 2, 0] rfl (by decide) rfl dX10_lastKnown_1 ?_
  refine Wp.iconst (pc := 2) (0 : Int32) (by decide) dX10_lastKnown_2 ?_
  refine Wp.istore_n (pc := 3) (lo' := [(0, .ref 41), (1, .int x1), (2, .int (-1 : Int32)), (3, .int (0 : Int32))]) [1, 2, 3, 0] rfl (by decide) rfl dX10_lastKnown_3 ?_
  obtain ⟨e1, h2, hf⟩ := bnd hf
  refine wl_X10_lastKnown_4 hX hG h2 ?_
  exact w_X10_lastKnown_32 hX hG hf hk
theorem c_X10_lastKnown {T : List Dsc} {R : RM} {c e : Nat} {x1 : Int32} {m : M2} {r : (Int32 × M2)} (hG : Geo T R c e) (hf : F_X10_lastKnown c x1 m = some r) : Ct 1 yX10_lastKnown cX10_lastKnown 4 (some .int) T (mk m R) [.ref 41, .int x1] (some (.int r.1)) (mk r.2 R) := Ct.ofI (r := (r.1, mk r.2 R)) (by decide +kernel) (Nat.le_of_ble_eq_true rfl) (fun X hX hk => w_X10_lastKnown hX hG hf hk)
theorem dX10_agrees_0 : decode cX10_agrees 0 = .ok (.iconst 0, 1) := by decide +kernel
theorem dX10_agrees_1 : decode cX10_agrees 1 = .ok (.istore 4, 2) := by decide +kernel
theorem dX10_agrees_3 : decode cX10_agrees 3 = .ok (.iload 4, 2) := by decide +kernel
theorem dX10_agrees_5 : decode cX10_agrees 5 = .ok (.iload_n 3, 1) := by decide +kernel
theorem dX10_agrees_6 : decode cX10_agrees 6 = .ok (.if_icmp .ge 50, 3) := by decide +kernel
theorem dX10_agrees_9 : decode cX10_agrees 9 = .ok (.iload 4, 2) := by decide +kernel
theorem dX10_agrees_11 : decode cX10_agrees 11 = .ok (.bipush 20, 2) := by decide +kernel
theorem dX10_agrees_13 : decode cX10_agrees 13 = .ok (.if_icmp .ge 43, 3) := by decide +kernel
theorem dX10_agrees_16 : decode cX10_agrees 16 = .ok (.aload_n 0, 1) := by decide +kernel
theorem dX10_agrees_17 : decode cX10_agrees 17 = .ok (.getfield 9, 3) := by decide +kernel
theorem dX10_agrees_20 : decode cX10_agrees 20 = .ok (.iload 4, 2) := by decide +kernel
theorem dX10_agrees_22 : decode cX10_agrees 22 = .ok (.iaload, 1) := by decide +kernel
theorem dX10_agrees_23 : decode cX10_agrees 23 = .ok (.iload_n 2, 1) := by decide +kernel
theorem dX10_agrees_24 : decode cX10_agrees 24 = .ok (.if_icmp .ne 26, 3) := by decide +kernel
theorem dX10_agrees_27 : decode cX10_agrees 27 = .ok (.iload_n 1, 1) := by decide +kernel
theorem dX10_agrees_28 : decode cX10_agrees 28 = .ok (.aload_n 0, 1) := by decide +kernel
theorem dX10_agrees_29 : decode cX10_agrees 29 = .ok (.getfield 15, 3) := by decide +kernel
theorem dX10_agrees_32 : decode cX10_agrees 32 = .ok (.iload 4, 2) := by decide +kernel
theorem dX10_agrees_34 : decode cX10_agrees 34 = .ok (.iaload, 1) := by decide +kernel
theorem dX10_agrees_35 : decode cX10_agrees 35 = .ok (.ishr, 1) := by decide +kernel
theorem dX10_agrees_36 : decode cX10_agrees 36 = .ok (.iconst 1, 1) := by decide +kernel
theorem dX10_agrees_37 : decode cX10_agrees 37 = .ok (.iand, 1) := by decide +kernel
theorem dX10_agrees_38 : decode cX10_agrees 38 = .ok (.aload_n 0, 1) := by decide +kernel
theorem dX10_agrees_39 : decode cX10_agrees 39 = .ok (.getfield 18, 3) := by decide +kernel
theorem dX10_agrees_42 : decode cX10_agrees 42 = .ok (.iload 4, 2) := by decide +kernel
theorem dX10_agrees_44 : decode cX10_agrees 44 = .ok (.iaload, 1) := by decide +kernel
theorem dX10_agrees_45 : decode cX10_agrees 45 = .ok (.if_icmp .eq 5, 3) := by decide +kernel
theorem dX10_agrees_48 : decode cX10_agrees 48 = .ok (.iconst 0, 1) := by decide +kernel
theorem dX10_agrees_49 : decode cX10_agrees 49 = .ok (.ireturn, 1) := by decide +kernel
theorem dX10_agrees_50 : decode cX10_agrees 50 = .ok (.iinc 4 1, 3) := by decide +kernel
theorem dX10_agrees_53 : decode cX10_agrees 53 = .ok (.goto (-50), 3) := by decide +kernel
theorem dX10_agrees_56 : decode cX10_agrees 56 = .ok (.iconst 1, 1) := by decide +kernel
theorem dX10_agrees_57 : decode cX10_agrees 57 = .ok (.ireturn, 1) := by decide +kernel
def k_X10_agrees_3 (X : CX) (T : List Dsc) (R : RM) (n1 n2 : Nat) (x1 : Int32) (x2 : Int32) (x3 : Int32) (r : ((Int32 × M2) ⊕ ((M2) ⊕ (M2)))) : Prop := match r with
  | .inl s => Wp X cX10_agrees RX10 5 T (mk s.2 R) n1 n2 3 [(0, .ref 41), (1, .int x1), (2, .int x2), (3, .int x3), (4, .int s.1)] []
  | .inr (.inl e) => Wp X cX10_agrees RX10 5 T (mk e R) n1 n2 48 [] []
  | .inr (.inr e) => Wp X cX10_agrees RX10 5 T (mk e R) n1 n2 56 [] []
set_option maxHeartbeats 4000000 in
set_option maxRecDepth 100000 in
theorem w_X10_agrees_50 {X : CX} {T : List Dsc} {R : RM} {c e : Nat} {n1 n2 : Nat} {x1 : Int32} {x2 : Int32} {x3 : Int32} {x4 : Int32} {m : M2} {r : ((Int32 × M2) ⊕ ((M2) ⊕ (M2)))} (hX : XR X 1 n1 n2) (hG : Geo T R c e) (hf : f_X10_agrees_50 c x1 x2 x3 x4 m = some r) (hk : k_X10_agrees_3 X T R n1 n2 x1 x2 x3 r) : Wp X cX10_agrees RX10 5 T (mk m R) n1 n2 50 [(0, .ref 41), (1, .int x1), (2, .int x2), (3, .int x3), (4, .int x4)] [] := by
  unfold f_X10_agrees_50 at hf
  obtain ⟨v1, h2, hf⟩ := bnd hf
  refine Wp.iincN (pc := 50) (lo' := [(0, .ref 41), (1, .int x1), (2, .int x2), (3, .int x3), (4, .int v1)]) (1 : Int32) (by decide) h2 4 rfl [1, 2, 3, 4, 0] rfl (by decide) dX10_agrees_50 ?_
  refine Wp.goto (pc := 53) 3 dX10_agrees_53 (by decide) ?_
  cases hf
  exact hk
set_option maxHeartbeats 4000000 in
set_option maxRecDepth 100000 in
theorem w_X10_agrees_3 {X : CX} {T : List Dsc} {R : RM} {c e : Nat} {n1 n2 : Nat} {x1 : Int32} {x2 : Int32} {x3 : Int32} {x4 : Int32} {m : M2} {r : ((Int32 × M2) ⊕ ((M2) ⊕ (M2)))} (hX : XR X 1 n1 n2) (hG : Geo T R c e) (hf : f_X10_agrees_3 c x1 x2 x3 x4 m = some r) (hk : k_X10_agrees_3 X T R n1 n2 x1 x2 x3 r) : Wp X cX10_agrees RX10 5 T (mk m R) n1 n2 3 [(0, .ref 41), (1, .int x1), (2, .int x2), (3, .int x3), (4, .int x4)] [] := by
  unfold f_X10_agrees_3 at hf
  refine Wp.iload (pc := 3) 4 rfl dX10_agrees_3 ?_
  refine Wp.iload_n (pc := 5) 3 rfl rfl dX10_agrees_5 ?_
  refine Wp.icmp_ge (pc := 6) 56 dX10_agrees_6 (by decide) (fun hc1 => ?_) (fun hc1 => ?_)
  · rw [if_pos hc1] at hf
    refine Wp.lo' (lo' := []) [] rfl ?_
    cases hf
    exact hk
  · rw [if_neg hc1] at hf
    refine Wp.iload (pc := 9) 4 rfl dX10_agrees_9 ?_
    refine Wp.bipush (pc := 11) (20 : Int32) (by decide) dX10_agrees_11 ?_
    refine Wp.icmp_ge (pc := 13) 56 dX10_agrees_13 (by decide) (fun hc2 => ?_) (fun hc2 => ?_)
    · rw [if_pos hc2] at hf
      refine Wp.lo' (lo' := []) [] rfl ?_
      cases hf
      exact hk
    · rw [if_neg hc2] at hf
      refine Wp.aload_n (pc := 16) 0 rfl rfl dX10_agrees_16 ?_
      refine Wp.getR2 (pc := 17) (hG.r 41 2 rfl) (hG.t 41 rfl) fk_RX10_9 rfl dX10_agrees_17 ?_
      refine Wp.iload (pc := 20) 4 rfl dX10_agrees_20 ?_
      obtain ⟨v3, h4, hf⟩ := bnd hf
      refine Wp.iald2 (pc := 22) h4 (hG.a 42 0 rfl) dX10_agrees_22 ?_
      refine Wp.iload_n (pc := 23) 2 rfl rfl dX10_agrees_23 ?_
      refine Wp.icmp_ne (pc := 24) 50 dX10_agrees_24 (by decide) (fun hc5 => ?_) (fun hc5 => ?_)
      · rw [if_neg hc5] at hf
        exact w_X10_agrees_50 hX hG hf hk
      · rw [if_pos hc5] at hf
        refine Wp.iload_n (pc := 27) 1 rfl rfl dX10_agrees_27 ?_
        refine Wp.aload_n (pc := 28) 0 rfl rfl dX10_agrees_28 ?_
        refine Wp.getR2 (pc := 29) (hG.r 41 3 rfl) (hG.t 41 rfl) fk_RX10_15 rfl dX10_agrees_29 ?_
        refine Wp.iload (pc := 32) 4 rfl dX10_agrees_32 ?_
        obtain ⟨v6, h7, hf⟩ := bnd hf
        refine Wp.iald2 (pc := 34) h7 (hG.a 43 0 rfl) dX10_agrees_34 ?_
        refine Wp.ishr (pc := 35) dX10_agrees_35 ?_
        refine Wp.iconst (pc := 36) (1 : Int32) (by decide) dX10_agrees_36 ?_
        refine Wp.iand (pc := 37) dX10_agrees_37 ?_
        refine Wp.aload_n (pc := 38) 0 rfl rfl dX10_agrees_38 ?_
        refine Wp.getR2 (pc := 39) (hG.r 41 4 rfl) (hG.t 41 rfl) fk_RX10_18 rfl dX10_agrees_39 ?_
        refine Wp.iload (pc := 42) 4 rfl dX10_agrees_42 ?_
        obtain ⟨v8, h9, hf⟩ := bnd hf
        refine Wp.iald2 (pc := 44) h9 (hG.a 44 0 rfl) dX10_agrees_44 ?_
        refine Wp.icmp_eq (pc := 45) 50 dX10_agrees_45 (by decide) (fun hc10 => ?_) (fun hc10 => ?_)
        · rw [if_pos hc10] at hf
          exact w_X10_agrees_50 hX hG hf hk
        · rw [if_neg hc10] at hf
          refine Wp.lo' (lo' := []) [] rfl ?_
          cases hf
          exact hk
theorem wl_X10_agrees_3 {X : CX} {T : List Dsc} {R : RM} {c e : Nat} {n1 n2 : Nat} {x1 : Int32} {x2 : Int32} {x3 : Int32} {x4 : Int32} {m : M2} {e1 : ((M2) ⊕ (M2))} (hX : XR X 1 n1 n2) (hG : Geo T R c e) (h : loop (g_X10_agrees_3 c x1 x2 x3) (x4, m) = some e1) (he0 : ∀ e_, e1 = (Sum.inl e_) → Wp X cX10_agrees RX10 5 T (mk e_ R) n1 n2 48 [] []) (he1 : ∀ e_, e1 = (Sum.inr e_) → Wp X cX10_agrees RX10 5 T (mk e_ R) n1 n2 56 [] []) : Wp X cX10_agrees RX10 5 T (mk m R) n1 n2 3 [(0, .ref 41), (1, .int x1), (2, .int x2), (3, .int x3), (4, .int x4)] [] :=
  loop_ok (K := k_X10_agrees_3 X T R n1 n2 x1 x2 x3) (fun s r hf hk => w_X10_agrees_3 hX hG hf hk) h (by rcases e1 with e_ | e_ <;> first | exact he0 _ rfl | exact he1 _ rfl)
set_option maxHeartbeats 4000000 in
set_option maxRecDepth 100000 in
theorem w_X10_agrees_56 {X : CX} {T : List Dsc} {R : RM} {c e : Nat} {n1 n2 : Nat} {m : M2} {r : (Int32 × M2)} (hX : XR X 1 n1 n2) (hG : Geo T R c e) (hf : f_X10_agrees_56 c m = some r) (hk : FnZ X cX10_agrees RX10 5 T n1 n2 (r.1, mk r.2 R)) : Wp X cX10_agrees RX10 5 T (mk m R) n1 n2 56 [] [] := by
  unfold f_X10_agrees_56 at hf
  refine Wp.iconst (pc := 56) (1 : Int32) (by decide) dX10_agrees_56 ?_
  cases hf
  exact hk _ _ (Or.inr rfl) dX10_agrees_57
set_option maxHeartbeats 4000000 in
set_option maxRecDepth 100000 in
theorem w_X10_agrees {X : CX} {T : List Dsc} {R : RM} {c e : Nat} {n1 n2 : Nat} {x1 : Int32} {x2 : Int32} {x3 : Int32} {m : M2} {r : (Int32 × M2)} (hX : XR X 1 n1 n2) (hG : Geo T R c e) (hf : F_X10_agrees c x1 x2 x3 m = some r) (hk : FnZ X cX10_agrees RX10 5 T n1 n2 (r.1, mk r.2 R)) : Wp X cX10_agrees RX10 5 T (mk m R) n1 n2 0 [(0, .ref 41), (1, .int x1), (2, .int x2), (3, .int x3)] [] := by
  unfold F_X10_agrees at hf
  refine Wp.iconst (pc := 0) (0 : Int32) (by decide) dX10_agrees_0 ?_
  refine Wp.istore (pc := 1) (lo' := [(0, .ref 41), (1, .int x1), (2, .int x2), (3, .int x3), (4, .int (0 : Int32))]) [1, 2, 3, 4, 0] rfl (by decide) dX10_agrees_1 ?_
  obtain ⟨e1, h2, hf⟩ := bnd hf
  refine wl_X10_agrees_3 hX hG h2 (fun e1_0 hq => ?_) (fun e1_1 hq => ?_)
  · rw [hq, Sum.elim_inl] at hf
    refine Wp.iconst (pc := 48) (0 : Int32) (by decide) dX10_agrees_48 ?_
    cases hf
    exact hk _ _ (Or.inl rfl) dX10_agrees_49
  · rw [hq, Sum.elim_inr] at hf
    exact w_X10_agrees_56 hX hG hf hk
theorem c_X10_agrees {T : List Dsc} {R : RM} {c e : Nat} {x1 : Int32} {x2 : Int32} {x3 : Int32} {m : M2} {r : (Int32 × M2)} (hG : Geo T R c e) (hf : F_X10_agrees c x1 x2 x3 m = some r) : Ct 1 yX10_agrees cX10_agrees 5 (some .boolean) T (mk m R) [.ref 41, .int x1, .int x2, .int x3] (some (.int r.1)) (mk r.2 R) := Ct.ofZ (r := (r.1, mk r.2 R)) (by decide +kernel) (Nat.le_of_ble_eq_true rfl) (fun X hX hk => w_X10_agrees hX hG hf hk)
