theorem dX10_isSuspect_0 : decode cX10_isSuspect 0 = .ok (.iload_n 1, 1) := by decide +kernel
theorem dX10_isSuspect_1 : decode cX10_isSuspect 1 = .ok (.invokestatic 68, 3) := by decide +kernel
theorem dX10_isSuspect_4 : decode cX10_isSuspect 4 = .ok (.iload_n 2, 1) := by decide +kernel
theorem dX10_isSuspect_5 : decode cX10_isSuspect 5 = .ok (.if_icmp .eq 5, 3) := by decide +kernel
theorem dX10_isSuspect_8 : decode cX10_isSuspect 8 = .ok (.iconst 0, 1) := by decide +kernel
theorem dX10_isSuspect_9 : decode cX10_isSuspect 9 = .ok (.ireturn, 1) := by decide +kernel
theorem dX10_isSuspect_10 : decode cX10_isSuspect 10 = .ok (.aload_n 0, 1) := by decide +kernel
theorem dX10_isSuspect_11 : decode cX10_isSuspect 11 = .ok (.iload_n 1, 1) := by decide +kernel
theorem dX10_isSuspect_12 : decode cX10_isSuspect 12 = .ok (.invokevirtual 74, 3) := by decide +kernel
theorem dX10_isSuspect_15 : decode cX10_isSuspect 15 = .ok (.aload_n 0, 1) := by decide +kernel
theorem dX10_isSuspect_16 : decode cX10_isSuspect 16 = .ok (.iload_n 3, 1) := by decide +kernel
theorem dX10_isSuspect_17 : decode cX10_isSuspect 17 = .ok (.invokevirtual 78, 3) := by decide +kernel
theorem dX10_isSuspect_20 : decode cX10_isSuspect 20 = .ok (.istore 4, 2) := by decide +kernel
theorem dX10_isSuspect_22 : decode cX10_isSuspect 22 = .ok (.aload_n 0, 1) := by decide +kernel
theorem dX10_isSuspect_23 : decode cX10_isSuspect 23 = .ok (.getfield 27, 3) := by decide +kernel
theorem dX10_isSuspect_26 : decode cX10_isSuspect 26 = .ok (.getfield 35, 3) := by decide +kernel
theorem dX10_isSuspect_29 : decode cX10_isSuspect 29 = .ok (.getfield 81, 3) := by decide +kernel
theorem dX10_isSuspect_32 : decode cX10_isSuspect 32 = .ok (.lstore 5, 2) := by decide +kernel
theorem dX10_isSuspect_34 : decode cX10_isSuspect 34 = .ok (.iconst 0, 1) := by decide +kernel
theorem dX10_isSuspect_35 : decode cX10_isSuspect 35 = .ok (.istore 7, 2) := by decide +kernel
theorem dX10_isSuspect_37 : decode cX10_isSuspect 37 = .ok (.iload 7, 2) := by decide +kernel
theorem dX10_isSuspect_39 : decode cX10_isSuspect 39 = .ok (.iload 4, 2) := by decide +kernel
theorem dX10_isSuspect_41 : decode cX10_isSuspect 41 = .ok (.if_icmp .gt 67, 3) := by decide +kernel
theorem dX10_isSuspect_44 : decode cX10_isSuspect 44 = .ok (.aload_n 0, 1) := by decide +kernel
theorem dX10_isSuspect_45 : decode cX10_isSuspect 45 = .ok (.aload_n 0, 1) := by decide +kernel
theorem dX10_isSuspect_46 : decode cX10_isSuspect 46 = .ok (.getfield 27, 3) := by decide +kernel
theorem dX10_isSuspect_49 : decode cX10_isSuspect 49 = .ok (.lload 5, 2) := by decide +kernel
theorem dX10_isSuspect_51 : decode cX10_isSuspect 51 = .ok (.invokevirtual 85, 3) := by decide +kernel
theorem dX10_isSuspect_54 : decode cX10_isSuspect 54 = .ok (.iload 7, 2) := by decide +kernel
theorem dX10_isSuspect_56 : decode cX10_isSuspect 56 = .ok (.iload_n 3, 1) := by decide +kernel
theorem dX10_isSuspect_57 : decode cX10_isSuspect 57 = .ok (.invokevirtual 89, 3) := by decide +kernel
theorem dX10_isSuspect_60 : decode cX10_isSuspect 60 = .ok (.ifCond .ne 5, 3) := by decide +kernel
theorem dX10_isSuspect_63 : decode cX10_isSuspect 63 = .ok (.iconst 0, 1) := by decide +kernel
theorem dX10_isSuspect_64 : decode cX10_isSuspect 64 = .ok (.ireturn, 1) := by decide +kernel
theorem dX10_isSuspect_65 : decode cX10_isSuspect 65 = .ok (.aload_n 0, 1) := by decide +kernel
theorem dX10_isSuspect_66 : decode cX10_isSuspect 66 = .ok (.getfield 27, 3) := by decide +kernel
theorem dX10_isSuspect_69 : decode cX10_isSuspect 69 = .ok (.lload 5, 2) := by decide +kernel
theorem dX10_isSuspect_71 : decode cX10_isSuspect 71 = .ok (.aload_n 0, 1) := by decide +kernel
theorem dX10_isSuspect_72 : decode cX10_isSuspect 72 = .ok (.getfield 21, 3) := by decide +kernel
theorem dX10_isSuspect_75 : decode cX10_isSuspect 75 = .ok (.aload_n 0, 1) := by decide +kernel
theorem dX10_isSuspect_76 : decode cX10_isSuspect 76 = .ok (.getfield 27, 3) := by decide +kernel
theorem dX10_isSuspect_79 : decode cX10_isSuspect 79 = .ok (.getfield 35, 3) := by decide +kernel
theorem dX10_isSuspect_82 : decode cX10_isSuspect 82 = .ok (.getfield 92, 3) := by decide +kernel
theorem dX10_isSuspect_85 : decode cX10_isSuspect 85 = .ok (.aload_n 0, 1) := by decide +kernel
theorem dX10_isSuspect_86 : decode cX10_isSuspect 86 = .ok (.getfield 27, 3) := by decide +kernel
theorem dX10_isSuspect_89 : decode cX10_isSuspect 89 = .ok (.getfield 35, 3) := by decide +kernel
theorem dX10_isSuspect_92 : decode cX10_isSuspect 92 = .ok (.iload 7, 2) := by decide +kernel
theorem dX10_isSuspect_94 : decode cX10_isSuspect 94 = .ok (.invokevirtual 95, 3) := by decide +kernel
theorem dX10_isSuspect_97 : decode cX10_isSuspect 97 = .ok (.invokevirtual 99, 3) := by decide +kernel
theorem dX10_isSuspect_100 : decode cX10_isSuspect 100 = .ok (.lstore 5, 2) := by decide +kernel
theorem dX10_isSuspect_102 : decode cX10_isSuspect 102 = .ok (.iinc 7 1, 3) := by decide +kernel
theorem dX10_isSuspect_105 : decode cX10_isSuspect 105 = .ok (.goto (-68), 3) := by decide +kernel
theorem dX10_isSuspect_108 : decode cX10_isSuspect 108 = .ok (.iconst 1, 1) := by decide +kernel
theorem dX10_isSuspect_109 : decode cX10_isSuspect 109 = .ok (.ireturn, 1) := by decide +kernel
def k_X10_isSuspect_37 (X : CX) (T : List Dsc) (R : RM) (n1 n2 : Nat) (x3 : Int32) (x4 : Int32) (r : ((Int64 × Int32 × M2) ⊕ ((M2) ⊕ (M2)))) : Prop := match r with
  | .inl s => Wp X cX10_isSuspect RX10 8 T (mk s.2.2 R) n1 n2 37 [(0, .ref 41), (3, .int x3), (4, .int x4), (5, .long s.1), (7, .int s.2.1)] []
  | .inr (.inl e) => Wp X cX10_isSuspect RX10 8 T (mk e R) n1 n2 63 [] []
  | .inr (.inr e) => Wp X cX10_isSuspect RX10 8 T (mk e R) n1 n2 108 [] []
set_option maxHeartbeats 4000000 in
set_option maxRecDepth 100000 in
theorem w_X10_isSuspect_37 {X : CX} {T : List Dsc} {R : RM} {c e : Nat} {n1 n2 : Nat} {x3 : Int32} {x4 : Int32} {x5 : Int64} {x7 : Int32} {m : M2} {r : ((Int64 × Int32 × M2) ⊕ ((M2) ⊕ (M2)))} (hX : XR X 6 n1 n2) (hG : Geo T R c e) (hf : f_X10_isSuspect_37 c x3 x4 x5 x7 m = some r) (hk : k_X10_isSuspect_37 X T R n1 n2 x3 x4 r) : Wp X cX10_isSuspect RX10 8 T (mk m R) n1 n2 37 [(0, .ref 41), (3, .int x3), (4, .int x4), (5, .long x5), (7, .int x7)] [] := by
  unfold f_X10_isSuspect_37 at hf
  refine Wp.iload (pc := 37) 4 rfl dX10_isSuspect_37 ?_
  refine Wp.iload (pc := 39) 2 rfl dX10_isSuspect_39 ?_
  refine Wp.icmp_gt (pc := 41) 108 dX10_isSuspect_41 (by decide) (fun hc1 => ?_) (fun hc1 => ?_)
  · rw [if_pos hc1] at hf
    refine Wp.lo' (lo' := []) [] rfl ?_
    cases hf
    exact hk
  · rw [if_neg hc1] at hf
    refine Wp.aload_n (pc := 44) 0 rfl rfl dX10_isSuspect_44 ?_
    refine Wp.aload_n (pc := 45) 0 rfl rfl dX10_isSuspect_45 ?_
    refine Wp.getR2 (pc := 46) (hG.r 41 0 rfl) (hG.t 41 rfl) fk_RX10_27 rfl dX10_isSuspect_46 ?_
    refine Wp.lload (pc := 49) 3 rfl dX10_isSuspect_49 ?_
    obtain ⟨c2, h3, hf⟩ := bnd hf
    refine Wp.callVi (pc := 51) (st := [.ref 41]) (as := [.long x5]) (c_X5_clashBits hG h3) ml_RX10_85 mv_X5_clashBits mb_X5_clashBits hX (Nat.le_of_ble_eq_true rfl) (by decide) rfl (hG.t 23 rfl) rfl (by simp [Value.category]) dX10_isSuspect_51 rfl ?_
    refine Wp.iload (pc := 54) 4 rfl dX10_isSuspect_54 ?_
    refine Wp.iload_n (pc := 56) 1 rfl rfl dX10_isSuspect_56 ?_
    obtain ⟨c4, h5, hf⟩ := bnd hf
    refine Wp.callVi (pc := 57) (st := []) (as := [.int c2.1, .int x7, .int x3]) (c_X10_agrees hG h5) ml_RX10_89 mv_X10_agrees mb_X10_agrees hX (Nat.le_of_ble_eq_true rfl) (by decide) rfl (hG.t 41 rfl) rfl (by simp) dX10_isSuspect_57 rfl ?_
    refine Wp.if_ne (pc := 60) 65 dX10_isSuspect_60 (by decide) (fun hc6 => ?_) (fun hc6 => ?_)
    · rw [if_neg hc6] at hf
      refine Wp.aload_n (pc := 65) 0 rfl rfl dX10_isSuspect_65 ?_
      refine Wp.getR2 (pc := 66) (hG.r 41 0 rfl) (hG.t 41 rfl) fk_RX10_27 rfl dX10_isSuspect_66 ?_
      refine Wp.lload (pc := 69) 3 rfl dX10_isSuspect_69 ?_
      refine Wp.aload_n (pc := 71) 0 rfl rfl dX10_isSuspect_71 ?_
      refine Wp.getR2 (pc := 72) (hG.r 41 5 rfl) (hG.t 41 rfl) fk_RX10_21 rfl dX10_isSuspect_72 ?_
      refine Wp.aload_n (pc := 75) 0 rfl rfl dX10_isSuspect_75 ?_
      refine Wp.getR2 (pc := 76) (hG.r 41 0 rfl) (hG.t 41 rfl) fk_RX10_27 rfl dX10_isSuspect_76 ?_
      refine Wp.getR2 (pc := 79) hG.r2 (hG.t 23 rfl) fk_RX10_35 rfl dX10_isSuspect_79 ?_
      refine Wp.getI2 (pc := 82) (hG.tt hG.hc) fk_RX10_92 rfl dX10_isSuspect_82 ?_
      refine Wp.aload_n (pc := 85) 0 rfl rfl dX10_isSuspect_85 ?_
      refine Wp.getR2 (pc := 86) (hG.r 41 0 rfl) (hG.t 41 rfl) fk_RX10_27 rfl dX10_isSuspect_86 ?_
      refine Wp.getR2 (pc := 89) hG.r2 (hG.t 23 rfl) fk_RX10_35 rfl dX10_isSuspect_89 ?_
      refine Wp.iload (pc := 92) 4 rfl dX10_isSuspect_92 ?_
      obtain ⟨c7, h8, hf⟩ := bnd hf
      refine Wp.callVi (pc := 94) (st := [.int (hI c4.2 c 8), .ref 45, .long x5, .ref 23]) (as := [.int x7]) (c_X7_isFog hG hG.hc h8) ml_RX10_95 mv_X7_isFog mb_X7_isFog hX (Nat.le_of_ble_eq_true rfl) (by decide) rfl (hG.tt hG.hc) rfl (by simp [Value.category]) dX10_isSuspect_94 rfl ?_
      obtain ⟨c9, h10, hf⟩ := bnd hf
      refine Wp.callVl (pc := 97) (st := []) (as := [.long x5, .ref 45, .int (hI c4.2 c 8), .int c7.1]) (c_X5_stroke hG (hG.a 45 0 rfl) h10) ml_RX10_99 mv_X5_stroke mb_X5_stroke hX (Nat.le_of_ble_eq_true rfl) (by decide) rfl (hG.t 23 rfl) rfl (by simp) dX10_isSuspect_97 rfl ?_
      refine Wp.lstore (pc := 100) (lo' := [(0, .ref 41), (3, .int x3), (4, .int x4), (5, .long c9.1), (7, .int x7)]) [1, 2, 3, 0, 4] rfl (by decide) dX10_isSuspect_100 ?_
      obtain ⟨v11, h12, hf⟩ := bnd hf
      refine Wp.iincN (pc := 102) (lo' := [(0, .ref 41), (3, .int x3), (4, .int x4), (5, .long c9.1), (7, .int v11)]) (1 : Int32) (by decide) h12 4 rfl [1, 2, 3, 4, 0] rfl (by decide) dX10_isSuspect_102 ?_
      refine Wp.goto (pc := 105) 37 dX10_isSuspect_105 (by decide) ?_
      cases hf
      exact hk
    · rw [if_pos hc6] at hf
      refine Wp.lo' (lo' := []) [] rfl ?_
      cases hf
      exact hk
theorem wl_X10_isSuspect_37 {X : CX} {T : List Dsc} {R : RM} {c e : Nat} {n1 n2 : Nat} {x3 : Int32} {x4 : Int32} {x5 : Int64} {x7 : Int32} {m : M2} {e1 : ((M2) ⊕ (M2))} (hX : XR X 6 n1 n2) (hG : Geo T R c e) (h : loop (g_X10_isSuspect_37 c x3 x4) (x5, x7, m) = some e1) (he0 : ∀ e_, e1 = (Sum.inl e_) → Wp X cX10_isSuspect RX10 8 T (mk e_ R) n1 n2 63 [] []) (he1 : ∀ e_, e1 = (Sum.inr e_) → Wp X cX10_isSuspect RX10 8 T (mk e_ R) n1 n2 108 [] []) : Wp X cX10_isSuspect RX10 8 T (mk m R) n1 n2 37 [(0, .ref 41), (3, .int x3), (4, .int x4), (5, .long x5), (7, .int x7)] [] :=
  loop_ok (K := k_X10_isSuspect_37 X T R n1 n2 x3 x4) (fun s r hf hk => w_X10_isSuspect_37 hX hG hf hk) h (by rcases e1 with e_ | e_ <;> first | exact he0 _ rfl | exact he1 _ rfl)
set_option maxHeartbeats 4000000 in
set_option maxRecDepth 100000 in
theorem w_X10_isSuspect {X : CX} {T : List Dsc} {R : RM} {c e : Nat} {n1 n2 : Nat} {x1 : Int32} {x2 : Int32} {x3 : Int32} {m : M2} {r : (Int32 × M2)} (hX : XR X 6 n1 n2) (hG : Geo T R c e) (hf : F_X10_isSuspect c x1 x2 x3 m = some r) (hk : FnZ X cX10_isSuspect RX10 8 T n1 n2 (r.1, mk r.2 R)) : Wp X cX10_isSuspect RX10 8 T (mk m R) n1 n2 0 [(0, .ref 41), (1, .int x1), (2, .int x2), (3, .int x3)] [] := by
  unfold F_X10_isSuspect at hf
  refine Wp.iload_n (pc := 0) 1 rfl rfl dX10_isSuspect_0 ?_
  obtain ⟨c1, h2, hf⟩ := bnd hf
  refine Wp.callSi (pc := 1) (st := []) (as := [.int x1]) (c_J6_bitCount_0f7a4 hG h2) ml_RX10_68 ms_J6_bitCount_0f7a4 mb_J6_bitCount_0f7a4 hX (Nat.le_of_ble_eq_true rfl) (by decide) rfl (by simp) dX10_isSuspect_1 rfl ?_
  refine Wp.iload_n (pc := 4) 2 rfl rfl dX10_isSuspect_4 ?_
  refine Wp.icmp_eq (pc := 5) 10 dX10_isSuspect_5 (by decide) (fun hc3 => ?_) (fun hc3 => ?_)
  · rw [if_pos hc3] at hf
    refine Wp.aload_n (pc := 10) 0 rfl rfl dX10_isSuspect_10 ?_
    refine Wp.iload_n (pc := 11) 1 rfl rfl dX10_isSuspect_11 ?_
    obtain ⟨c4, h5, hf⟩ := bnd hf
    refine Wp.callVv (pc := 12) (st := []) (as := [.int x1]) (c_X10_breakMen hG h5) ml_RX10_74 mv_X10_breakMen mb_X10_breakMen hX (Nat.le_of_ble_eq_true rfl) (by decide) rfl (hG.t 41 rfl) rfl (by simp) dX10_isSuspect_12 rfl ?_
    refine Wp.aload_n (pc := 15) 0 rfl rfl dX10_isSuspect_15 ?_
    refine Wp.iload_n (pc := 16) 3 rfl rfl dX10_isSuspect_16 ?_
    obtain ⟨c6, h7, hf⟩ := bnd hf
    refine Wp.callVi (pc := 17) (st := []) (as := [.int x3]) (c_X10_lastKnown hG h7) ml_RX10_78 mv_X10_lastKnown mb_X10_lastKnown hX (Nat.le_of_ble_eq_true rfl) (by decide) rfl (hG.t 41 rfl) rfl (by simp) dX10_isSuspect_17 rfl ?_
    refine Wp.istore (pc := 20) (lo' := [(0, .ref 41), (3, .int x3), (4, .int c6.1)]) [1, 4, 0] rfl (by decide) dX10_isSuspect_20 ?_
    refine Wp.aload_n (pc := 22) 0 rfl rfl dX10_isSuspect_22 ?_
    refine Wp.getR2 (pc := 23) (hG.r 41 0 rfl) (hG.t 41 rfl) fk_RX10_27 rfl dX10_isSuspect_23 ?_
    refine Wp.getR2 (pc := 26) hG.r2 (hG.t 23 rfl) fk_RX10_35 rfl dX10_isSuspect_26 ?_
    refine Wp.getJ2 (pc := 29) (hG.tt hG.hc) fk_RX10_81 rfl dX10_isSuspect_29 ?_
    obtain ⟨v8, h9, hf⟩ := bnd hf
    refine Wp.nJ' h9 ?_
    refine Wp.lstore (pc := 32) (lo' := [(0, .ref 41), (3, .int x3), (4, .int c6.1), (5, .long v8)]) [1, 2, 3, 0] rfl (by decide) dX10_isSuspect_32 ?_
    refine Wp.iconst (pc := 34) (0 : Int32) (by decide) dX10_isSuspect_34 ?_
    refine Wp.istore (pc := 35) (lo' := [(0, .ref 41), (3, .int x3), (4, .int c6.1), (5, .long v8), (7, .int (0 : Int32))]) [1, 2, 3, 4, 0] rfl (by decide) dX10_isSuspect_35 ?_
    obtain ⟨e10, h11, hf⟩ := bnd hf
    refine wl_X10_isSuspect_37 hX hG h11 (fun e10_0 hq => ?_) (fun e10_1 hq => ?_)
    · rw [hq, Sum.elim_inl] at hf
      refine Wp.iconst (pc := 63) (0 : Int32) (by decide) dX10_isSuspect_63 ?_
      cases hf
      exact hk _ _ (Or.inl rfl) dX10_isSuspect_64
    · rw [hq, Sum.elim_inr] at hf
      refine Wp.iconst (pc := 108) (1 : Int32) (by decide) dX10_isSuspect_108 ?_
      cases hf
      exact hk _ _ (Or.inr rfl) dX10_isSuspect_109
  · rw [if_neg hc3] at hf
    refine Wp.iconst (pc := 8) (0 : Int32) (by decide) dX10_isSuspect_8 ?_
    cases hf
    exact hk _ _ (Or.inl rfl) dX10_isSuspect_9
theorem c_X10_isSuspect {T : List Dsc} {R : RM} {c e : Nat} {x1 : Int32} {x2 : Int32} {x3 : Int32} {m : M2} {r : (Int32 × M2)} (hG : Geo T R c e) (hf : F_X10_isSuspect c x1 x2 x3 m = some r) : Ct 6 yX10_isSuspect cX10_isSuspect 8 (some .boolean) T (mk m R) [.ref 41, .int x1, .int x2, .int x3] (some (.int r.1)) (mk r.2 R) := Ct.ofZ (r := (r.1, mk r.2 R)) (by decide +kernel) (Nat.le_of_ble_eq_true rfl) (fun X hX hk => w_X10_isSuspect hX hG hf hk)
theorem dX10_countSets_0 : decode cX10_countSets 0 = .ok (.iconst 0, 1) := by decide +kernel
theorem dX10_countSets_1 : decode cX10_countSets 1 = .ok (.istore_n 3, 1) := by decide +kernel
theorem dX10_countSets_2 : decode cX10_countSets 2 = .ok (.iconst 0, 1) := by decide +kernel
theorem dX10_countSets_3 : decode cX10_countSets 3 = .ok (.istore 4, 2) := by decide +kernel
theorem dX10_countSets_5 : decode cX10_countSets 5 = .ok (.iload 4, 2) := by decide +kernel
theorem dX10_countSets_7 : decode cX10_countSets 7 = .ok (.iconst 1, 1) := by decide +kernel
theorem dX10_countSets_8 : decode cX10_countSets 8 = .ok (.aload_n 0, 1) := by decide +kernel
theorem dX10_countSets_9 : decode cX10_countSets 9 = .ok (.getfield 27, 3) := by decide +kernel
theorem dX10_countSets_12 : decode cX10_countSets 12 = .ok (.getfield 35, 3) := by decide +kernel
theorem dX10_countSets_15 : decode cX10_countSets 15 = .ok (.getfield 41, 3) := by decide +kernel
theorem dX10_countSets_18 : decode cX10_countSets 18 = .ok (.ishl, 1) := by decide +kernel
theorem dX10_countSets_19 : decode cX10_countSets 19 = .ok (.if_icmp .ge 23, 3) := by decide +kernel
theorem dX10_countSets_22 : decode cX10_countSets 22 = .ok (.aload_n 0, 1) := by decide +kernel
theorem dX10_countSets_23 : decode cX10_countSets 23 = .ok (.iload 4, 2) := by decide +kernel
theorem dX10_countSets_25 : decode cX10_countSets 25 = .ok (.iload_n 1, 1) := by decide +kernel
theorem dX10_countSets_26 : decode cX10_countSets 26 = .ok (.iload_n 2, 1) := by decide +kernel
theorem dX10_countSets_27 : decode cX10_countSets 27 = .ok (.invokevirtual 46, 3) := by decide +kernel
theorem dX10_countSets_30 : decode cX10_countSets 30 = .ok (.ifCond .eq 6, 3) := by decide +kernel
theorem dX10_countSets_33 : decode cX10_countSets 33 = .ok (.iinc 3 1, 3) := by decide +kernel
theorem dX10_countSets_36 : decode cX10_countSets 36 = .ok (.iinc 4 1, 3) := by decide +kernel
theorem dX10_countSets_39 : decode cX10_countSets 39 = .ok (.goto (-34), 3) := by decide +kernel
theorem dX10_countSets_42 : decode cX10_countSets 42 = .ok (.iload_n 3, 1) := by decide +kernel
theorem dX10_countSets_43 : decode cX10_countSets 43 = .ok (.ireturn, 1) := by decide +kernel
def k_X10_countSets_5 (X : CX) (T : List Dsc) (R : RM) (n1 n2 : Nat) (x1 : Int32) (x2 : Int32) (r : ((Int32 × Int32 × M2) ⊕ ((Int32 × M2)))) : Prop := match r with
  | .inl s => Wp X cX10_countSets RX10 5 T (mk s.2.2 R) n1 n2 5 [(0, .ref 41), (1, .int x1), (2, .int x2), (3, .int s.1), (4, .int s.2.1)] []
  | .inr e => Wp X cX10_countSets RX10 5 T (mk e.2 R) n1 n2 42 [(3, .int e.1)] []
set_option maxHeartbeats 4000000 in
set_option maxRecDepth 100000 in
theorem w_X10_countSets_36 {X : CX} {T : List Dsc} {R : RM} {c e : Nat} {n1 n2 : Nat} {x1 : Int32} {x2 : Int32} {x3 : Int32} {x4 : Int32} {m : M2} {r : ((Int32 × Int32 × M2) ⊕ ((Int32 × M2)))} (hX : XR X 7 n1 n2) (hG : Geo T R c e) (hf : f_X10_countSets_36 c x1 x2 x3 x4 m = some r) (hk : k_X10_countSets_5 X T R n1 n2 x1 x2 r) : Wp X cX10_countSets RX10 5 T (mk m R) n1 n2 36 [(0, .ref 41), (1, .int x1), (2, .int x2), (3, .int x3), (4, .int x4)] [] := by
  unfold f_X10_countSets_36 at hf
  obtain ⟨v1, h2, hf⟩ := bnd hf
  refine Wp.iincN (pc := 36) (lo' := [(0, .ref 41), (1, .int x1), (2, .int x2), (3, .int x3), (4, .int v1)]) (1 : Int32) (by decide) h2 4 rfl [1, 2, 3, 4, 0] rfl (by decide) dX10_countSets_36 ?_
  refine Wp.goto (pc := 39) 5 dX10_countSets_39 (by decide) ?_
  cases hf
  exact hk
set_option maxHeartbeats 4000000 in
set_option maxRecDepth 100000 in
theorem w_X10_countSets_5 {X : CX} {T : List Dsc} {R : RM} {c e : Nat} {n1 n2 : Nat} {x1 : Int32} {x2 : Int32} {x3 : Int32} {x4 : Int32} {m : M2} {r : ((Int32 × Int32 × M2) ⊕ ((Int32 × M2)))} (hX : XR X 7 n1 n2) (hG : Geo T R c e) (hf : f_X10_countSets_5 c x1 x2 x3 x4 m = some r) (hk : k_X10_countSets_5 X T R n1 n2 x1 x2 r) : Wp X cX10_countSets RX10 5 T (mk m R) n1 n2 5 [(0, .ref 41), (1, .int x1), (2, .int x2), (3, .int x3), (4, .int x4)] [] := by
  unfold f_X10_countSets_5 at hf
  refine Wp.iload (pc := 5) 4 rfl dX10_countSets_5 ?_
  refine Wp.iconst (pc := 7) (1 : Int32) (by decide) dX10_countSets_7 ?_
  refine Wp.aload_n (pc := 8) 0 rfl rfl dX10_countSets_8 ?_
  refine Wp.getR2 (pc := 9) (hG.r 41 0 rfl) (hG.t 41 rfl) fk_RX10_27 rfl dX10_countSets_9 ?_
  refine Wp.getR2 (pc := 12) hG.r2 (hG.t 23 rfl) fk_RX10_35 rfl dX10_countSets_12 ?_
  refine Wp.getI2 (pc := 15) (hG.tt hG.hc) fk_RX10_41 rfl dX10_countSets_15 ?_
  refine Wp.ishl (pc := 18) dX10_countSets_18 ?_
  refine Wp.icmp_ge (pc := 19) 42 dX10_countSets_19 (by decide) (fun hc1 => ?_) (fun hc1 => ?_)
  · rw [if_pos hc1] at hf
    refine Wp.lo' (lo' := [(3, .int x3)]) [3] rfl ?_
    cases hf
    exact hk
  · rw [if_neg hc1] at hf
    refine Wp.aload_n (pc := 22) 0 rfl rfl dX10_countSets_22 ?_
    refine Wp.iload (pc := 23) 4 rfl dX10_countSets_23 ?_
    refine Wp.iload_n (pc := 25) 1 rfl rfl dX10_countSets_25 ?_
    refine Wp.iload_n (pc := 26) 2 rfl rfl dX10_countSets_26 ?_
    obtain ⟨c2, h3, hf⟩ := bnd hf
    refine Wp.callVi (pc := 27) (st := []) (as := [.int x4, .int x1, .int x2]) (c_X10_isSuspect hG h3) ml_RX10_46 mv_X10_isSuspect mb_X10_isSuspect hX (Nat.le_of_ble_eq_true rfl) (by decide) rfl (hG.t 41 rfl) rfl (by simp) dX10_countSets_27 rfl ?_
    refine Wp.if_eq (pc := 30) 36 dX10_countSets_30 (by decide) (fun hc4 => ?_) (fun hc4 => ?_)
    · rw [if_pos hc4] at hf
      exact w_X10_countSets_36 hX hG hf hk
    · rw [if_neg hc4] at hf
      obtain ⟨v5, h6, hf⟩ := bnd hf
      refine Wp.iincN (pc := 33) (lo' := [(0, .ref 41), (1, .int x1), (2, .int x2), (3, .int v5), (4, .int x4)]) (1 : Int32) (by decide) h6 3 rfl [1, 2, 3, 0, 4] rfl (by decide) dX10_countSets_33 ?_
      exact w_X10_countSets_36 hX hG hf hk
theorem wl_X10_countSets_5 {X : CX} {T : List Dsc} {R : RM} {c e : Nat} {n1 n2 : Nat} {x1 : Int32} {x2 : Int32} {x3 : Int32} {x4 : Int32} {m : M2} {e1 : ((Int32 × M2))} (hX : XR X 7 n1 n2) (hG : Geo T R c e) (h : loop (g_X10_countSets_5 c x1 x2) (x3, x4, m) = some e1) (he : Wp X cX10_countSets RX10 5 T (mk e1.2 R) n1 n2 42 [(3, .int e1.1)] []) : Wp X cX10_countSets RX10 5 T (mk m R) n1 n2 5 [(0, .ref 41), (1, .int x1), (2, .int x2), (3, .int x3), (4, .int x4)] [] :=
  loop_ok (K := k_X10_countSets_5 X T R n1 n2 x1 x2) (fun s r hf hk => w_X10_countSets_5 hX hG hf hk) h he
set_option maxHeartbeats 4000000 in
set_option maxRecDepth 100000 in
theorem w_X10_countSets {X : CX} {T : List Dsc} {R : RM} {c e : Nat} {n1 n2 : Nat} {x1 : Int32} {x2 : Int32} {m : M2} {r : (Int32 × M2)} (hX : XR X 7 n1 n2) (hG : Geo T R c e) (hf : F_X10_countSets c x1 x2 m = some r) (hk : FnI X cX10_countSets RX10 5 T n1 n2 (r.1, mk r.2 R)) : Wp X cX10_countSets RX10 5 T (mk m R) n1 n2 0 [(0, .ref 41), (1, .int x1), (2, .int x2)] [] := by
  unfold F_X10_countSets at hf
  refine Wp.iconst (pc := 0) (0 : Int32) (by decide) dX10_countSets_0 ?_
  refine Wp.istore_n (pc := 1) (lo' := [(0, .ref 41), (1, .int x1), (2, .int x2), (3, .int (0 : Int32))]) [1, 2, 3, 0] rfl (by decide) rfl dX10_countSets_1 ?_
  refine Wp.iconst (pc := 2) (0 : Int32) (by decide) dX10_countSets_2 ?_
  refine Wp.istore (pc := 3) (lo' := [(0, .ref 41), (1, .int x1), (2, .int x2), (3, .int (0 : Int32)), (4, .int (0 : Int32))]) [1, 2, 3, 4, 0] rfl (by decide) dX10_countSets_3 ?_
  obtain ⟨e1, h2, hf⟩ := bnd hf
  refine wl_X10_countSets_5 hX hG h2 ?_
  refine Wp.iload_n (pc := 42) 0 rfl rfl dX10_countSets_42 ?_
  cases hf
  exact hk _ _ dX10_countSets_43
theorem c_X10_countSets {T : List Dsc} {R : RM} {c e : Nat} {x1 : Int32} {x2 : Int32} {m : M2} {r : (Int32 × M2)} (hG : Geo T R c e) (hf : F_X10_countSets c x1 x2 m = some r) : Ct 7 yX10_countSets cX10_countSets 5 (some .int) T (mk m R) [.ref 41, .int x1, .int x2] (some (.int r.1)) (mk r.2 R) := Ct.ofI (r := (r.1, mk r.2 R)) (by decide +kernel) (Nat.le_of_ble_eq_true rfl) (fun X hX hk => w_X10_countSets hX hG hf hk)
theorem dX10_setNumber_0 : decode cX10_setNumber 0 = .ok (.iconst 0, 1) := by decide +kernel
theorem dX10_setNumber_1 : decode cX10_setNumber 1 = .ok (.istore 4, 2) := by decide +kernel
theorem dX10_setNumber_3 : decode cX10_setNumber 3 = .ok (.iconst 0, 1) := by decide +kernel
theorem dX10_setNumber_4 : decode cX10_setNumber 4 = .ok (.istore 5, 2) := by decide +kernel
theorem dX10_setNumber_6 : decode cX10_setNumber 6 = .ok (.iload 5, 2) := by decide +kernel
theorem dX10_setNumber_8 : decode cX10_setNumber 8 = .ok (.iconst 1, 1) := by decide +kernel
theorem dX10_setNumber_9 : decode cX10_setNumber 9 = .ok (.aload_n 0, 1) := by decide +kernel
theorem dX10_setNumber_10 : decode cX10_setNumber 10 = .ok (.getfield 27, 3) := by decide +kernel
theorem dX10_setNumber_13 : decode cX10_setNumber 13 = .ok (.getfield 35, 3) := by decide +kernel
theorem dX10_setNumber_16 : decode cX10_setNumber 16 = .ok (.getfield 41, 3) := by decide +kernel
theorem dX10_setNumber_19 : decode cX10_setNumber 19 = .ok (.ishl, 1) := by decide +kernel
theorem dX10_setNumber_20 : decode cX10_setNumber 20 = .ok (.if_icmp .ge 32, 3) := by decide +kernel
theorem dX10_setNumber_23 : decode cX10_setNumber 23 = .ok (.aload_n 0, 1) := by decide +kernel
theorem dX10_setNumber_24 : decode cX10_setNumber 24 = .ok (.iload 5, 2) := by decide +kernel
theorem dX10_setNumber_26 : decode cX10_setNumber 26 = .ok (.iload_n 1, 1) := by decide +kernel
theorem dX10_setNumber_27 : decode cX10_setNumber 27 = .ok (.iload_n 2, 1) := by decide +kernel
theorem dX10_setNumber_28 : decode cX10_setNumber 28 = .ok (.invokevirtual 46, 3) := by decide +kernel
theorem dX10_setNumber_31 : decode cX10_setNumber 31 = .ok (.ifCond .eq 15, 3) := by decide +kernel
theorem dX10_setNumber_34 : decode cX10_setNumber 34 = .ok (.iload 4, 2) := by decide +kernel
theorem dX10_setNumber_36 : decode cX10_setNumber 36 = .ok (.iload_n 3, 1) := by decide +kernel
theorem dX10_setNumber_37 : decode cX10_setNumber 37 = .ok (.if_icmp .ne 6, 3) := by decide +kernel
theorem dX10_setNumber_40 : decode cX10_setNumber 40 = .ok (.iload 5, 2) := by decide +kernel
theorem dX10_setNumber_42 : decode cX10_setNumber 42 = .ok (.ireturn, 1) := by decide +kernel
theorem dX10_setNumber_43 : decode cX10_setNumber 43 = .ok (.iinc 4 1, 3) := by decide +kernel
theorem dX10_setNumber_46 : decode cX10_setNumber 46 = .ok (.iinc 5 1, 3) := by decide +kernel
theorem dX10_setNumber_49 : decode cX10_setNumber 49 = .ok (.goto (-43), 3) := by decide +kernel
theorem dX10_setNumber_52 : decode cX10_setNumber 52 = .ok (.iconst (-1), 1) := by decide +kernel
theorem dX10_setNumber_53 : decode cX10_setNumber 53 = .ok (.ireturn, 1) := by decide +kernel
def k_X10_setNumber_6 (X : CX) (T : List Dsc) (R : RM) (n1 n2 : Nat) (x1 : Int32) (x2 : Int32) (x3 : Int32) (r : ((Int32 × Int32 × M2) ⊕ ((Int32 × M2) ⊕ (M2)))) : Prop := match r with
  | .inl s => Wp X cX10_setNumber RX10 6 T (mk s.2.2 R) n1 n2 6 [(0, .ref 41), (1, .int x1), (2, .int x2), (3, .int x3), (4, .int s.1), (5, .int s.2.1)] []
  | .inr (.inl e) => Wp X cX10_setNumber RX10 6 T (mk e.2 R) n1 n2 40 [(5, .int e.1)] []
  | .inr (.inr e) => Wp X cX10_setNumber RX10 6 T (mk e R) n1 n2 52 [] []
set_option maxHeartbeats 4000000 in
set_option maxRecDepth 100000 in
theorem w_X10_setNumber_46 {X : CX} {T : List Dsc} {R : RM} {c e : Nat} {n1 n2 : Nat} {x1 : Int32} {x2 : Int32} {x3 : Int32} {x4 : Int32} {x5 : Int32} {m : M2} {r : ((Int32 × Int32 × M2) ⊕ ((Int32 × M2) ⊕ (M2)))} (hX : XR X 7 n1 n2) (hG : Geo T R c e) (hf : f_X10_setNumber_46 c x1 x2 x3 x4 x5 m = some r) (hk : k_X10_setNumber_6 X T R n1 n2 x1 x2 x3 r) : Wp X cX10_setNumber RX10 6 T (mk m R) n1 n2 46 [(0, .ref 41), (1, .int x1), (2, .int x2), (3, .int x3), (4, .int x4), (5, .int x5)] [] := by
  unfold f_X10_setNumber_46 at hf
  obtain ⟨v1, h2, hf⟩ := bnd hf
  refine Wp.iincN (pc := 46) (lo' := [(0, .ref 41), (1, .int x1), (2, .int x2), (3, .int x3), (4, .int x4), (5, .int v1)]) (1 : Int32) (by decide) h2 5 rfl [1, 2, 3, 4, 5, 0] rfl (by decide) dX10_setNumber_46 ?_
  refine Wp.goto (pc := 49) 6 dX10_setNumber_49 (by decide) ?_
  cases hf
  exact hk
set_option maxHeartbeats 4000000 in
set_option maxRecDepth 100000 in
theorem w_X10_setNumber_6 {X : CX} {T : List Dsc} {R : RM} {c e : Nat} {n1 n2 : Nat} {x1 : Int32} {x2 : Int32} {x3 : Int32} {x4 : Int32} {x5 : Int32} {m : M2} {r : ((Int32 × Int32 × M2) ⊕ ((Int32 × M2) ⊕ (M2)))} (hX : XR X 7 n1 n2) (hG : Geo T R c e) (hf : f_X10_setNumber_6 c x1 x2 x3 x4 x5 m = some r) (hk : k_X10_setNumber_6 X T R n1 n2 x1 x2 x3 r) : Wp X cX10_setNumber RX10 6 T (mk m R) n1 n2 6 [(0, .ref 41), (1, .int x1), (2, .int x2), (3, .int x3), (4, .int x4), (5, .int x5)] [] := by
  unfold f_X10_setNumber_6 at hf
  refine Wp.iload (pc := 6) 5 rfl dX10_setNumber_6 ?_
  refine Wp.iconst (pc := 8) (1 : Int32) (by decide) dX10_setNumber_8 ?_
  refine Wp.aload_n (pc := 9) 0 rfl rfl dX10_setNumber_9 ?_
  refine Wp.getR2 (pc := 10) (hG.r 41 0 rfl) (hG.t 41 rfl) fk_RX10_27 rfl dX10_setNumber_10 ?_
  refine Wp.getR2 (pc := 13) hG.r2 (hG.t 23 rfl) fk_RX10_35 rfl dX10_setNumber_13 ?_
  refine Wp.getI2 (pc := 16) (hG.tt hG.hc) fk_RX10_41 rfl dX10_setNumber_16 ?_
  refine Wp.ishl (pc := 19) dX10_setNumber_19 ?_
  refine Wp.icmp_ge (pc := 20) 52 dX10_setNumber_20 (by decide) (fun hc1 => ?_) (fun hc1 => ?_)
  · rw [if_pos hc1] at hf
    refine Wp.lo' (lo' := []) [] rfl ?_
    cases hf
    exact hk
  · rw [if_neg hc1] at hf
    refine Wp.aload_n (pc := 23) 0 rfl rfl dX10_setNumber_23 ?_
    refine Wp.iload (pc := 24) 5 rfl dX10_setNumber_24 ?_
    refine Wp.iload_n (pc := 26) 1 rfl rfl dX10_setNumber_26 ?_
    refine Wp.iload_n (pc := 27) 2 rfl rfl dX10_setNumber_27 ?_
    obtain ⟨c2, h3, hf⟩ := bnd hf
    refine Wp.callVi (pc := 28) (st := []) (as := [.int x5, .int x1, .int x2]) (c_X10_isSuspect hG h3) ml_RX10_46 mv_X10_isSuspect mb_X10_isSuspect hX (Nat.le_of_ble_eq_true rfl) (by decide) rfl (hG.t 41 rfl) rfl (by simp) dX10_setNumber_28 rfl ?_
    refine Wp.if_eq (pc := 31) 46 dX10_setNumber_31 (by decide) (fun hc4 => ?_) (fun hc4 => ?_)
    · rw [if_pos hc4] at hf
      exact w_X10_setNumber_46 hX hG hf hk
    · rw [if_neg hc4] at hf
      refine Wp.iload (pc := 34) 4 rfl dX10_setNumber_34 ?_
      refine Wp.iload_n (pc := 36) 3 rfl rfl dX10_setNumber_36 ?_
      refine Wp.icmp_ne (pc := 37) 43 dX10_setNumber_37 (by decide) (fun hc5 => ?_) (fun hc5 => ?_)
      · rw [if_neg hc5] at hf
        obtain ⟨v6, h7, hf⟩ := bnd hf
        refine Wp.iincN (pc := 43) (lo' := [(0, .ref 41), (1, .int x1), (2, .int x2), (3, .int x3), (4, .int v6), (5, .int x5)]) (1 : Int32) (by decide) h7 4 rfl [1, 2, 3, 4, 0, 5] rfl (by decide) dX10_setNumber_43 ?_
        exact w_X10_setNumber_46 hX hG hf hk
      · rw [if_pos hc5] at hf
        refine Wp.lo' (lo' := [(5, .int x5)]) [5] rfl ?_
        cases hf
        exact hk
theorem wl_X10_setNumber_6 {X : CX} {T : List Dsc} {R : RM} {c e : Nat} {n1 n2 : Nat} {x1 : Int32} {x2 : Int32} {x3 : Int32} {x4 : Int32} {x5 : Int32} {m : M2} {e1 : ((Int32 × M2) ⊕ (M2))} (hX : XR X 7 n1 n2) (hG : Geo T R c e) (h : loop (g_X10_setNumber_6 c x1 x2 x3) (x4, x5, m) = some e1) (he0 : ∀ e_, e1 = (Sum.inl e_) → Wp X cX10_setNumber RX10 6 T (mk e_.2 R) n1 n2 40 [(5, .int e_.1)] []) (he1 : ∀ e_, e1 = (Sum.inr e_) → Wp X cX10_setNumber RX10 6 T (mk e_ R) n1 n2 52 [] []) : Wp X cX10_setNumber RX10 6 T (mk m R) n1 n2 6 [(0, .ref 41), (1, .int x1), (2, .int x2), (3, .int x3), (4, .int x4), (5, .int x5)] [] :=
  loop_ok (K := k_X10_setNumber_6 X T R n1 n2 x1 x2 x3) (fun s r hf hk => w_X10_setNumber_6 hX hG hf hk) h (by rcases e1 with e_ | e_ <;> first | exact he0 _ rfl | exact he1 _ rfl)
set_option maxHeartbeats 4000000 in
set_option maxRecDepth 100000 in
theorem w_X10_setNumber {X : CX} {T : List Dsc} {R : RM} {c e : Nat} {n1 n2 : Nat} {x1 : Int32} {x2 : Int32} {x3 : Int32} {m : M2} {r : (Int32 × M2)} (hX : XR X 7 n1 n2) (hG : Geo T R c e) (hf : F_X10_setNumber c x1 x2 x3 m = some r) (hk : FnI X cX10_setNumber RX10 6 T n1 n2 (r.1, mk r.2 R)) : Wp X cX10_setNumber RX10 6 T (mk m R) n1 n2 0 [(0, .ref 41), (1, .int x1), (2, .int x2), (3, .int x3)] [] := by
  unfold F_X10_setNumber at hf
  refine Wp.iconst (pc := 0) (0 : Int32) (by decide) dX10_setNumber_0 ?_
  refine Wp.istore (pc := 1) (lo' := [(0, .ref 41), (1, .int x1), (2, .int x2), (3, .int x3), (4, .int (0 : Int32))]) [1, 2, 3, 4, 0] rfl (by decide) dX10_setNumber_1 ?_
  refine Wp.iconst (pc := 3) (0 : Int32) (by decide) dX10_setNumber_3 ?_
  refine Wp.istore (pc := 4) (lo' := [(0, .ref 41), (1, .int x1), (2, .int x2), (3, .int x3), (4, .int (0 : Int32)), (5, .int (0 : Int32))]) [1, 2, 3, 4, 5, 0] rfl (by decide) dX10_setNumber_4 ?_
  obtain ⟨e1, h2, hf⟩ := bnd hf
  refine wl_X10_setNumber_6 hX hG h2 (fun e1_0 hq => ?_) (fun e1_1 hq => ?_)
  · rw [hq, Sum.elim_inl] at hf
    refine Wp.iload (pc := 40) 0 rfl dX10_setNumber_40 ?_
    cases hf
    exact hk _ _ dX10_setNumber_42
  · rw [hq, Sum.elim_inr] at hf
    refine Wp.iconst (pc := 52) (-1 : Int32) (by decide) dX10_setNumber_52 ?_
    cases hf
    exact hk _ _ dX10_setNumber_53
theorem c_X10_setNumber {T : List Dsc} {R : RM} {c e : Nat} {x1 : Int32} {x2 : Int32} {x3 : Int32} {m : M2} {r : (Int32 × M2)} (hG : Geo T R c e) (hf : F_X10_setNumber c x1 x2 x3 m = some r) : Ct 7 yX10_setNumber cX10_setNumber 6 (some .int) T (mk m R) [.ref 41, .int x1, .int x2, .int x3] (some (.int r.1)) (mk r.2 R) := Ct.ofI (r := (r.1, mk r.2 R)) (by decide +kernel) (Nat.le_of_ble_eq_true rfl) (fun X hX hk => w_X10_setNumber hX hG hf hk)
theorem dX10_clashesAt_0 : decode cX10_clashesAt 0 = .ok (.aload_n 0, 1) := by decide +kernel
theorem dX10_clashesAt_1 : decode cX10_clashesAt 1 = .ok (.iload_n 1, 1) := by decide +kernel
theorem dX10_clashesAt_2 : decode cX10_clashesAt 2 = .ok (.invokevirtual 74, 3) := by decide +kernel
theorem dX10_clashesAt_5 : decode cX10_clashesAt 5 = .ok (.aload_n 0, 1) := by decide +kernel
theorem dX10_clashesAt_6 : decode cX10_clashesAt 6 = .ok (.getfield 27, 3) := by decide +kernel
theorem dX10_clashesAt_9 : decode cX10_clashesAt 9 = .ok (.getfield 35, 3) := by decide +kernel
theorem dX10_clashesAt_12 : decode cX10_clashesAt 12 = .ok (.getfield 81, 3) := by decide +kernel
theorem dX10_clashesAt_15 : decode cX10_clashesAt 15 = .ok (.lstore_n 3, 1) := by decide +kernel
theorem dX10_clashesAt_16 : decode cX10_clashesAt 16 = .ok (.iconst 0, 1) := by decide +kernel
theorem dX10_clashesAt_17 : decode cX10_clashesAt 17 = .ok (.istore 5, 2) := by decide +kernel
theorem dX10_clashesAt_19 : decode cX10_clashesAt 19 = .ok (.iload 5, 2) := by decide +kernel
theorem dX10_clashesAt_21 : decode cX10_clashesAt 21 = .ok (.iload_n 2, 1) := by decide +kernel
theorem dX10_clashesAt_22 : decode cX10_clashesAt 22 = .ok (.if_icmp .ge 44, 3) := by decide +kernel
theorem dX10_clashesAt_25 : decode cX10_clashesAt 25 = .ok (.aload_n 0, 1) := by decide +kernel
theorem dX10_clashesAt_26 : decode cX10_clashesAt 26 = .ok (.getfield 27, 3) := by decide +kernel
theorem dX10_clashesAt_29 : decode cX10_clashesAt 29 = .ok (.lload_n 3, 1) := by decide +kernel
theorem dX10_clashesAt_30 : decode cX10_clashesAt 30 = .ok (.aload_n 0, 1) := by decide +kernel
theorem dX10_clashesAt_31 : decode cX10_clashesAt 31 = .ok (.getfield 21, 3) := by decide +kernel
theorem dX10_clashesAt_34 : decode cX10_clashesAt 34 = .ok (.aload_n 0, 1) := by decide +kernel
theorem dX10_clashesAt_35 : decode cX10_clashesAt 35 = .ok (.getfield 27, 3) := by decide +kernel
theorem dX10_clashesAt_38 : decode cX10_clashesAt 38 = .ok (.getfield 35, 3) := by decide +kernel
theorem dX10_clashesAt_41 : decode cX10_clashesAt 41 = .ok (.getfield 92, 3) := by decide +kernel
theorem dX10_clashesAt_44 : decode cX10_clashesAt 44 = .ok (.aload_n 0, 1) := by decide +kernel
theorem dX10_clashesAt_45 : decode cX10_clashesAt 45 = .ok (.getfield 27, 3) := by decide +kernel
theorem dX10_clashesAt_48 : decode cX10_clashesAt 48 = .ok (.getfield 35, 3) := by decide +kernel
theorem dX10_clashesAt_51 : decode cX10_clashesAt 51 = .ok (.iload 5, 2) := by decide +kernel
theorem dX10_clashesAt_53 : decode cX10_clashesAt 53 = .ok (.invokevirtual 95, 3) := by decide +kernel
theorem dX10_clashesAt_56 : decode cX10_clashesAt 56 = .ok (.invokevirtual 99, 3) := by decide +kernel
theorem dX10_clashesAt_59 : decode cX10_clashesAt 59 = .ok (.lstore_n 3, 1) := by decide +kernel
theorem dX10_clashesAt_60 : decode cX10_clashesAt 60 = .ok (.iinc 5 1, 3) := by decide +kernel
theorem dX10_clashesAt_63 : decode cX10_clashesAt 63 = .ok (.goto (-44), 3) := by decide +kernel
theorem dX10_clashesAt_66 : decode cX10_clashesAt 66 = .ok (.aload_n 0, 1) := by decide +kernel
theorem dX10_clashesAt_67 : decode cX10_clashesAt 67 = .ok (.getfield 27, 3) := by decide +kernel
theorem dX10_clashesAt_70 : decode cX10_clashesAt 70 = .ok (.lload_n 3, 1) := by decide +kernel
theorem dX10_clashesAt_71 : decode cX10_clashesAt 71 = .ok (.invokevirtual 85, 3) := by decide +kernel
theorem dX10_clashesAt_74 : decode cX10_clashesAt 74 = .ok (.ireturn, 1) := by decide +kernel
def k_X10_clashesAt_19 (X : CX) (T : List Dsc) (R : RM) (n1 n2 : Nat) (x2 : Int32) (r : ((Int64 × Int32 × M2) ⊕ ((Int64 × M2)))) : Prop := match r with
  | .inl s => Wp X cX10_clashesAt RX10 6 T (mk s.2.2 R) n1 n2 19 [(0, .ref 41), (2, .int x2), (3, .long s.1), (5, .int s.2.1)] []
  | .inr e => Wp X cX10_clashesAt RX10 6 T (mk e.2 R) n1 n2 66 [(0, .ref 41), (3, .long e.1)] []
set_option maxHeartbeats 4000000 in
set_option maxRecDepth 100000 in
theorem w_X10_clashesAt_19 {X : CX} {T : List Dsc} {R : RM} {c e : Nat} {n1 n2 : Nat} {x2 : Int32} {x3 : Int64} {x5 : Int32} {m : M2} {r : ((Int64 × Int32 × M2) ⊕ ((Int64 × M2)))} (hX : XR X 6 n1 n2) (hG : Geo T R c e) (hf : f_X10_clashesAt_19 c x2 x3 x5 m = some r) (hk : k_X10_clashesAt_19 X T R n1 n2 x2 r) : Wp X cX10_clashesAt RX10 6 T (mk m R) n1 n2 19 [(0, .ref 41), (2, .int x2), (3, .long x3), (5, .int x5)] [] := by
  unfold f_X10_clashesAt_19 at hf
  refine Wp.iload (pc := 19) 3 rfl dX10_clashesAt_19 ?_
  refine Wp.iload_n (pc := 21) 1 rfl rfl dX10_clashesAt_21 ?_
  refine Wp.icmp_ge (pc := 22) 66 dX10_clashesAt_22 (by decide) (fun hc1 => ?_) (fun hc1 => ?_)
  · rw [if_pos hc1] at hf
    refine Wp.lo' (lo' := [(0, .ref 41), (3, .long x3)]) [0, 2] rfl ?_
    cases hf
    exact hk
  · rw [if_neg hc1] at hf
    refine Wp.aload_n (pc := 25) 0 rfl rfl dX10_clashesAt_25 ?_
    refine Wp.getR2 (pc := 26) (hG.r 41 0 rfl) (hG.t 41 rfl) fk_RX10_27 rfl dX10_clashesAt_26 ?_
    refine Wp.lload_n (pc := 29) 2 rfl rfl dX10_clashesAt_29 ?_
    refine Wp.aload_n (pc := 30) 0 rfl rfl dX10_clashesAt_30 ?_
    refine Wp.getR2 (pc := 31) (hG.r 41 5 rfl) (hG.t 41 rfl) fk_RX10_21 rfl dX10_clashesAt_31 ?_
    refine Wp.aload_n (pc := 34) 0 rfl rfl dX10_clashesAt_34 ?_
    refine Wp.getR2 (pc := 35) (hG.r 41 0 rfl) (hG.t 41 rfl) fk_RX10_27 rfl dX10_clashesAt_35 ?_
    refine Wp.getR2 (pc := 38) hG.r2 (hG.t 23 rfl) fk_RX10_35 rfl dX10_clashesAt_38 ?_
    refine Wp.getI2 (pc := 41) (hG.tt hG.hc) fk_RX10_92 rfl dX10_clashesAt_41 ?_
    refine Wp.aload_n (pc := 44) 0 rfl rfl dX10_clashesAt_44 ?_
    refine Wp.getR2 (pc := 45) (hG.r 41 0 rfl) (hG.t 41 rfl) fk_RX10_27 rfl dX10_clashesAt_45 ?_
    refine Wp.getR2 (pc := 48) hG.r2 (hG.t 23 rfl) fk_RX10_35 rfl dX10_clashesAt_48 ?_
    refine Wp.iload (pc := 51) 3 rfl dX10_clashesAt_51 ?_
    obtain ⟨c2, h3, hf⟩ := bnd hf
    refine Wp.callVi (pc := 53) (st := [.int (hI m c 8), .ref 45, .long x3, .ref 23]) (as := [.int x5]) (c_X7_isFog hG hG.hc h3) ml_RX10_95 mv_X7_isFog mb_X7_isFog hX (Nat.le_of_ble_eq_true rfl) (by decide) rfl (hG.tt hG.hc) rfl (by simp [Value.category]) dX10_clashesAt_53 rfl ?_
    obtain ⟨c4, h5, hf⟩ := bnd hf
    refine Wp.callVl (pc := 56) (st := []) (as := [.long x3, .ref 45, .int (hI m c 8), .int c2.1]) (c_X5_stroke hG (hG.a 45 0 rfl) h5) ml_RX10_99 mv_X5_stroke mb_X5_stroke hX (Nat.le_of_ble_eq_true rfl) (by decide) rfl (hG.t 23 rfl) rfl (by simp) dX10_clashesAt_56 rfl ?_
    refine Wp.lstore_n (pc := 59) (lo' := [(0, .ref 41), (2, .int x2), (3, .long c4.1), (5, .int x5)]) [1, 2, 0, 3] rfl (by decide) rfl dX10_clashesAt_59 ?_
    obtain ⟨v6, h7, hf⟩ := bnd hf
    refine Wp.iincN (pc := 60) (lo' := [(0, .ref 41), (2, .int x2), (3, .long c4.1), (5, .int v6)]) (1 : Int32) (by decide) h7 3 rfl [1, 2, 3, 0] rfl (by decide) dX10_clashesAt_60 ?_
    refine Wp.goto (pc := 63) 19 dX10_clashesAt_63 (by decide) ?_
    cases hf
    exact hk
theorem wl_X10_clashesAt_19 {X : CX} {T : List Dsc} {R : RM} {c e : Nat} {n1 n2 : Nat} {x2 : Int32} {x3 : Int64} {x5 : Int32} {m : M2} {e1 : ((Int64 × M2))} (hX : XR X 6 n1 n2) (hG : Geo T R c e) (h : loop (g_X10_clashesAt_19 c x2) (x3, x5, m) = some e1) (he : Wp X cX10_clashesAt RX10 6 T (mk e1.2 R) n1 n2 66 [(0, .ref 41), (3, .long e1.1)] []) : Wp X cX10_clashesAt RX10 6 T (mk m R) n1 n2 19 [(0, .ref 41), (2, .int x2), (3, .long x3), (5, .int x5)] [] :=
  loop_ok (K := k_X10_clashesAt_19 X T R n1 n2 x2) (fun s r hf hk => w_X10_clashesAt_19 hX hG hf hk) h he
set_option maxHeartbeats 4000000 in
set_option maxRecDepth 100000 in
theorem w_X10_clashesAt {X : CX} {T : List Dsc} {R : RM} {c e : Nat} {n1 n2 : Nat} {x1 : Int32} {x2 : Int32} {m : M2} {r : (Int32 × M2)} (hX : XR X 6 n1 n2) (hG : Geo T R c e) (hf : F_X10_clashesAt c x1 x2 m = some r) (hk : FnI X cX10_clashesAt RX10 6 T n1 n2 (r.1, mk r.2 R)) : Wp X cX10_clashesAt RX10 6 T (mk m R) n1 n2 0 [(0, .ref 41), (1, .int x1), (2, .int x2)] [] := by
  unfold F_X10_clashesAt at hf
  refine Wp.aload_n (pc := 0) 0 rfl rfl dX10_clashesAt_0 ?_
  refine Wp.iload_n (pc := 1) 1 rfl rfl dX10_clashesAt_1 ?_
  obtain ⟨c1, h2, hf⟩ := bnd hf
  refine Wp.callVv (pc := 2) (st := []) (as := [.int x1]) (c_X10_breakMen hG h2) ml_RX10_74 mv_X10_breakMen mb_X10_breakMen hX (Nat.le_of_ble_eq_true rfl) (by decide) rfl (hG.t 41 rfl) rfl (by simp) dX10_clashesAt_2 rfl ?_
  refine Wp.aload_n (pc := 5) 0 rfl rfl dX10_clashesAt_5 ?_
  refine Wp.getR2 (pc := 6) (hG.r 41 0 rfl) (hG.t 41 rfl) fk_RX10_27 rfl dX10_clashesAt_6 ?_
  refine Wp.getR2 (pc := 9) hG.r2 (hG.t 23 rfl) fk_RX10_35 rfl dX10_clashesAt_9 ?_
  refine Wp.getJ2 (pc := 12) (hG.tt hG.hc) fk_RX10_81 rfl dX10_clashesAt_12 ?_
  obtain ⟨v3, h4, hf⟩ := bnd hf
  refine Wp.nJ' h4 ?_
  refine Wp.lstore_n (pc := 15) (lo' := [(0, .ref 41), (2, .int x2), (3, .long v3)]) [1, 3, 0] rfl (by decide) rfl dX10_clashesAt_15 ?_
  refine Wp.iconst (pc := 16) (0 : Int32) (by decide) dX10_clashesAt_16 ?_
  refine Wp.istore (pc := 17) (lo' := [(0, .ref 41), (2, .int x2), (3, .long v3), (5, .int (0 : Int32))]) [1, 2, 3, 0] rfl (by decide) dX10_clashesAt_17 ?_
  obtain ⟨e5, h6, hf⟩ := bnd hf
  refine wl_X10_clashesAt_19 hX hG h6 ?_
  refine Wp.aload_n (pc := 66) 0 rfl rfl dX10_clashesAt_66 ?_
  refine Wp.getR2 (pc := 67) (hG.r 41 0 rfl) (hG.t 41 rfl) fk_RX10_27 rfl dX10_clashesAt_67 ?_
  refine Wp.lload_n (pc := 70) 1 rfl rfl dX10_clashesAt_70 ?_
  obtain ⟨c7, h8, hf⟩ := bnd hf
  refine Wp.callVi (pc := 71) (st := []) (as := [.long e5.1]) (c_X5_clashBits hG h8) ml_RX10_85 mv_X5_clashBits mb_X5_clashBits hX (Nat.le_of_ble_eq_true rfl) (by decide) rfl (hG.t 23 rfl) rfl (by simp) dX10_clashesAt_71 rfl ?_
  cases hf
  exact hk _ _ dX10_clashesAt_74
theorem c_X10_clashesAt {T : List Dsc} {R : RM} {c e : Nat} {x1 : Int32} {x2 : Int32} {m : M2} {r : (Int32 × M2)} (hG : Geo T R c e) (hf : F_X10_clashesAt c x1 x2 m = some r) : Ct 6 yX10_clashesAt cX10_clashesAt 6 (some .int) T (mk m R) [.ref 41, .int x1, .int x2] (some (.int r.1)) (mk r.2 R) := Ct.ofI (r := (r.1, mk r.2 R)) (by decide +kernel) (Nat.le_of_ble_eq_true rfl) (fun X hX hk => w_X10_clashesAt hX hG hf hk)
theorem dX10_greaterPart_0 : decode cX10_greaterPart 0 = .ok (.aload_n 0, 1) := by decide +kernel
theorem dX10_greaterPart_1 : decode cX10_greaterPart 1 = .ok (.getfield 24, 3) := by decide +kernel
theorem dX10_greaterPart_4 : decode cX10_greaterPart 4 = .ok (.iload_n 1, 1) := by decide +kernel
theorem dX10_greaterPart_5 : decode cX10_greaterPart 5 = .ok (.iaload, 1) := by decide +kernel
theorem dX10_greaterPart_6 : decode cX10_greaterPart 6 = .ok (.iload_n 2, 1) := by decide +kernel
theorem dX10_greaterPart_7 : decode cX10_greaterPart 7 = .ok (.aload_n 0, 1) := by decide +kernel
theorem dX10_greaterPart_8 : decode cX10_greaterPart 8 = .ok (.getfield 24, 3) := by decide +kernel
theorem dX10_greaterPart_11 : decode cX10_greaterPart 11 = .ok (.iload_n 1, 1) := by decide +kernel
theorem dX10_greaterPart_12 : decode cX10_greaterPart 12 = .ok (.iaload, 1) := by decide +kernel
theorem dX10_greaterPart_13 : decode cX10_greaterPart 13 = .ok (.isub, 1) := by decide +kernel
theorem dX10_greaterPart_14 : decode cX10_greaterPart 14 = .ok (.invokestatic 63, 3) := by decide +kernel
theorem dX10_greaterPart_17 : decode cX10_greaterPart 17 = .ok (.ireturn, 1) := by decide +kernel
set_option maxHeartbeats 4000000 in
set_option maxRecDepth 100000 in
theorem w_X10_greaterPart {X : CX} {T : List Dsc} {R : RM} {c e : Nat} {n1 n2 : Nat} {x1 : Int32} {x2 : Int32} {m : M2} {r : (Int32 × M2)} (hX : XR X 1 n1 n2) (hG : Geo T R c e) (hf : F_X10_greaterPart c x1 x2 m = some r) (hk : FnI X cX10_greaterPart RX10 3 T n1 n2 (r.1, mk r.2 R)) : Wp X cX10_greaterPart RX10 3 T (mk m R) n1 n2 0 [(0, .ref 41), (1, .int x1), (2, .int x2)] [] := by
  unfold F_X10_greaterPart at hf
  refine Wp.aload_n (pc := 0) 0 rfl rfl dX10_greaterPart_0 ?_
  refine Wp.getR2 (pc := 1) (hG.r 41 6 rfl) (hG.t 41 rfl) fk_RX10_24 rfl dX10_greaterPart_1 ?_
  refine Wp.iload_n (pc := 4) 1 rfl rfl dX10_greaterPart_4 ?_
  obtain ⟨v1, h2, hf⟩ := bnd hf
  refine Wp.iald2 (pc := 5) h2 (hG.a 46 0 rfl) dX10_greaterPart_5 ?_
  refine Wp.iload_n (pc := 6) 2 rfl rfl dX10_greaterPart_6 ?_
  refine Wp.aload_n (pc := 7) 0 rfl rfl dX10_greaterPart_7 ?_
  refine Wp.getR2 (pc := 8) (hG.r 41 6 rfl) (hG.t 41 rfl) fk_RX10_24 rfl dX10_greaterPart_8 ?_
  refine Wp.iload_n (pc := 11) 1 rfl rfl dX10_greaterPart_11 ?_
  obtain ⟨v3, h4, hf⟩ := bnd hf
  refine Wp.iald2 (pc := 12) h4 (hG.a 46 0 rfl) dX10_greaterPart_12 ?_
  refine Wp.isub (pc := 13) dX10_greaterPart_13 ?_
  refine Wp.mmax (pc := 14) mm_RX10_63 hX (Nat.le_of_ble_eq_true rfl) (by simp) dX10_greaterPart_14 ?_
  cases hf
  exact hk _ _ dX10_greaterPart_17
theorem c_X10_greaterPart {T : List Dsc} {R : RM} {c e : Nat} {x1 : Int32} {x2 : Int32} {m : M2} {r : (Int32 × M2)} (hG : Geo T R c e) (hf : F_X10_greaterPart c x1 x2 m = some r) : Ct 1 yX10_greaterPart cX10_greaterPart 3 (some .int) T (mk m R) [.ref 41, .int x1, .int x2] (some (.int r.1)) (mk r.2 R) := Ct.ofI (r := (r.1, mk r.2 R)) (by decide +kernel) (Nat.le_of_ble_eq_true rfl) (fun X hX hk => w_X10_greaterPart hX hG hf hk)
theorem dX10_evenestBench_0 : decode cX10_evenestBench 0 = .ok (.aload_n 0, 1) := by decide +kernel
theorem dX10_evenestBench_1 : decode cX10_evenestBench 1 = .ok (.getfield 27, 3) := by decide +kernel
theorem dX10_evenestBench_4 : decode cX10_evenestBench 4 = .ok (.getfield 35, 3) := by decide +kernel
theorem dX10_evenestBench_7 : decode cX10_evenestBench 7 = .ok (.getfield 41, 3) := by decide +kernel
theorem dX10_evenestBench_10 : decode cX10_evenestBench 10 = .ok (.istore 4, 2) := by decide +kernel
theorem dX10_evenestBench_12 : decode cX10_evenestBench 12 = .ok (.iconst 0, 1) := by decide +kernel
theorem dX10_evenestBench_13 : decode cX10_evenestBench 13 = .ok (.istore 5, 2) := by decide +kernel
theorem dX10_evenestBench_15 : decode cX10_evenestBench 15 = .ok (.aload_n 0, 1) := by decide +kernel
theorem dX10_evenestBench_16 : decode cX10_evenestBench 16 = .ok (.getfield 24, 3) := by decide +kernel
theorem dX10_evenestBench_19 : decode cX10_evenestBench 19 = .ok (.iconst 0, 1) := by decide +kernel
theorem dX10_evenestBench_20 : decode cX10_evenestBench 20 = .ok (.invokestatic 50, 3) := by decide +kernel
theorem dX10_evenestBench_23 : decode cX10_evenestBench 23 = .ok (.iconst 0, 1) := by decide +kernel
theorem dX10_evenestBench_24 : decode cX10_evenestBench 24 = .ok (.istore 6, 2) := by decide +kernel
theorem dX10_evenestBench_26 : decode cX10_evenestBench 26 = .ok (.iload 6, 2) := by decide +kernel
theorem dX10_evenestBench_28 : decode cX10_evenestBench 28 = .ok (.iconst 1, 1) := by decide +kernel
theorem dX10_evenestBench_29 : decode cX10_evenestBench 29 = .ok (.iload 4, 2) := by decide +kernel
theorem dX10_evenestBench_31 : decode cX10_evenestBench 31 = .ok (.ishl, 1) := by decide +kernel
theorem dX10_evenestBench_32 : decode cX10_evenestBench 32 = .ok (.if_icmp .ge 65, 3) := by decide +kernel
theorem dX10_evenestBench_35 : decode cX10_evenestBench 35 = .ok (.aload_n 0, 1) := by decide +kernel
theorem dX10_evenestBench_36 : decode cX10_evenestBench 36 = .ok (.iload 6, 2) := by decide +kernel
theorem dX10_evenestBench_38 : decode cX10_evenestBench 38 = .ok (.iload_n 1, 1) := by decide +kernel
theorem dX10_evenestBench_39 : decode cX10_evenestBench 39 = .ok (.iload_n 2, 1) := by decide +kernel
theorem dX10_evenestBench_40 : decode cX10_evenestBench 40 = .ok (.invokevirtual 46, 3) := by decide +kernel
theorem dX10_evenestBench_43 : decode cX10_evenestBench 43 = .ok (.ifCond .eq 48, 3) := by decide +kernel
theorem dX10_evenestBench_46 : decode cX10_evenestBench 46 = .ok (.iinc 5 1, 3) := by decide +kernel
theorem dX10_evenestBench_49 : decode cX10_evenestBench 49 = .ok (.aload_n 0, 1) := by decide +kernel
theorem dX10_evenestBench_50 : decode cX10_evenestBench 50 = .ok (.iload 6, 2) := by decide +kernel
theorem dX10_evenestBench_52 : decode cX10_evenestBench 52 = .ok (.iload_n 3, 1) := by decide +kernel
theorem dX10_evenestBench_53 : decode cX10_evenestBench 53 = .ok (.invokevirtual 56, 3) := by decide +kernel
theorem dX10_evenestBench_56 : decode cX10_evenestBench 56 = .ok (.istore 7, 2) := by decide +kernel
theorem dX10_evenestBench_58 : decode cX10_evenestBench 58 = .ok (.iconst 1, 1) := by decide +kernel
theorem dX10_evenestBench_59 : decode cX10_evenestBench 59 = .ok (.istore 8, 2) := by decide +kernel
theorem dX10_evenestBench_61 : decode cX10_evenestBench 61 = .ok (.iload 8, 2) := by decide +kernel
theorem dX10_evenestBench_63 : decode cX10_evenestBench 63 = .ok (.iload 4, 2) := by decide +kernel
theorem dX10_evenestBench_65 : decode cX10_evenestBench 65 = .ok (.if_icmp .ge 26, 3) := by decide +kernel
theorem dX10_evenestBench_68 : decode cX10_evenestBench 68 = .ok (.aload_n 0, 1) := by decide +kernel
theorem dX10_evenestBench_69 : decode cX10_evenestBench 69 = .ok (.getfield 24, 3) := by decide +kernel
theorem dX10_evenestBench_72 : decode cX10_evenestBench 72 = .ok (.iload 8, 2) := by decide +kernel
theorem dX10_evenestBench_74 : decode cX10_evenestBench 74 = .ok (.dup2, 1) := by decide +kernel
theorem dX10_evenestBench_75 : decode cX10_evenestBench 75 = .ok (.iaload, 1) := by decide +kernel
theorem dX10_evenestBench_76 : decode cX10_evenestBench 76 = .ok (.iload 7, 2) := by decide +kernel
theorem dX10_evenestBench_78 : decode cX10_evenestBench 78 = .ok (.iload 8, 2) := by decide +kernel
theorem dX10_evenestBench_80 : decode cX10_evenestBench 80 = .ok (.ishr, 1) := by decide +kernel
theorem dX10_evenestBench_81 : decode cX10_evenestBench 81 = .ok (.iconst 1, 1) := by decide +kernel
theorem dX10_evenestBench_82 : decode cX10_evenestBench 82 = .ok (.iand, 1) := by decide +kernel
theorem dX10_evenestBench_83 : decode cX10_evenestBench 83 = .ok (.iadd, 1) := by decide +kernel
theorem dX10_evenestBench_84 : decode cX10_evenestBench 84 = .ok (.iastore, 1) := by decide +kernel
theorem dX10_evenestBench_85 : decode cX10_evenestBench 85 = .ok (.iinc 8 1, 3) := by decide +kernel
theorem dX10_evenestBench_88 : decode cX10_evenestBench 88 = .ok (.goto (-27), 3) := by decide +kernel
theorem dX10_evenestBench_91 : decode cX10_evenestBench 91 = .ok (.iinc 6 1, 3) := by decide +kernel
theorem dX10_evenestBench_94 : decode cX10_evenestBench 94 = .ok (.goto (-68), 3) := by decide +kernel
theorem dX10_evenestBench_97 : decode cX10_evenestBench 97 = .ok (.iload 5, 2) := by decide +kernel
theorem dX10_evenestBench_99 : decode cX10_evenestBench 99 = .ok (.ifCond .eq 9, 3) := by decide +kernel
theorem dX10_evenestBench_102 : decode cX10_evenestBench 102 = .ok (.iload 4, 2) := by decide +kernel
theorem dX10_evenestBench_104 : decode cX10_evenestBench 104 = .ok (.iconst 2, 1) := by decide +kernel
theorem dX10_evenestBench_105 : decode cX10_evenestBench 105 = .ok (.if_icmp .ge 6, 3) := by decide +kernel
theorem dX10_evenestBench_108 : decode cX10_evenestBench 108 = .ok (.bipush (-2), 2) := by decide +kernel
theorem dX10_evenestBench_110 : decode cX10_evenestBench 110 = .ok (.ireturn, 1) := by decide +kernel
theorem dX10_evenestBench_111 : decode cX10_evenestBench 111 = .ok (.iconst 1, 1) := by decide +kernel
theorem dX10_evenestBench_112 : decode cX10_evenestBench 112 = .ok (.istore 6, 2) := by decide +kernel
theorem dX10_evenestBench_114 : decode cX10_evenestBench 114 = .ok (.iconst 2, 1) := by decide +kernel
theorem dX10_evenestBench_115 : decode cX10_evenestBench 115 = .ok (.istore 7, 2) := by decide +kernel
theorem dX10_evenestBench_117 : decode cX10_evenestBench 117 = .ok (.iload 7, 2) := by decide +kernel
theorem dX10_evenestBench_119 : decode cX10_evenestBench 119 = .ok (.iload 4, 2) := by decide +kernel
theorem dX10_evenestBench_121 : decode cX10_evenestBench 121 = .ok (.if_icmp .ge 32, 3) := by decide +kernel
theorem dX10_evenestBench_124 : decode cX10_evenestBench 124 = .ok (.aload_n 0, 1) := by decide +kernel
theorem dX10_evenestBench_125 : decode cX10_evenestBench 125 = .ok (.iload 7, 2) := by decide +kernel
theorem dX10_evenestBench_127 : decode cX10_evenestBench 127 = .ok (.iload 5, 2) := by decide +kernel
theorem dX10_evenestBench_129 : decode cX10_evenestBench 129 = .ok (.invokevirtual 60, 3) := by decide +kernel
theorem dX10_evenestBench_132 : decode cX10_evenestBench 132 = .ok (.aload_n 0, 1) := by decide +kernel
theorem dX10_evenestBench_133 : decode cX10_evenestBench 133 = .ok (.iload 6, 2) := by decide +kernel
theorem dX10_evenestBench_135 : decode cX10_evenestBench 135 = .ok (.iload 5, 2) := by decide +kernel
theorem dX10_evenestBench_137 : decode cX10_evenestBench 137 = .ok (.invokevirtual 60, 3) := by decide +kernel
theorem dX10_evenestBench_140 : decode cX10_evenestBench 140 = .ok (.if_icmp .ge 7, 3) := by decide +kernel
theorem dX10_evenestBench_143 : decode cX10_evenestBench 143 = .ok (.iload 7, 2) := by decide +kernel
theorem dX10_evenestBench_145 : decode cX10_evenestBench 145 = .ok (.istore 6, 2) := by decide +kernel
theorem dX10_evenestBench_147 : decode cX10_evenestBench 147 = .ok (.iinc 7 1, 3) := by decide +kernel
theorem dX10_evenestBench_150 : decode cX10_evenestBench 150 = .ok (.goto (-33), 3) := by decide +kernel
theorem dX10_evenestBench_153 : decode cX10_evenestBench 153 = .ok (.iload 6, 2) := by decide +kernel
theorem dX10_evenestBench_155 : decode cX10_evenestBench 155 = .ok (.ireturn, 1) := by decide +kernel
def k_X10_evenestBench_61 (X : CX) (T : List Dsc) (R : RM) (n1 n2 : Nat) (x1 : Int32) (x2 : Int32) (x3 : Int32) (x4 : Int32) (x5 : Int32) (x6 : Int32) (x7 : Int32) (r : ((Int32 × M2) ⊕ ((M2)))) : Prop := match r with
  | .inl s => Wp X cX10_evenestBench RX10 9 T (mk s.2 R) n1 n2 61 [(0, .ref 41), (1, .int x1), (2, .int x2), (3, .int x3), (4, .int x4), (5, .int x5), (6, .int x6), (7, .int x7), (8, .int s.1)] []
  | .inr e => Wp X cX10_evenestBench RX10 9 T (mk e R) n1 n2 91 [(0, .ref 41), (1, .int x1), (2, .int x2), (3, .int x3), (4, .int x4), (5, .int x5), (6, .int x6)] []
def k_X10_evenestBench_26 (X : CX) (T : List Dsc) (R : RM) (n1 n2 : Nat) (x1 : Int32) (x2 : Int32) (x3 : Int32) (x4 : Int32) (r : ((Int32 × Int32 × M2) ⊕ ((Int32 × M2)))) : Prop := match r with
  | .inl s => Wp X cX10_evenestBench RX10 9 T (mk s.2.2 R) n1 n2 26 [(0, .ref 41), (1, .int x1), (2, .int x2), (3, .int x3), (4, .int x4), (5, .int s.1), (6, .int s.2.1)] []
  | .inr e => Wp X cX10_evenestBench RX10 9 T (mk e.2 R) n1 n2 97 [(0, .ref 41), (4, .int x4), (5, .int e.1)] []
def k_X10_evenestBench_117 (X : CX) (T : List Dsc) (R : RM) (n1 n2 : Nat) (x4 : Int32) (x5 : Int32) (r : ((Int32 × Int32 × M2) ⊕ ((Int32 × M2)))) : Prop := match r with
  | .inl s => Wp X cX10_evenestBench RX10 9 T (mk s.2.2 R) n1 n2 117 [(0, .ref 41), (4, .int x4), (5, .int x5), (6, .int s.1), (7, .int s.2.1)] []
  | .inr e => Wp X cX10_evenestBench RX10 9 T (mk e.2 R) n1 n2 153 [(6, .int e.1)] []
set_option maxHeartbeats 4000000 in
set_option maxRecDepth 100000 in
theorem w_X10_evenestBench_61 {X : CX} {T : List Dsc} {R : RM} {c e : Nat} {n1 n2 : Nat} {x1 : Int32} {x2 : Int32} {x3 : Int32} {x4 : Int32} {x5 : Int32} {x6 : Int32} {x7 : Int32} {x8 : Int32} {m : M2} {r : ((Int32 × M2) ⊕ ((M2)))} (hX : XR X 7 n1 n2) (hG : Geo T R c e) (hf : f_X10_evenestBench_61 c x1 x2 x3 x4 x5 x6 x7 x8 m = some r) (hk : k_X10_evenestBench_61 X T R n1 n2 x1 x2 x3 x4 x5 x6 x7 r) : Wp X cX10_evenestBench RX10 9 T (mk m R) n1 n2 61 [(0, .ref 41), (1, .int x1), (2, .int x2), (3, .int x3), (4, .int x4), (5, .int x5), (6, .int x6), (7, .int x7), (8, .int x8)] [] := by
  unfold f_X10_evenestBench_61 at hf
  refine Wp.iload (pc := 61) 8 rfl dX10_evenestBench_61 ?_
  refine Wp.iload (pc := 63) 4 rfl dX10_evenestBench_63 ?_
  refine Wp.icmp_ge (pc := 65) 91 dX10_evenestBench_65 (by decide) (fun hc1 => ?_) (fun hc1 => ?_)
  · rw [if_pos hc1] at hf
    refine Wp.lo' (lo' := [(0, .ref 41), (1, .int x1), (2, .int x2), (3, .int x3), (4, .int x4), (5, .int x5), (6, .int x6)]) [0, 1, 2, 3, 4, 5, 6] rfl ?_
    cases hf
    exact hk
  · rw [if_neg hc1] at hf
    refine Wp.aload_n (pc := 68) 0 rfl rfl dX10_evenestBench_68 ?_
    refine Wp.getR2 (pc := 69) (hG.r 41 6 rfl) (hG.t 41 rfl) fk_RX10_24 rfl dX10_evenestBench_69 ?_
    refine Wp.iload (pc := 72) 8 rfl dX10_evenestBench_72 ?_
    refine Wp.dup2 (pc := 74) rfl rfl dX10_evenestBench_74 ?_
    obtain ⟨v2, h3, hf⟩ := bnd hf
    refine Wp.iald2 (pc := 75) h3 (hG.a 46 0 rfl) dX10_evenestBench_75 ?_
    refine Wp.iload (pc := 76) 7 rfl dX10_evenestBench_76 ?_
    refine Wp.iload (pc := 78) 8 rfl dX10_evenestBench_78 ?_
    refine Wp.ishr (pc := 80) dX10_evenestBench_80 ?_
    refine Wp.iconst (pc := 81) (1 : Int32) (by decide) dX10_evenestBench_81 ?_
    refine Wp.iand (pc := 82) dX10_evenestBench_82 ?_
    refine Wp.iadd (pc := 83) dX10_evenestBench_83 ?_
    obtain ⟨m4, h5, hf⟩ := bnd hf
    refine Wp.iast2 (pc := 84) h5 (hG.a 46 0 rfl) dX10_evenestBench_84 ?_
    obtain ⟨v6, h7, hf⟩ := bnd hf
    refine Wp.iincN (pc := 85) (lo' := [(0, .ref 41), (1, .int x1), (2, .int x2), (3, .int x3), (4, .int x4), (5, .int x5), (6, .int x6), (7, .int x7), (8, .int v6)]) (1 : Int32) (by decide) h7 8 rfl [1, 2, 3, 4, 5, 6, 7, 8, 0] rfl (by decide) dX10_evenestBench_85 ?_
    refine Wp.goto (pc := 88) 61 dX10_evenestBench_88 (by decide) ?_
    cases hf
    exact hk
theorem wl_X10_evenestBench_61 {X : CX} {T : List Dsc} {R : RM} {c e : Nat} {n1 n2 : Nat} {x1 : Int32} {x2 : Int32} {x3 : Int32} {x4 : Int32} {x5 : Int32} {x6 : Int32} {x7 : Int32} {x8 : Int32} {m : M2} {e1 : ((M2))} (hX : XR X 7 n1 n2) (hG : Geo T R c e) (h : loop (g_X10_evenestBench_61 c x1 x2 x3 x4 x5 x6 x7) (x8, m) = some e1) (he : Wp X cX10_evenestBench RX10 9 T (mk e1 R) n1 n2 91 [(0, .ref 41), (1, .int x1), (2, .int x2), (3, .int x3), (4, .int x4), (5, .int x5), (6, .int x6)] []) : Wp X cX10_evenestBench RX10 9 T (mk m R) n1 n2 61 [(0, .ref 41), (1, .int x1), (2, .int x2), (3, .int x3), (4, .int x4), (5, .int x5), (6, .int x6), (7, .int x7), (8, .int x8)] [] :=
  loop_ok (K := k_X10_evenestBench_61 X T R n1 n2 x1 x2 x3 x4 x5 x6 x7) (fun s r hf hk => w_X10_evenestBench_61 hX hG hf hk) h he
set_option maxHeartbeats 4000000 in
set_option maxRecDepth 100000 in
theorem w_X10_evenestBench_91 {X : CX} {T : List Dsc} {R : RM} {c e : Nat} {n1 n2 : Nat} {x1 : Int32} {x2 : Int32} {x3 : Int32} {x4 : Int32} {x5 : Int32} {x6 : Int32} {m : M2} {r : ((Int32 × Int32 × M2) ⊕ ((Int32 × M2)))} (hX : XR X 7 n1 n2) (hG : Geo T R c e) (hf : f_X10_evenestBench_91 c x1 x2 x3 x4 x5 x6 m = some r) (hk : k_X10_evenestBench_26 X T R n1 n2 x1 x2 x3 x4 r) : Wp X cX10_evenestBench RX10 9 T (mk m R) n1 n2 91 [(0, .ref 41), (1, .int x1), (2, .int x2), (3, .int x3), (4, .int x4), (5, .int x5), (6, .int x6)] [] := by
  unfold f_X10_evenestBench_91 at hf
  obtain ⟨v1, h2, hf⟩ := bnd hf
  refine Wp.iincN (pc := 91) (lo' := [(0, .ref 41), (1, .int x1), (2, .int x2), (3, .int x3), (4, .int x4), (5, .int x5), (6, .int v1)]) (1 : Int32) (by decide) h2 6 rfl [1, 2, 3, 4, 5, 6, 0] rfl (by decide) dX10_evenestBench_91 ?_
  refine Wp.goto (pc := 94) 26 dX10_evenestBench_94 (by decide) ?_
  cases hf
  exact hk
set_option maxHeartbeats 4000000 in
set_option maxRecDepth 100000 in
theorem w_X10_evenestBench_26 {X : CX} {T : List Dsc} {R : RM} {c e : Nat} {n1 n2 : Nat} {x1 : Int32} {x2 : Int32} {x3 : Int32} {x4 : Int32} {x5 : Int32} {x6 : Int32} {m : M2} {r : ((Int32 × Int32 × M2) ⊕ ((Int32 × M2)))} (hX : XR X 7 n1 n2) (hG : Geo T R c e) (hf : f_X10_evenestBench_26 c x1 x2 x3 x4 x5 x6 m = some r) (hk : k_X10_evenestBench_26 X T R n1 n2 x1 x2 x3 x4 r) : Wp X cX10_evenestBench RX10 9 T (mk m R) n1 n2 26 [(0, .ref 41), (1, .int x1), (2, .int x2), (3, .int x3), (4, .int x4), (5, .int x5), (6, .int x6)] [] := by
  unfold f_X10_evenestBench_26 at hf
  refine Wp.iload (pc := 26) 6 rfl dX10_evenestBench_26 ?_
  refine Wp.iconst (pc := 28) (1 : Int32) (by decide) dX10_evenestBench_28 ?_
  refine Wp.iload (pc := 29) 4 rfl dX10_evenestBench_29 ?_
  refine Wp.ishl (pc := 31) dX10_evenestBench_31 ?_
  refine Wp.icmp_ge (pc := 32) 97 dX10_evenestBench_32 (by decide) (fun hc1 => ?_) (fun hc1 => ?_)
  · rw [if_pos hc1] at hf
    refine Wp.lo' (lo' := [(0, .ref 41), (4, .int x4), (5, .int x5)]) [0, 4, 5] rfl ?_
    cases hf
    exact hk
  · rw [if_neg hc1] at hf
    refine Wp.aload_n (pc := 35) 0 rfl rfl dX10_evenestBench_35 ?_
    refine Wp.iload (pc := 36) 6 rfl dX10_evenestBench_36 ?_
    refine Wp.iload_n (pc := 38) 1 rfl rfl dX10_evenestBench_38 ?_
    refine Wp.iload_n (pc := 39) 2 rfl rfl dX10_evenestBench_39 ?_
    obtain ⟨c2, h3, hf⟩ := bnd hf
    refine Wp.callVi (pc := 40) (st := []) (as := [.int x6, .int x1, .int x2]) (c_X10_isSuspect hG h3) ml_RX10_46 mv_X10_isSuspect mb_X10_isSuspect hX (Nat.le_of_ble_eq_true rfl) (by decide) rfl (hG.t 41 rfl) rfl (by simp) dX10_evenestBench_40 rfl ?_
    refine Wp.if_eq (pc := 43) 91 dX10_evenestBench_43 (by decide) (fun hc4 => ?_) (fun hc4 => ?_)
    · rw [if_pos hc4] at hf
      exact w_X10_evenestBench_91 hX hG hf hk
    · rw [if_neg hc4] at hf
      obtain ⟨v5, h6, hf⟩ := bnd hf
      refine Wp.iincN (pc := 46) (lo' := [(0, .ref 41), (1, .int x1), (2, .int x2), (3, .int x3), (4, .int x4), (5, .int v5), (6, .int x6)]) (1 : Int32) (by decide) h6 5 rfl [1, 2, 3, 4, 5, 0, 6] rfl (by decide) dX10_evenestBench_46 ?_
      refine Wp.aload_n (pc := 49) 0 rfl rfl dX10_evenestBench_49 ?_
      refine Wp.iload (pc := 50) 6 rfl dX10_evenestBench_50 ?_
      refine Wp.iload_n (pc := 52) 3 rfl rfl dX10_evenestBench_52 ?_
      obtain ⟨c7, h8, hf⟩ := bnd hf
      refine Wp.callVi (pc := 53) (st := []) (as := [.int x6, .int x3]) (c_X10_clashesAt hG h8) ml_RX10_56 mv_X10_clashesAt mb_X10_clashesAt hX (Nat.le_of_ble_eq_true rfl) (by decide) rfl (hG.t 41 rfl) rfl (by simp) dX10_evenestBench_53 rfl ?_
      refine Wp.istore (pc := 56) (lo' := [(0, .ref 41), (1, .int x1), (2, .int x2), (3, .int x3), (4, .int x4), (5, .int v5), (6, .int x6), (7, .int c7.1)]) [1, 2, 3, 4, 5, 6, 7, 0] rfl (by decide) dX10_evenestBench_56 ?_
      refine Wp.iconst (pc := 58) (1 : Int32) (by decide) dX10_evenestBench_58 ?_
      refine Wp.istore (pc := 59) (lo' := [(0, .ref 41), (1, .int x1), (2, .int x2), (3, .int x3), (4, .int x4), (5, .int v5), (6, .int x6), (7, .int c7.1), (8, .int (1 : Int32))]) [1, 2, 3, 4, 5, 6, 7, 8, 0] rfl (by decide) dX10_evenestBench_59 ?_
      obtain ⟨e9, h10, hf⟩ := bnd hf
      refine wl_X10_evenestBench_61 hX hG h10 ?_
      exact w_X10_evenestBench_91 hX hG hf hk
theorem wl_X10_evenestBench_26 {X : CX} {T : List Dsc} {R : RM} {c e : Nat} {n1 n2 : Nat} {x1 : Int32} {x2 : Int32} {x3 : Int32} {x4 : Int32} {x5 : Int32} {x6 : Int32} {m : M2} {e1 : ((Int32 × M2))} (hX : XR X 7 n1 n2) (hG : Geo T R c e) (h : loop (g_X10_evenestBench_26 c x1 x2 x3 x4) (x5, x6, m) = some e1) (he : Wp X cX10_evenestBench RX10 9 T (mk e1.2 R) n1 n2 97 [(0, .ref 41), (4, .int x4), (5, .int e1.1)] []) : Wp X cX10_evenestBench RX10 9 T (mk m R) n1 n2 26 [(0, .ref 41), (1, .int x1), (2, .int x2), (3, .int x3), (4, .int x4), (5, .int x5), (6, .int x6)] [] :=
  loop_ok (K := k_X10_evenestBench_26 X T R n1 n2 x1 x2 x3 x4) (fun s r hf hk => w_X10_evenestBench_26 hX hG hf hk) h he
set_option maxHeartbeats 4000000 in
set_option maxRecDepth 100000 in
theorem w_X10_evenestBench_108 {X : CX} {T : List Dsc} {R : RM} {c e : Nat} {n1 n2 : Nat} {m : M2} {r : (Int32 × M2)} (hX : XR X 7 n1 n2) (hG : Geo T R c e) (hf : f_X10_evenestBench_108 c m = some r) (hk : FnI X cX10_evenestBench RX10 9 T n1 n2 (r.1, mk r.2 R)) : Wp X cX10_evenestBench RX10 9 T (mk m R) n1 n2 108 [] [] := by
  unfold f_X10_evenestBench_108 at hf
  refine Wp.bipush (pc := 108) (-2 : Int32) (by decide) dX10_evenestBench_108 ?_
  cases hf
  exact hk _ _ dX10_evenestBench_110
set_option maxHeartbeats 4000000 in
set_option maxRecDepth 100000 in
theorem w_X10_evenestBench_147 {X : CX} {T : List Dsc} {R : RM} {c e : Nat} {n1 n2 : Nat} {x4 : Int32} {x5 : Int32} {x6 : Int32} {x7 : Int32} {m : M2} {r : ((Int32 × Int32 × M2) ⊕ ((Int32 × M2)))} (hX : XR X 7 n1 n2) (hG : Geo T R c e) (hf : f_X10_evenestBench_147 c x4 x5 x6 x7 m = some r) (hk : k_X10_evenestBench_117 X T R n1 n2 x4 x5 r) : Wp X cX10_evenestBench RX10 9 T (mk m R) n1 n2 147 [(0, .ref 41), (4, .int x4), (5, .int x5), (6, .int x6), (7, .int x7)] [] := by
  unfold f_X10_evenestBench_147 at hf
  obtain ⟨v1, h2, hf⟩ := bnd hf
  refine Wp.iincN (pc := 147) (lo' := [(0, .ref 41), (4, .int x4), (5, .int x5), (6, .int x6), (7, .int v1)]) (1 : Int32) (by decide) h2 4 rfl [1, 2, 3, 4, 0] rfl (by decide) dX10_evenestBench_147 ?_
  refine Wp.goto (pc := 150) 117 dX10_evenestBench_150 (by decide) ?_
  cases hf
  exact hk
set_option maxHeartbeats 4000000 in
set_option maxRecDepth 100000 in
theorem w_X10_evenestBench_117 {X : CX} {T : List Dsc} {R : RM} {c e : Nat} {n1 n2 : Nat} {x4 : Int32} {x5 : Int32} {x6 : Int32} {x7 : Int32} {m : M2} {r : ((Int32 × Int32 × M2) ⊕ ((Int32 × M2)))} (hX : XR X 7 n1 n2) (hG : Geo T R c e) (hf : f_X10_evenestBench_117 c x4 x5 x6 x7 m = some r) (hk : k_X10_evenestBench_117 X T R n1 n2 x4 x5 r) : Wp X cX10_evenestBench RX10 9 T (mk m R) n1 n2 117 [(0, .ref 41), (4, .int x4), (5, .int x5), (6, .int x6), (7, .int x7)] [] := by
  unfold f_X10_evenestBench_117 at hf
  refine Wp.iload (pc := 117) 4 rfl dX10_evenestBench_117 ?_
  refine Wp.iload (pc := 119) 1 rfl dX10_evenestBench_119 ?_
  refine Wp.icmp_ge (pc := 121) 153 dX10_evenestBench_121 (by decide) (fun hc1 => ?_) (fun hc1 => ?_)
  · rw [if_pos hc1] at hf
    refine Wp.lo' (lo' := [(6, .int x6)]) [3] rfl ?_
    cases hf
    exact hk
  · rw [if_neg hc1] at hf
    refine Wp.aload_n (pc := 124) 0 rfl rfl dX10_evenestBench_124 ?_
    refine Wp.iload (pc := 125) 4 rfl dX10_evenestBench_125 ?_
    refine Wp.iload (pc := 127) 2 rfl dX10_evenestBench_127 ?_
    obtain ⟨c2, h3, hf⟩ := bnd hf
    refine Wp.callVi (pc := 129) (st := []) (as := [.int x7, .int x5]) (c_X10_greaterPart hG h3) ml_RX10_60 mv_X10_greaterPart mb_X10_greaterPart hX (Nat.le_of_ble_eq_true rfl) (by decide) rfl (hG.t 41 rfl) rfl (by simp) dX10_evenestBench_129 rfl ?_
    refine Wp.aload_n (pc := 132) 0 rfl rfl dX10_evenestBench_132 ?_
    refine Wp.iload (pc := 133) 3 rfl dX10_evenestBench_133 ?_
    refine Wp.iload (pc := 135) 2 rfl dX10_evenestBench_135 ?_
    obtain ⟨c4, h5, hf⟩ := bnd hf
    refine Wp.callVi (pc := 137) (st := [.int c2.1]) (as := [.int x6, .int x5]) (c_X10_greaterPart hG h5) ml_RX10_60 mv_X10_greaterPart mb_X10_greaterPart hX (Nat.le_of_ble_eq_true rfl) (by decide) rfl (hG.t 41 rfl) rfl (by simp [Value.category]) dX10_evenestBench_137 rfl ?_
    refine Wp.icmp_ge (pc := 140) 147 dX10_evenestBench_140 (by decide) (fun hc6 => ?_) (fun hc6 => ?_)
    · rw [if_pos hc6] at hf
      exact w_X10_evenestBench_147 hX hG hf hk
    · rw [if_neg hc6] at hf
      refine Wp.iload (pc := 143) 4 rfl dX10_evenestBench_143 ?_
      refine Wp.istore (pc := 145) (lo' := [(0, .ref 41), (4, .int x4), (5, .int x5), (6, .int x7), (7, .int x7)]) [1, 2, 3, 0, 4] rfl (by decide) dX10_evenestBench_145 ?_
      exact w_X10_evenestBench_147 hX hG hf hk
theorem wl_X10_evenestBench_117 {X : CX} {T : List Dsc} {R : RM} {c e : Nat} {n1 n2 : Nat} {x4 : Int32} {x5 : Int32} {x6 : Int32} {x7 : Int32} {m : M2} {e1 : ((Int32 × M2))} (hX : XR X 7 n1 n2) (hG : Geo T R c e) (h : loop (g_X10_evenestBench_117 c x4 x5) (x6, x7, m) = some e1) (he : Wp X cX10_evenestBench RX10 9 T (mk e1.2 R) n1 n2 153 [(6, .int e1.1)] []) : Wp X cX10_evenestBench RX10 9 T (mk m R) n1 n2 117 [(0, .ref 41), (4, .int x4), (5, .int x5), (6, .int x6), (7, .int x7)] [] :=
  loop_ok (K := k_X10_evenestBench_117 X T R n1 n2 x4 x5) (fun s r hf hk => w_X10_evenestBench_117 hX hG hf hk) h he
set_option maxHeartbeats 4000000 in
set_option maxRecDepth 100000 in
theorem w_X10_evenestBench {X : CX} {T : List Dsc} {R : RM} {c e : Nat} {n1 n2 : Nat} {x1 : Int32} {x2 : Int32} {x3 : Int32} {m : M2} {r : (Int32 × M2)} (hX : XR X 7 n1 n2) (hG : Geo T R c e) (hf : F_X10_evenestBench c x1 x2 x3 m = some r) (hk : FnI X cX10_evenestBench RX10 9 T n1 n2 (r.1, mk r.2 R)) : Wp X cX10_evenestBench RX10 9 T (mk m R) n1 n2 0 [(0, .ref 41), (1, .int x1), (2, .int x2), (3, .int x3)] [] := by
  unfold F_X10_evenestBench at hf
  refine Wp.aload_n (pc := 0) 0 rfl rfl dX10_evenestBench_0 ?_
  refine Wp.getR2 (pc := 1) (hG.r 41 0 rfl) (hG.t 41 rfl) fk_RX10_27 rfl dX10_evenestBench_1 ?_
  refine Wp.getR2 (pc := 4) hG.r2 (hG.t 23 rfl) fk_RX10_35 rfl dX10_evenestBench_4 ?_
  refine Wp.getI2 (pc := 7) (hG.tt hG.hc) fk_RX10_41 rfl dX10_evenestBench_7 ?_
  obtain ⟨v1, h2, hf⟩ := bnd hf
  refine Wp.nI' h2 ?_
  refine Wp.istore (pc := 10) (lo' := [(0, .ref 41), (1, .int x1), (2, .int x2), (3, .int x3), (4, .int v1)]) [1, 2, 3, 4, 0] rfl (by decide) dX10_evenestBench_10 ?_
  refine Wp.iconst (pc := 12) (0 : Int32) (by decide) dX10_evenestBench_12 ?_
  refine Wp.istore (pc := 13) (lo' := [(0, .ref 41), (1, .int x1), (2, .int x2), (3, .int x3), (4, .int v1), (5, .int (0 : Int32))]) [1, 2, 3, 4, 5, 0] rfl (by decide) dX10_evenestBench_13 ?_
  refine Wp.aload_n (pc := 15) 0 rfl rfl dX10_evenestBench_15 ?_
  refine Wp.getR2 (pc := 16) (hG.r 41 6 rfl) (hG.t 41 rfl) fk_RX10_24 rfl dX10_evenestBench_16 ?_
  refine Wp.iconst (pc := 19) (0 : Int32) (by decide) dX10_evenestBench_19 ?_
  obtain ⟨c3, h4, hf⟩ := bnd hf
  refine Wp.callSv (pc := 20) (st := []) (as := [.ref 46, .int (0 : Int32)]) (c_J7_fill_53178 hG (hG.a 46 0 rfl) h4) ml_RX10_50 ms_J7_fill_53178 mb_J7_fill_53178 hX (Nat.le_of_ble_eq_true rfl) (by decide) rfl (by simp) dX10_evenestBench_20 rfl ?_
  refine Wp.iconst (pc := 23) (0 : Int32) (by decide) dX10_evenestBench_23 ?_
  refine Wp.istore (pc := 24) (lo' := [(0, .ref 41), (1, .int x1), (2, .int x2), (3, .int x3), (4, .int v1), (5, .int (0 : Int32)), (6, .int (0 : Int32))]) [1, 2, 3, 4, 5, 6, 0] rfl (by decide) dX10_evenestBench_24 ?_
  obtain ⟨e5, h6, hf⟩ := bnd hf
  refine wl_X10_evenestBench_26 hX hG h6 ?_
  refine Wp.iload (pc := 97) 2 rfl dX10_evenestBench_97 ?_
  refine Wp.if_eq (pc := 99) 108 dX10_evenestBench_99 (by decide) (fun hc7 => ?_) (fun hc7 => ?_)
  · rw [if_pos hc7] at hf
    refine Wp.lo' (lo' := []) [] rfl ?_
    exact w_X10_evenestBench_108 hX hG hf hk
  · rw [if_neg hc7] at hf
    refine Wp.iload (pc := 102) 1 rfl dX10_evenestBench_102 ?_
    refine Wp.iconst (pc := 104) (2 : Int32) (by decide) dX10_evenestBench_104 ?_
    refine Wp.icmp_ge (pc := 105) 111 dX10_evenestBench_105 (by decide) (fun hc8 => ?_) (fun hc8 => ?_)
    · rw [if_pos hc8] at hf
      refine Wp.iconst (pc := 111) (1 : Int32) (by decide) dX10_evenestBench_111 ?_
      refine Wp.istore (pc := 112) (lo' := [(0, .ref 41), (4, .int v1), (5, .int e5.1), (6, .int (1 : Int32))]) [1, 2, 3, 0] rfl (by decide) dX10_evenestBench_112 ?_
      refine Wp.iconst (pc := 114) (2 : Int32) (by decide) dX10_evenestBench_114 ?_
      refine Wp.istore (pc := 115) (lo' := [(0, .ref 41), (4, .int v1), (5, .int e5.1), (6, .int (1 : Int32)), (7, .int (2 : Int32))]) [1, 2, 3, 4, 0] rfl (by decide) dX10_evenestBench_115 ?_
      obtain ⟨e9, h10, hf⟩ := bnd hf
      refine wl_X10_evenestBench_117 hX hG h10 ?_
      refine Wp.iload (pc := 153) 0 rfl dX10_evenestBench_153 ?_
      cases hf
      exact hk _ _ dX10_evenestBench_155
    · rw [if_neg hc8] at hf
      refine Wp.lo' (lo' := []) [] rfl ?_
      exact w_X10_evenestBench_108 hX hG hf hk
theorem c_X10_evenestBench {T : List Dsc} {R : RM} {c e : Nat} {x1 : Int32} {x2 : Int32} {x3 : Int32} {m : M2} {r : (Int32 × M2)} (hG : Geo T R c e) (hf : F_X10_evenestBench c x1 x2 x3 m = some r) : Ct 7 yX10_evenestBench cX10_evenestBench 9 (some .int) T (mk m R) [.ref 41, .int x1, .int x2, .int x3] (some (.int r.1)) (mk r.2 R) := Ct.ofI (r := (r.1, mk r.2 R)) (by decide +kernel) (Nat.le_of_ble_eq_true rfl) (fun X hX hk => w_X10_evenestBench hX hG hf hk)
theorem dX11_tapeWord_0 : decode cX11_tapeWord 0 = .ok (.bipush 24, 2) := by decide +kernel
theorem dX11_tapeWord_2 : decode cX11_tapeWord 2 = .ok (.istore_n 2, 1) := by decide +kernel
theorem dX11_tapeWord_3 : decode cX11_tapeWord 3 = .ok (.iload_n 2, 1) := by decide +kernel
theorem dX11_tapeWord_4 : decode cX11_tapeWord 4 = .ok (.ifCond .lt 32, 3) := by decide +kernel
theorem dX11_tapeWord_7 : decode cX11_tapeWord 7 = .ok (.aload_n 0, 1) := by decide +kernel
theorem dX11_tapeWord_8 : decode cX11_tapeWord 8 = .ok (.getfield 9, 3) := by decide +kernel
theorem dX11_tapeWord_11 : decode cX11_tapeWord 11 = .ok (.aload_n 0, 1) := by decide +kernel
theorem dX11_tapeWord_12 : decode cX11_tapeWord 12 = .ok (.getfield 92, 3) := by decide +kernel
theorem dX11_tapeWord_15 : decode cX11_tapeWord 15 = .ok (.iload_n 1, 1) := by decide +kernel
theorem dX11_tapeWord_16 : decode cX11_tapeWord 16 = .ok (.iload_n 2, 1) := by decide +kernel
theorem dX11_tapeWord_17 : decode cX11_tapeWord 17 = .ok (.iushr, 1) := by decide +kernel
theorem dX11_tapeWord_18 : decode cX11_tapeWord 18 = .ok (.i2b, 1) := by decide +kernel
theorem dX11_tapeWord_19 : decode cX11_tapeWord 19 = .ok (.bastore, 1) := by decide +kernel
theorem dX11_tapeWord_20 : decode cX11_tapeWord 20 = .ok (.aload_n 0, 1) := by decide +kernel
theorem dX11_tapeWord_21 : decode cX11_tapeWord 21 = .ok (.dup, 1) := by decide +kernel
theorem dX11_tapeWord_22 : decode cX11_tapeWord 22 = .ok (.getfield 92, 3) := by decide +kernel
theorem dX11_tapeWord_25 : decode cX11_tapeWord 25 = .ok (.iconst 1, 1) := by decide +kernel
theorem dX11_tapeWord_26 : decode cX11_tapeWord 26 = .ok (.iadd, 1) := by decide +kernel
theorem dX11_tapeWord_27 : decode cX11_tapeWord 27 = .ok (.putfield 92, 3) := by decide +kernel
theorem dX11_tapeWord_30 : decode cX11_tapeWord 30 = .ok (.iinc 2 (-8), 3) := by decide +kernel
theorem dX11_tapeWord_33 : decode cX11_tapeWord 33 = .ok (.goto (-30), 3) := by decide +kernel
theorem dX11_tapeWord_36 : decode cX11_tapeWord 36 = .ok (.return_, 1) := by decide +kernel
def k_X11_tapeWord_3 (X : CX) (T : List Dsc) (R : RM) (n1 n2 : Nat) (x1 : Int32) (r : ((Int32 × M2) ⊕ ((M2)))) : Prop := match r with
  | .inl s => Wp X cX11_tapeWord RX11 3 T (mk s.2 R) n1 n2 3 [(0, .ref 0), (1, .int x1), (2, .int s.1)] []
  | .inr e => Wp X cX11_tapeWord RX11 3 T (mk e R) n1 n2 36 [] []
set_option maxHeartbeats 4000000 in
set_option maxRecDepth 100000 in
theorem w_X11_tapeWord_3 {X : CX} {T : List Dsc} {R : RM} {c e : Nat} {n1 n2 : Nat} {x1 : Int32} {x2 : Int32} {m : M2} {r : ((Int32 × M2) ⊕ ((M2)))} (hX : XR X 1 n1 n2) (hG : Geo T R c e) (hf : f_X11_tapeWord_3 c x1 x2 m = some r) (hk : k_X11_tapeWord_3 X T R n1 n2 x1 r) : Wp X cX11_tapeWord RX11 3 T (mk m R) n1 n2 3 [(0, .ref 0), (1, .int x1), (2, .int x2)] [] := by
  unfold f_X11_tapeWord_3 at hf
  refine Wp.iload_n (pc := 3) 2 rfl rfl dX11_tapeWord_3 ?_
  refine Wp.if_lt (pc := 4) 36 dX11_tapeWord_4 (by decide) (fun hc1 => ?_) (fun hc1 => ?_)
  · rw [if_pos hc1] at hf
    refine Wp.lo' (lo' := []) [] rfl ?_
    cases hf
    exact hk
  · rw [if_neg hc1] at hf
    refine Wp.aload_n (pc := 7) 0 rfl rfl dX11_tapeWord_7 ?_
    refine Wp.getR2 (pc := 8) (hG.r 0 0 rfl) (hG.t 0 rfl) fk_RX11_9 rfl dX11_tapeWord_8 ?_
    refine Wp.aload_n (pc := 11) 0 rfl rfl dX11_tapeWord_11 ?_
    refine Wp.getI2 (pc := 12) (hG.t 0 rfl) fk_RX11_92 rfl dX11_tapeWord_12 ?_
    refine Wp.iload_n (pc := 15) 1 rfl rfl dX11_tapeWord_15 ?_
    refine Wp.iload_n (pc := 16) 2 rfl rfl dX11_tapeWord_16 ?_
    refine Wp.iushr (pc := 17) dX11_tapeWord_17 ?_
    refine Wp.i2b (pc := 18) dX11_tapeWord_18 ?_
    obtain ⟨m2, h3, hf⟩ := bnd hf
    refine Wp.bast2 (pc := 19) h3 (hG.a 1 2 rfl) dX11_tapeWord_19 ?_
    refine Wp.aload_n (pc := 20) 0 rfl rfl dX11_tapeWord_20 ?_
    refine Wp.dup (pc := 21) rfl dX11_tapeWord_21 ?_
    refine Wp.getI2 (pc := 22) (hG.t 0 rfl) fk_RX11_92 rfl dX11_tapeWord_22 ?_
    refine Wp.iconst (pc := 25) (1 : Int32) (by decide) dX11_tapeWord_25 ?_
    refine Wp.iadd (pc := 26) dX11_tapeWord_26 ?_
    obtain ⟨m4, h5, hf⟩ := bnd hf
    refine Wp.ptI2 (pc := 27) h5 (hG.t 0 rfl) fk_RX11_92 ff_RX11_10_1 rfl dX11_tapeWord_27 ?_
    obtain ⟨v6, h7, hf⟩ := bnd hf
    refine Wp.iincN (pc := 30) (lo' := [(0, .ref 0), (1, .int x1), (2, .int v6)]) (-8 : Int32) (by decide) h7 2 rfl [1, 2, 0] rfl (by decide) dX11_tapeWord_30 ?_
    refine Wp.goto (pc := 33) 3 dX11_tapeWord_33 (by decide) ?_
    cases hf
    exact hk
theorem wl_X11_tapeWord_3 {X : CX} {T : List Dsc} {R : RM} {c e : Nat} {n1 n2 : Nat} {x1 : Int32} {x2 : Int32} {m : M2} {e1 : ((M2))} (hX : XR X 1 n1 n2) (hG : Geo T R c e) (h : loop (g_X11_tapeWord_3 c x1) (x2, m) = some e1) (he : Wp X cX11_tapeWord RX11 3 T (mk e1 R) n1 n2 36 [] []) : Wp X cX11_tapeWord RX11 3 T (mk m R) n1 n2 3 [(0, .ref 0), (1, .int x1), (2, .int x2)] [] :=
  loop_ok (K := k_X11_tapeWord_3 X T R n1 n2 x1) (fun s r hf hk => w_X11_tapeWord_3 hX hG hf hk) h he
set_option maxHeartbeats 4000000 in
set_option maxRecDepth 100000 in
theorem w_X11_tapeWord {X : CX} {T : List Dsc} {R : RM} {c e : Nat} {n1 n2 : Nat} {x1 : Int32} {m : M2} {r : M2} (hX : XR X 1 n1 n2) (hG : Geo T R c e) (hf : F_X11_tapeWord c x1 m = some r) (hk : FnV X cX11_tapeWord RX11 3 T n1 n2 (mk r R)) : Wp X cX11_tapeWord RX11 3 T (mk m R) n1 n2 0 [(0, .ref 0), (1, .int x1)] [] := by
  unfold F_X11_tapeWord at hf
  refine Wp.bipush (pc := 0) (24 : Int32) (by decide) dX11_tapeWord_0 ?_
  refine Wp.istore_n (pc := 2) (lo' := [(0, .ref 0), (1, .int x1), (2, .int (24 : Int32))]) [1, 2, 0] rfl (by decide) rfl dX11_tapeWord_2 ?_
  obtain ⟨e1, h2, hf⟩ := bnd hf
  refine wl_X11_tapeWord_3 hX hG h2 ?_
  cases hf
  exact hk _ _ dX11_tapeWord_36
theorem c_X11_tapeWord {T : List Dsc} {R : RM} {c e : Nat} {x1 : Int32} {m : M2} {r : M2} (hG : Geo T R c e) (hf : F_X11_tapeWord c x1 m = some r) : Ct 1 yX11_tapeWord cX11_tapeWord 3 none T (mk m R) [.ref 0, .int x1] none (mk r R) := Ct.ofV (r := mk r R) (by decide +kernel) (Nat.le_of_ble_eq_true rfl) (fun X hX hk => w_X11_tapeWord hX hG hf hk)
theorem dX11_feed_0 : decode cX11_feed 0 = .ok (.aload_n 0, 1) := by decide +kernel
theorem dX11_feed_1 : decode cX11_feed 1 = .ok (.getfield 92, 3) := by decide +kernel
theorem dX11_feed_4 : decode cX11_feed 4 = .ok (.sipush 1980, 3) := by decide +kernel
theorem dX11_feed_7 : decode cX11_feed 7 = .ok (.if_icmp .le 5, 3) := by decide +kernel
theorem dX11_feed_10 : decode cX11_feed 10 = .ok (.iconst (-1), 1) := by decide +kernel
theorem dX11_feed_11 : decode cX11_feed 11 = .ok (.ireturn, 1) := by decide +kernel
theorem dX11_feed_12 : decode cX11_feed 12 = .ok (.aload_n 0, 1) := by decide +kernel
theorem dX11_feed_13 : decode cX11_feed 13 = .ok (.iload_n 1, 1) := by decide +kernel
theorem dX11_feed_14 : decode cX11_feed 14 = .ok (.invokevirtual 96, 3) := by decide +kernel
theorem dX11_feed_17 : decode cX11_feed 17 = .ok (.aload_n 0, 1) := by decide +kernel
theorem dX11_feed_18 : decode cX11_feed 18 = .ok (.iload_n 2, 1) := by decide +kernel
theorem dX11_feed_19 : decode cX11_feed 19 = .ok (.invokevirtual 96, 3) := by decide +kernel
theorem dX11_feed_22 : decode cX11_feed 22 = .ok (.aload_n 0, 1) := by decide +kernel
theorem dX11_feed_23 : decode cX11_feed 23 = .ok (.iload_n 3, 1) := by decide +kernel
theorem dX11_feed_24 : decode cX11_feed 24 = .ok (.invokevirtual 96, 3) := by decide +kernel
theorem dX11_feed_27 : decode cX11_feed 27 = .ok (.aload_n 0, 1) := by decide +kernel
theorem dX11_feed_28 : decode cX11_feed 28 = .ok (.iload 4, 2) := by decide +kernel
theorem dX11_feed_30 : decode cX11_feed 30 = .ok (.invokevirtual 96, 3) := by decide +kernel
theorem dX11_feed_33 : decode cX11_feed 33 = .ok (.aload_n 0, 1) := by decide +kernel
theorem dX11_feed_34 : decode cX11_feed 34 = .ok (.iload 5, 2) := by decide +kernel
theorem dX11_feed_36 : decode cX11_feed 36 = .ok (.invokevirtual 96, 3) := by decide +kernel
theorem dX11_feed_39 : decode cX11_feed 39 = .ok (.aload_n 0, 1) := by decide +kernel
theorem dX11_feed_40 : decode cX11_feed 40 = .ok (.getfield 92, 3) := by decide +kernel
theorem dX11_feed_43 : decode cX11_feed 43 = .ok (.ireturn, 1) := by decide +kernel
set_option maxHeartbeats 4000000 in
set_option maxRecDepth 100000 in
theorem w_X11_feed {X : CX} {T : List Dsc} {R : RM} {c e : Nat} {n1 n2 : Nat} {x1 : Int32} {x2 : Int32} {x3 : Int32} {x4 : Int32} {x5 : Int32} {m : M2} {r : (Int32 × M2)} (hX : XR X 2 n1 n2) (hG : Geo T R c e) (hf : F_X11_feed c x1 x2 x3 x4 x5 m = some r) (hk : FnI X cX11_feed RX11 6 T n1 n2 (r.1, mk r.2 R)) : Wp X cX11_feed RX11 6 T (mk m R) n1 n2 0 [(0, .ref 0), (1, .int x1), (2, .int x2), (3, .int x3), (4, .int x4), (5, .int x5)] [] := by
  unfold F_X11_feed at hf
  refine Wp.aload_n (pc := 0) 0 rfl rfl dX11_feed_0 ?_
  refine Wp.getI2 (pc := 1) (hG.t 0 rfl) fk_RX11_92 rfl dX11_feed_1 ?_
  refine Wp.sipush (pc := 4) (1980 : Int32) (by decide) dX11_feed_4 ?_
  refine Wp.icmp_le (pc := 7) 12 dX11_feed_7 (by decide) (fun hc1 => ?_) (fun hc1 => ?_)
  · rw [if_pos hc1] at hf
    refine Wp.aload_n (pc := 12) 0 rfl rfl dX11_feed_12 ?_
    refine Wp.iload_n (pc := 13) 1 rfl rfl dX11_feed_13 ?_
    obtain ⟨c2, h3, hf⟩ := bnd hf
    refine Wp.callVv (pc := 14) (st := []) (as := [.int x1]) (c_X11_tapeWord hG h3) ml_RX11_96 mv_X11_tapeWord mb_X11_tapeWord hX (Nat.le_of_ble_eq_true rfl) (by decide) rfl (hG.t 0 rfl) rfl (by simp) dX11_feed_14 rfl ?_
    refine Wp.aload_n (pc := 17) 0 rfl rfl dX11_feed_17 ?_
    refine Wp.iload_n (pc := 18) 2 rfl rfl dX11_feed_18 ?_
    obtain ⟨c4, h5, hf⟩ := bnd hf
    refine Wp.callVv (pc := 19) (st := []) (as := [.int x2]) (c_X11_tapeWord hG h5) ml_RX11_96 mv_X11_tapeWord mb_X11_tapeWord hX (Nat.le_of_ble_eq_true rfl) (by decide) rfl (hG.t 0 rfl) rfl (by simp) dX11_feed_19 rfl ?_
    refine Wp.aload_n (pc := 22) 0 rfl rfl dX11_feed_22 ?_
    refine Wp.iload_n (pc := 23) 3 rfl rfl dX11_feed_23 ?_
    obtain ⟨c6, h7, hf⟩ := bnd hf
    refine Wp.callVv (pc := 24) (st := []) (as := [.int x3]) (c_X11_tapeWord hG h7) ml_RX11_96 mv_X11_tapeWord mb_X11_tapeWord hX (Nat.le_of_ble_eq_true rfl) (by decide) rfl (hG.t 0 rfl) rfl (by simp) dX11_feed_24 rfl ?_
    refine Wp.aload_n (pc := 27) 0 rfl rfl dX11_feed_27 ?_
    refine Wp.iload (pc := 28) 4 rfl dX11_feed_28 ?_
    obtain ⟨c8, h9, hf⟩ := bnd hf
    refine Wp.callVv (pc := 30) (st := []) (as := [.int x4]) (c_X11_tapeWord hG h9) ml_RX11_96 mv_X11_tapeWord mb_X11_tapeWord hX (Nat.le_of_ble_eq_true rfl) (by decide) rfl (hG.t 0 rfl) rfl (by simp) dX11_feed_30 rfl ?_
    refine Wp.aload_n (pc := 33) 0 rfl rfl dX11_feed_33 ?_
    refine Wp.iload (pc := 34) 5 rfl dX11_feed_34 ?_
    obtain ⟨c10, h11, hf⟩ := bnd hf
    refine Wp.callVv (pc := 36) (st := []) (as := [.int x5]) (c_X11_tapeWord hG h11) ml_RX11_96 mv_X11_tapeWord mb_X11_tapeWord hX (Nat.le_of_ble_eq_true rfl) (by decide) rfl (hG.t 0 rfl) rfl (by simp) dX11_feed_36 rfl ?_
    refine Wp.aload_n (pc := 39) 0 rfl rfl dX11_feed_39 ?_
    refine Wp.getI2 (pc := 40) (hG.t 0 rfl) fk_RX11_92 rfl dX11_feed_40 ?_
    cases hf
    exact hk _ _ dX11_feed_43
  · rw [if_neg hc1] at hf
    refine Wp.iconst (pc := 10) (-1 : Int32) (by decide) dX11_feed_10 ?_
    cases hf
    exact hk _ _ dX11_feed_11
theorem c_X11_feed {T : List Dsc} {R : RM} {c e : Nat} {x1 : Int32} {x2 : Int32} {x3 : Int32} {x4 : Int32} {x5 : Int32} {m : M2} {r : (Int32 × M2)} (hG : Geo T R c e) (hf : F_X11_feed c x1 x2 x3 x4 x5 m = some r) : Ct 2 yX11_feed cX11_feed 6 (some .int) T (mk m R) [.ref 0, .int x1, .int x2, .int x3, .int x4, .int x5] (some (.int r.1)) (mk r.2 R) := Ct.ofI (r := (r.1, mk r.2 R)) (by decide +kernel) (Nat.le_of_ble_eq_true rfl) (fun X hX hk => w_X11_feed hX hG hf hk)
theorem dX11_back_0 : decode cX11_back 0 = .ok (.iload_n 1, 1) := by decide +kernel
theorem dX11_back_1 : decode cX11_back 1 = .ok (.ifCond .lt 11, 3) := by decide +kernel
theorem dX11_back_4 : decode cX11_back 4 = .ok (.iload_n 1, 1) := by decide +kernel
theorem dX11_back_5 : decode cX11_back 5 = .ok (.aload_n 0, 1) := by decide +kernel
theorem dX11_back_6 : decode cX11_back 6 = .ok (.getfield 92, 3) := by decide +kernel
theorem dX11_back_9 : decode cX11_back 9 = .ok (.if_icmp .le 5, 3) := by decide +kernel
theorem dX11_back_12 : decode cX11_back 12 = .ok (.iconst (-1), 1) := by decide +kernel
theorem dX11_back_13 : decode cX11_back 13 = .ok (.ireturn, 1) := by decide +kernel
theorem dX11_back_14 : decode cX11_back 14 = .ok (.aload_n 0, 1) := by decide +kernel
theorem dX11_back_15 : decode cX11_back 15 = .ok (.dup, 1) := by decide +kernel
theorem dX11_back_16 : decode cX11_back 16 = .ok (.getfield 92, 3) := by decide +kernel
theorem dX11_back_19 : decode cX11_back 19 = .ok (.iload_n 1, 1) := by decide +kernel
theorem dX11_back_20 : decode cX11_back 20 = .ok (.isub, 1) := by decide +kernel
theorem dX11_back_21 : decode cX11_back 21 = .ok (.putfield 92, 3) := by decide +kernel
theorem dX11_back_24 : decode cX11_back 24 = .ok (.aload_n 0, 1) := by decide +kernel
theorem dX11_back_25 : decode cX11_back 25 = .ok (.getfield 92, 3) := by decide +kernel
theorem dX11_back_28 : decode cX11_back 28 = .ok (.ireturn, 1) := by decide +kernel
set_option maxHeartbeats 4000000 in
set_option maxRecDepth 100000 in
theorem w_X11_back_12 {X : CX} {T : List Dsc} {R : RM} {c e : Nat} {n1 n2 : Nat} {m : M2} {r : (Int32 × M2)} (hX : XR X 1 n1 n2) (hG : Geo T R c e) (hf : f_X11_back_12 c m = some r) (hk : FnI X cX11_back RX11 2 T n1 n2 (r.1, mk r.2 R)) : Wp X cX11_back RX11 2 T (mk m R) n1 n2 12 [] [] := by
  unfold f_X11_back_12 at hf
  refine Wp.iconst (pc := 12) (-1 : Int32) (by decide) dX11_back_12 ?_
  cases hf
  exact hk _ _ dX11_back_13
set_option maxHeartbeats 4000000 in
set_option maxRecDepth 100000 in
theorem w_X11_back {X : CX} {T : List Dsc} {R : RM} {c e : Nat} {n1 n2 : Nat} {x1 : Int32} {m : M2} {r : (Int32 × M2)} (hX : XR X 1 n1 n2) (hG : Geo T R c e) (hf : F_X11_back c x1 m = some r) (hk : FnI X cX11_back RX11 2 T n1 n2 (r.1, mk r.2 R)) : Wp X cX11_back RX11 2 T (mk m R) n1 n2 0 [(0, .ref 0), (1, .int x1)] [] := by
  unfold F_X11_back at hf
  refine Wp.iload_n (pc := 0) 1 rfl rfl dX11_back_0 ?_
  refine Wp.if_lt (pc := 1) 12 dX11_back_1 (by decide) (fun hc1 => ?_) (fun hc1 => ?_)
  · rw [if_pos hc1] at hf
    refine Wp.lo' (lo' := []) [] rfl ?_
    exact w_X11_back_12 hX hG hf hk
  · rw [if_neg hc1] at hf
    refine Wp.iload_n (pc := 4) 1 rfl rfl dX11_back_4 ?_
    refine Wp.aload_n (pc := 5) 0 rfl rfl dX11_back_5 ?_
    refine Wp.getI2 (pc := 6) (hG.t 0 rfl) fk_RX11_92 rfl dX11_back_6 ?_
    refine Wp.icmp_le (pc := 9) 14 dX11_back_9 (by decide) (fun hc2 => ?_) (fun hc2 => ?_)
    · rw [if_pos hc2] at hf
      refine Wp.aload_n (pc := 14) 0 rfl rfl dX11_back_14 ?_
      refine Wp.dup (pc := 15) rfl dX11_back_15 ?_
      refine Wp.getI2 (pc := 16) (hG.t 0 rfl) fk_RX11_92 rfl dX11_back_16 ?_
      refine Wp.iload_n (pc := 19) 1 rfl rfl dX11_back_19 ?_
      refine Wp.isub (pc := 20) dX11_back_20 ?_
      obtain ⟨m3, h4, hf⟩ := bnd hf
      refine Wp.ptI2 (pc := 21) h4 (hG.t 0 rfl) fk_RX11_92 ff_RX11_10_1 rfl dX11_back_21 ?_
      refine Wp.aload_n (pc := 24) 0 rfl rfl dX11_back_24 ?_
      refine Wp.getI2 (pc := 25) (hG.t 0 rfl) fk_RX11_92 rfl dX11_back_25 ?_
      cases hf
      exact hk _ _ dX11_back_28
    · rw [if_neg hc2] at hf
      refine Wp.lo' (lo' := []) [] rfl ?_
      exact w_X11_back_12 hX hG hf hk
theorem c_X11_back {T : List Dsc} {R : RM} {c e : Nat} {x1 : Int32} {m : M2} {r : (Int32 × M2)} (hG : Geo T R c e) (hf : F_X11_back c x1 m = some r) : Ct 1 yX11_back cX11_back 2 (some .int) T (mk m R) [.ref 0, .int x1] (some (.int r.1)) (mk r.2 R) := Ct.ofI (r := (r.1, mk r.2 R)) (by decide +kernel) (Nat.le_of_ble_eq_true rfl) (fun X hX hk => w_X11_back hX hG hf hk)
theorem dX11_place_0 : decode cX11_place 0 = .ok (.aload_n 0, 1) := by decide +kernel
theorem dX11_place_1 : decode cX11_place 1 = .ok (.getfield 28, 3) := by decide +kernel
theorem dX11_place_4 : decode cX11_place 4 = .ok (.getfield 118, 3) := by decide +kernel
theorem dX11_place_7 : decode cX11_place 7 = .ok (.ireturn, 1) := by decide +kernel
set_option maxHeartbeats 4000000 in
set_option maxRecDepth 100000 in
theorem w_X11_place {X : CX} {T : List Dsc} {R : RM} {c e : Nat} {n1 n2 : Nat} {m : M2} {r : (Int32 × M2)} (hX : XR X 1 n1 n2) (hG : Geo T R c e) (hf : F_X11_place c m = some r) (hk : FnI X cX11_place RX11 1 T n1 n2 (r.1, mk r.2 R)) : Wp X cX11_place RX11 1 T (mk m R) n1 n2 0 [(0, .ref 0)] [] := by
  unfold F_X11_place at hf
  refine Wp.aload_n (pc := 0) 0 rfl rfl dX11_place_0 ?_
  refine Wp.getR2 (pc := 1) (hG.r 0 4 rfl) (hG.t 0 rfl) fk_RX11_28 rfl dX11_place_1 ?_
  refine Wp.getI2 (pc := 4) (hG.t 14 rfl) fk_RX11_118 rfl dX11_place_4 ?_
  cases hf
  exact hk _ _ dX11_place_7
theorem c_X11_place {T : List Dsc} {R : RM} {c e : Nat} {m : M2} {r : (Int32 × M2)} (hG : Geo T R c e) (hf : F_X11_place c m = some r) : Ct 1 yX11_place cX11_place 1 (some .int) T (mk m R) [.ref 0] (some (.int r.1)) (mk r.2 R) := Ct.ofI (r := (r.1, mk r.2 R)) (by decide +kernel) (Nat.le_of_ble_eq_true rfl) (fun X hX hk => w_X11_place hX hG hf hk)
theorem dX11_isBench_0 : decode cX11_isBench 0 = .ok (.iload_n 1, 1) := by decide +kernel
theorem dX11_isBench_1 : decode cX11_isBench 1 = .ok (.ifCond .lt 18, 3) := by decide +kernel
theorem dX11_isBench_4 : decode cX11_isBench 4 = .ok (.iload_n 1, 1) := by decide +kernel
theorem dX11_isBench_5 : decode cX11_isBench 5 = .ok (.aload_n 0, 1) := by decide +kernel
theorem dX11_isBench_6 : decode cX11_isBench 6 = .ok (.getfield 16, 3) := by decide +kernel
theorem dX11_isBench_9 : decode cX11_isBench 9 = .ok (.getfield 153, 3) := by decide +kernel
theorem dX11_isBench_12 : decode cX11_isBench 12 = .ok (.if_icmp .ge 7, 3) := by decide +kernel
theorem dX11_isBench_15 : decode cX11_isBench 15 = .ok (.iconst 1, 1) := by decide +kernel
theorem dX11_isBench_16 : decode cX11_isBench 16 = .ok (.goto 4, 3) := by decide +kernel
theorem dX11_isBench_19 : decode cX11_isBench 19 = .ok (.iconst 0, 1) := by decide +kernel
theorem dX11_isBench_20 : decode cX11_isBench 20 = .ok (.ireturn, 1) := by decide +kernel
set_option maxHeartbeats 4000000 in
set_option maxRecDepth 100000 in
theorem w_X11_isBench_20 {X : CX} {T : List Dsc} {R : RM} {c e : Nat} {n1 n2 : Nat} {s0 : Int32} {m : M2} {r : (Int32 × M2)} (hX : XR X 1 n1 n2) (hG : Geo T R c e) (hf : f_X11_isBench_20 c s0 m = some r) (hk : FnZ X cX11_isBench RX11 2 T n1 n2 (r.1, mk r.2 R)) : Wp X cX11_isBench RX11 2 T (mk m R) n1 n2 20 [] [.int s0] := by
  unfold f_X11_isBench_20 at hf
  obtain ⟨v1, h2, hf⟩ := bnd hf
  refine Wp.zb' h2 (fun h2 => ?_)
  cases hf
  exact hk _ _ h2 dX11_isBench_20
set_option maxHeartbeats 4000000 in
set_option maxRecDepth 100000 in
theorem w_X11_isBench_19 {X : CX} {T : List Dsc} {R : RM} {c e : Nat} {n1 n2 : Nat} {m : M2} {r : (Int32 × M2)} (hX : XR X 1 n1 n2) (hG : Geo T R c e) (hf : f_X11_isBench_19 c m = some r) (hk : FnZ X cX11_isBench RX11 2 T n1 n2 (r.1, mk r.2 R)) : Wp X cX11_isBench RX11 2 T (mk m R) n1 n2 19 [] [] := by
  unfold f_X11_isBench_19 at hf
  refine Wp.iconst (pc := 19) (0 : Int32) (by decide) dX11_isBench_19 ?_
  exact w_X11_isBench_20 hX hG hf hk
set_option maxHeartbeats 4000000 in
set_option maxRecDepth 100000 in
theorem w_X11_isBench {X : CX} {T : List Dsc} {R : RM} {c e : Nat} {n1 n2 : Nat} {x1 : Int32} {m : M2} {r : (Int32 × M2)} (hX : XR X 1 n1 n2) (hG : Geo T R c e) (hf : F_X11_isBench c x1 m = some r) (hk : FnZ X cX11_isBench RX11 2 T n1 n2 (r.1, mk r.2 R)) : Wp X cX11_isBench RX11 2 T (mk m R) n1 n2 0 [(0, .ref 0), (1, .int x1)] [] := by
  unfold F_X11_isBench at hf
  refine Wp.iload_n (pc := 0) 1 rfl rfl dX11_isBench_0 ?_
  refine Wp.if_lt (pc := 1) 19 dX11_isBench_1 (by decide) (fun hc1 => ?_) (fun hc1 => ?_)
  · rw [if_pos hc1] at hf
    refine Wp.lo' (lo' := []) [] rfl ?_
    exact w_X11_isBench_19 hX hG hf hk
  · rw [if_neg hc1] at hf
    refine Wp.iload_n (pc := 4) 1 rfl rfl dX11_isBench_4 ?_
    refine Wp.aload_n (pc := 5) 0 rfl rfl dX11_isBench_5 ?_
    refine Wp.getR2 (pc := 6) hG.r0 (hG.t 0 rfl) fk_RX11_16 rfl dX11_isBench_6 ?_
    refine Wp.getI2 (pc := 9) (hG.tt hG.hc) fk_RX11_153 rfl dX11_isBench_9 ?_
    refine Wp.icmp_ge (pc := 12) 19 dX11_isBench_12 (by decide) (fun hc2 => ?_) (fun hc2 => ?_)
    · rw [if_pos hc2] at hf
      refine Wp.lo' (lo' := []) [] rfl ?_
      exact w_X11_isBench_19 hX hG hf hk
    · rw [if_neg hc2] at hf
      refine Wp.iconst (pc := 15) (1 : Int32) (by decide) dX11_isBench_15 ?_
      refine Wp.goto (pc := 16) 20 dX11_isBench_16 (by decide) ?_
      refine Wp.lo' (lo' := []) [] rfl ?_
      exact w_X11_isBench_20 hX hG hf hk
theorem c_X11_isBench {T : List Dsc} {R : RM} {c e : Nat} {x1 : Int32} {m : M2} {r : (Int32 × M2)} (hG : Geo T R c e) (hf : F_X11_isBench c x1 m = some r) : Ct 1 yX11_isBench cX11_isBench 2 (some .boolean) T (mk m R) [.ref 0, .int x1] (some (.int r.1)) (mk r.2 R) := Ct.ofZ (r := (r.1, mk r.2 R)) (by decide +kernel) (Nat.le_of_ble_eq_true rfl) (fun X hX hk => w_X11_isBench hX hG hf hk)
theorem dX11_bench_0 : decode cX11_bench 0 = .ok (.aload_n 0, 1) := by decide +kernel
theorem dX11_bench_1 : decode cX11_bench 1 = .ok (.iload_n 1, 1) := by decide +kernel
theorem dX11_bench_2 : decode cX11_bench 2 = .ok (.invokevirtual 121, 3) := by decide +kernel
theorem dX11_bench_5 : decode cX11_bench 5 = .ok (.ifCond .ne 5, 3) := by decide +kernel
theorem dX11_bench_8 : decode cX11_bench 8 = .ok (.iconst (-1), 1) := by decide +kernel
theorem dX11_bench_9 : decode cX11_bench 9 = .ok (.ireturn, 1) := by decide +kernel
theorem dX11_bench_10 : decode cX11_bench 10 = .ok (.aload_n 0, 1) := by decide +kernel
theorem dX11_bench_11 : decode cX11_bench 11 = .ok (.getfield 44, 3) := by decide +kernel
theorem dX11_bench_14 : decode cX11_bench 14 = .ok (.getfield 125, 3) := by decide +kernel
theorem dX11_bench_17 : decode cX11_bench 17 = .ok (.iload_n 1, 1) := by decide +kernel
theorem dX11_bench_18 : decode cX11_bench 18 = .ok (.invokestatic 129, 3) := by decide +kernel
theorem dX11_bench_21 : decode cX11_bench 21 = .ok (.istore_n 3, 1) := by decide +kernel
theorem dX11_bench_22 : decode cX11_bench 22 = .ok (.iload_n 2, 1) := by decide +kernel
theorem dX11_bench_23 : decode cX11_bench 23 = .ok (.tableswitch 82 0 3 #[29, 31, 41, 51], 29) := by decide +kernel
theorem dX11_bench_52 : decode cX11_bench 52 = .ok (.iload_n 3, 1) := by decide +kernel
theorem dX11_bench_53 : decode cX11_bench 53 = .ok (.ireturn, 1) := by decide +kernel
theorem dX11_bench_54 : decode cX11_bench 54 = .ok (.aload_n 0, 1) := by decide +kernel
theorem dX11_bench_55 : decode cX11_bench 55 = .ok (.getfield 44, 3) := by decide +kernel
theorem dX11_bench_58 : decode cX11_bench 58 = .ok (.getfield 133, 3) := by decide +kernel
theorem dX11_bench_61 : decode cX11_bench 61 = .ok (.iload_n 1, 1) := by decide +kernel
theorem dX11_bench_62 : decode cX11_bench 62 = .ok (.iaload, 1) := by decide +kernel
theorem dX11_bench_63 : decode cX11_bench 63 = .ok (.ireturn, 1) := by decide +kernel
theorem dX11_bench_64 : decode cX11_bench 64 = .ok (.aload_n 0, 1) := by decide +kernel
theorem dX11_bench_65 : decode cX11_bench 65 = .ok (.getfield 44, 3) := by decide +kernel
theorem dX11_bench_68 : decode cX11_bench 68 = .ok (.getfield 137, 3) := by decide +kernel
theorem dX11_bench_71 : decode cX11_bench 71 = .ok (.iload_n 1, 1) := by decide +kernel
theorem dX11_bench_72 : decode cX11_bench 72 = .ok (.iaload, 1) := by decide +kernel
theorem dX11_bench_73 : decode cX11_bench 73 = .ok (.ireturn, 1) := by decide +kernel
theorem dX11_bench_74 : decode cX11_bench 74 = .ok (.aload_n 0, 1) := by decide +kernel
theorem dX11_bench_75 : decode cX11_bench 75 = .ok (.getfield 37, 3) := by decide +kernel
theorem dX11_bench_78 : decode cX11_bench 78 = .ok (.iload_n 1, 1) := by decide +kernel
theorem dX11_bench_79 : decode cX11_bench 79 = .ok (.iload_n 3, 1) := by decide +kernel
theorem dX11_bench_80 : decode cX11_bench 80 = .ok (.aload_n 0, 1) := by decide +kernel
theorem dX11_bench_81 : decode cX11_bench 81 = .ok (.getfield 44, 3) := by decide +kernel
theorem dX11_bench_84 : decode cX11_bench 84 = .ok (.getfield 140, 3) := by decide +kernel
theorem dX11_bench_87 : decode cX11_bench 87 = .ok (.aload_n 0, 1) := by decide +kernel
theorem dX11_bench_88 : decode cX11_bench 88 = .ok (.getfield 16, 3) := by decide +kernel
theorem dX11_bench_91 : decode cX11_bench 91 = .ok (.aload_n 0, 1) := by decide +kernel
theorem dX11_bench_92 : decode cX11_bench 92 = .ok (.getfield 44, 3) := by decide +kernel
theorem dX11_bench_95 : decode cX11_bench 95 = .ok (.getfield 143, 3) := by decide +kernel
theorem dX11_bench_98 : decode cX11_bench 98 = .ok (.invokevirtual 146, 3) := by decide +kernel
theorem dX11_bench_101 : decode cX11_bench 101 = .ok (.invokevirtual 149, 3) := by decide +kernel
theorem dX11_bench_104 : decode cX11_bench 104 = .ok (.ireturn, 1) := by decide +kernel
theorem dX11_bench_105 : decode cX11_bench 105 = .ok (.iconst (-1), 1) := by decide +kernel
theorem dX11_bench_106 : decode cX11_bench 106 = .ok (.ireturn, 1) := by decide +kernel
set_option maxHeartbeats 4000000 in
set_option maxRecDepth 100000 in
theorem w_X11_bench {X : CX} {T : List Dsc} {R : RM} {c e : Nat} {n1 n2 : Nat} {x1 : Int32} {x2 : Int32} {m : M2} {r : (Int32 × M2)} (hX : XR X 2 n1 n2) (hG : Geo T R c e) (hf : F_X11_bench c x1 x2 m = some r) (hk : FnI X cX11_bench RX11 4 T n1 n2 (r.1, mk r.2 R)) : Wp X cX11_bench RX11 4 T (mk m R) n1 n2 0 [(0, .ref 0), (1, .int x1), (2, .int x2)] [] := by
  unfold F_X11_bench at hf
  refine Wp.aload_n (pc := 0) 0 rfl rfl dX11_bench_0 ?_
  refine Wp.iload_n (pc := 1) 1 rfl rfl dX11_bench_1 ?_
  obtain ⟨c1, h2, hf⟩ := bnd hf
  refine Wp.callVi (pc := 2) (st := []) (as := [.int x1]) (c_X11_isBench hG h2) ml_RX11_121 mv_X11_isBench mb_X11_isBench hX (Nat.le_of_ble_eq_true rfl) (by decide) rfl (hG.t 0 rfl) rfl (by simp) dX11_bench_2 rfl ?_
  refine Wp.if_ne (pc := 5) 10 dX11_bench_5 (by decide) (fun hc3 => ?_) (fun hc3 => ?_)
  · rw [if_neg hc3] at hf
    refine Wp.aload_n (pc := 10) 0 rfl rfl dX11_bench_10 ?_
    refine Wp.getR2 (pc := 11) (hG.r 0 6 rfl) (hG.t 0 rfl) fk_RX11_44 rfl dX11_bench_11 ?_
    refine Wp.getJ2 (pc := 14) (hG.wt cw28) fk_RX11_125 rfl dX11_bench_14 ?_
    refine Wp.iload_n (pc := 17) 1 rfl rfl dX11_bench_17 ?_
    obtain ⟨c4, h5, hf⟩ := bnd hf
    refine Wp.callSi (pc := 18) (st := []) (as := [.long (hJ c1.2 28 0), .int x1]) (c_X11_timeAt hG h5) ml_RX11_129 ms_X11_timeAt mb_X11_timeAt hX (Nat.le_of_ble_eq_true rfl) (by decide) rfl (by simp) dX11_bench_18 rfl ?_
    refine Wp.istore_n (pc := 21) (lo' := [(0, .ref 0), (1, .int x1), (2, .int x2), (3, .int c4.1)]) [1, 2, 3, 0] rfl (by decide) rfl dX11_bench_21 ?_
    refine Wp.iload_n (pc := 22) 2 rfl rfl dX11_bench_22 ?_
    by_cases hc6 : x2 = (0 : Int32)
    · rw [if_pos hc6] at hf
      refine Wp.swIn (pc := 23) 52 dX11_bench_23 hc6 (by decide) (by decide) rfl (by decide) ?_
      refine Wp.iload_n (pc := 52) 3 rfl rfl dX11_bench_52 ?_
      cases hf
      exact hk _ _ dX11_bench_53
    · rw [if_neg hc6] at hf
      by_cases hc7 : x2 = (1 : Int32)
      · rw [if_pos hc7] at hf
        refine Wp.swIn (pc := 23) 54 dX11_bench_23 hc7 (by decide) (by decide) rfl (by decide) ?_
        refine Wp.aload_n (pc := 54) 0 rfl rfl dX11_bench_54 ?_
        refine Wp.getR2 (pc := 55) (hG.r 0 6 rfl) (hG.t 0 rfl) fk_RX11_44 rfl dX11_bench_55 ?_
        refine Wp.getR2 (pc := 58) (hG.wr cw28 1 (Or.inl rfl)) (hG.wt cw28) fk_RX11_133 rfl dX11_bench_58 ?_
        refine Wp.iload_n (pc := 61) 1 rfl rfl dX11_bench_61 ?_
        obtain ⟨v8, h9, hf⟩ := bnd hf
        refine Wp.iald2 (pc := 62) h9 (hG.wa cw28 1 (Or.inl rfl)) dX11_bench_62 ?_
        cases hf
        exact hk _ _ dX11_bench_63
      · rw [if_neg hc7] at hf
        by_cases hc10 : x2 = (2 : Int32)
        · rw [if_pos hc10] at hf
          refine Wp.swIn (pc := 23) 64 dX11_bench_23 hc10 (by decide) (by decide) rfl (by decide) ?_
          refine Wp.aload_n (pc := 64) 0 rfl rfl dX11_bench_64 ?_
          refine Wp.getR2 (pc := 65) (hG.r 0 6 rfl) (hG.t 0 rfl) fk_RX11_44 rfl dX11_bench_65 ?_
          refine Wp.getR2 (pc := 68) (hG.wr cw28 2 (Or.inr rfl)) (hG.wt cw28) fk_RX11_137 rfl dX11_bench_68 ?_
          refine Wp.iload_n (pc := 71) 1 rfl rfl dX11_bench_71 ?_
          obtain ⟨v11, h12, hf⟩ := bnd hf
          refine Wp.iald2 (pc := 72) h12 (hG.wa cw28 2 (Or.inr rfl)) dX11_bench_72 ?_
          cases hf
          exact hk _ _ dX11_bench_73
        · rw [if_neg hc10] at hf
          by_cases hc13 : x2 = (3 : Int32)
          · rw [if_pos hc13] at hf
            refine Wp.swIn (pc := 23) 74 dX11_bench_23 hc13 (by decide) (by decide) rfl (by decide) ?_
            refine Wp.aload_n (pc := 74) 0 rfl rfl dX11_bench_74 ?_
            refine Wp.getR2 (pc := 75) (hG.r 0 5 rfl) (hG.t 0 rfl) fk_RX11_37 rfl dX11_bench_75 ?_
            refine Wp.iload_n (pc := 78) 1 rfl rfl dX11_bench_78 ?_
            refine Wp.iload_n (pc := 79) 3 rfl rfl dX11_bench_79 ?_
            refine Wp.aload_n (pc := 80) 0 rfl rfl dX11_bench_80 ?_
            refine Wp.getR2 (pc := 81) (hG.r 0 6 rfl) (hG.t 0 rfl) fk_RX11_44 rfl dX11_bench_81 ?_
            refine Wp.getI2 (pc := 84) (hG.wt cw28) fk_RX11_140 rfl dX11_bench_84 ?_
            refine Wp.aload_n (pc := 87) 0 rfl rfl dX11_bench_87 ?_
            refine Wp.getR2 (pc := 88) hG.r0 (hG.t 0 rfl) fk_RX11_16 rfl dX11_bench_88 ?_
            refine Wp.aload_n (pc := 91) 0 rfl rfl dX11_bench_91 ?_
            refine Wp.getR2 (pc := 92) (hG.r 0 6 rfl) (hG.t 0 rfl) fk_RX11_44 rfl dX11_bench_92 ?_
            refine Wp.getI2 (pc := 95) (hG.wt cw28) fk_RX11_143 rfl dX11_bench_95 ?_
            obtain ⟨c14, h15, hf⟩ := bnd hf
            refine Wp.callVi (pc := 98) (st := [.int (hI c4.2 28 3), .int c4.1, .int x1, .ref 23]) (as := [.int (hI c4.2 28 4)]) (c_X7_isFog hG hG.hc h15) ml_RX11_146 mv_X7_isFog mb_X7_isFog hX (Nat.le_of_ble_eq_true rfl) (by decide) rfl (hG.tt hG.hc) rfl (by simp [Value.category]) dX11_bench_98 rfl ?_
            obtain ⟨c16, h17, hf⟩ := bnd hf
            refine Wp.callVi (pc := 101) (st := []) (as := [.int x1, .int c4.1, .int (hI c4.2 28 3), .int c14.1]) (c_X5_heard hG h17) ml_RX11_149 mv_X5_heard mb_X5_heard hX (Nat.le_of_ble_eq_true rfl) (by decide) rfl (hG.t 23 rfl) rfl (by simp) dX11_bench_101 rfl ?_
            cases hf
            exact hk _ _ dX11_bench_104
          · rw [if_neg hc13] at hf
            refine Wp.swOut (pc := 23) 105 dX11_bench_23 (swx (fun k h1 h2 => ?_)) (by decide) ?_
            · have z0 := lv_neT hc6 (a := 0) (by decide); have z1 := lv_neT hc7 (a := 1) (by decide); have z2 := lv_neT hc10 (a := 2) (by decide); have z3 := lv_neT hc13 (a := 3) (by decide); omega
            · skip
              refine Wp.iconst (pc := 105) (-1 : Int32) (by decide) dX11_bench_105 ?_
              cases hf
              exact hk _ _ dX11_bench_106
  · rw [if_pos hc3] at hf
    refine Wp.iconst (pc := 8) (-1 : Int32) (by decide) dX11_bench_8 ?_
    cases hf
    exact hk _ _ dX11_bench_9
theorem c_X11_bench {T : List Dsc} {R : RM} {c e : Nat} {x1 : Int32} {x2 : Int32} {m : M2} {r : (Int32 × M2)} (hG : Geo T R c e) (hf : F_X11_bench c x1 x2 m = some r) : Ct 2 yX11_bench cX11_bench 4 (some .int) T (mk m R) [.ref 0, .int x1, .int x2] (some (.int r.1)) (mk r.2 R) := Ct.ofI (r := (r.1, mk r.2 R)) (by decide +kernel) (Nat.le_of_ble_eq_true rfl) (fun X hX hk => w_X11_bench hX hG hf hk)
theorem dX11_row_0 : decode cX11_row 0 = .ok (.iload_n 1, 1) := by decide +kernel
theorem dX11_row_1 : decode cX11_row 1 = .ok (.ifCond .lt 9, 3) := by decide +kernel
theorem dX11_row_4 : decode cX11_row 4 = .ok (.iload_n 1, 1) := by decide +kernel
theorem dX11_row_5 : decode cX11_row 5 = .ok (.bipush 100, 2) := by decide +kernel
theorem dX11_row_7 : decode cX11_row 7 = .ok (.if_icmp .le 5, 3) := by decide +kernel
theorem dX11_row_10 : decode cX11_row 10 = .ok (.iconst (-1), 1) := by decide +kernel
theorem dX11_row_11 : decode cX11_row 11 = .ok (.ireturn, 1) := by decide +kernel
theorem dX11_row_12 : decode cX11_row 12 = .ok (.iconst 0, 1) := by decide +kernel
theorem dX11_row_13 : decode cX11_row 13 = .ok (.istore_n 2, 1) := by decide +kernel
theorem dX11_row_14 : decode cX11_row 14 = .ok (.iload_n 2, 1) := by decide +kernel
theorem dX11_row_15 : decode cX11_row 15 = .ok (.iload_n 1, 1) := by decide +kernel
theorem dX11_row_16 : decode cX11_row 16 = .ok (.if_icmp .ge 85, 3) := by decide +kernel
theorem dX11_row_19 : decode cX11_row 19 = .ok (.aload_n 0, 1) := by decide +kernel
theorem dX11_row_20 : decode cX11_row 20 = .ok (.getfield 55, 3) := by decide +kernel
theorem dX11_row_23 : decode cX11_row 23 = .ok (.aload_n 0, 1) := by decide +kernel
theorem dX11_row_24 : decode cX11_row 24 = .ok (.getfield 44, 3) := by decide +kernel
theorem dX11_row_27 : decode cX11_row 27 = .ok (.getfield 125, 3) := by decide +kernel
theorem dX11_row_30 : decode cX11_row 30 = .ok (.invokevirtual 155, 3) := by decide +kernel
theorem dX11_row_33 : decode cX11_row 33 = .ok (.aload_n 0, 1) := by decide +kernel
theorem dX11_row_34 : decode cX11_row 34 = .ok (.getfield 44, 3) := by decide +kernel
theorem dX11_row_37 : decode cX11_row 37 = .ok (.aload_n 0, 1) := by decide +kernel
theorem dX11_row_38 : decode cX11_row 38 = .ok (.getfield 37, 3) := by decide +kernel
theorem dX11_row_41 : decode cX11_row 41 = .ok (.aload_n 0, 1) := by decide +kernel
theorem dX11_row_42 : decode cX11_row 42 = .ok (.getfield 44, 3) := by decide +kernel
theorem dX11_row_45 : decode cX11_row 45 = .ok (.getfield 125, 3) := by decide +kernel
theorem dX11_row_48 : decode cX11_row 48 = .ok (.aload_n 0, 1) := by decide +kernel
theorem dX11_row_49 : decode cX11_row 49 = .ok (.getfield 44, 3) := by decide +kernel
theorem dX11_row_52 : decode cX11_row 52 = .ok (.getfield 137, 3) := by decide +kernel
theorem dX11_row_55 : decode cX11_row 55 = .ok (.aload_n 0, 1) := by decide +kernel
theorem dX11_row_56 : decode cX11_row 56 = .ok (.getfield 44, 3) := by decide +kernel
theorem dX11_row_59 : decode cX11_row 59 = .ok (.getfield 140, 3) := by decide +kernel
theorem dX11_row_62 : decode cX11_row 62 = .ok (.aload_n 0, 1) := by decide +kernel
theorem dX11_row_63 : decode cX11_row 63 = .ok (.getfield 16, 3) := by decide +kernel
theorem dX11_row_66 : decode cX11_row 66 = .ok (.aload_n 0, 1) := by decide +kernel
theorem dX11_row_67 : decode cX11_row 67 = .ok (.getfield 44, 3) := by decide +kernel
theorem dX11_row_70 : decode cX11_row 70 = .ok (.getfield 143, 3) := by decide +kernel
theorem dX11_row_73 : decode cX11_row 73 = .ok (.invokevirtual 146, 3) := by decide +kernel
theorem dX11_row_76 : decode cX11_row 76 = .ok (.invokevirtual 159, 3) := by decide +kernel
theorem dX11_row_79 : decode cX11_row 79 = .ok (.putfield 125, 3) := by decide +kernel
theorem dX11_row_82 : decode cX11_row 82 = .ok (.aload_n 0, 1) := by decide +kernel
theorem dX11_row_83 : decode cX11_row 83 = .ok (.getfield 44, 3) := by decide +kernel
theorem dX11_row_86 : decode cX11_row 86 = .ok (.dup, 1) := by decide +kernel
theorem dX11_row_87 : decode cX11_row 87 = .ok (.getfield 143, 3) := by decide +kernel
theorem dX11_row_90 : decode cX11_row 90 = .ok (.iconst 1, 1) := by decide +kernel
theorem dX11_row_91 : decode cX11_row 91 = .ok (.iadd, 1) := by decide +kernel
theorem dX11_row_92 : decode cX11_row 92 = .ok (.putfield 143, 3) := by decide +kernel
theorem dX11_row_95 : decode cX11_row 95 = .ok (.iinc 2 1, 3) := by decide +kernel
theorem dX11_row_98 : decode cX11_row 98 = .ok (.goto (-84), 3) := by decide +kernel
theorem dX11_row_101 : decode cX11_row 101 = .ok (.aload_n 0, 1) := by decide +kernel
theorem dX11_row_102 : decode cX11_row 102 = .ok (.getfield 44, 3) := by decide +kernel
theorem dX11_row_105 : decode cX11_row 105 = .ok (.getfield 143, 3) := by decide +kernel
theorem dX11_row_108 : decode cX11_row 108 = .ok (.ireturn, 1) := by decide +kernel
def k_X11_row_14 (X : CX) (T : List Dsc) (R : RM) (n1 n2 : Nat) (x1 : Int32) (r : ((Int32 × M2) ⊕ ((M2)))) : Prop := match r with
  | .inl s => Wp X cX11_row RX11 3 T (mk s.2 R) n1 n2 14 [(0, .ref 0), (1, .int x1), (2, .int s.1)] []
  | .inr e => Wp X cX11_row RX11 3 T (mk e R) n1 n2 101 [(0, .ref 0)] []
set_option maxHeartbeats 4000000 in
set_option maxRecDepth 100000 in
theorem w_X11_row_10 {X : CX} {T : List Dsc} {R : RM} {c e : Nat} {n1 n2 : Nat} {m : M2} {r : (Int32 × M2)} (hX : XR X 6 n1 n2) (hG : Geo T R c e) (hf : f_X11_row_10 c m = some r) (hk : FnI X cX11_row RX11 3 T n1 n2 (r.1, mk r.2 R)) : Wp X cX11_row RX11 3 T (mk m R) n1 n2 10 [] [] := by
  unfold f_X11_row_10 at hf
  refine Wp.iconst (pc := 10) (-1 : Int32) (by decide) dX11_row_10 ?_
  cases hf
  exact hk _ _ dX11_row_11
set_option maxHeartbeats 4000000 in
set_option maxRecDepth 100000 in
theorem w_X11_row_14 {X : CX} {T : List Dsc} {R : RM} {c e : Nat} {n1 n2 : Nat} {x1 : Int32} {x2 : Int32} {m : M2} {r : ((Int32 × M2) ⊕ ((M2)))} (hX : XR X 6 n1 n2) (hG : Geo T R c e) (hf : f_X11_row_14 c x1 x2 m = some r) (hk : k_X11_row_14 X T R n1 n2 x1 r) : Wp X cX11_row RX11 3 T (mk m R) n1 n2 14 [(0, .ref 0), (1, .int x1), (2, .int x2)] [] := by
  unfold f_X11_row_14 at hf
  refine Wp.iload_n (pc := 14) 2 rfl rfl dX11_row_14 ?_
  refine Wp.iload_n (pc := 15) 1 rfl rfl dX11_row_15 ?_
  refine Wp.icmp_ge (pc := 16) 101 dX11_row_16 (by decide) (fun hc1 => ?_) (fun hc1 => ?_)
  · rw [if_pos hc1] at hf
    refine Wp.lo' (lo' := [(0, .ref 0)]) [0] rfl ?_
    cases hf
    exact hk
  · rw [if_neg hc1] at hf
    refine Wp.aload_n (pc := 19) 0 rfl rfl dX11_row_19 ?_
    refine Wp.getR2 (pc := 20) (hG.r 0 8 rfl) (hG.t 0 rfl) fk_RX11_55 rfl dX11_row_20 ?_
    refine Wp.aload_n (pc := 23) 0 rfl rfl dX11_row_23 ?_
    refine Wp.getR2 (pc := 24) (hG.r 0 6 rfl) (hG.t 0 rfl) fk_RX11_44 rfl dX11_row_24 ?_
    refine Wp.getJ2 (pc := 27) (hG.wt cw28) fk_RX11_125 rfl dX11_row_27 ?_
    obtain ⟨c2, h3, hf⟩ := bnd hf
    refine Wp.callVv (pc := 30) (st := []) (as := [.long (hJ m 28 0)]) (c_X3_keep hG h3) ml_RX11_155 mv_X3_keep mb_X3_keep hX (Nat.le_of_ble_eq_true rfl) (by decide) rfl (hG.t 32 rfl) rfl (by simp) dX11_row_30 rfl ?_
    refine Wp.aload_n (pc := 33) 0 rfl rfl dX11_row_33 ?_
    refine Wp.getR2 (pc := 34) (hG.r 0 6 rfl) (hG.t 0 rfl) fk_RX11_44 rfl dX11_row_34 ?_
    refine Wp.aload_n (pc := 37) 0 rfl rfl dX11_row_37 ?_
    refine Wp.getR2 (pc := 38) (hG.r 0 5 rfl) (hG.t 0 rfl) fk_RX11_37 rfl dX11_row_38 ?_
    refine Wp.aload_n (pc := 41) 0 rfl rfl dX11_row_41 ?_
    refine Wp.getR2 (pc := 42) (hG.r 0 6 rfl) (hG.t 0 rfl) fk_RX11_44 rfl dX11_row_42 ?_
    refine Wp.getJ2 (pc := 45) (hG.wt cw28) fk_RX11_125 rfl dX11_row_45 ?_
    refine Wp.aload_n (pc := 48) 0 rfl rfl dX11_row_48 ?_
    refine Wp.getR2 (pc := 49) (hG.r 0 6 rfl) (hG.t 0 rfl) fk_RX11_44 rfl dX11_row_49 ?_
    refine Wp.getR2 (pc := 52) (hG.wr cw28 2 (Or.inr rfl)) (hG.wt cw28) fk_RX11_137 rfl dX11_row_52 ?_
    refine Wp.aload_n (pc := 55) 0 rfl rfl dX11_row_55 ?_
    refine Wp.getR2 (pc := 56) (hG.r 0 6 rfl) (hG.t 0 rfl) fk_RX11_44 rfl dX11_row_56 ?_
    refine Wp.getI2 (pc := 59) (hG.wt cw28) fk_RX11_140 rfl dX11_row_59 ?_
    refine Wp.aload_n (pc := 62) 0 rfl rfl dX11_row_62 ?_
    refine Wp.getR2 (pc := 63) hG.r0 (hG.t 0 rfl) fk_RX11_16 rfl dX11_row_63 ?_
    refine Wp.aload_n (pc := 66) 0 rfl rfl dX11_row_66 ?_
    refine Wp.getR2 (pc := 67) (hG.r 0 6 rfl) (hG.t 0 rfl) fk_RX11_44 rfl dX11_row_67 ?_
    refine Wp.getI2 (pc := 70) (hG.wt cw28) fk_RX11_143 rfl dX11_row_70 ?_
    obtain ⟨c4, h5, hf⟩ := bnd hf
    refine Wp.callVi (pc := 73) (st := [.int (hI c2 28 3), .ref (28 + 2), .long (hJ c2 28 0), .ref 23, .ref 28]) (as := [.int (hI c2 28 4)]) (c_X7_isFog hG hG.hc h5) ml_RX11_146 mv_X7_isFog mb_X7_isFog hX (Nat.le_of_ble_eq_true rfl) (by decide) rfl (hG.tt hG.hc) rfl (by simp [Value.category]) dX11_row_73 rfl ?_
    obtain ⟨c6, h7, hf⟩ := bnd hf
    refine Wp.callVl (pc := 76) (st := [.ref 28]) (as := [.long (hJ c2 28 0), .ref (28 + 2), .int (hI c2 28 3), .int c4.1]) (c_X5_stroke hG (hG.wa cw28 2 (Or.inr rfl)) h7) ml_RX11_159 mv_X5_stroke mb_X5_stroke hX (Nat.le_of_ble_eq_true rfl) (by decide) rfl (hG.t 23 rfl) rfl (by simp [Value.category]) dX11_row_76 rfl ?_
    obtain ⟨m8, h9, hf⟩ := bnd hf
    refine Wp.ptJ2 (pc := 79) h9 (hG.wt cw28) fk_RX11_125 ff_RX11_1_0 rfl dX11_row_79 ?_
    refine Wp.aload_n (pc := 82) 0 rfl rfl dX11_row_82 ?_
    refine Wp.getR2 (pc := 83) (hG.r 0 6 rfl) (hG.t 0 rfl) fk_RX11_44 rfl dX11_row_83 ?_
    refine Wp.dup (pc := 86) rfl dX11_row_86 ?_
    refine Wp.getI2 (pc := 87) (hG.wt cw28) fk_RX11_143 rfl dX11_row_87 ?_
    refine Wp.iconst (pc := 90) (1 : Int32) (by decide) dX11_row_90 ?_
    refine Wp.iadd (pc := 91) dX11_row_91 ?_
    obtain ⟨m10, h11, hf⟩ := bnd hf
    refine Wp.ptI2 (pc := 92) h11 (hG.wt cw28) fk_RX11_143 ff_RX11_1_4 rfl dX11_row_92 ?_
    obtain ⟨v12, h13, hf⟩ := bnd hf
    refine Wp.iincN (pc := 95) (lo' := [(0, .ref 0), (1, .int x1), (2, .int v12)]) (1 : Int32) (by decide) h13 2 rfl [1, 2, 0] rfl (by decide) dX11_row_95 ?_
    refine Wp.goto (pc := 98) 14 dX11_row_98 (by decide) ?_
    cases hf
    exact hk
theorem wl_X11_row_14 {X : CX} {T : List Dsc} {R : RM} {c e : Nat} {n1 n2 : Nat} {x1 : Int32} {x2 : Int32} {m : M2} {e1 : ((M2))} (hX : XR X 6 n1 n2) (hG : Geo T R c e) (h : loop (g_X11_row_14 c x1) (x2, m) = some e1) (he : Wp X cX11_row RX11 3 T (mk e1 R) n1 n2 101 [(0, .ref 0)] []) : Wp X cX11_row RX11 3 T (mk m R) n1 n2 14 [(0, .ref 0), (1, .int x1), (2, .int x2)] [] :=
  loop_ok (K := k_X11_row_14 X T R n1 n2 x1) (fun s r hf hk => w_X11_row_14 hX hG hf hk) h he
set_option maxHeartbeats 4000000 in
set_option maxRecDepth 100000 in
theorem w_X11_row {X : CX} {T : List Dsc} {R : RM} {c e : Nat} {n1 n2 : Nat} {x1 : Int32} {m : M2} {r : (Int32 × M2)} (hX : XR X 6 n1 n2) (hG : Geo T R c e) (hf : F_X11_row c x1 m = some r) (hk : FnI X cX11_row RX11 3 T n1 n2 (r.1, mk r.2 R)) : Wp X cX11_row RX11 3 T (mk m R) n1 n2 0 [(0, .ref 0), (1, .int x1)] [] := by
  unfold F_X11_row at hf
  refine Wp.iload_n (pc := 0) 1 rfl rfl dX11_row_0 ?_
  refine Wp.if_lt (pc := 1) 10 dX11_row_1 (by decide) (fun hc1 => ?_) (fun hc1 => ?_)
  · rw [if_pos hc1] at hf
    refine Wp.lo' (lo' := []) [] rfl ?_
    exact w_X11_row_10 hX hG hf hk
  · rw [if_neg hc1] at hf
    refine Wp.iload_n (pc := 4) 1 rfl rfl dX11_row_4 ?_
    refine Wp.bipush (pc := 5) (100 : Int32) (by decide) dX11_row_5 ?_
    refine Wp.icmp_le (pc := 7) 12 dX11_row_7 (by decide) (fun hc2 => ?_) (fun hc2 => ?_)
    · rw [if_pos hc2] at hf
      refine Wp.iconst (pc := 12) (0 : Int32) (by decide) dX11_row_12 ?_
      refine Wp.istore_n (pc := 13) (lo' := [(0, .ref 0), (1, .int x1), (2, .int (0 : Int32))]) [1, 2, 0] rfl (by decide) rfl dX11_row_13 ?_
      obtain ⟨e3, h4, hf⟩ := bnd hf
      refine wl_X11_row_14 hX hG h4 ?_
      refine Wp.aload_n (pc := 101) 0 rfl rfl dX11_row_101 ?_
      refine Wp.getR2 (pc := 102) (hG.r 0 6 rfl) (hG.t 0 rfl) fk_RX11_44 rfl dX11_row_102 ?_
      refine Wp.getI2 (pc := 105) (hG.wt cw28) fk_RX11_143 rfl dX11_row_105 ?_
      cases hf
      exact hk _ _ dX11_row_108
    · rw [if_neg hc2] at hf
      refine Wp.lo' (lo' := []) [] rfl ?_
      exact w_X11_row_10 hX hG hf hk
theorem c_X11_row {T : List Dsc} {R : RM} {c e : Nat} {x1 : Int32} {m : M2} {r : (Int32 × M2)} (hG : Geo T R c e) (hf : F_X11_row c x1 m = some r) : Ct 6 yX11_row cX11_row 3 (some .int) T (mk m R) [.ref 0, .int x1] (some (.int r.1)) (mk r.2 R) := Ct.ofI (r := (r.1, mk r.2 R)) (by decide +kernel) (Nat.le_of_ble_eq_true rfl) (fun X hX hk => w_X11_row hX hG hf hk)
theorem dX11_undo_0 : decode cX11_undo 0 = .ok (.aload_n 0, 1) := by decide +kernel
theorem dX11_undo_1 : decode cX11_undo 1 = .ok (.getfield 55, 3) := by decide +kernel
theorem dX11_undo_4 : decode cX11_undo 4 = .ok (.getfield 162, 3) := by decide +kernel
theorem dX11_undo_7 : decode cX11_undo 7 = .ok (.ifCond .ne 5, 3) := by decide +kernel
theorem dX11_undo_10 : decode cX11_undo 10 = .ok (.iconst 0, 1) := by decide +kernel
theorem dX11_undo_11 : decode cX11_undo 11 = .ok (.ireturn, 1) := by decide +kernel
theorem dX11_undo_12 : decode cX11_undo 12 = .ok (.aload_n 0, 1) := by decide +kernel
theorem dX11_undo_13 : decode cX11_undo 13 = .ok (.getfield 44, 3) := by decide +kernel
theorem dX11_undo_16 : decode cX11_undo 16 = .ok (.aload_n 0, 1) := by decide +kernel
theorem dX11_undo_17 : decode cX11_undo 17 = .ok (.getfield 55, 3) := by decide +kernel
theorem dX11_undo_20 : decode cX11_undo 20 = .ok (.invokevirtual 165, 3) := by decide +kernel
theorem dX11_undo_23 : decode cX11_undo 23 = .ok (.putfield 125, 3) := by decide +kernel
theorem dX11_undo_26 : decode cX11_undo 26 = .ok (.aload_n 0, 1) := by decide +kernel
theorem dX11_undo_27 : decode cX11_undo 27 = .ok (.getfield 44, 3) := by decide +kernel
theorem dX11_undo_30 : decode cX11_undo 30 = .ok (.dup, 1) := by decide +kernel
theorem dX11_undo_31 : decode cX11_undo 31 = .ok (.getfield 143, 3) := by decide +kernel
theorem dX11_undo_34 : decode cX11_undo 34 = .ok (.iconst 1, 1) := by decide +kernel
theorem dX11_undo_35 : decode cX11_undo 35 = .ok (.isub, 1) := by decide +kernel
theorem dX11_undo_36 : decode cX11_undo 36 = .ok (.putfield 143, 3) := by decide +kernel
theorem dX11_undo_39 : decode cX11_undo 39 = .ok (.iconst 1, 1) := by decide +kernel
theorem dX11_undo_40 : decode cX11_undo 40 = .ok (.ireturn, 1) := by decide +kernel
set_option maxHeartbeats 4000000 in
set_option maxRecDepth 100000 in
theorem w_X11_undo {X : CX} {T : List Dsc} {R : RM} {c e : Nat} {n1 n2 : Nat} {m : M2} {r : (Int32 × M2)} (hX : XR X 2 n1 n2) (hG : Geo T R c e) (hf : F_X11_undo c m = some r) (hk : FnZ X cX11_undo RX11 1 T n1 n2 (r.1, mk r.2 R)) : Wp X cX11_undo RX11 1 T (mk m R) n1 n2 0 [(0, .ref 0)] [] := by
  unfold F_X11_undo at hf
  refine Wp.aload_n (pc := 0) 0 rfl rfl dX11_undo_0 ?_
  refine Wp.getR2 (pc := 1) (hG.r 0 8 rfl) (hG.t 0 rfl) fk_RX11_55 rfl dX11_undo_1 ?_
  refine Wp.getI2 (pc := 4) (hG.t 32 rfl) fk_RX11_162 rfl dX11_undo_4 ?_
  refine Wp.if_ne (pc := 7) 12 dX11_undo_7 (by decide) (fun hc1 => ?_) (fun hc1 => ?_)
  · rw [if_neg hc1] at hf
    refine Wp.aload_n (pc := 12) 0 rfl rfl dX11_undo_12 ?_
    refine Wp.getR2 (pc := 13) (hG.r 0 6 rfl) (hG.t 0 rfl) fk_RX11_44 rfl dX11_undo_13 ?_
    refine Wp.aload_n (pc := 16) 0 rfl rfl dX11_undo_16 ?_
    refine Wp.getR2 (pc := 17) (hG.r 0 8 rfl) (hG.t 0 rfl) fk_RX11_55 rfl dX11_undo_17 ?_
    obtain ⟨c2, h3, hf⟩ := bnd hf
    refine Wp.callVl (pc := 20) (st := [.ref 28]) (as := []) (c_X3_takeLast hG h3) ml_RX11_165 mv_X3_takeLast mb_X3_takeLast hX (Nat.le_of_ble_eq_true rfl) (by decide) rfl (hG.t 32 rfl) rfl (by simp [Value.category]) dX11_undo_20 rfl ?_
    obtain ⟨m4, h5, hf⟩ := bnd hf
    refine Wp.ptJ2 (pc := 23) h5 (hG.wt cw28) fk_RX11_125 ff_RX11_1_0 rfl dX11_undo_23 ?_
    refine Wp.aload_n (pc := 26) 0 rfl rfl dX11_undo_26 ?_
    refine Wp.getR2 (pc := 27) (hG.r 0 6 rfl) (hG.t 0 rfl) fk_RX11_44 rfl dX11_undo_27 ?_
    refine Wp.dup (pc := 30) rfl dX11_undo_30 ?_
    refine Wp.getI2 (pc := 31) (hG.wt cw28) fk_RX11_143 rfl dX11_undo_31 ?_
    refine Wp.iconst (pc := 34) (1 : Int32) (by decide) dX11_undo_34 ?_
    refine Wp.isub (pc := 35) dX11_undo_35 ?_
    obtain ⟨m6, h7, hf⟩ := bnd hf
    refine Wp.ptI2 (pc := 36) h7 (hG.wt cw28) fk_RX11_143 ff_RX11_1_4 rfl dX11_undo_36 ?_
    refine Wp.iconst (pc := 39) (1 : Int32) (by decide) dX11_undo_39 ?_
    cases hf
    exact hk _ _ (Or.inr rfl) dX11_undo_40
  · rw [if_pos hc1] at hf
    refine Wp.iconst (pc := 10) (0 : Int32) (by decide) dX11_undo_10 ?_
    cases hf
    exact hk _ _ (Or.inl rfl) dX11_undo_11
theorem c_X11_undo {T : List Dsc} {R : RM} {c e : Nat} {m : M2} {r : (Int32 × M2)} (hG : Geo T R c e) (hf : F_X11_undo c m = some r) : Ct 2 yX11_undo cX11_undo 1 (some .boolean) T (mk m R) [.ref 0] (some (.int r.1)) (mk r.2 R) := Ct.ofZ (r := (r.1, mk r.2 R)) (by decide +kernel) (Nat.le_of_ble_eq_true rfl) (fun X hX hk => w_X11_undo hX hG hf hk)
theorem dX11_clashes_0 : decode cX11_clashes 0 = .ok (.aload_n 0, 1) := by decide +kernel
theorem dX11_clashes_1 : decode cX11_clashes 1 = .ok (.getfield 37, 3) := by decide +kernel
theorem dX11_clashes_4 : decode cX11_clashes 4 = .ok (.aload_n 0, 1) := by decide +kernel
theorem dX11_clashes_5 : decode cX11_clashes 5 = .ok (.getfield 44, 3) := by decide +kernel
theorem dX11_clashes_8 : decode cX11_clashes 8 = .ok (.getfield 125, 3) := by decide +kernel
theorem dX11_clashes_11 : decode cX11_clashes 11 = .ok (.invokevirtual 169, 3) := by decide +kernel
theorem dX11_clashes_14 : decode cX11_clashes 14 = .ok (.ireturn, 1) := by decide +kernel
set_option maxHeartbeats 4000000 in
set_option maxRecDepth 100000 in
theorem w_X11_clashes {X : CX} {T : List Dsc} {R : RM} {c e : Nat} {n1 n2 : Nat} {m : M2} {r : (Int32 × M2)} (hX : XR X 4 n1 n2) (hG : Geo T R c e) (hf : F_X11_clashes c m = some r) (hk : FnI X cX11_clashes RX11 1 T n1 n2 (r.1, mk r.2 R)) : Wp X cX11_clashes RX11 1 T (mk m R) n1 n2 0 [(0, .ref 0)] [] := by
  unfold F_X11_clashes at hf
  refine Wp.aload_n (pc := 0) 0 rfl rfl dX11_clashes_0 ?_
  refine Wp.getR2 (pc := 1) (hG.r 0 5 rfl) (hG.t 0 rfl) fk_RX11_37 rfl dX11_clashes_1 ?_
  refine Wp.aload_n (pc := 4) 0 rfl rfl dX11_clashes_4 ?_
  refine Wp.getR2 (pc := 5) (hG.r 0 6 rfl) (hG.t 0 rfl) fk_RX11_44 rfl dX11_clashes_5 ?_
  refine Wp.getJ2 (pc := 8) (hG.wt cw28) fk_RX11_125 rfl dX11_clashes_8 ?_
  obtain ⟨c1, h2, hf⟩ := bnd hf
  refine Wp.callVi (pc := 11) (st := []) (as := [.long (hJ m 28 0)]) (c_X5_clashBits hG h2) ml_RX11_169 mv_X5_clashBits mb_X5_clashBits hX (Nat.le_of_ble_eq_true rfl) (by decide) rfl (hG.t 23 rfl) rfl (by simp) dX11_clashes_11 rfl ?_
  cases hf
  exact hk _ _ dX11_clashes_14
theorem c_X11_clashes {T : List Dsc} {R : RM} {c e : Nat} {m : M2} {r : (Int32 × M2)} (hG : Geo T R c e) (hf : F_X11_clashes c m = some r) : Ct 4 yX11_clashes cX11_clashes 1 (some .int) T (mk m R) [.ref 0] (some (.int r.1)) (mk r.2 R) := Ct.ofI (r := (r.1, mk r.2 R)) (by decide +kernel) (Nat.le_of_ble_eq_true rfl) (fun X hX hk => w_X11_clashes hX hG hf hk)
theorem dX11_way_0 : decode cX11_way 0 = .ok (.iload_n 1, 1) := by decide +kernel
theorem dX11_way_1 : decode cX11_way 1 = .ok (.ifCond .lt 18, 3) := by decide +kernel
theorem dX11_way_4 : decode cX11_way 4 = .ok (.iload_n 1, 1) := by decide +kernel
theorem dX11_way_5 : decode cX11_way 5 = .ok (.iconst 1, 1) := by decide +kernel
theorem dX11_way_6 : decode cX11_way 6 = .ok (.if_icmp .gt 13, 3) := by decide +kernel
theorem dX11_way_9 : decode cX11_way 9 = .ok (.aload_n 0, 1) := by decide +kernel
theorem dX11_way_10 : decode cX11_way 10 = .ok (.getfield 16, 3) := by decide +kernel
theorem dX11_way_13 : decode cX11_way 13 = .ok (.getfield 153, 3) := by decide +kernel
theorem dX11_way_16 : decode cX11_way 16 = .ok (.ifCond .ne 5, 3) := by decide +kernel
theorem dX11_way_19 : decode cX11_way 19 = .ok (.iconst (-1), 1) := by decide +kernel
theorem dX11_way_20 : decode cX11_way 20 = .ok (.ireturn, 1) := by decide +kernel
theorem dX11_way_21 : decode cX11_way 21 = .ok (.aload_n 0, 1) := by decide +kernel
theorem dX11_way_22 : decode cX11_way 22 = .ok (.getfield 37, 3) := by decide +kernel
theorem dX11_way_25 : decode cX11_way 25 = .ok (.aload_n 0, 1) := by decide +kernel
theorem dX11_way_26 : decode cX11_way 26 = .ok (.getfield 44, 3) := by decide +kernel
theorem dX11_way_29 : decode cX11_way 29 = .ok (.getfield 125, 3) := by decide +kernel
theorem dX11_way_32 : decode cX11_way 32 = .ok (.invokevirtual 173, 3) := by decide +kernel
theorem dX11_way_35 : decode cX11_way 35 = .ok (.istore_n 2, 1) := by decide +kernel
theorem dX11_way_36 : decode cX11_way 36 = .ok (.iload_n 1, 1) := by decide +kernel
theorem dX11_way_37 : decode cX11_way 37 = .ok (.ifCond .ne 14, 3) := by decide +kernel
theorem dX11_way_40 : decode cX11_way 40 = .ok (.aload_n 0, 1) := by decide +kernel
theorem dX11_way_41 : decode cX11_way 41 = .ok (.getfield 37, 3) := by decide +kernel
theorem dX11_way_44 : decode cX11_way 44 = .ok (.iload_n 2, 1) := by decide +kernel
theorem dX11_way_45 : decode cX11_way 45 = .ok (.invokevirtual 176, 3) := by decide +kernel
theorem dX11_way_48 : decode cX11_way 48 = .ok (.goto 4, 3) := by decide +kernel
theorem dX11_way_51 : decode cX11_way 51 = .ok (.iload_n 2, 1) := by decide +kernel
theorem dX11_way_52 : decode cX11_way 52 = .ok (.ireturn, 1) := by decide +kernel
set_option maxHeartbeats 4000000 in
set_option maxRecDepth 100000 in
theorem w_X11_way_19 {X : CX} {T : List Dsc} {R : RM} {c e : Nat} {n1 n2 : Nat} {m : M2} {r : (Int32 × M2)} (hX : XR X 3 n1 n2) (hG : Geo T R c e) (hf : f_X11_way_19 c m = some r) (hk : FnI X cX11_way RX11 3 T n1 n2 (r.1, mk r.2 R)) : Wp X cX11_way RX11 3 T (mk m R) n1 n2 19 [] [] := by
  unfold f_X11_way_19 at hf
  refine Wp.iconst (pc := 19) (-1 : Int32) (by decide) dX11_way_19 ?_
  cases hf
  exact hk _ _ dX11_way_20
set_option maxHeartbeats 4000000 in
set_option maxRecDepth 100000 in
theorem w_X11_way_52 {X : CX} {T : List Dsc} {R : RM} {c e : Nat} {n1 n2 : Nat} {s0 : Int32} {m : M2} {r : (Int32 × M2)} (hX : XR X 3 n1 n2) (hG : Geo T R c e) (hf : f_X11_way_52 c s0 m = some r) (hk : FnI X cX11_way RX11 3 T n1 n2 (r.1, mk r.2 R)) : Wp X cX11_way RX11 3 T (mk m R) n1 n2 52 [] [.int s0] := by
  unfold f_X11_way_52 at hf
  cases hf
  exact hk _ _ dX11_way_52
set_option maxHeartbeats 4000000 in
set_option maxRecDepth 100000 in
theorem w_X11_way {X : CX} {T : List Dsc} {R : RM} {c e : Nat} {n1 n2 : Nat} {x1 : Int32} {m : M2} {r : (Int32 × M2)} (hX : XR X 3 n1 n2) (hG : Geo T R c e) (hf : F_X11_way c x1 m = some r) (hk : FnI X cX11_way RX11 3 T n1 n2 (r.1, mk r.2 R)) : Wp X cX11_way RX11 3 T (mk m R) n1 n2 0 [(0, .ref 0), (1, .int x1)] [] := by
  unfold F_X11_way at hf
  refine Wp.iload_n (pc := 0) 1 rfl rfl dX11_way_0 ?_
  refine Wp.if_lt (pc := 1) 19 dX11_way_1 (by decide) (fun hc1 => ?_) (fun hc1 => ?_)
  · rw [if_pos hc1] at hf
    refine Wp.lo' (lo' := []) [] rfl ?_
    exact w_X11_way_19 hX hG hf hk
  · rw [if_neg hc1] at hf
    refine Wp.iload_n (pc := 4) 1 rfl rfl dX11_way_4 ?_
    refine Wp.iconst (pc := 5) (1 : Int32) (by decide) dX11_way_5 ?_
    refine Wp.icmp_gt (pc := 6) 19 dX11_way_6 (by decide) (fun hc2 => ?_) (fun hc2 => ?_)
    · rw [if_pos hc2] at hf
      refine Wp.lo' (lo' := []) [] rfl ?_
      exact w_X11_way_19 hX hG hf hk
    · rw [if_neg hc2] at hf
      refine Wp.aload_n (pc := 9) 0 rfl rfl dX11_way_9 ?_
      refine Wp.getR2 (pc := 10) hG.r0 (hG.t 0 rfl) fk_RX11_16 rfl dX11_way_10 ?_
      refine Wp.getI2 (pc := 13) (hG.tt hG.hc) fk_RX11_153 rfl dX11_way_13 ?_
      refine Wp.if_ne (pc := 16) 21 dX11_way_16 (by decide) (fun hc3 => ?_) (fun hc3 => ?_)
      · rw [if_neg hc3] at hf
        refine Wp.aload_n (pc := 21) 0 rfl rfl dX11_way_21 ?_
        refine Wp.getR2 (pc := 22) (hG.r 0 5 rfl) (hG.t 0 rfl) fk_RX11_37 rfl dX11_way_22 ?_
        refine Wp.aload_n (pc := 25) 0 rfl rfl dX11_way_25 ?_
        refine Wp.getR2 (pc := 26) (hG.r 0 6 rfl) (hG.t 0 rfl) fk_RX11_44 rfl dX11_way_26 ?_
        refine Wp.getJ2 (pc := 29) (hG.wt cw28) fk_RX11_125 rfl dX11_way_29 ?_
        obtain ⟨c4, h5, hf⟩ := bnd hf
        refine Wp.callVi (pc := 32) (st := []) (as := [.long (hJ m 28 0)]) (c_X5_wayPart hG h5) ml_RX11_173 mv_X5_wayPart mb_X5_wayPart hX (Nat.le_of_ble_eq_true rfl) (by decide) rfl (hG.t 23 rfl) rfl (by simp) dX11_way_32 rfl ?_
        refine Wp.istore_n (pc := 35) (lo' := [(0, .ref 0), (1, .int x1), (2, .int c4.1)]) [1, 2, 0] rfl (by decide) rfl dX11_way_35 ?_
        refine Wp.iload_n (pc := 36) 1 rfl rfl dX11_way_36 ?_
        refine Wp.if_ne (pc := 37) 51 dX11_way_37 (by decide) (fun hc6 => ?_) (fun hc6 => ?_)
        · rw [if_neg hc6] at hf
          refine Wp.iload_n (pc := 51) 2 rfl rfl dX11_way_51 ?_
          refine Wp.lo' (lo' := []) [] rfl ?_
          exact w_X11_way_52 hX hG hf hk
        · rw [if_pos hc6] at hf
          refine Wp.aload_n (pc := 40) 0 rfl rfl dX11_way_40 ?_
          refine Wp.getR2 (pc := 41) (hG.r 0 5 rfl) (hG.t 0 rfl) fk_RX11_37 rfl dX11_way_41 ?_
          refine Wp.iload_n (pc := 44) 2 rfl rfl dX11_way_44 ?_
          obtain ⟨c7, h8, hf⟩ := bnd hf
          refine Wp.callVi (pc := 45) (st := []) (as := [.int c4.1]) (c_X5_menNear hG h8) ml_RX11_176 mv_X5_menNear mb_X5_menNear hX (Nat.le_of_ble_eq_true rfl) (by decide) rfl (hG.t 23 rfl) rfl (by simp) dX11_way_45 rfl ?_
          refine Wp.goto (pc := 48) 52 dX11_way_48 (by decide) ?_
          refine Wp.lo' (lo' := []) [] rfl ?_
          exact w_X11_way_52 hX hG hf hk
      · rw [if_pos hc3] at hf
        refine Wp.lo' (lo' := []) [] rfl ?_
        exact w_X11_way_19 hX hG hf hk
theorem c_X11_way {T : List Dsc} {R : RM} {c e : Nat} {x1 : Int32} {m : M2} {r : (Int32 × M2)} (hG : Geo T R c e) (hf : F_X11_way c x1 m = some r) : Ct 3 yX11_way cX11_way 3 (some .int) T (mk m R) [.ref 0, .int x1] (some (.int r.1)) (mk r.2 R) := Ct.ofI (r := (r.1, mk r.2 R)) (by decide +kernel) (Nat.le_of_ble_eq_true rfl) (fun X hX hk => w_X11_way hX hG hf hk)
theorem dX11_wave_0 : decode cX11_wave 0 = .ok (.iload_n 1, 1) := by decide +kernel
theorem dX11_wave_1 : decode cX11_wave 1 = .ok (.ifCond .lt 8, 3) := by decide +kernel
theorem dX11_wave_4 : decode cX11_wave 4 = .ok (.iload_n 1, 1) := by decide +kernel
theorem dX11_wave_5 : decode cX11_wave 5 = .ok (.iconst 2, 1) := by decide +kernel
theorem dX11_wave_6 : decode cX11_wave 6 = .ok (.if_icmp .le 5, 3) := by decide +kernel
theorem dX11_wave_9 : decode cX11_wave 9 = .ok (.iconst (-1), 1) := by decide +kernel
theorem dX11_wave_10 : decode cX11_wave 10 = .ok (.ireturn, 1) := by decide +kernel
theorem dX11_wave_11 : decode cX11_wave 11 = .ok (.aload_n 0, 1) := by decide +kernel
theorem dX11_wave_12 : decode cX11_wave 12 = .ok (.getfield 37, 3) := by decide +kernel
theorem dX11_wave_15 : decode cX11_wave 15 = .ok (.aload_n 0, 1) := by decide +kernel
theorem dX11_wave_16 : decode cX11_wave 16 = .ok (.getfield 44, 3) := by decide +kernel
theorem dX11_wave_19 : decode cX11_wave 19 = .ok (.getfield 125, 3) := by decide +kernel
theorem dX11_wave_22 : decode cX11_wave 22 = .ok (.iload_n 1, 1) := by decide +kernel
theorem dX11_wave_23 : decode cX11_wave 23 = .ok (.invokevirtual 180, 3) := by decide +kernel
theorem dX11_wave_26 : decode cX11_wave 26 = .ok (.ireturn, 1) := by decide +kernel
set_option maxHeartbeats 4000000 in
set_option maxRecDepth 100000 in
theorem w_X11_wave_9 {X : CX} {T : List Dsc} {R : RM} {c e : Nat} {n1 n2 : Nat} {m : M2} {r : (Int32 × M2)} (hX : XR X 4 n1 n2) (hG : Geo T R c e) (hf : f_X11_wave_9 c m = some r) (hk : FnI X cX11_wave RX11 2 T n1 n2 (r.1, mk r.2 R)) : Wp X cX11_wave RX11 2 T (mk m R) n1 n2 9 [] [] := by
  unfold f_X11_wave_9 at hf
  refine Wp.iconst (pc := 9) (-1 : Int32) (by decide) dX11_wave_9 ?_
  cases hf
  exact hk _ _ dX11_wave_10
set_option maxHeartbeats 4000000 in
set_option maxRecDepth 100000 in
theorem w_X11_wave {X : CX} {T : List Dsc} {R : RM} {c e : Nat} {n1 n2 : Nat} {x1 : Int32} {m : M2} {r : (Int32 × M2)} (hX : XR X 4 n1 n2) (hG : Geo T R c e) (hf : F_X11_wave c x1 m = some r) (hk : FnI X cX11_wave RX11 2 T n1 n2 (r.1, mk r.2 R)) : Wp X cX11_wave RX11 2 T (mk m R) n1 n2 0 [(0, .ref 0), (1, .int x1)] [] := by
  unfold F_X11_wave at hf
  refine Wp.iload_n (pc := 0) 1 rfl rfl dX11_wave_0 ?_
  refine Wp.if_lt (pc := 1) 9 dX11_wave_1 (by decide) (fun hc1 => ?_) (fun hc1 => ?_)
  · rw [if_pos hc1] at hf
    refine Wp.lo' (lo' := []) [] rfl ?_
    exact w_X11_wave_9 hX hG hf hk
  · rw [if_neg hc1] at hf
    refine Wp.iload_n (pc := 4) 1 rfl rfl dX11_wave_4 ?_
    refine Wp.iconst (pc := 5) (2 : Int32) (by decide) dX11_wave_5 ?_
    refine Wp.icmp_le (pc := 6) 11 dX11_wave_6 (by decide) (fun hc2 => ?_) (fun hc2 => ?_)
    · rw [if_pos hc2] at hf
      refine Wp.aload_n (pc := 11) 0 rfl rfl dX11_wave_11 ?_
      refine Wp.getR2 (pc := 12) (hG.r 0 5 rfl) (hG.t 0 rfl) fk_RX11_37 rfl dX11_wave_12 ?_
      refine Wp.aload_n (pc := 15) 0 rfl rfl dX11_wave_15 ?_
      refine Wp.getR2 (pc := 16) (hG.r 0 6 rfl) (hG.t 0 rfl) fk_RX11_44 rfl dX11_wave_16 ?_
      refine Wp.getJ2 (pc := 19) (hG.wt cw28) fk_RX11_125 rfl dX11_wave_19 ?_
      refine Wp.iload_n (pc := 22) 1 rfl rfl dX11_wave_22 ?_
      obtain ⟨c3, h4, hf⟩ := bnd hf
      refine Wp.callVi (pc := 23) (st := []) (as := [.long (hJ m 28 0), .int x1]) (c_X5_waveOf hG h4) ml_RX11_180 mv_X5_waveOf mb_X5_waveOf hX (Nat.le_of_ble_eq_true rfl) (by decide) rfl (hG.t 23 rfl) rfl (by simp) dX11_wave_23 rfl ?_
      cases hf
      exact hk _ _ dX11_wave_26
    · rw [if_neg hc2] at hf
      refine Wp.lo' (lo' := []) [] rfl ?_
      exact w_X11_wave_9 hX hG hf hk
theorem c_X11_wave {T : List Dsc} {R : RM} {c e : Nat} {x1 : Int32} {m : M2} {r : (Int32 × M2)} (hG : Geo T R c e) (hf : F_X11_wave c x1 m = some r) : Ct 4 yX11_wave cX11_wave 2 (some .int) T (mk m R) [.ref 0, .int x1] (some (.int r.1)) (mk r.2 R) := Ct.ofI (r := (r.1, mk r.2 R)) (by decide +kernel) (Nat.le_of_ble_eq_true rfl) (fun X hX hk => w_X11_wave hX hG hf hk)
theorem dX11_soon_0 : decode cX11_soon 0 = .ok (.iload_n 1, 1) := by decide +kernel
theorem dX11_soon_1 : decode cX11_soon 1 = .ok (.iconst 1, 1) := by decide +kernel
theorem dX11_soon_2 : decode cX11_soon 2 = .ok (.if_icmp .lt 14, 3) := by decide +kernel
theorem dX11_soon_5 : decode cX11_soon 5 = .ok (.iload_n 1, 1) := by decide +kernel
theorem dX11_soon_6 : decode cX11_soon 6 = .ok (.aload_n 0, 1) := by decide +kernel
theorem dX11_soon_7 : decode cX11_soon 7 = .ok (.getfield 16, 3) := by decide +kernel
theorem dX11_soon_10 : decode cX11_soon 10 = .ok (.getfield 153, 3) := by decide +kernel
theorem dX11_soon_13 : decode cX11_soon 13 = .ok (.if_icmp .le 5, 3) := by decide +kernel
theorem dX11_soon_16 : decode cX11_soon 16 = .ok (.iconst (-1), 1) := by decide +kernel
theorem dX11_soon_17 : decode cX11_soon 17 = .ok (.ireturn, 1) := by decide +kernel
theorem dX11_soon_18 : decode cX11_soon 18 = .ok (.aload_n 0, 1) := by decide +kernel
theorem dX11_soon_19 : decode cX11_soon 19 = .ok (.getfield 44, 3) := by decide +kernel
theorem dX11_soon_22 : decode cX11_soon 22 = .ok (.getfield 125, 3) := by decide +kernel
theorem dX11_soon_25 : decode cX11_soon 25 = .ok (.lstore_n 2, 1) := by decide +kernel
theorem dX11_soon_26 : decode cX11_soon 26 = .ok (.iconst 0, 1) := by decide +kernel
theorem dX11_soon_27 : decode cX11_soon 27 = .ok (.istore 4, 2) := by decide +kernel
theorem dX11_soon_29 : decode cX11_soon 29 = .ok (.iload 4, 2) := by decide +kernel
theorem dX11_soon_31 : decode cX11_soon 31 = .ok (.bipush 100, 2) := by decide +kernel
theorem dX11_soon_33 : decode cX11_soon 33 = .ok (.if_icmp .gt 64, 3) := by decide +kernel
theorem dX11_soon_36 : decode cX11_soon 36 = .ok (.aload_n 0, 1) := by decide +kernel
theorem dX11_soon_37 : decode cX11_soon 37 = .ok (.getfield 37, 3) := by decide +kernel
theorem dX11_soon_40 : decode cX11_soon 40 = .ok (.lload_n 2, 1) := by decide +kernel
theorem dX11_soon_41 : decode cX11_soon 41 = .ok (.invokevirtual 183, 3) := by decide +kernel
theorem dX11_soon_44 : decode cX11_soon 44 = .ok (.iload_n 1, 1) := by decide +kernel
theorem dX11_soon_45 : decode cX11_soon 45 = .ok (.if_icmp .lt 6, 3) := by decide +kernel
theorem dX11_soon_48 : decode cX11_soon 48 = .ok (.iload 4, 2) := by decide +kernel
theorem dX11_soon_50 : decode cX11_soon 50 = .ok (.ireturn, 1) := by decide +kernel
theorem dX11_soon_51 : decode cX11_soon 51 = .ok (.aload_n 0, 1) := by decide +kernel
theorem dX11_soon_52 : decode cX11_soon 52 = .ok (.getfield 37, 3) := by decide +kernel
theorem dX11_soon_55 : decode cX11_soon 55 = .ok (.lload_n 2, 1) := by decide +kernel
theorem dX11_soon_56 : decode cX11_soon 56 = .ok (.aload_n 0, 1) := by decide +kernel
theorem dX11_soon_57 : decode cX11_soon 57 = .ok (.getfield 44, 3) := by decide +kernel
theorem dX11_soon_60 : decode cX11_soon 60 = .ok (.getfield 137, 3) := by decide +kernel
theorem dX11_soon_63 : decode cX11_soon 63 = .ok (.aload_n 0, 1) := by decide +kernel
theorem dX11_soon_64 : decode cX11_soon 64 = .ok (.getfield 44, 3) := by decide +kernel
theorem dX11_soon_67 : decode cX11_soon 67 = .ok (.getfield 140, 3) := by decide +kernel
theorem dX11_soon_70 : decode cX11_soon 70 = .ok (.aload_n 0, 1) := by decide +kernel
theorem dX11_soon_71 : decode cX11_soon 71 = .ok (.getfield 16, 3) := by decide +kernel
theorem dX11_soon_74 : decode cX11_soon 74 = .ok (.aload_n 0, 1) := by decide +kernel
theorem dX11_soon_75 : decode cX11_soon 75 = .ok (.getfield 44, 3) := by decide +kernel
theorem dX11_soon_78 : decode cX11_soon 78 = .ok (.getfield 143, 3) := by decide +kernel
theorem dX11_soon_81 : decode cX11_soon 81 = .ok (.iload 4, 2) := by decide +kernel
theorem dX11_soon_83 : decode cX11_soon 83 = .ok (.iadd, 1) := by decide +kernel
theorem dX11_soon_84 : decode cX11_soon 84 = .ok (.invokevirtual 146, 3) := by decide +kernel
theorem dX11_soon_87 : decode cX11_soon 87 = .ok (.invokevirtual 159, 3) := by decide +kernel
theorem dX11_soon_90 : decode cX11_soon 90 = .ok (.lstore_n 2, 1) := by decide +kernel
theorem dX11_soon_91 : decode cX11_soon 91 = .ok (.iinc 4 1, 3) := by decide +kernel
theorem dX11_soon_94 : decode cX11_soon 94 = .ok (.goto (-65), 3) := by decide +kernel
theorem dX11_soon_97 : decode cX11_soon 97 = .ok (.bipush (-2), 2) := by decide +kernel
theorem dX11_soon_99 : decode cX11_soon 99 = .ok (.ireturn, 1) := by decide +kernel
def k_X11_soon_29 (X : CX) (T : List Dsc) (R : RM) (n1 n2 : Nat) (x1 : Int32) (r : ((Int64 × Int32 × M2) ⊕ ((Int32 × M2) ⊕ (M2)))) : Prop := match r with
  | .inl s => Wp X cX11_soon RX11 5 T (mk s.2.2 R) n1 n2 29 [(0, .ref 0), (1, .int x1), (2, .long s.1), (4, .int s.2.1)] []
  | .inr (.inl e) => Wp X cX11_soon RX11 5 T (mk e.2 R) n1 n2 48 [(4, .int e.1)] []
  | .inr (.inr e) => Wp X cX11_soon RX11 5 T (mk e R) n1 n2 97 [] []
set_option maxHeartbeats 4000000 in
set_option maxRecDepth 100000 in
theorem w_X11_soon_16 {X : CX} {T : List Dsc} {R : RM} {c e : Nat} {n1 n2 : Nat} {m : M2} {r : (Int32 × M2)} (hX : XR X 6 n1 n2) (hG : Geo T R c e) (hf : f_X11_soon_16 c m = some r) (hk : FnI X cX11_soon RX11 5 T n1 n2 (r.1, mk r.2 R)) : Wp X cX11_soon RX11 5 T (mk m R) n1 n2 16 [] [] := by
  unfold f_X11_soon_16 at hf
  refine Wp.iconst (pc := 16) (-1 : Int32) (by decide) dX11_soon_16 ?_
  cases hf
  exact hk _ _ dX11_soon_17
set_option maxHeartbeats 4000000 in
set_option maxRecDepth 100000 in
theorem w_X11_soon_29 {X : CX} {T : List Dsc} {R : RM} {c e : Nat} {n1 n2 : Nat} {x1 : Int32} {x2 : Int64} {x4 : Int32} {m : M2} {r : ((Int64 × Int32 × M2) ⊕ ((Int32 × M2) ⊕ (M2)))} (hX : XR X 6 n1 n2) (hG : Geo T R c e) (hf : f_X11_soon_29 c x1 x2 x4 m = some r) (hk : k_X11_soon_29 X T R n1 n2 x1 r) : Wp X cX11_soon RX11 5 T (mk m R) n1 n2 29 [(0, .ref 0), (1, .int x1), (2, .long x2), (4, .int x4)] [] := by
  unfold f_X11_soon_29 at hf
  refine Wp.iload (pc := 29) 3 rfl dX11_soon_29 ?_
  refine Wp.bipush (pc := 31) (100 : Int32) (by decide) dX11_soon_31 ?_
  refine Wp.icmp_gt (pc := 33) 97 dX11_soon_33 (by decide) (fun hc1 => ?_) (fun hc1 => ?_)
  · rw [if_pos hc1] at hf
    refine Wp.lo' (lo' := []) [] rfl ?_
    cases hf
    exact hk
  · rw [if_neg hc1] at hf
    refine Wp.aload_n (pc := 36) 0 rfl rfl dX11_soon_36 ?_
    refine Wp.getR2 (pc := 37) (hG.r 0 5 rfl) (hG.t 0 rfl) fk_RX11_37 rfl dX11_soon_37 ?_
    refine Wp.lload_n (pc := 40) 2 rfl rfl dX11_soon_40 ?_
    obtain ⟨c2, h3, hf⟩ := bnd hf
    refine Wp.callVi (pc := 41) (st := []) (as := [.long x2]) (c_X5_wayOf hG h3) ml_RX11_183 mv_X5_wayOf mb_X5_wayOf hX (Nat.le_of_ble_eq_true rfl) (by decide) rfl (hG.t 23 rfl) rfl (by simp) dX11_soon_41 rfl ?_
    refine Wp.iload_n (pc := 44) 1 rfl rfl dX11_soon_44 ?_
    refine Wp.icmp_lt (pc := 45) 51 dX11_soon_45 (by decide) (fun hc4 => ?_) (fun hc4 => ?_)
    · rw [if_pos hc4] at hf
      refine Wp.aload_n (pc := 51) 0 rfl rfl dX11_soon_51 ?_
      refine Wp.getR2 (pc := 52) (hG.r 0 5 rfl) (hG.t 0 rfl) fk_RX11_37 rfl dX11_soon_52 ?_
      refine Wp.lload_n (pc := 55) 2 rfl rfl dX11_soon_55 ?_
      refine Wp.aload_n (pc := 56) 0 rfl rfl dX11_soon_56 ?_
      refine Wp.getR2 (pc := 57) (hG.r 0 6 rfl) (hG.t 0 rfl) fk_RX11_44 rfl dX11_soon_57 ?_
      refine Wp.getR2 (pc := 60) (hG.wr cw28 2 (Or.inr rfl)) (hG.wt cw28) fk_RX11_137 rfl dX11_soon_60 ?_
      refine Wp.aload_n (pc := 63) 0 rfl rfl dX11_soon_63 ?_
      refine Wp.getR2 (pc := 64) (hG.r 0 6 rfl) (hG.t 0 rfl) fk_RX11_44 rfl dX11_soon_64 ?_
      refine Wp.getI2 (pc := 67) (hG.wt cw28) fk_RX11_140 rfl dX11_soon_67 ?_
      refine Wp.aload_n (pc := 70) 0 rfl rfl dX11_soon_70 ?_
      refine Wp.getR2 (pc := 71) hG.r0 (hG.t 0 rfl) fk_RX11_16 rfl dX11_soon_71 ?_
      refine Wp.aload_n (pc := 74) 0 rfl rfl dX11_soon_74 ?_
      refine Wp.getR2 (pc := 75) (hG.r 0 6 rfl) (hG.t 0 rfl) fk_RX11_44 rfl dX11_soon_75 ?_
      refine Wp.getI2 (pc := 78) (hG.wt cw28) fk_RX11_143 rfl dX11_soon_78 ?_
      refine Wp.iload (pc := 81) 3 rfl dX11_soon_81 ?_
      refine Wp.iadd (pc := 83) dX11_soon_83 ?_
      obtain ⟨c5, h6, hf⟩ := bnd hf
      refine Wp.callVi (pc := 84) (st := [.int (hI c2.2 28 3), .ref (28 + 2), .long x2, .ref 23]) (as := [.int ((hI c2.2 28 4) + x4)]) (c_X7_isFog hG hG.hc h6) ml_RX11_146 mv_X7_isFog mb_X7_isFog hX (Nat.le_of_ble_eq_true rfl) (by decide) rfl (hG.tt hG.hc) rfl (by simp [Value.category]) dX11_soon_84 rfl ?_
      obtain ⟨c7, h8, hf⟩ := bnd hf
      refine Wp.callVl (pc := 87) (st := []) (as := [.long x2, .ref (28 + 2), .int (hI c2.2 28 3), .int c5.1]) (c_X5_stroke hG (hG.wa cw28 2 (Or.inr rfl)) h8) ml_RX11_159 mv_X5_stroke mb_X5_stroke hX (Nat.le_of_ble_eq_true rfl) (by decide) rfl (hG.t 23 rfl) rfl (by simp) dX11_soon_87 rfl ?_
      refine Wp.lstore_n (pc := 90) (lo' := [(0, .ref 0), (1, .int x1), (2, .long c7.1), (4, .int x4)]) [1, 2, 0, 3] rfl (by decide) rfl dX11_soon_90 ?_
      obtain ⟨v9, h10, hf⟩ := bnd hf
      refine Wp.iincN (pc := 91) (lo' := [(0, .ref 0), (1, .int x1), (2, .long c7.1), (4, .int v9)]) (1 : Int32) (by decide) h10 3 rfl [1, 2, 3, 0] rfl (by decide) dX11_soon_91 ?_
      refine Wp.goto (pc := 94) 29 dX11_soon_94 (by decide) ?_
      cases hf
      exact hk
    · rw [if_neg hc4] at hf
      refine Wp.lo' (lo' := [(4, .int x4)]) [3] rfl ?_
      cases hf
      exact hk
theorem wl_X11_soon_29 {X : CX} {T : List Dsc} {R : RM} {c e : Nat} {n1 n2 : Nat} {x1 : Int32} {x2 : Int64} {x4 : Int32} {m : M2} {e1 : ((Int32 × M2) ⊕ (M2))} (hX : XR X 6 n1 n2) (hG : Geo T R c e) (h : loop (g_X11_soon_29 c x1) (x2, x4, m) = some e1) (he0 : ∀ e_, e1 = (Sum.inl e_) → Wp X cX11_soon RX11 5 T (mk e_.2 R) n1 n2 48 [(4, .int e_.1)] []) (he1 : ∀ e_, e1 = (Sum.inr e_) → Wp X cX11_soon RX11 5 T (mk e_ R) n1 n2 97 [] []) : Wp X cX11_soon RX11 5 T (mk m R) n1 n2 29 [(0, .ref 0), (1, .int x1), (2, .long x2), (4, .int x4)] [] :=
  loop_ok (K := k_X11_soon_29 X T R n1 n2 x1) (fun s r hf hk => w_X11_soon_29 hX hG hf hk) h (by rcases e1 with e_ | e_ <;> first | exact he0 _ rfl | exact he1 _ rfl)
set_option maxHeartbeats 4000000 in
set_option maxRecDepth 100000 in
theorem w_X11_soon {X : CX} {T : List Dsc} {R : RM} {c e : Nat} {n1 n2 : Nat} {x1 : Int32} {m : M2} {r : (Int32 × M2)} (hX : XR X 6 n1 n2) (hG : Geo T R c e) (hf : F_X11_soon c x1 m = some r) (hk : FnI X cX11_soon RX11 5 T n1 n2 (r.1, mk r.2 R)) : Wp X cX11_soon RX11 5 T (mk m R) n1 n2 0 [(0, .ref 0), (1, .int x1)] [] := by
  unfold F_X11_soon at hf
  refine Wp.iload_n (pc := 0) 1 rfl rfl dX11_soon_0 ?_
  refine Wp.iconst (pc := 1) (1 : Int32) (by decide) dX11_soon_1 ?_
  refine Wp.icmp_lt (pc := 2) 16 dX11_soon_2 (by decide) (fun hc1 => ?_) (fun hc1 => ?_)
  · rw [if_pos hc1] at hf
    refine Wp.lo' (lo' := []) [] rfl ?_
    exact w_X11_soon_16 hX hG hf hk
  · rw [if_neg hc1] at hf
    refine Wp.iload_n (pc := 5) 1 rfl rfl dX11_soon_5 ?_
    refine Wp.aload_n (pc := 6) 0 rfl rfl dX11_soon_6 ?_
    refine Wp.getR2 (pc := 7) hG.r0 (hG.t 0 rfl) fk_RX11_16 rfl dX11_soon_7 ?_
    refine Wp.getI2 (pc := 10) (hG.tt hG.hc) fk_RX11_153 rfl dX11_soon_10 ?_
    refine Wp.icmp_le (pc := 13) 18 dX11_soon_13 (by decide) (fun hc2 => ?_) (fun hc2 => ?_)
    · rw [if_pos hc2] at hf
      refine Wp.aload_n (pc := 18) 0 rfl rfl dX11_soon_18 ?_
      refine Wp.getR2 (pc := 19) (hG.r 0 6 rfl) (hG.t 0 rfl) fk_RX11_44 rfl dX11_soon_19 ?_
      refine Wp.getJ2 (pc := 22) (hG.wt cw28) fk_RX11_125 rfl dX11_soon_22 ?_
      obtain ⟨v3, h4, hf⟩ := bnd hf
      refine Wp.nJ' h4 ?_
      refine Wp.lstore_n (pc := 25) (lo' := [(0, .ref 0), (1, .int x1), (2, .long v3)]) [1, 2, 0] rfl (by decide) rfl dX11_soon_25 ?_
      refine Wp.iconst (pc := 26) (0 : Int32) (by decide) dX11_soon_26 ?_
      refine Wp.istore (pc := 27) (lo' := [(0, .ref 0), (1, .int x1), (2, .long v3), (4, .int (0 : Int32))]) [1, 2, 3, 0] rfl (by decide) dX11_soon_27 ?_
      obtain ⟨e5, h6, hf⟩ := bnd hf
      refine wl_X11_soon_29 hX hG h6 (fun e5_0 hq => ?_) (fun e5_1 hq => ?_)
      · rw [hq, Sum.elim_inl] at hf
        refine Wp.iload (pc := 48) 0 rfl dX11_soon_48 ?_
        cases hf
        exact hk _ _ dX11_soon_50
      · rw [hq, Sum.elim_inr] at hf
        refine Wp.bipush (pc := 97) (-2 : Int32) (by decide) dX11_soon_97 ?_
        cases hf
        exact hk _ _ dX11_soon_99
    · rw [if_neg hc2] at hf
      refine Wp.lo' (lo' := []) [] rfl ?_
      exact w_X11_soon_16 hX hG hf hk
theorem c_X11_soon {T : List Dsc} {R : RM} {c e : Nat} {x1 : Int32} {m : M2} {r : (Int32 × M2)} (hG : Geo T R c e) (hf : F_X11_soon c x1 m = some r) : Ct 6 yX11_soon cX11_soon 5 (some .int) T (mk m R) [.ref 0, .int x1] (some (.int r.1)) (mk r.2 R) := Ct.ofI (r := (r.1, mk r.2 R)) (by decide +kernel) (Nat.le_of_ble_eq_true rfl) (fun X hX hk => w_X11_soon hX hG hf hk)
theorem dX11_rubs_0 : decode cX11_rubs 0 = .ok (.iload_n 1, 1) := by decide +kernel
theorem dX11_rubs_1 : decode cX11_rubs 1 = .ok (.iconst 1, 1) := by decide +kernel
theorem dX11_rubs_2 : decode cX11_rubs 2 = .ok (.if_icmp .lt 9, 3) := by decide +kernel
theorem dX11_rubs_5 : decode cX11_rubs 5 = .ok (.iload_n 1, 1) := by decide +kernel
theorem dX11_rubs_6 : decode cX11_rubs 6 = .ok (.bipush 100, 2) := by decide +kernel
theorem dX11_rubs_8 : decode cX11_rubs 8 = .ok (.if_icmp .le 5, 3) := by decide +kernel
theorem dX11_rubs_11 : decode cX11_rubs 11 = .ok (.iconst (-1), 1) := by decide +kernel
theorem dX11_rubs_12 : decode cX11_rubs 12 = .ok (.ireturn, 1) := by decide +kernel
theorem dX11_rubs_13 : decode cX11_rubs 13 = .ok (.aload_n 0, 1) := by decide +kernel
theorem dX11_rubs_14 : decode cX11_rubs 14 = .ok (.getfield 37, 3) := by decide +kernel
theorem dX11_rubs_17 : decode cX11_rubs 17 = .ok (.aload_n 0, 1) := by decide +kernel
theorem dX11_rubs_18 : decode cX11_rubs 18 = .ok (.getfield 44, 3) := by decide +kernel
theorem dX11_rubs_21 : decode cX11_rubs 21 = .ok (.iload_n 1, 1) := by decide +kernel
theorem dX11_rubs_22 : decode cX11_rubs 22 = .ok (.invokevirtual 186, 3) := by decide +kernel
theorem dX11_rubs_25 : decode cX11_rubs 25 = .ok (.ireturn, 1) := by decide +kernel
set_option maxHeartbeats 4000000 in
set_option maxRecDepth 100000 in
theorem w_X11_rubs_11 {X : CX} {T : List Dsc} {R : RM} {c e : Nat} {n1 n2 : Nat} {m : M2} {r : (Int32 × M2)} (hX : XR X 7 n1 n2) (hG : Geo T R c e) (hf : f_X11_rubs_11 c m = some r) (hk : FnI X cX11_rubs RX11 2 T n1 n2 (r.1, mk r.2 R)) : Wp X cX11_rubs RX11 2 T (mk m R) n1 n2 11 [] [] := by
  unfold f_X11_rubs_11 at hf
  refine Wp.iconst (pc := 11) (-1 : Int32) (by decide) dX11_rubs_11 ?_
  cases hf
  exact hk _ _ dX11_rubs_12
set_option maxHeartbeats 4000000 in
set_option maxRecDepth 100000 in
theorem w_X11_rubs {X : CX} {T : List Dsc} {R : RM} {c e : Nat} {n1 n2 : Nat} {x1 : Int32} {m : M2} {r : (Int32 × M2)} (hX : XR X 7 n1 n2) (hG : Geo T R c e) (hf : F_X11_rubs c x1 m = some r) (hk : FnI X cX11_rubs RX11 2 T n1 n2 (r.1, mk r.2 R)) : Wp X cX11_rubs RX11 2 T (mk m R) n1 n2 0 [(0, .ref 0), (1, .int x1)] [] := by
  unfold F_X11_rubs at hf
  refine Wp.iload_n (pc := 0) 1 rfl rfl dX11_rubs_0 ?_
  refine Wp.iconst (pc := 1) (1 : Int32) (by decide) dX11_rubs_1 ?_
  refine Wp.icmp_lt (pc := 2) 11 dX11_rubs_2 (by decide) (fun hc1 => ?_) (fun hc1 => ?_)
  · rw [if_pos hc1] at hf
    refine Wp.lo' (lo' := []) [] rfl ?_
    exact w_X11_rubs_11 hX hG hf hk
  · rw [if_neg hc1] at hf
    refine Wp.iload_n (pc := 5) 1 rfl rfl dX11_rubs_5 ?_
    refine Wp.bipush (pc := 6) (100 : Int32) (by decide) dX11_rubs_6 ?_
    refine Wp.icmp_le (pc := 8) 13 dX11_rubs_8 (by decide) (fun hc2 => ?_) (fun hc2 => ?_)
    · rw [if_pos hc2] at hf
      refine Wp.aload_n (pc := 13) 0 rfl rfl dX11_rubs_13 ?_
      refine Wp.getR2 (pc := 14) (hG.r 0 5 rfl) (hG.t 0 rfl) fk_RX11_37 rfl dX11_rubs_14 ?_
      refine Wp.aload_n (pc := 17) 0 rfl rfl dX11_rubs_17 ?_
      refine Wp.getR2 (pc := 18) (hG.r 0 6 rfl) (hG.t 0 rfl) fk_RX11_44 rfl dX11_rubs_18 ?_
      refine Wp.iload_n (pc := 21) 1 rfl rfl dX11_rubs_21 ?_
      obtain ⟨c3, h4, hf⟩ := bnd hf
      refine Wp.callVi (pc := 22) (st := []) (as := [.ref 28, .int x1]) (c_X5_mostClashing hG cw28 h4) ml_RX11_186 mv_X5_mostClashing mb_X5_mostClashing hX (Nat.le_of_ble_eq_true rfl) (by decide) rfl (hG.t 23 rfl) rfl (by simp) dX11_rubs_22 rfl ?_
      cases hf
      exact hk _ _ dX11_rubs_25
    · rw [if_neg hc2] at hf
      refine Wp.lo' (lo' := []) [] rfl ?_
      exact w_X11_rubs_11 hX hG hf hk
theorem c_X11_rubs {T : List Dsc} {R : RM} {c e : Nat} {x1 : Int32} {m : M2} {r : (Int32 × M2)} (hG : Geo T R c e) (hf : F_X11_rubs c x1 m = some r) : Ct 7 yX11_rubs cX11_rubs 2 (some .int) T (mk m R) [.ref 0, .int x1] (some (.int r.1)) (mk r.2 R) := Ct.ofI (r := (r.1, mk r.2 R)) (by decide +kernel) (Nat.le_of_ble_eq_true rfl) (fun X hX hk => w_X11_rubs hX hG hf hk)
theorem dX11_still_0 : decode cX11_still 0 = .ok (.aload_n 0, 1) := by decide +kernel
theorem dX11_still_1 : decode cX11_still 1 = .ok (.getfield 37, 3) := by decide +kernel
theorem dX11_still_4 : decode cX11_still 4 = .ok (.aload_n 0, 1) := by decide +kernel
theorem dX11_still_5 : decode cX11_still 5 = .ok (.getfield 44, 3) := by decide +kernel
theorem dX11_still_8 : decode cX11_still 8 = .ok (.getfield 125, 3) := by decide +kernel
theorem dX11_still_11 : decode cX11_still 11 = .ok (.aload_n 0, 1) := by decide +kernel
theorem dX11_still_12 : decode cX11_still 12 = .ok (.getfield 44, 3) := by decide +kernel
theorem dX11_still_15 : decode cX11_still 15 = .ok (.getfield 137, 3) := by decide +kernel
theorem dX11_still_18 : decode cX11_still 18 = .ok (.aload_n 0, 1) := by decide +kernel
theorem dX11_still_19 : decode cX11_still 19 = .ok (.getfield 44, 3) := by decide +kernel
theorem dX11_still_22 : decode cX11_still 22 = .ok (.getfield 140, 3) := by decide +kernel
theorem dX11_still_25 : decode cX11_still 25 = .ok (.iconst 0, 1) := by decide +kernel
theorem dX11_still_26 : decode cX11_still 26 = .ok (.invokevirtual 159, 3) := by decide +kernel
theorem dX11_still_29 : decode cX11_still 29 = .ok (.aload_n 0, 1) := by decide +kernel
theorem dX11_still_30 : decode cX11_still 30 = .ok (.getfield 44, 3) := by decide +kernel
theorem dX11_still_33 : decode cX11_still 33 = .ok (.getfield 125, 3) := by decide +kernel
theorem dX11_still_36 : decode cX11_still 36 = .ok (.lcmp, 1) := by decide +kernel
theorem dX11_still_37 : decode cX11_still 37 = .ok (.ifCond .ne 7, 3) := by decide +kernel
theorem dX11_still_40 : decode cX11_still 40 = .ok (.iconst 1, 1) := by decide +kernel
theorem dX11_still_41 : decode cX11_still 41 = .ok (.goto 4, 3) := by decide +kernel
theorem dX11_still_44 : decode cX11_still 44 = .ok (.iconst 0, 1) := by decide +kernel
theorem dX11_still_45 : decode cX11_still 45 = .ok (.ireturn, 1) := by decide +kernel
set_option maxHeartbeats 4000000 in
set_option maxRecDepth 100000 in
theorem w_X11_still_45 {X : CX} {T : List Dsc} {R : RM} {c e : Nat} {n1 n2 : Nat} {s0 : Int32} {m : M2} {r : (Int32 × M2)} (hX : XR X 6 n1 n2) (hG : Geo T R c e) (hf : f_X11_still_45 c s0 m = some r) (hk : FnI X cX11_still RX11 1 T n1 n2 (r.1, mk r.2 R)) : Wp X cX11_still RX11 1 T (mk m R) n1 n2 45 [] [.int s0] := by
  unfold f_X11_still_45 at hf
  cases hf
  exact hk _ _ dX11_still_45
set_option maxHeartbeats 4000000 in
set_option maxRecDepth 100000 in
theorem w_X11_still {X : CX} {T : List Dsc} {R : RM} {c e : Nat} {n1 n2 : Nat} {m : M2} {r : (Int32 × M2)} (hX : XR X 6 n1 n2) (hG : Geo T R c e) (hf : F_X11_still c m = some r) (hk : FnI X cX11_still RX11 1 T n1 n2 (r.1, mk r.2 R)) : Wp X cX11_still RX11 1 T (mk m R) n1 n2 0 [(0, .ref 0)] [] := by
  unfold F_X11_still at hf
  refine Wp.aload_n (pc := 0) 0 rfl rfl dX11_still_0 ?_
  refine Wp.getR2 (pc := 1) (hG.r 0 5 rfl) (hG.t 0 rfl) fk_RX11_37 rfl dX11_still_1 ?_
  refine Wp.aload_n (pc := 4) 0 rfl rfl dX11_still_4 ?_
  refine Wp.getR2 (pc := 5) (hG.r 0 6 rfl) (hG.t 0 rfl) fk_RX11_44 rfl dX11_still_5 ?_
  refine Wp.getJ2 (pc := 8) (hG.wt cw28) fk_RX11_125 rfl dX11_still_8 ?_
  refine Wp.aload_n (pc := 11) 0 rfl rfl dX11_still_11 ?_
  refine Wp.getR2 (pc := 12) (hG.r 0 6 rfl) (hG.t 0 rfl) fk_RX11_44 rfl dX11_still_12 ?_
  refine Wp.getR2 (pc := 15) (hG.wr cw28 2 (Or.inr rfl)) (hG.wt cw28) fk_RX11_137 rfl dX11_still_15 ?_
  refine Wp.aload_n (pc := 18) 0 rfl rfl dX11_still_18 ?_
  refine Wp.getR2 (pc := 19) (hG.r 0 6 rfl) (hG.t 0 rfl) fk_RX11_44 rfl dX11_still_19 ?_
  refine Wp.getI2 (pc := 22) (hG.wt cw28) fk_RX11_140 rfl dX11_still_22 ?_
  refine Wp.iconst (pc := 25) (0 : Int32) (by decide) dX11_still_25 ?_
  obtain ⟨c1, h2, hf⟩ := bnd hf
  refine Wp.callVl (pc := 26) (st := []) (as := [.long (hJ m 28 0), .ref (28 + 2), .int (hI m 28 3), .int (0 : Int32)]) (c_X5_stroke hG (hG.wa cw28 2 (Or.inr rfl)) h2) ml_RX11_159 mv_X5_stroke mb_X5_stroke hX (Nat.le_of_ble_eq_true rfl) (by decide) rfl (hG.t 23 rfl) rfl (by simp) dX11_still_26 rfl ?_
  refine Wp.aload_n (pc := 29) 0 rfl rfl dX11_still_29 ?_
  refine Wp.getR2 (pc := 30) (hG.r 0 6 rfl) (hG.t 0 rfl) fk_RX11_44 rfl dX11_still_30 ?_
  refine Wp.getJ2 (pc := 33) (hG.wt cw28) fk_RX11_125 rfl dX11_still_33 ?_
  refine Wp.lcmp (pc := 36) dX11_still_36 ?_
  refine Wp.if_ne (pc := 37) 44 dX11_still_37 (by decide) (fun hc3 => ?_) (fun hc3 => ?_)
  · rw [if_neg hc3] at hf
    refine Wp.iconst (pc := 44) (0 : Int32) (by decide) dX11_still_44 ?_
    refine Wp.lo' (lo' := []) [] rfl ?_
    exact w_X11_still_45 hX hG hf hk
  · rw [if_pos hc3] at hf
    refine Wp.iconst (pc := 40) (1 : Int32) (by decide) dX11_still_40 ?_
    refine Wp.goto (pc := 41) 45 dX11_still_41 (by decide) ?_
    refine Wp.lo' (lo' := []) [] rfl ?_
    exact w_X11_still_45 hX hG hf hk
theorem c_X11_still {T : List Dsc} {R : RM} {c e : Nat} {m : M2} {r : (Int32 × M2)} (hG : Geo T R c e) (hf : F_X11_still c m = some r) : Ct 6 yX11_still cX11_still 1 (some .int) T (mk m R) [.ref 0] (some (.int r.1)) (mk r.2 R) := Ct.ofI (r := (r.1, mk r.2 R)) (by decide +kernel) (Nat.le_of_ble_eq_true rfl) (fun X hX hk => w_X11_still hX hG hf hk)
theorem dX11_round_0 : decode cX11_round 0 = .ok (.iload_n 1, 1) := by decide +kernel
theorem dX11_round_1 : decode cX11_round 1 = .ok (.ifCond .lt 8, 3) := by decide +kernel
theorem dX11_round_4 : decode cX11_round 4 = .ok (.iload_n 1, 1) := by decide +kernel
theorem dX11_round_5 : decode cX11_round 5 = .ok (.iconst 1, 1) := by decide +kernel
theorem dX11_round_6 : decode cX11_round 6 = .ok (.if_icmp .le 5, 3) := by decide +kernel
theorem dX11_round_9 : decode cX11_round 9 = .ok (.iconst (-1), 1) := by decide +kernel
theorem dX11_round_10 : decode cX11_round 10 = .ok (.ireturn, 1) := by decide +kernel
theorem dX11_round_11 : decode cX11_round 11 = .ok (.aload_n 0, 1) := by decide +kernel
theorem dX11_round_12 : decode cX11_round 12 = .ok (.getfield 78, 3) := by decide +kernel
theorem dX11_round_15 : decode cX11_round 15 = .ok (.aload_n 0, 1) := by decide +kernel
theorem dX11_round_16 : decode cX11_round 16 = .ok (.getfield 44, 3) := by decide +kernel
theorem dX11_round_19 : decode cX11_round 19 = .ok (.invokevirtual 190, 3) := by decide +kernel
theorem dX11_round_22 : decode cX11_round 22 = .ok (.ifCond .ne 6, 3) := by decide +kernel
theorem dX11_round_25 : decode cX11_round 25 = .ok (.bipush (-2), 2) := by decide +kernel
theorem dX11_round_27 : decode cX11_round 27 = .ok (.ireturn, 1) := by decide +kernel
theorem dX11_round_28 : decode cX11_round 28 = .ok (.iload_n 1, 1) := by decide +kernel
theorem dX11_round_29 : decode cX11_round 29 = .ok (.ifCond .ne 13, 3) := by decide +kernel
theorem dX11_round_32 : decode cX11_round 32 = .ok (.aload_n 0, 1) := by decide +kernel
theorem dX11_round_33 : decode cX11_round 33 = .ok (.getfield 78, 3) := by decide +kernel
theorem dX11_round_36 : decode cX11_round 36 = .ok (.getfield 194, 3) := by decide +kernel
theorem dX11_round_39 : decode cX11_round 39 = .ok (.goto 10, 3) := by decide +kernel
theorem dX11_round_42 : decode cX11_round 42 = .ok (.aload_n 0, 1) := by decide +kernel
theorem dX11_round_43 : decode cX11_round 43 = .ok (.getfield 78, 3) := by decide +kernel
theorem dX11_round_46 : decode cX11_round 46 = .ok (.getfield 197, 3) := by decide +kernel
theorem dX11_round_49 : decode cX11_round 49 = .ok (.ireturn, 1) := by decide +kernel
set_option maxHeartbeats 4000000 in
set_option maxRecDepth 100000 in
theorem w_X11_round_9 {X : CX} {T : List Dsc} {R : RM} {c e : Nat} {n1 n2 : Nat} {m : M2} {r : (Int32 × M2)} (hX : XR X 7 n1 n2) (hG : Geo T R c e) (hf : f_X11_round_9 c m = some r) (hk : FnI X cX11_round RX11 2 T n1 n2 (r.1, mk r.2 R)) : Wp X cX11_round RX11 2 T (mk m R) n1 n2 9 [] [] := by
  unfold f_X11_round_9 at hf
  refine Wp.iconst (pc := 9) (-1 : Int32) (by decide) dX11_round_9 ?_
  cases hf
  exact hk _ _ dX11_round_10
set_option maxHeartbeats 4000000 in
set_option maxRecDepth 100000 in
theorem w_X11_round_49 {X : CX} {T : List Dsc} {R : RM} {c e : Nat} {n1 n2 : Nat} {s0 : Int32} {m : M2} {r : (Int32 × M2)} (hX : XR X 7 n1 n2) (hG : Geo T R c e) (hf : f_X11_round_49 c s0 m = some r) (hk : FnI X cX11_round RX11 2 T n1 n2 (r.1, mk r.2 R)) : Wp X cX11_round RX11 2 T (mk m R) n1 n2 49 [] [.int s0] := by
  unfold f_X11_round_49 at hf
  cases hf
  exact hk _ _ dX11_round_49
set_option maxHeartbeats 4000000 in
set_option maxRecDepth 100000 in
theorem w_X11_round {X : CX} {T : List Dsc} {R : RM} {c e : Nat} {n1 n2 : Nat} {x1 : Int32} {m : M2} {r : (Int32 × M2)} (hX : XR X 7 n1 n2) (hG : Geo T R c e) (hf : F_X11_round c x1 m = some r) (hk : FnI X cX11_round RX11 2 T n1 n2 (r.1, mk r.2 R)) : Wp X cX11_round RX11 2 T (mk m R) n1 n2 0 [(0, .ref 0), (1, .int x1)] [] := by
  unfold F_X11_round at hf
  refine Wp.iload_n (pc := 0) 1 rfl rfl dX11_round_0 ?_
  refine Wp.if_lt (pc := 1) 9 dX11_round_1 (by decide) (fun hc1 => ?_) (fun hc1 => ?_)
  · rw [if_pos hc1] at hf
    refine Wp.lo' (lo' := []) [] rfl ?_
    exact w_X11_round_9 hX hG hf hk
  · rw [if_neg hc1] at hf
    refine Wp.iload_n (pc := 4) 1 rfl rfl dX11_round_4 ?_
    refine Wp.iconst (pc := 5) (1 : Int32) (by decide) dX11_round_5 ?_
    refine Wp.icmp_le (pc := 6) 11 dX11_round_6 (by decide) (fun hc2 => ?_) (fun hc2 => ?_)
    · rw [if_pos hc2] at hf
      refine Wp.aload_n (pc := 11) 0 rfl rfl dX11_round_11 ?_
      refine Wp.getR2 (pc := 12) (hG.r 0 11 rfl) (hG.t 0 rfl) fk_RX11_78 rfl dX11_round_12 ?_
      refine Wp.aload_n (pc := 15) 0 rfl rfl dX11_round_15 ?_
      refine Wp.getR2 (pc := 16) (hG.r 0 6 rfl) (hG.t 0 rfl) fk_RX11_44 rfl dX11_round_16 ?_
      obtain ⟨c3, h4, hf⟩ := bnd hf
      refine Wp.callVi (pc := 19) (st := []) (as := [.ref 28]) (c_X9_findRound hG cw28 h4) ml_RX11_190 mv_X9_findRound mb_X9_findRound hX (Nat.le_of_ble_eq_true rfl) (by decide) rfl (hG.t 39 rfl) rfl (by simp) dX11_round_19 rfl ?_
      refine Wp.if_ne (pc := 22) 28 dX11_round_22 (by decide) (fun hc5 => ?_) (fun hc5 => ?_)
      · rw [if_neg hc5] at hf
        refine Wp.iload_n (pc := 28) 1 rfl rfl dX11_round_28 ?_
        refine Wp.if_ne (pc := 29) 42 dX11_round_29 (by decide) (fun hc6 => ?_) (fun hc6 => ?_)
        · rw [if_neg hc6] at hf
          refine Wp.aload_n (pc := 42) 0 rfl rfl dX11_round_42 ?_
          refine Wp.getR2 (pc := 43) (hG.r 0 11 rfl) (hG.t 0 rfl) fk_RX11_78 rfl dX11_round_43 ?_
          refine Wp.getI2 (pc := 46) (hG.t 39 rfl) fk_RX11_197 rfl dX11_round_46 ?_
          refine Wp.lo' (lo' := []) [] rfl ?_
          exact w_X11_round_49 hX hG hf hk
        · rw [if_pos hc6] at hf
          refine Wp.aload_n (pc := 32) 0 rfl rfl dX11_round_32 ?_
          refine Wp.getR2 (pc := 33) (hG.r 0 11 rfl) (hG.t 0 rfl) fk_RX11_78 rfl dX11_round_33 ?_
          refine Wp.getI2 (pc := 36) (hG.t 39 rfl) fk_RX11_194 rfl dX11_round_36 ?_
          refine Wp.goto (pc := 39) 49 dX11_round_39 (by decide) ?_
          refine Wp.lo' (lo' := []) [] rfl ?_
          exact w_X11_round_49 hX hG hf hk
      · rw [if_pos hc5] at hf
        refine Wp.bipush (pc := 25) (-2 : Int32) (by decide) dX11_round_25 ?_
        cases hf
        exact hk _ _ dX11_round_27
    · rw [if_neg hc2] at hf
      refine Wp.lo' (lo' := []) [] rfl ?_
      exact w_X11_round_9 hX hG hf hk
theorem c_X11_round {T : List Dsc} {R : RM} {c e : Nat} {x1 : Int32} {m : M2} {r : (Int32 × M2)} (hG : Geo T R c e) (hf : F_X11_round c x1 m = some r) : Ct 7 yX11_round cX11_round 2 (some .int) T (mk m R) [.ref 0, .int x1] (some (.int r.1)) (mk r.2 R) := Ct.ofI (r := (r.1, mk r.2 R)) (by decide +kernel) (Nat.le_of_ble_eq_true rfl) (fun X hX hk => w_X11_round hX hG hf hk)
theorem dX11_change_0 : decode cX11_change 0 = .ok (.aload_n 0, 1) := by decide +kernel
theorem dX11_change_1 : decode cX11_change 1 = .ok (.iload_n 1, 1) := by decide +kernel
theorem dX11_change_2 : decode cX11_change 2 = .ok (.invokevirtual 121, 3) := by decide +kernel
theorem dX11_change_5 : decode cX11_change 5 = .ok (.ifCond .eq 16, 3) := by decide +kernel
theorem dX11_change_8 : decode cX11_change 8 = .ok (.aload_n 0, 1) := by decide +kernel
theorem dX11_change_9 : decode cX11_change 9 = .ok (.iload_n 2, 1) := by decide +kernel
theorem dX11_change_10 : decode cX11_change 10 = .ok (.invokevirtual 121, 3) := by decide +kernel
theorem dX11_change_13 : decode cX11_change 13 = .ok (.ifCond .eq 8, 3) := by decide +kernel
theorem dX11_change_16 : decode cX11_change 16 = .ok (.iload_n 1, 1) := by decide +kernel
theorem dX11_change_17 : decode cX11_change 17 = .ok (.iload_n 2, 1) := by decide +kernel
theorem dX11_change_18 : decode cX11_change 18 = .ok (.if_icmp .ne 5, 3) := by decide +kernel
theorem dX11_change_21 : decode cX11_change 21 = .ok (.iconst 0, 1) := by decide +kernel
theorem dX11_change_22 : decode cX11_change 22 = .ok (.ireturn, 1) := by decide +kernel
theorem dX11_change_23 : decode cX11_change 23 = .ok (.aload_n 0, 1) := by decide +kernel
theorem dX11_change_24 : decode cX11_change 24 = .ok (.getfield 44, 3) := by decide +kernel
theorem dX11_change_27 : decode cX11_change 27 = .ok (.iload_n 1, 1) := by decide +kernel
theorem dX11_change_28 : decode cX11_change 28 = .ok (.iload_n 2, 1) := by decide +kernel
theorem dX11_change_29 : decode cX11_change 29 = .ok (.invokevirtual 200, 3) := by decide +kernel
theorem dX11_change_32 : decode cX11_change 32 = .ok (.iconst 1, 1) := by decide +kernel
theorem dX11_change_33 : decode cX11_change 33 = .ok (.ireturn, 1) := by decide +kernel
set_option maxHeartbeats 4000000 in
set_option maxRecDepth 100000 in
theorem w_X11_change_21 {X : CX} {T : List Dsc} {R : RM} {c e : Nat} {n1 n2 : Nat} {m : M2} {r : (Int32 × M2)} (hX : XR X 3 n1 n2) (hG : Geo T R c e) (hf : f_X11_change_21 c m = some r) (hk : FnZ X cX11_change RX11 3 T n1 n2 (r.1, mk r.2 R)) : Wp X cX11_change RX11 3 T (mk m R) n1 n2 21 [] [] := by
  unfold f_X11_change_21 at hf
  refine Wp.iconst (pc := 21) (0 : Int32) (by decide) dX11_change_21 ?_
  cases hf
  exact hk _ _ (Or.inl rfl) dX11_change_22
set_option maxHeartbeats 4000000 in
set_option maxRecDepth 100000 in
theorem w_X11_change {X : CX} {T : List Dsc} {R : RM} {c e : Nat} {n1 n2 : Nat} {x1 : Int32} {x2 : Int32} {m : M2} {r : (Int32 × M2)} (hX : XR X 3 n1 n2) (hG : Geo T R c e) (hf : F_X11_change c x1 x2 m = some r) (hk : FnZ X cX11_change RX11 3 T n1 n2 (r.1, mk r.2 R)) : Wp X cX11_change RX11 3 T (mk m R) n1 n2 0 [(0, .ref 0), (1, .int x1), (2, .int x2)] [] := by
  unfold F_X11_change at hf
  refine Wp.aload_n (pc := 0) 0 rfl rfl dX11_change_0 ?_
  refine Wp.iload_n (pc := 1) 1 rfl rfl dX11_change_1 ?_
  obtain ⟨c1, h2, hf⟩ := bnd hf
  refine Wp.callVi (pc := 2) (st := []) (as := [.int x1]) (c_X11_isBench hG h2) ml_RX11_121 mv_X11_isBench mb_X11_isBench hX (Nat.le_of_ble_eq_true rfl) (by decide) rfl (hG.t 0 rfl) rfl (by simp) dX11_change_2 rfl ?_
  refine Wp.if_eq (pc := 5) 21 dX11_change_5 (by decide) (fun hc3 => ?_) (fun hc3 => ?_)
  · rw [if_pos hc3] at hf
    refine Wp.lo' (lo' := []) [] rfl ?_
    exact w_X11_change_21 hX hG hf hk
  · rw [if_neg hc3] at hf
    refine Wp.aload_n (pc := 8) 0 rfl rfl dX11_change_8 ?_
    refine Wp.iload_n (pc := 9) 2 rfl rfl dX11_change_9 ?_
    obtain ⟨c4, h5, hf⟩ := bnd hf
    refine Wp.callVi (pc := 10) (st := []) (as := [.int x2]) (c_X11_isBench hG h5) ml_RX11_121 mv_X11_isBench mb_X11_isBench hX (Nat.le_of_ble_eq_true rfl) (by decide) rfl (hG.t 0 rfl) rfl (by simp) dX11_change_10 rfl ?_
    refine Wp.if_eq (pc := 13) 21 dX11_change_13 (by decide) (fun hc6 => ?_) (fun hc6 => ?_)
    · rw [if_pos hc6] at hf
      refine Wp.lo' (lo' := []) [] rfl ?_
      exact w_X11_change_21 hX hG hf hk
    · rw [if_neg hc6] at hf
      refine Wp.iload_n (pc := 16) 1 rfl rfl dX11_change_16 ?_
      refine Wp.iload_n (pc := 17) 2 rfl rfl dX11_change_17 ?_
      refine Wp.icmp_ne (pc := 18) 23 dX11_change_18 (by decide) (fun hc7 => ?_) (fun hc7 => ?_)
      · rw [if_neg hc7] at hf
        refine Wp.aload_n (pc := 23) 0 rfl rfl dX11_change_23 ?_
        refine Wp.getR2 (pc := 24) (hG.r 0 6 rfl) (hG.t 0 rfl) fk_RX11_44 rfl dX11_change_24 ?_
        refine Wp.iload_n (pc := 27) 1 rfl rfl dX11_change_27 ?_
        refine Wp.iload_n (pc := 28) 2 rfl rfl dX11_change_28 ?_
        obtain ⟨c8, h9, hf⟩ := bnd hf
        refine Wp.callVv (pc := 29) (st := []) (as := [.int x1, .int x2]) (c_X1_exchange hG cw28 h9) ml_RX11_200 mv_X1_exchange mb_X1_exchange hX (Nat.le_of_ble_eq_true rfl) (by decide) rfl (hG.wt cw28) rfl (by simp) dX11_change_29 rfl ?_
        refine Wp.iconst (pc := 32) (1 : Int32) (by decide) dX11_change_32 ?_
        cases hf
        exact hk _ _ (Or.inr rfl) dX11_change_33
      · rw [if_pos hc7] at hf
        refine Wp.lo' (lo' := []) [] rfl ?_
        exact w_X11_change_21 hX hG hf hk
theorem c_X11_change {T : List Dsc} {R : RM} {c e : Nat} {x1 : Int32} {x2 : Int32} {m : M2} {r : (Int32 × M2)} (hG : Geo T R c e) (hf : F_X11_change c x1 x2 m = some r) : Ct 3 yX11_change cX11_change 3 (some .boolean) T (mk m R) [.ref 0, .int x1, .int x2] (some (.int r.1)) (mk r.2 R) := Ct.ofZ (r := (r.1, mk r.2 R)) (by decide +kernel) (Nat.le_of_ble_eq_true rfl) (fun X hX hk => w_X11_change hX hG hf hk)
theorem dX11_teach_0 : decode cX11_teach 0 = .ok (.aload_n 0, 1) := by decide +kernel
theorem dX11_teach_1 : decode cX11_teach 1 = .ok (.iload_n 1, 1) := by decide +kernel
theorem dX11_teach_2 : decode cX11_teach 2 = .ok (.invokevirtual 121, 3) := by decide +kernel
theorem dX11_teach_5 : decode cX11_teach 5 = .ok (.ifCond .eq 18, 3) := by decide +kernel
theorem dX11_teach_8 : decode cX11_teach 8 = .ok (.iload_n 2, 1) := by decide +kernel
theorem dX11_teach_9 : decode cX11_teach 9 = .ok (.ifCond .lt 14, 3) := by decide +kernel
theorem dX11_teach_12 : decode cX11_teach 12 = .ok (.iload_n 2, 1) := by decide +kernel
theorem dX11_teach_13 : decode cX11_teach 13 = .ok (.aload_n 0, 1) := by decide +kernel
theorem dX11_teach_14 : decode cX11_teach 14 = .ok (.getfield 16, 3) := by decide +kernel
theorem dX11_teach_17 : decode cX11_teach 17 = .ok (.getfield 204, 3) := by decide +kernel
theorem dX11_teach_20 : decode cX11_teach 20 = .ok (.if_icmp .lt 5, 3) := by decide +kernel
theorem dX11_teach_23 : decode cX11_teach 23 = .ok (.iconst 0, 1) := by decide +kernel
theorem dX11_teach_24 : decode cX11_teach 24 = .ok (.ireturn, 1) := by decide +kernel
theorem dX11_teach_25 : decode cX11_teach 25 = .ok (.aload_n 0, 1) := by decide +kernel
theorem dX11_teach_26 : decode cX11_teach 26 = .ok (.getfield 44, 3) := by decide +kernel
theorem dX11_teach_29 : decode cX11_teach 29 = .ok (.getfield 137, 3) := by decide +kernel
theorem dX11_teach_32 : decode cX11_teach 32 = .ok (.iload_n 1, 1) := by decide +kernel
theorem dX11_teach_33 : decode cX11_teach 33 = .ok (.iload_n 2, 1) := by decide +kernel
theorem dX11_teach_34 : decode cX11_teach 34 = .ok (.iastore, 1) := by decide +kernel
theorem dX11_teach_35 : decode cX11_teach 35 = .ok (.iconst 1, 1) := by decide +kernel
theorem dX11_teach_36 : decode cX11_teach 36 = .ok (.ireturn, 1) := by decide +kernel
set_option maxHeartbeats 4000000 in
set_option maxRecDepth 100000 in
theorem w_X11_teach_23 {X : CX} {T : List Dsc} {R : RM} {c e : Nat} {n1 n2 : Nat} {m : M2} {r : (Int32 × M2)} (hX : XR X 2 n1 n2) (hG : Geo T R c e) (hf : f_X11_teach_23 c m = some r) (hk : FnZ X cX11_teach RX11 3 T n1 n2 (r.1, mk r.2 R)) : Wp X cX11_teach RX11 3 T (mk m R) n1 n2 23 [] [] := by
  unfold f_X11_teach_23 at hf
  refine Wp.iconst (pc := 23) (0 : Int32) (by decide) dX11_teach_23 ?_
  cases hf
  exact hk _ _ (Or.inl rfl) dX11_teach_24
set_option maxHeartbeats 4000000 in
set_option maxRecDepth 100000 in
theorem w_X11_teach {X : CX} {T : List Dsc} {R : RM} {c e : Nat} {n1 n2 : Nat} {x1 : Int32} {x2 : Int32} {m : M2} {r : (Int32 × M2)} (hX : XR X 2 n1 n2) (hG : Geo T R c e) (hf : F_X11_teach c x1 x2 m = some r) (hk : FnZ X cX11_teach RX11 3 T n1 n2 (r.1, mk r.2 R)) : Wp X cX11_teach RX11 3 T (mk m R) n1 n2 0 [(0, .ref 0), (1, .int x1), (2, .int x2)] [] := by
  unfold F_X11_teach at hf
  refine Wp.aload_n (pc := 0) 0 rfl rfl dX11_teach_0 ?_
  refine Wp.iload_n (pc := 1) 1 rfl rfl dX11_teach_1 ?_
  obtain ⟨c1, h2, hf⟩ := bnd hf
  refine Wp.callVi (pc := 2) (st := []) (as := [.int x1]) (c_X11_isBench hG h2) ml_RX11_121 mv_X11_isBench mb_X11_isBench hX (Nat.le_of_ble_eq_true rfl) (by decide) rfl (hG.t 0 rfl) rfl (by simp) dX11_teach_2 rfl ?_
  refine Wp.if_eq (pc := 5) 23 dX11_teach_5 (by decide) (fun hc3 => ?_) (fun hc3 => ?_)
  · rw [if_pos hc3] at hf
    refine Wp.lo' (lo' := []) [] rfl ?_
    exact w_X11_teach_23 hX hG hf hk
  · rw [if_neg hc3] at hf
    refine Wp.iload_n (pc := 8) 2 rfl rfl dX11_teach_8 ?_
    refine Wp.if_lt (pc := 9) 23 dX11_teach_9 (by decide) (fun hc4 => ?_) (fun hc4 => ?_)
    · rw [if_pos hc4] at hf
      refine Wp.lo' (lo' := []) [] rfl ?_
      exact w_X11_teach_23 hX hG hf hk
    · rw [if_neg hc4] at hf
      refine Wp.iload_n (pc := 12) 2 rfl rfl dX11_teach_12 ?_
      refine Wp.aload_n (pc := 13) 0 rfl rfl dX11_teach_13 ?_
      refine Wp.getR2 (pc := 14) hG.r0 (hG.t 0 rfl) fk_RX11_16 rfl dX11_teach_14 ?_
      refine Wp.getI2 (pc := 17) (hG.tt hG.hc) fk_RX11_204 rfl dX11_teach_17 ?_
      refine Wp.icmp_lt (pc := 20) 25 dX11_teach_20 (by decide) (fun hc5 => ?_) (fun hc5 => ?_)
      · rw [if_pos hc5] at hf
        refine Wp.aload_n (pc := 25) 0 rfl rfl dX11_teach_25 ?_
        refine Wp.getR2 (pc := 26) (hG.r 0 6 rfl) (hG.t 0 rfl) fk_RX11_44 rfl dX11_teach_26 ?_
        refine Wp.getR2 (pc := 29) (hG.wr cw28 2 (Or.inr rfl)) (hG.wt cw28) fk_RX11_137 rfl dX11_teach_29 ?_
        refine Wp.iload_n (pc := 32) 1 rfl rfl dX11_teach_32 ?_
        refine Wp.iload_n (pc := 33) 2 rfl rfl dX11_teach_33 ?_
        obtain ⟨m6, h7, hf⟩ := bnd hf
        refine Wp.iast2 (pc := 34) h7 (hG.wa cw28 2 (Or.inr rfl)) dX11_teach_34 ?_
        refine Wp.iconst (pc := 35) (1 : Int32) (by decide) dX11_teach_35 ?_
        cases hf
        exact hk _ _ (Or.inr rfl) dX11_teach_36
      · rw [if_neg hc5] at hf
        refine Wp.lo' (lo' := []) [] rfl ?_
        exact w_X11_teach_23 hX hG hf hk
theorem c_X11_teach {T : List Dsc} {R : RM} {c e : Nat} {x1 : Int32} {x2 : Int32} {m : M2} {r : (Int32 × M2)} (hG : Geo T R c e) (hf : F_X11_teach c x1 x2 m = some r) : Ct 2 yX11_teach cX11_teach 3 (some .boolean) T (mk m R) [.ref 0, .int x1, .int x2] (some (.int r.1)) (mk r.2 R) := Ct.ofZ (r := (r.1, mk r.2 R)) (by decide +kernel) (Nat.le_of_ble_eq_true rfl) (fun X hX hk => w_X11_teach hX hG hf hk)
theorem dX11_set_0 : decode cX11_set 0 = .ok (.aload_n 0, 1) := by decide +kernel
theorem dX11_set_1 : decode cX11_set 1 = .ok (.iload_n 1, 1) := by decide +kernel
theorem dX11_set_2 : decode cX11_set 2 = .ok (.invokevirtual 121, 3) := by decide +kernel
theorem dX11_set_5 : decode cX11_set 5 = .ok (.ifCond .eq 18, 3) := by decide +kernel
theorem dX11_set_8 : decode cX11_set 8 = .ok (.iload_n 2, 1) := by decide +kernel
theorem dX11_set_9 : decode cX11_set 9 = .ok (.ifCond .lt 14, 3) := by decide +kernel
theorem dX11_set_12 : decode cX11_set 12 = .ok (.iload_n 2, 1) := by decide +kernel
theorem dX11_set_13 : decode cX11_set 13 = .ok (.aload_n 0, 1) := by decide +kernel
theorem dX11_set_14 : decode cX11_set 14 = .ok (.getfield 16, 3) := by decide +kernel
theorem dX11_set_17 : decode cX11_set 17 = .ok (.getfield 206, 3) := by decide +kernel
theorem dX11_set_20 : decode cX11_set 20 = .ok (.if_icmp .lt 5, 3) := by decide +kernel
theorem dX11_set_23 : decode cX11_set 23 = .ok (.iconst 0, 1) := by decide +kernel
theorem dX11_set_24 : decode cX11_set 24 = .ok (.ireturn, 1) := by decide +kernel
theorem dX11_set_25 : decode cX11_set 25 = .ok (.aload_n 0, 1) := by decide +kernel
theorem dX11_set_26 : decode cX11_set 26 = .ok (.getfield 44, 3) := by decide +kernel
theorem dX11_set_29 : decode cX11_set 29 = .ok (.aload_n 0, 1) := by decide +kernel
theorem dX11_set_30 : decode cX11_set 30 = .ok (.getfield 44, 3) := by decide +kernel
theorem dX11_set_33 : decode cX11_set 33 = .ok (.getfield 125, 3) := by decide +kernel
theorem dX11_set_36 : decode cX11_set 36 = .ok (.iload_n 1, 1) := by decide +kernel
theorem dX11_set_37 : decode cX11_set 37 = .ok (.iload_n 2, 1) := by decide +kernel
theorem dX11_set_38 : decode cX11_set 38 = .ok (.invokestatic 209, 3) := by decide +kernel
theorem dX11_set_41 : decode cX11_set 41 = .ok (.putfield 125, 3) := by decide +kernel
theorem dX11_set_44 : decode cX11_set 44 = .ok (.iconst 1, 1) := by decide +kernel
theorem dX11_set_45 : decode cX11_set 45 = .ok (.ireturn, 1) := by decide +kernel
set_option maxHeartbeats 4000000 in
set_option maxRecDepth 100000 in
theorem w_X11_set_23 {X : CX} {T : List Dsc} {R : RM} {c e : Nat} {n1 n2 : Nat} {m : M2} {r : (Int32 × M2)} (hX : XR X 2 n1 n2) (hG : Geo T R c e) (hf : f_X11_set_23 c m = some r) (hk : FnZ X cX11_set RX11 3 T n1 n2 (r.1, mk r.2 R)) : Wp X cX11_set RX11 3 T (mk m R) n1 n2 23 [] [] := by
  unfold f_X11_set_23 at hf
  refine Wp.iconst (pc := 23) (0 : Int32) (by decide) dX11_set_23 ?_
  cases hf
  exact hk _ _ (Or.inl rfl) dX11_set_24
set_option maxHeartbeats 4000000 in
set_option maxRecDepth 100000 in
theorem w_X11_set {X : CX} {T : List Dsc} {R : RM} {c e : Nat} {n1 n2 : Nat} {x1 : Int32} {x2 : Int32} {m : M2} {r : (Int32 × M2)} (hX : XR X 2 n1 n2) (hG : Geo T R c e) (hf : F_X11_set c x1 x2 m = some r) (hk : FnZ X cX11_set RX11 3 T n1 n2 (r.1, mk r.2 R)) : Wp X cX11_set RX11 3 T (mk m R) n1 n2 0 [(0, .ref 0), (1, .int x1), (2, .int x2)] [] := by
  unfold F_X11_set at hf
  refine Wp.aload_n (pc := 0) 0 rfl rfl dX11_set_0 ?_
  refine Wp.iload_n (pc := 1) 1 rfl rfl dX11_set_1 ?_
  obtain ⟨c1, h2, hf⟩ := bnd hf
  refine Wp.callVi (pc := 2) (st := []) (as := [.int x1]) (c_X11_isBench hG h2) ml_RX11_121 mv_X11_isBench mb_X11_isBench hX (Nat.le_of_ble_eq_true rfl) (by decide) rfl (hG.t 0 rfl) rfl (by simp) dX11_set_2 rfl ?_
  refine Wp.if_eq (pc := 5) 23 dX11_set_5 (by decide) (fun hc3 => ?_) (fun hc3 => ?_)
  · rw [if_pos hc3] at hf
    refine Wp.lo' (lo' := []) [] rfl ?_
    exact w_X11_set_23 hX hG hf hk
  · rw [if_neg hc3] at hf
    refine Wp.iload_n (pc := 8) 2 rfl rfl dX11_set_8 ?_
    refine Wp.if_lt (pc := 9) 23 dX11_set_9 (by decide) (fun hc4 => ?_) (fun hc4 => ?_)
    · rw [if_pos hc4] at hf
      refine Wp.lo' (lo' := []) [] rfl ?_
      exact w_X11_set_23 hX hG hf hk
    · rw [if_neg hc4] at hf
      refine Wp.iload_n (pc := 12) 2 rfl rfl dX11_set_12 ?_
      refine Wp.aload_n (pc := 13) 0 rfl rfl dX11_set_13 ?_
      refine Wp.getR2 (pc := 14) hG.r0 (hG.t 0 rfl) fk_RX11_16 rfl dX11_set_14 ?_
      refine Wp.getI2 (pc := 17) (hG.tt hG.hc) fk_RX11_206 rfl dX11_set_17 ?_
      refine Wp.icmp_lt (pc := 20) 25 dX11_set_20 (by decide) (fun hc5 => ?_) (fun hc5 => ?_)
      · rw [if_pos hc5] at hf
        refine Wp.aload_n (pc := 25) 0 rfl rfl dX11_set_25 ?_
        refine Wp.getR2 (pc := 26) (hG.r 0 6 rfl) (hG.t 0 rfl) fk_RX11_44 rfl dX11_set_26 ?_
        refine Wp.aload_n (pc := 29) 0 rfl rfl dX11_set_29 ?_
        refine Wp.getR2 (pc := 30) (hG.r 0 6 rfl) (hG.t 0 rfl) fk_RX11_44 rfl dX11_set_30 ?_
        refine Wp.getJ2 (pc := 33) (hG.wt cw28) fk_RX11_125 rfl dX11_set_33 ?_
        refine Wp.iload_n (pc := 36) 1 rfl rfl dX11_set_36 ?_
        refine Wp.iload_n (pc := 37) 2 rfl rfl dX11_set_37 ?_
        obtain ⟨c6, h7, hf⟩ := bnd hf
        refine Wp.callSl (pc := 38) (st := [.ref 28]) (as := [.long (hJ c1.2 28 0), .int x1, .int x2]) (c_X11_withTime hG h7) ml_RX11_209 ms_X11_withTime mb_X11_withTime hX (Nat.le_of_ble_eq_true rfl) (by decide) rfl (by simp [Value.category]) dX11_set_38 rfl ?_
        obtain ⟨m8, h9, hf⟩ := bnd hf
        refine Wp.ptJ2 (pc := 41) h9 (hG.wt cw28) fk_RX11_125 ff_RX11_1_0 rfl dX11_set_41 ?_
        refine Wp.iconst (pc := 44) (1 : Int32) (by decide) dX11_set_44 ?_
        cases hf
        exact hk _ _ (Or.inr rfl) dX11_set_45
      · rw [if_neg hc5] at hf
        refine Wp.lo' (lo' := []) [] rfl ?_
        exact w_X11_set_23 hX hG hf hk
theorem c_X11_set {T : List Dsc} {R : RM} {c e : Nat} {x1 : Int32} {x2 : Int32} {m : M2} {r : (Int32 × M2)} (hG : Geo T R c e) (hf : F_X11_set c x1 x2 m = some r) : Ct 2 yX11_set cX11_set 3 (some .boolean) T (mk m R) [.ref 0, .int x1, .int x2] (some (.int r.1)) (mk r.2 R) := Ct.ofZ (r := (r.1, mk r.2 R)) (by decide +kernel) (Nat.le_of_ble_eq_true rfl) (fun X hX hk => w_X11_set hX hG hf hk)
theorem dX11_beat_0 : decode cX11_beat 0 = .ok (.iload_n 1, 1) := by decide +kernel
theorem dX11_beat_1 : decode cX11_beat 1 = .ok (.ifCond .lt 14, 3) := by decide +kernel
theorem dX11_beat_4 : decode cX11_beat 4 = .ok (.iload_n 1, 1) := by decide +kernel
theorem dX11_beat_5 : decode cX11_beat 5 = .ok (.aload_n 0, 1) := by decide +kernel
theorem dX11_beat_6 : decode cX11_beat 6 = .ok (.getfield 16, 3) := by decide +kernel
theorem dX11_beat_9 : decode cX11_beat 9 = .ok (.getfield 206, 3) := by decide +kernel
theorem dX11_beat_12 : decode cX11_beat 12 = .ok (.if_icmp .lt 5, 3) := by decide +kernel
theorem dX11_beat_15 : decode cX11_beat 15 = .ok (.iconst 0, 1) := by decide +kernel
theorem dX11_beat_16 : decode cX11_beat 16 = .ok (.ireturn, 1) := by decide +kernel
theorem dX11_beat_17 : decode cX11_beat 17 = .ok (.aload_n 0, 1) := by decide +kernel
theorem dX11_beat_18 : decode cX11_beat 18 = .ok (.getfield 44, 3) := by decide +kernel
theorem dX11_beat_21 : decode cX11_beat 21 = .ok (.iload_n 1, 1) := by decide +kernel
theorem dX11_beat_22 : decode cX11_beat 22 = .ok (.putfield 140, 3) := by decide +kernel
theorem dX11_beat_25 : decode cX11_beat 25 = .ok (.iconst 1, 1) := by decide +kernel
theorem dX11_beat_26 : decode cX11_beat 26 = .ok (.ireturn, 1) := by decide +kernel
set_option maxHeartbeats 4000000 in
set_option maxRecDepth 100000 in
theorem w_X11_beat_15 {X : CX} {T : List Dsc} {R : RM} {c e : Nat} {n1 n2 : Nat} {m : M2} {r : (Int32 × M2)} (hX : XR X 1 n1 n2) (hG : Geo T R c e) (hf : f_X11_beat_15 c m = some r) (hk : FnZ X cX11_beat RX11 2 T n1 n2 (r.1, mk r.2 R)) : Wp X cX11_beat RX11 2 T (mk m R) n1 n2 15 [] [] := by
  unfold f_X11_beat_15 at hf
  refine Wp.iconst (pc := 15) (0 : Int32) (by decide) dX11_beat_15 ?_
  cases hf
  exact hk _ _ (Or.inl rfl) dX11_beat_16
set_option maxHeartbeats 4000000 in
set_option maxRecDepth 100000 in
theorem w_X11_beat {X : CX} {T : List Dsc} {R : RM} {c e : Nat} {n1 n2 : Nat} {x1 : Int32} {m : M2} {r : (Int32 × M2)} (hX : XR X 1 n1 n2) (hG : Geo T R c e) (hf : F_X11_beat c x1 m = some r) (hk : FnZ X cX11_beat RX11 2 T n1 n2 (r.1, mk r.2 R)) : Wp X cX11_beat RX11 2 T (mk m R) n1 n2 0 [(0, .ref 0), (1, .int x1)] [] := by
  unfold F_X11_beat at hf
  refine Wp.iload_n (pc := 0) 1 rfl rfl dX11_beat_0 ?_
  refine Wp.if_lt (pc := 1) 15 dX11_beat_1 (by decide) (fun hc1 => ?_) (fun hc1 => ?_)
  · rw [if_pos hc1] at hf
    refine Wp.lo' (lo' := []) [] rfl ?_
    exact w_X11_beat_15 hX hG hf hk
  · rw [if_neg hc1] at hf
    refine Wp.iload_n (pc := 4) 1 rfl rfl dX11_beat_4 ?_
    refine Wp.aload_n (pc := 5) 0 rfl rfl dX11_beat_5 ?_
    refine Wp.getR2 (pc := 6) hG.r0 (hG.t 0 rfl) fk_RX11_16 rfl dX11_beat_6 ?_
    refine Wp.getI2 (pc := 9) (hG.tt hG.hc) fk_RX11_206 rfl dX11_beat_9 ?_
    refine Wp.icmp_lt (pc := 12) 17 dX11_beat_12 (by decide) (fun hc2 => ?_) (fun hc2 => ?_)
    · rw [if_pos hc2] at hf
      refine Wp.aload_n (pc := 17) 0 rfl rfl dX11_beat_17 ?_
      refine Wp.getR2 (pc := 18) (hG.r 0 6 rfl) (hG.t 0 rfl) fk_RX11_44 rfl dX11_beat_18 ?_
      refine Wp.iload_n (pc := 21) 1 rfl rfl dX11_beat_21 ?_
      obtain ⟨m3, h4, hf⟩ := bnd hf
      refine Wp.ptI2 (pc := 22) h4 (hG.wt cw28) fk_RX11_140 ff_RX11_1_3 rfl dX11_beat_22 ?_
      refine Wp.iconst (pc := 25) (1 : Int32) (by decide) dX11_beat_25 ?_
      cases hf
      exact hk _ _ (Or.inr rfl) dX11_beat_26
    · rw [if_neg hc2] at hf
      refine Wp.lo' (lo' := []) [] rfl ?_
      exact w_X11_beat_15 hX hG hf hk
theorem c_X11_beat {T : List Dsc} {R : RM} {c e : Nat} {x1 : Int32} {m : M2} {r : (Int32 × M2)} (hG : Geo T R c e) (hf : F_X11_beat c x1 m = some r) : Ct 1 yX11_beat cX11_beat 2 (some .boolean) T (mk m R) [.ref 0, .int x1] (some (.int r.1)) (mk r.2 R) := Ct.ofZ (r := (r.1, mk r.2 R)) (by decide +kernel) (Nat.le_of_ble_eq_true rfl) (fun X hX hk => w_X11_beat hX hG hf hk)
theorem dX11_seating_0 : decode cX11_seating 0 = .ok (.iload_n 1, 1) := by decide +kernel
theorem dX11_seating_1 : decode cX11_seating 1 = .ok (.iload_n 2, 1) := by decide +kernel
theorem dX11_seating_2 : decode cX11_seating 2 = .ok (.invokestatic 213, 3) := by decide +kernel
theorem dX11_seating_5 : decode cX11_seating 5 = .ok (.ifCond .eq 13, 3) := by decide +kernel
theorem dX11_seating_8 : decode cX11_seating 8 = .ok (.aload_n 0, 1) := by decide +kernel
theorem dX11_seating_9 : decode cX11_seating 9 = .ok (.getfield 16, 3) := by decide +kernel
theorem dX11_seating_12 : decode cX11_seating 12 = .ok (.getfield 153, 3) := by decide +kernel
theorem dX11_seating_15 : decode cX11_seating 15 = .ok (.ifCond .ne 5, 3) := by decide +kernel
theorem dX11_seating_18 : decode cX11_seating 18 = .ok (.iconst (-1), 1) := by decide +kernel
theorem dX11_seating_19 : decode cX11_seating 19 = .ok (.ireturn, 1) := by decide +kernel
theorem dX11_seating_20 : decode cX11_seating 20 = .ok (.aload_n 0, 1) := by decide +kernel
theorem dX11_seating_21 : decode cX11_seating 21 = .ok (.getfield 16, 3) := by decide +kernel
theorem dX11_seating_24 : decode cX11_seating 24 = .ok (.getfield 153, 3) := by decide +kernel
theorem dX11_seating_27 : decode cX11_seating 27 = .ok (.bipush 6, 2) := by decide +kernel
theorem dX11_seating_29 : decode cX11_seating 29 = .ok (.if_icmp .le 6, 3) := by decide +kernel
theorem dX11_seating_32 : decode cX11_seating 32 = .ok (.bipush (-2), 2) := by decide +kernel
theorem dX11_seating_34 : decode cX11_seating 34 = .ok (.ireturn, 1) := by decide +kernel
theorem dX11_seating_35 : decode cX11_seating 35 = .ok (.aload_n 0, 1) := by decide +kernel
theorem dX11_seating_36 : decode cX11_seating 36 = .ok (.getfield 64, 3) := by decide +kernel
theorem dX11_seating_39 : decode cX11_seating 39 = .ok (.aload_n 0, 1) := by decide +kernel
theorem dX11_seating_40 : decode cX11_seating 40 = .ok (.getfield 44, 3) := by decide +kernel
theorem dX11_seating_43 : decode cX11_seating 43 = .ok (.iload_n 1, 1) := by decide +kernel
theorem dX11_seating_44 : decode cX11_seating 44 = .ok (.iload_n 2, 1) := by decide +kernel
theorem dX11_seating_45 : decode cX11_seating 45 = .ok (.invokevirtual 217, 3) := by decide +kernel
theorem dX11_seating_48 : decode cX11_seating 48 = .ok (.ireturn, 1) := by decide +kernel
set_option maxHeartbeats 4000000 in
set_option maxRecDepth 100000 in
theorem w_X11_seating_18 {X : CX} {T : List Dsc} {R : RM} {c e : Nat} {n1 n2 : Nat} {m : M2} {r : (Int32 × M2)} (hX : XR X 8 n1 n2) (hG : Geo T R c e) (hf : f_X11_seating_18 c m = some r) (hk : FnI X cX11_seating RX11 3 T n1 n2 (r.1, mk r.2 R)) : Wp X cX11_seating RX11 3 T (mk m R) n1 n2 18 [] [] := by
  unfold f_X11_seating_18 at hf
  refine Wp.iconst (pc := 18) (-1 : Int32) (by decide) dX11_seating_18 ?_
  cases hf
  exact hk _ _ dX11_seating_19
set_option maxHeartbeats 4000000 in
set_option maxRecDepth 100000 in
theorem w_X11_seating {X : CX} {T : List Dsc} {R : RM} {c e : Nat} {n1 n2 : Nat} {x1 : Int32} {x2 : Int32} {m : M2} {r : (Int32 × M2)} (hX : XR X 8 n1 n2) (hG : Geo T R c e) (hf : F_X11_seating c x1 x2 m = some r) (hk : FnI X cX11_seating RX11 3 T n1 n2 (r.1, mk r.2 R)) : Wp X cX11_seating RX11 3 T (mk m R) n1 n2 0 [(0, .ref 0), (1, .int x1), (2, .int x2)] [] := by
  unfold F_X11_seating at hf
  refine Wp.iload_n (pc := 0) 1 rfl rfl dX11_seating_0 ?_
  refine Wp.iload_n (pc := 1) 2 rfl rfl dX11_seating_1 ?_
  obtain ⟨c1, h2, hf⟩ := bnd hf
  refine Wp.callSi (pc := 2) (st := []) (as := [.int x1, .int x2]) (c_X6_isAim hG h2) ml_RX11_213 ms_X6_isAim mb_X6_isAim hX (Nat.le_of_ble_eq_true rfl) (by decide) rfl (by simp) dX11_seating_2 rfl ?_
  refine Wp.if_eq (pc := 5) 18 dX11_seating_5 (by decide) (fun hc3 => ?_) (fun hc3 => ?_)
  · rw [if_pos hc3] at hf
    refine Wp.lo' (lo' := []) [] rfl ?_
    exact w_X11_seating_18 hX hG hf hk
  · rw [if_neg hc3] at hf
    refine Wp.aload_n (pc := 8) 0 rfl rfl dX11_seating_8 ?_
    refine Wp.getR2 (pc := 9) hG.r0 (hG.t 0 rfl) fk_RX11_16 rfl dX11_seating_9 ?_
    refine Wp.getI2 (pc := 12) (hG.tt hG.hc) fk_RX11_153 rfl dX11_seating_12 ?_
    refine Wp.if_ne (pc := 15) 20 dX11_seating_15 (by decide) (fun hc4 => ?_) (fun hc4 => ?_)
    · rw [if_neg hc4] at hf
      refine Wp.aload_n (pc := 20) 0 rfl rfl dX11_seating_20 ?_
      refine Wp.getR2 (pc := 21) hG.r0 (hG.t 0 rfl) fk_RX11_16 rfl dX11_seating_21 ?_
      refine Wp.getI2 (pc := 24) (hG.tt hG.hc) fk_RX11_153 rfl dX11_seating_24 ?_
      refine Wp.bipush (pc := 27) (6 : Int32) (by decide) dX11_seating_27 ?_
      refine Wp.icmp_le (pc := 29) 35 dX11_seating_29 (by decide) (fun hc5 => ?_) (fun hc5 => ?_)
      · rw [if_pos hc5] at hf
        refine Wp.aload_n (pc := 35) 0 rfl rfl dX11_seating_35 ?_
        refine Wp.getR2 (pc := 36) (hG.r 0 9 rfl) (hG.t 0 rfl) fk_RX11_64 rfl dX11_seating_36 ?_
        refine Wp.aload_n (pc := 39) 0 rfl rfl dX11_seating_39 ?_
        refine Wp.getR2 (pc := 40) (hG.r 0 6 rfl) (hG.t 0 rfl) fk_RX11_44 rfl dX11_seating_40 ?_
        refine Wp.iload_n (pc := 43) 1 rfl rfl dX11_seating_43 ?_
        refine Wp.iload_n (pc := 44) 2 rfl rfl dX11_seating_44 ?_
        obtain ⟨c6, h7, hf⟩ := bnd hf
        refine Wp.callVi (pc := 45) (st := []) (as := [.ref 28, .int x1, .int x2]) (c_X6_bestOrder hG cw28 h7) ml_RX11_217 mv_X6_bestOrder mb_X6_bestOrder hX (Nat.le_of_ble_eq_true rfl) (by decide) rfl (hG.t 34 rfl) rfl (by simp) dX11_seating_45 rfl ?_
        cases hf
        exact hk _ _ dX11_seating_48
      · rw [if_neg hc5] at hf
        refine Wp.bipush (pc := 32) (-2 : Int32) (by decide) dX11_seating_32 ?_
        cases hf
        exact hk _ _ dX11_seating_34
    · rw [if_pos hc4] at hf
      refine Wp.lo' (lo' := []) [] rfl ?_
      exact w_X11_seating_18 hX hG hf hk
theorem c_X11_seating {T : List Dsc} {R : RM} {c e : Nat} {x1 : Int32} {x2 : Int32} {m : M2} {r : (Int32 × M2)} (hG : Geo T R c e) (hf : F_X11_seating c x1 x2 m = some r) : Ct 8 yX11_seating cX11_seating 3 (some .int) T (mk m R) [.ref 0, .int x1, .int x2] (some (.int r.1)) (mk r.2 R) := Ct.ofI (r := (r.1, mk r.2 R)) (by decide +kernel) (Nat.le_of_ble_eq_true rfl) (fun X hX hk => w_X11_seating hX hG hf hk)
