theorem dX12_isStill_0 : decode cX12_isStill 0 = .ok (.iconst 0, 1) := by decide +kernel
theorem dX12_isStill_1 : decode cX12_isStill 1 = .ok (.istore_n 1, 1) := by decide +kernel
theorem dX12_isStill_2 : decode cX12_isStill 2 = .ok (.iload_n 1, 1) := by decide +kernel
theorem dX12_isStill_3 : decode cX12_isStill 3 = .ok (.aload_n 0, 1) := by decide +kernel
theorem dX12_isStill_4 : decode cX12_isStill 4 = .ok (.getfield 399, 3) := by decide +kernel
theorem dX12_isStill_7 : decode cX12_isStill 7 = .ok (.if_icmp .ge 21, 3) := by decide +kernel
theorem dX12_isStill_10 : decode cX12_isStill 10 = .ok (.aload_n 0, 1) := by decide +kernel
theorem dX12_isStill_11 : decode cX12_isStill 11 = .ok (.getfield 158, 3) := by decide +kernel
theorem dX12_isStill_14 : decode cX12_isStill 14 = .ok (.iload_n 1, 1) := by decide +kernel
theorem dX12_isStill_15 : decode cX12_isStill 15 = .ok (.aload_n 0, 1) := by decide +kernel
theorem dX12_isStill_16 : decode cX12_isStill 16 = .ok (.getfield 140, 3) := by decide +kernel
theorem dX12_isStill_19 : decode cX12_isStill 19 = .ok (.iload_n 1, 1) := by decide +kernel
theorem dX12_isStill_20 : decode cX12_isStill 20 = .ok (.iaload, 1) := by decide +kernel
theorem dX12_isStill_21 : decode cX12_isStill 21 = .ok (.iastore, 1) := by decide +kernel
theorem dX12_isStill_22 : decode cX12_isStill 22 = .ok (.iinc 1 1, 3) := by decide +kernel
theorem dX12_isStill_25 : decode cX12_isStill 25 = .ok (.goto (-23), 3) := by decide +kernel
theorem dX12_isStill_28 : decode cX12_isStill 28 = .ok (.aload_n 0, 1) := by decide +kernel
theorem dX12_isStill_29 : decode cX12_isStill 29 = .ok (.iconst 0, 1) := by decide +kernel
theorem dX12_isStill_30 : decode cX12_isStill 30 = .ok (.invokevirtual 450, 3) := by decide +kernel
theorem dX12_isStill_33 : decode cX12_isStill 33 = .ok (.iconst 1, 1) := by decide +kernel
theorem dX12_isStill_34 : decode cX12_isStill 34 = .ok (.istore_n 1, 1) := by decide +kernel
theorem dX12_isStill_35 : decode cX12_isStill 35 = .ok (.iconst 0, 1) := by decide +kernel
theorem dX12_isStill_36 : decode cX12_isStill 36 = .ok (.istore_n 2, 1) := by decide +kernel
theorem dX12_isStill_37 : decode cX12_isStill 37 = .ok (.iload_n 2, 1) := by decide +kernel
theorem dX12_isStill_38 : decode cX12_isStill 38 = .ok (.aload_n 0, 1) := by decide +kernel
theorem dX12_isStill_39 : decode cX12_isStill 39 = .ok (.getfield 399, 3) := by decide +kernel
theorem dX12_isStill_42 : decode cX12_isStill 42 = .ok (.if_icmp .ge 46, 3) := by decide +kernel
theorem dX12_isStill_45 : decode cX12_isStill 45 = .ok (.iload_n 1, 1) := by decide +kernel
theorem dX12_isStill_46 : decode cX12_isStill 46 = .ok (.ifCond .eq 22, 3) := by decide +kernel
theorem dX12_isStill_49 : decode cX12_isStill 49 = .ok (.aload_n 0, 1) := by decide +kernel
theorem dX12_isStill_50 : decode cX12_isStill 50 = .ok (.getfield 140, 3) := by decide +kernel
theorem dX12_isStill_53 : decode cX12_isStill 53 = .ok (.iload_n 2, 1) := by decide +kernel
theorem dX12_isStill_54 : decode cX12_isStill 54 = .ok (.iaload, 1) := by decide +kernel
theorem dX12_isStill_55 : decode cX12_isStill 55 = .ok (.aload_n 0, 1) := by decide +kernel
theorem dX12_isStill_56 : decode cX12_isStill 56 = .ok (.getfield 158, 3) := by decide +kernel
theorem dX12_isStill_59 : decode cX12_isStill 59 = .ok (.iload_n 2, 1) := by decide +kernel
theorem dX12_isStill_60 : decode cX12_isStill 60 = .ok (.iaload, 1) := by decide +kernel
theorem dX12_isStill_61 : decode cX12_isStill 61 = .ok (.if_icmp .ne 7, 3) := by decide +kernel
theorem dX12_isStill_64 : decode cX12_isStill 64 = .ok (.iconst 1, 1) := by decide +kernel
theorem dX12_isStill_65 : decode cX12_isStill 65 = .ok (.goto 4, 3) := by decide +kernel
theorem dX12_isStill_68 : decode cX12_isStill 68 = .ok (.iconst 0, 1) := by decide +kernel
theorem dX12_isStill_69 : decode cX12_isStill 69 = .ok (.istore_n 1, 1) := by decide +kernel
theorem dX12_isStill_70 : decode cX12_isStill 70 = .ok (.aload_n 0, 1) := by decide +kernel
theorem dX12_isStill_71 : decode cX12_isStill 71 = .ok (.getfield 140, 3) := by decide +kernel
theorem dX12_isStill_74 : decode cX12_isStill 74 = .ok (.iload_n 2, 1) := by decide +kernel
theorem dX12_isStill_75 : decode cX12_isStill 75 = .ok (.aload_n 0, 1) := by decide +kernel
theorem dX12_isStill_76 : decode cX12_isStill 76 = .ok (.getfield 158, 3) := by decide +kernel
theorem dX12_isStill_79 : decode cX12_isStill 79 = .ok (.iload_n 2, 1) := by decide +kernel
theorem dX12_isStill_80 : decode cX12_isStill 80 = .ok (.iaload, 1) := by decide +kernel
theorem dX12_isStill_81 : decode cX12_isStill 81 = .ok (.iastore, 1) := by decide +kernel
theorem dX12_isStill_82 : decode cX12_isStill 82 = .ok (.iinc 2 1, 3) := by decide +kernel
theorem dX12_isStill_85 : decode cX12_isStill 85 = .ok (.goto (-48), 3) := by decide +kernel
theorem dX12_isStill_88 : decode cX12_isStill 88 = .ok (.iload_n 1, 1) := by decide +kernel
theorem dX12_isStill_89 : decode cX12_isStill 89 = .ok (.ireturn, 1) := by decide +kernel
def k_X12_isStill_2 (X : CX) (T : List Dsc) (R : RM) (n1 n2 : Nat) (r : ((Int32 × M2) ⊕ ((M2)))) : Prop := match r with
  | .inl s => Wp X cX12_isStill RX12 3 T (mk s.2 R) n1 n2 2 [(0, .ref 56), (1, .int s.1)] []
  | .inr e => Wp X cX12_isStill RX12 3 T (mk e R) n1 n2 28 [(0, .ref 56)] []
def k_X12_isStill_37 (X : CX) (T : List Dsc) (R : RM) (n1 n2 : Nat) (r : ((Int32 × Int32 × M2) ⊕ ((Int32 × M2)))) : Prop := match r with
  | .inl s => Wp X cX12_isStill RX12 3 T (mk s.2.2 R) n1 n2 37 [(0, .ref 56), (1, .int s.1), (2, .int s.2.1)] []
  | .inr e => Wp X cX12_isStill RX12 3 T (mk e.2 R) n1 n2 88 [(1, .int e.1)] []
set_option maxHeartbeats 4000000 in
set_option maxRecDepth 100000 in
theorem w_X12_isStill_2 {X : CX} {T : List Dsc} {R : RM} {c e : Nat} {n1 n2 : Nat} {x1 : Int32} {m : M2} {r : ((Int32 × M2) ⊕ ((M2)))} (hX : XR X 9 n1 n2) (hG : Geo T R c e) (hf : f_X12_isStill_2 x1 m = some r) (hk : k_X12_isStill_2 X T R n1 n2 r) : Wp X cX12_isStill RX12 3 T (mk m R) n1 n2 2 [(0, .ref 56), (1, .int x1)] [] := by
  unfold f_X12_isStill_2 at hf
  refine Wp.iload_n (pc := 2) 1 rfl rfl dX12_isStill_2 ?_
  refine Wp.aload_n (pc := 3) 0 rfl rfl dX12_isStill_3 ?_
  refine Wp.getI2 (pc := 4) (hG.t 56 rfl) fk_RX12_399 rfl dX12_isStill_4 ?_
  refine Wp.icmp_ge (pc := 7) 28 dX12_isStill_7 (by decide) (fun hc1 => ?_) (fun hc1 => ?_)
  · rw [if_pos hc1] at hf
    refine Wp.lo' (lo' := [(0, .ref 56)]) [0] rfl ?_
    cases hf
    exact hk
  · rw [if_neg hc1] at hf
    refine Wp.aload_n (pc := 10) 0 rfl rfl dX12_isStill_10 ?_
    refine Wp.getR2 (pc := 11) (hG.r 56 73 rfl) (hG.t 56 rfl) fk_RX12_158 rfl dX12_isStill_11 ?_
    refine Wp.iload_n (pc := 14) 1 rfl rfl dX12_isStill_14 ?_
    refine Wp.aload_n (pc := 15) 0 rfl rfl dX12_isStill_15 ?_
    refine Wp.getR2 (pc := 16) (hG.r 56 63 rfl) (hG.t 56 rfl) fk_RX12_140 rfl dX12_isStill_16 ?_
    refine Wp.iload_n (pc := 19) 1 rfl rfl dX12_isStill_19 ?_
    obtain ⟨v2, h3, hf⟩ := bnd hf
    refine Wp.iald2 (pc := 20) h3 (hG.a 97 0 rfl) dX12_isStill_20 ?_
    obtain ⟨m4, h5, hf⟩ := bnd hf
    refine Wp.iast2 (pc := 21) h5 (hG.a 103 0 rfl) dX12_isStill_21 ?_
    obtain ⟨v6, h7, hf⟩ := bnd hf
    refine Wp.iincN (pc := 22) (lo' := [(0, .ref 56), (1, .int v6)]) (1 : Int32) (by decide) h7 1 rfl [1, 0] rfl (by decide) dX12_isStill_22 ?_
    refine Wp.goto (pc := 25) 2 dX12_isStill_25 (by decide) ?_
    cases hf
    exact hk
theorem wl_X12_isStill_2 {X : CX} {T : List Dsc} {R : RM} {c e : Nat} {n1 n2 : Nat} {x1 : Int32} {m : M2} {e1 : ((M2))} (hX : XR X 9 n1 n2) (hG : Geo T R c e) (h : loop (g_X12_isStill_2) (x1, m) = some e1) (he : Wp X cX12_isStill RX12 3 T (mk e1 R) n1 n2 28 [(0, .ref 56)] []) : Wp X cX12_isStill RX12 3 T (mk m R) n1 n2 2 [(0, .ref 56), (1, .int x1)] [] :=
  loop_ok (K := k_X12_isStill_2 X T R n1 n2) (fun s r hf hk => w_X12_isStill_2 hX hG hf hk) h he
set_option maxHeartbeats 4000000 in
set_option maxRecDepth 100000 in
theorem w_X12_isStill_69 {X : CX} {T : List Dsc} {R : RM} {c e : Nat} {n1 n2 : Nat} {x2 : Int32} {s0 : Int32} {m : M2} {r : ((Int32 × Int32 × M2) ⊕ ((Int32 × M2)))} (hX : XR X 9 n1 n2) (hG : Geo T R c e) (hf : f_X12_isStill_69 x2 s0 m = some r) (hk : k_X12_isStill_37 X T R n1 n2 r) : Wp X cX12_isStill RX12 3 T (mk m R) n1 n2 69 [(0, .ref 56), (2, .int x2)] [.int s0] := by
  unfold f_X12_isStill_69 at hf
  refine Wp.istore_n (pc := 69) (lo' := [(0, .ref 56), (1, .int s0), (2, .int x2)]) [1, 0, 2] rfl (by decide) rfl dX12_isStill_69 ?_
  refine Wp.aload_n (pc := 70) 0 rfl rfl dX12_isStill_70 ?_
  refine Wp.getR2 (pc := 71) (hG.r 56 63 rfl) (hG.t 56 rfl) fk_RX12_140 rfl dX12_isStill_71 ?_
  refine Wp.iload_n (pc := 74) 2 rfl rfl dX12_isStill_74 ?_
  refine Wp.aload_n (pc := 75) 0 rfl rfl dX12_isStill_75 ?_
  refine Wp.getR2 (pc := 76) (hG.r 56 73 rfl) (hG.t 56 rfl) fk_RX12_158 rfl dX12_isStill_76 ?_
  refine Wp.iload_n (pc := 79) 2 rfl rfl dX12_isStill_79 ?_
  obtain ⟨v1, h2, hf⟩ := bnd hf
  refine Wp.iald2 (pc := 80) h2 (hG.a 103 0 rfl) dX12_isStill_80 ?_
  obtain ⟨m3, h4, hf⟩ := bnd hf
  refine Wp.iast2 (pc := 81) h4 (hG.a 97 0 rfl) dX12_isStill_81 ?_
  obtain ⟨v5, h6, hf⟩ := bnd hf
  refine Wp.iincN (pc := 82) (lo' := [(0, .ref 56), (1, .int s0), (2, .int v5)]) (1 : Int32) (by decide) h6 2 rfl [1, 2, 0] rfl (by decide) dX12_isStill_82 ?_
  refine Wp.goto (pc := 85) 37 dX12_isStill_85 (by decide) ?_
  cases hf
  exact hk
set_option maxHeartbeats 4000000 in
set_option maxRecDepth 100000 in
theorem w_X12_isStill_68 {X : CX} {T : List Dsc} {R : RM} {c e : Nat} {n1 n2 : Nat} {x2 : Int32} {m : M2} {r : ((Int32 × Int32 × M2) ⊕ ((Int32 × M2)))} (hX : XR X 9 n1 n2) (hG : Geo T R c e) (hf : f_X12_isStill_68 x2 m = some r) (hk : k_X12_isStill_37 X T R n1 n2 r) : Wp X cX12_isStill RX12 3 T (mk m R) n1 n2 68 [(0, .ref 56), (2, .int x2)] [] := by
  unfold f_X12_isStill_68 at hf
  refine Wp.iconst (pc := 68) (0 : Int32) (by decide) dX12_isStill_68 ?_
  exact w_X12_isStill_69 hX hG hf hk
set_option maxHeartbeats 4000000 in
set_option maxRecDepth 100000 in
theorem w_X12_isStill_37 {X : CX} {T : List Dsc} {R : RM} {c e : Nat} {n1 n2 : Nat} {x1 : Int32} {x2 : Int32} {m : M2} {r : ((Int32 × Int32 × M2) ⊕ ((Int32 × M2)))} (hX : XR X 9 n1 n2) (hG : Geo T R c e) (hf : f_X12_isStill_37 x1 x2 m = some r) (hk : k_X12_isStill_37 X T R n1 n2 r) : Wp X cX12_isStill RX12 3 T (mk m R) n1 n2 37 [(0, .ref 56), (1, .int x1), (2, .int x2)] [] := by
  unfold f_X12_isStill_37 at hf
  refine Wp.iload_n (pc := 37) 2 rfl rfl dX12_isStill_37 ?_
  refine Wp.aload_n (pc := 38) 0 rfl rfl dX12_isStill_38 ?_
  refine Wp.getI2 (pc := 39) (hG.t 56 rfl) fk_RX12_399 rfl dX12_isStill_39 ?_
  refine Wp.icmp_ge (pc := 42) 88 dX12_isStill_42 (by decide) (fun hc1 => ?_) (fun hc1 => ?_)
  · rw [if_pos hc1] at hf
    refine Wp.lo' (lo' := [(1, .int x1)]) [1] rfl ?_
    cases hf
    exact hk
  · rw [if_neg hc1] at hf
    refine Wp.iload_n (pc := 45) 1 rfl rfl dX12_isStill_45 ?_
    refine Wp.if_eq (pc := 46) 68 dX12_isStill_46 (by decide) (fun hc2 => ?_) (fun hc2 => ?_)
    · rw [if_pos hc2] at hf
      refine Wp.lo' (lo' := [(0, .ref 56), (2, .int x2)]) [0, 2] rfl ?_
      exact w_X12_isStill_68 hX hG hf hk
    · rw [if_neg hc2] at hf
      refine Wp.aload_n (pc := 49) 0 rfl rfl dX12_isStill_49 ?_
      refine Wp.getR2 (pc := 50) (hG.r 56 63 rfl) (hG.t 56 rfl) fk_RX12_140 rfl dX12_isStill_50 ?_
      refine Wp.iload_n (pc := 53) 2 rfl rfl dX12_isStill_53 ?_
      obtain ⟨v3, h4, hf⟩ := bnd hf
      refine Wp.iald2 (pc := 54) h4 (hG.a 97 0 rfl) dX12_isStill_54 ?_
      refine Wp.aload_n (pc := 55) 0 rfl rfl dX12_isStill_55 ?_
      refine Wp.getR2 (pc := 56) (hG.r 56 73 rfl) (hG.t 56 rfl) fk_RX12_158 rfl dX12_isStill_56 ?_
      refine Wp.iload_n (pc := 59) 2 rfl rfl dX12_isStill_59 ?_
      obtain ⟨v5, h6, hf⟩ := bnd hf
      refine Wp.iald2 (pc := 60) h6 (hG.a 103 0 rfl) dX12_isStill_60 ?_
      refine Wp.icmp_ne (pc := 61) 68 dX12_isStill_61 (by decide) (fun hc7 => ?_) (fun hc7 => ?_)
      · rw [if_neg hc7] at hf
        refine Wp.lo' (lo' := [(0, .ref 56), (2, .int x2)]) [0, 2] rfl ?_
        exact w_X12_isStill_68 hX hG hf hk
      · rw [if_pos hc7] at hf
        refine Wp.iconst (pc := 64) (1 : Int32) (by decide) dX12_isStill_64 ?_
        refine Wp.goto (pc := 65) 69 dX12_isStill_65 (by decide) ?_
        refine Wp.lo' (lo' := [(0, .ref 56), (2, .int x2)]) [0, 2] rfl ?_
        exact w_X12_isStill_69 hX hG hf hk
theorem wl_X12_isStill_37 {X : CX} {T : List Dsc} {R : RM} {c e : Nat} {n1 n2 : Nat} {x1 : Int32} {x2 : Int32} {m : M2} {e1 : ((Int32 × M2))} (hX : XR X 9 n1 n2) (hG : Geo T R c e) (h : loop (g_X12_isStill_37) (x1, x2, m) = some e1) (he : Wp X cX12_isStill RX12 3 T (mk e1.2 R) n1 n2 88 [(1, .int e1.1)] []) : Wp X cX12_isStill RX12 3 T (mk m R) n1 n2 37 [(0, .ref 56), (1, .int x1), (2, .int x2)] [] :=
  loop_ok (K := k_X12_isStill_37 X T R n1 n2) (fun s r hf hk => w_X12_isStill_37 hX hG hf hk) h he
set_option maxHeartbeats 4000000 in
set_option maxRecDepth 100000 in
theorem w_X12_isStill {X : CX} {T : List Dsc} {R : RM} {c e : Nat} {n1 n2 : Nat} {m : M2} {r : (Int32 × M2)} (hX : XR X 9 n1 n2) (hG : Geo T R c e) (hf : F_X12_isStill m = some r) (hk : FnZ X cX12_isStill RX12 3 T n1 n2 (r.1, mk r.2 R)) : Wp X cX12_isStill RX12 3 T (mk m R) n1 n2 0 [(0, .ref 56)] [] := by
  unfold F_X12_isStill at hf
  refine Wp.iconst (pc := 0) (0 : Int32) (by decide) dX12_isStill_0 ?_
  refine Wp.istore_n (pc := 1) (lo' := [(0, .ref 56), (1, .int (0 : Int32))]) [1, 0] rfl (by decide) rfl dX12_isStill_1 ?_
  obtain ⟨e1, h2, hf⟩ := bnd hf
  refine wl_X12_isStill_2 hX hG h2 ?_
  refine Wp.aload_n (pc := 28) 0 rfl rfl dX12_isStill_28 ?_
  refine Wp.iconst (pc := 29) (0 : Int32) (by decide) dX12_isStill_29 ?_
  obtain ⟨c3, h4, hf⟩ := bnd hf
  refine Wp.callVv (pc := 30) (st := []) (as := [.int (0 : Int32)]) (c_X12_strikes hG h4) ml_RX12_450 mv_X12_strikes mb_X12_strikes hX (Nat.le_of_ble_eq_true rfl) (by decide) rfl (hG.t 56 rfl) rfl (by simp) dX12_isStill_30 rfl ?_
  refine Wp.iconst (pc := 33) (1 : Int32) (by decide) dX12_isStill_33 ?_
  refine Wp.istore_n (pc := 34) (lo' := [(0, .ref 56), (1, .int (1 : Int32))]) [1, 0] rfl (by decide) rfl dX12_isStill_34 ?_
  refine Wp.iconst (pc := 35) (0 : Int32) (by decide) dX12_isStill_35 ?_
  refine Wp.istore_n (pc := 36) (lo' := [(0, .ref 56), (1, .int (1 : Int32)), (2, .int (0 : Int32))]) [1, 2, 0] rfl (by decide) rfl dX12_isStill_36 ?_
  obtain ⟨e5, h6, hf⟩ := bnd hf
  refine wl_X12_isStill_37 hX hG h6 ?_
  refine Wp.iload_n (pc := 88) 0 rfl rfl dX12_isStill_88 ?_
  obtain ⟨v7, h8, hf⟩ := bnd hf
  refine Wp.zb' h8 (fun h8 => ?_)
  cases hf
  exact hk _ _ h8 dX12_isStill_89
theorem c_X12_isStill {T : List Dsc} {R : RM} {c e : Nat} {m : M2} {r : (Int32 × M2)} (hG : Geo T R c e) (hf : F_X12_isStill m = some r) : Ct 9 yX12_isStill cX12_isStill 3 (some .boolean) T (mk m R) [.ref 56] (some (.int r.1)) (mk r.2 R) := Ct.ofZ (r := (r.1, mk r.2 R)) (by decide +kernel) (Nat.le_of_ble_eq_true rfl) (fun X hX hk => w_X12_isStill hX hG hf hk)
theorem dX12_still_0 : decode cX12_still 0 = .ok (.aload_n 0, 1) := by decide +kernel
theorem dX12_still_1 : decode cX12_still 1 = .ok (.invokevirtual 444, 3) := by decide +kernel
theorem dX12_still_4 : decode cX12_still 4 = .ok (.aload_n 0, 1) := by decide +kernel
theorem dX12_still_5 : decode cX12_still 5 = .ok (.invokevirtual 462, 3) := by decide +kernel
theorem dX12_still_8 : decode cX12_still 8 = .ok (.ifCond .eq 7, 3) := by decide +kernel
theorem dX12_still_11 : decode cX12_still 11 = .ok (.iconst 1, 1) := by decide +kernel
theorem dX12_still_12 : decode cX12_still 12 = .ok (.goto 4, 3) := by decide +kernel
theorem dX12_still_15 : decode cX12_still 15 = .ok (.iconst 0, 1) := by decide +kernel
theorem dX12_still_16 : decode cX12_still 16 = .ok (.ireturn, 1) := by decide +kernel
set_option maxHeartbeats 4000000 in
set_option maxRecDepth 100000 in
theorem w_X12_still_16 {X : CX} {T : List Dsc} {R : RM} {c e : Nat} {n1 n2 : Nat} {s0 : Int32} {m : M2} {r : (Int32 × M2)} (hX : XR X 10 n1 n2) (hG : Geo T R c e) (hf : f_X12_still_16 s0 m = some r) (hk : FnI X cX12_still RX12 1 T n1 n2 (r.1, mk r.2 R)) : Wp X cX12_still RX12 1 T (mk m R) n1 n2 16 [] [.int s0] := by
  unfold f_X12_still_16 at hf
  cases hf
  exact hk _ _ dX12_still_16
set_option maxHeartbeats 4000000 in
set_option maxRecDepth 100000 in
theorem w_X12_still {X : CX} {T : List Dsc} {R : RM} {c e : Nat} {n1 n2 : Nat} {m : M2} {r : (Int32 × M2)} (hX : XR X 10 n1 n2) (hG : Geo T R c e) (hf : F_X12_still m = some r) (hk : FnI X cX12_still RX12 1 T n1 n2 (r.1, mk r.2 R)) : Wp X cX12_still RX12 1 T (mk m R) n1 n2 0 [(0, .ref 56)] [] := by
  unfold F_X12_still at hf
  refine Wp.aload_n (pc := 0) 0 rfl rfl dX12_still_0 ?_
  obtain ⟨c1, h2, hf⟩ := bnd hf
  refine Wp.callVv (pc := 1) (st := []) (as := []) (c_X12_takes hG h2) ml_RX12_444 mv_X12_takes mb_X12_takes hX (Nat.le_of_ble_eq_true rfl) (by decide) rfl (hG.t 56 rfl) rfl (by simp) dX12_still_1 rfl ?_
  refine Wp.aload_n (pc := 4) 0 rfl rfl dX12_still_4 ?_
  obtain ⟨c3, h4, hf⟩ := bnd hf
  refine Wp.callVi (pc := 5) (st := []) (as := []) (c_X12_isStill hG h4) ml_RX12_462 mv_X12_isStill mb_X12_isStill hX (Nat.le_of_ble_eq_true rfl) (by decide) rfl (hG.t 56 rfl) rfl (by simp) dX12_still_5 rfl ?_
  refine Wp.if_eq (pc := 8) 15 dX12_still_8 (by decide) (fun hc5 => ?_) (fun hc5 => ?_)
  · rw [if_pos hc5] at hf
    refine Wp.iconst (pc := 15) (0 : Int32) (by decide) dX12_still_15 ?_
    refine Wp.lo' (lo' := []) [] rfl ?_
    exact w_X12_still_16 hX hG hf hk
  · rw [if_neg hc5] at hf
    refine Wp.iconst (pc := 11) (1 : Int32) (by decide) dX12_still_11 ?_
    refine Wp.goto (pc := 12) 16 dX12_still_12 (by decide) ?_
    refine Wp.lo' (lo' := []) [] rfl ?_
    exact w_X12_still_16 hX hG hf hk
theorem c_X12_still {T : List Dsc} {R : RM} {c e : Nat} {m : M2} {r : (Int32 × M2)} (hG : Geo T R c e) (hf : F_X12_still m = some r) : Ct 10 yX12_still cX12_still 1 (some .int) T (mk m R) [.ref 56] (some (.int r.1)) (mk r.2 R) := Ct.ofI (r := (r.1, mk r.2 R)) (by decide +kernel) (Nat.le_of_ble_eq_true rfl) (fun X hX hk => w_X12_still hX hG hf hk)
theorem dX12_isAt_0 : decode cX12_isAt 0 = .ok (.iconst 0, 1) := by decide +kernel
theorem dX12_isAt_1 : decode cX12_isAt 1 = .ok (.istore_n 2, 1) := by decide +kernel
theorem dX12_isAt_2 : decode cX12_isAt 2 = .ok (.iload_n 2, 1) := by decide +kernel
theorem dX12_isAt_3 : decode cX12_isAt 3 = .ok (.aload_n 0, 1) := by decide +kernel
theorem dX12_isAt_4 : decode cX12_isAt 4 = .ok (.getfield 399, 3) := by decide +kernel
theorem dX12_isAt_7 : decode cX12_isAt 7 = .ok (.if_icmp .ge 31, 3) := by decide +kernel
theorem dX12_isAt_10 : decode cX12_isAt 10 = .ok (.aload_n 0, 1) := by decide +kernel
theorem dX12_isAt_11 : decode cX12_isAt 11 = .ok (.getfield 161, 3) := by decide +kernel
theorem dX12_isAt_14 : decode cX12_isAt 14 = .ok (.bipush 12, 2) := by decide +kernel
theorem dX12_isAt_16 : decode cX12_isAt 16 = .ok (.iload_n 1, 1) := by decide +kernel
theorem dX12_isAt_17 : decode cX12_isAt 17 = .ok (.imul, 1) := by decide +kernel
theorem dX12_isAt_18 : decode cX12_isAt 18 = .ok (.iload_n 2, 1) := by decide +kernel
theorem dX12_isAt_19 : decode cX12_isAt 19 = .ok (.iadd, 1) := by decide +kernel
theorem dX12_isAt_20 : decode cX12_isAt 20 = .ok (.iaload, 1) := by decide +kernel
theorem dX12_isAt_21 : decode cX12_isAt 21 = .ok (.aload_n 0, 1) := by decide +kernel
theorem dX12_isAt_22 : decode cX12_isAt 22 = .ok (.getfield 140, 3) := by decide +kernel
theorem dX12_isAt_25 : decode cX12_isAt 25 = .ok (.iload_n 2, 1) := by decide +kernel
theorem dX12_isAt_26 : decode cX12_isAt 26 = .ok (.iaload, 1) := by decide +kernel
theorem dX12_isAt_27 : decode cX12_isAt 27 = .ok (.if_icmp .eq 5, 3) := by decide +kernel
theorem dX12_isAt_30 : decode cX12_isAt 30 = .ok (.iconst 0, 1) := by decide +kernel
theorem dX12_isAt_31 : decode cX12_isAt 31 = .ok (.ireturn, 1) := by decide +kernel
theorem dX12_isAt_32 : decode cX12_isAt 32 = .ok (.iinc 2 1, 3) := by decide +kernel
theorem dX12_isAt_35 : decode cX12_isAt 35 = .ok (.goto (-33), 3) := by decide +kernel
theorem dX12_isAt_38 : decode cX12_isAt 38 = .ok (.iconst 1, 1) := by decide +kernel
theorem dX12_isAt_39 : decode cX12_isAt 39 = .ok (.ireturn, 1) := by decide +kernel
def k_X12_isAt_2 (X : CX) (T : List Dsc) (R : RM) (n1 n2 : Nat) (x1 : Int32) (r : ((Int32 × M2) ⊕ ((M2) ⊕ (M2)))) : Prop := match r with
  | .inl s => Wp X cX12_isAt RX12 3 T (mk s.2 R) n1 n2 2 [(0, .ref 56), (1, .int x1), (2, .int s.1)] []
  | .inr (.inl e) => Wp X cX12_isAt RX12 3 T (mk e R) n1 n2 30 [] []
  | .inr (.inr e) => Wp X cX12_isAt RX12 3 T (mk e R) n1 n2 38 [] []
set_option maxHeartbeats 4000000 in
set_option maxRecDepth 100000 in
theorem w_X12_isAt_2 {X : CX} {T : List Dsc} {R : RM} {c e : Nat} {n1 n2 : Nat} {x1 : Int32} {x2 : Int32} {m : M2} {r : ((Int32 × M2) ⊕ ((M2) ⊕ (M2)))} (hX : XR X 1 n1 n2) (hG : Geo T R c e) (hf : f_X12_isAt_2 x1 x2 m = some r) (hk : k_X12_isAt_2 X T R n1 n2 x1 r) : Wp X cX12_isAt RX12 3 T (mk m R) n1 n2 2 [(0, .ref 56), (1, .int x1), (2, .int x2)] [] := by
  unfold f_X12_isAt_2 at hf
  refine Wp.iload_n (pc := 2) 2 rfl rfl dX12_isAt_2 ?_
  refine Wp.aload_n (pc := 3) 0 rfl rfl dX12_isAt_3 ?_
  refine Wp.getI2 (pc := 4) (hG.t 56 rfl) fk_RX12_399 rfl dX12_isAt_4 ?_
  refine Wp.icmp_ge (pc := 7) 38 dX12_isAt_7 (by decide) (fun hc1 => ?_) (fun hc1 => ?_)
  · rw [if_pos hc1] at hf
    refine Wp.lo' (lo' := []) [] rfl ?_
    cases hf
    exact hk
  · rw [if_neg hc1] at hf
    refine Wp.aload_n (pc := 10) 0 rfl rfl dX12_isAt_10 ?_
    refine Wp.getR2 (pc := 11) (hG.r 56 74 rfl) (hG.t 56 rfl) fk_RX12_161 rfl dX12_isAt_11 ?_
    refine Wp.bipush (pc := 14) (12 : Int32) (by decide) dX12_isAt_14 ?_
    refine Wp.iload_n (pc := 16) 1 rfl rfl dX12_isAt_16 ?_
    refine Wp.imul (pc := 17) dX12_isAt_17 ?_
    refine Wp.iload_n (pc := 18) 2 rfl rfl dX12_isAt_18 ?_
    refine Wp.iadd (pc := 19) dX12_isAt_19 ?_
    obtain ⟨v2, h3, hf⟩ := bnd hf
    refine Wp.iald2 (pc := 20) h3 (hG.a 104 0 rfl) dX12_isAt_20 ?_
    refine Wp.aload_n (pc := 21) 0 rfl rfl dX12_isAt_21 ?_
    refine Wp.getR2 (pc := 22) (hG.r 56 63 rfl) (hG.t 56 rfl) fk_RX12_140 rfl dX12_isAt_22 ?_
    refine Wp.iload_n (pc := 25) 2 rfl rfl dX12_isAt_25 ?_
    obtain ⟨v4, h5, hf⟩ := bnd hf
    refine Wp.iald2 (pc := 26) h5 (hG.a 97 0 rfl) dX12_isAt_26 ?_
    refine Wp.icmp_eq (pc := 27) 32 dX12_isAt_27 (by decide) (fun hc6 => ?_) (fun hc6 => ?_)
    · rw [if_pos hc6] at hf
      obtain ⟨v7, h8, hf⟩ := bnd hf
      refine Wp.iincN (pc := 32) (lo' := [(0, .ref 56), (1, .int x1), (2, .int v7)]) (1 : Int32) (by decide) h8 2 rfl [1, 2, 0] rfl (by decide) dX12_isAt_32 ?_
      refine Wp.goto (pc := 35) 2 dX12_isAt_35 (by decide) ?_
      cases hf
      exact hk
    · rw [if_neg hc6] at hf
      refine Wp.lo' (lo' := []) [] rfl ?_
      cases hf
      exact hk
theorem wl_X12_isAt_2 {X : CX} {T : List Dsc} {R : RM} {c e : Nat} {n1 n2 : Nat} {x1 : Int32} {x2 : Int32} {m : M2} {e1 : ((M2) ⊕ (M2))} (hX : XR X 1 n1 n2) (hG : Geo T R c e) (h : loop (g_X12_isAt_2 x1) (x2, m) = some e1) (he0 : ∀ e_, e1 = (Sum.inl e_) → Wp X cX12_isAt RX12 3 T (mk e_ R) n1 n2 30 [] []) (he1 : ∀ e_, e1 = (Sum.inr e_) → Wp X cX12_isAt RX12 3 T (mk e_ R) n1 n2 38 [] []) : Wp X cX12_isAt RX12 3 T (mk m R) n1 n2 2 [(0, .ref 56), (1, .int x1), (2, .int x2)] [] :=
  loop_ok (K := k_X12_isAt_2 X T R n1 n2 x1) (fun s r hf hk => w_X12_isAt_2 hX hG hf hk) h (by rcases e1 with e_ | e_ <;> first | exact he0 _ rfl | exact he1 _ rfl)
set_option maxHeartbeats 4000000 in
set_option maxRecDepth 100000 in
theorem w_X12_isAt {X : CX} {T : List Dsc} {R : RM} {c e : Nat} {n1 n2 : Nat} {x1 : Int32} {m : M2} {r : (Int32 × M2)} (hX : XR X 1 n1 n2) (hG : Geo T R c e) (hf : F_X12_isAt x1 m = some r) (hk : FnZ X cX12_isAt RX12 3 T n1 n2 (r.1, mk r.2 R)) : Wp X cX12_isAt RX12 3 T (mk m R) n1 n2 0 [(0, .ref 56), (1, .int x1)] [] := by
  unfold F_X12_isAt at hf
  refine Wp.iconst (pc := 0) (0 : Int32) (by decide) dX12_isAt_0 ?_
  refine Wp.istore_n (pc := 1) (lo' := [(0, .ref 56), (1, .int x1), (2, .int (0 : Int32))]) [1, 2, 0] rfl (by decide) rfl dX12_isAt_1 ?_
  obtain ⟨e1, h2, hf⟩ := bnd hf
  refine wl_X12_isAt_2 hX hG h2 (fun e1_0 hq => ?_) (fun e1_1 hq => ?_)
  · rw [hq, Sum.elim_inl] at hf
    refine Wp.iconst (pc := 30) (0 : Int32) (by decide) dX12_isAt_30 ?_
    cases hf
    exact hk _ _ (Or.inl rfl) dX12_isAt_31
  · rw [hq, Sum.elim_inr] at hf
    refine Wp.iconst (pc := 38) (1 : Int32) (by decide) dX12_isAt_38 ?_
    cases hf
    exact hk _ _ (Or.inr rfl) dX12_isAt_39
theorem c_X12_isAt {T : List Dsc} {R : RM} {c e : Nat} {x1 : Int32} {m : M2} {r : (Int32 × M2)} (hG : Geo T R c e) (hf : F_X12_isAt x1 m = some r) : Ct 1 yX12_isAt cX12_isAt 3 (some .boolean) T (mk m R) [.ref 56, .int x1] (some (.int r.1)) (mk r.2 R) := Ct.ofZ (r := (r.1, mk r.2 R)) (by decide +kernel) (Nat.le_of_ble_eq_true rfl) (fun X hX hk => w_X12_isAt hX hG hf hk)
theorem dX12_round_0 : decode cX12_round 0 = .ok (.iload_n 1, 1) := by decide +kernel
theorem dX12_round_1 : decode cX12_round 1 = .ok (.iconst 0, 1) := by decide +kernel
theorem dX12_round_2 : decode cX12_round 2 = .ok (.iconst 1, 1) := by decide +kernel
theorem dX12_round_3 : decode cX12_round 3 = .ok (.invokestatic 414, 3) := by decide +kernel
theorem dX12_round_6 : decode cX12_round 6 = .ok (.ifCond .ne 5, 3) := by decide +kernel
theorem dX12_round_9 : decode cX12_round 9 = .ok (.iconst (-1), 1) := by decide +kernel
theorem dX12_round_10 : decode cX12_round 10 = .ok (.ireturn, 1) := by decide +kernel
theorem dX12_round_11 : decode cX12_round 11 = .ok (.aload_n 0, 1) := by decide +kernel
theorem dX12_round_12 : decode cX12_round 12 = .ok (.invokevirtual 444, 3) := by decide +kernel
theorem dX12_round_15 : decode cX12_round 15 = .ok (.iconst 0, 1) := by decide +kernel
theorem dX12_round_16 : decode cX12_round 16 = .ok (.istore_n 2, 1) := by decide +kernel
theorem dX12_round_17 : decode cX12_round 17 = .ok (.iload_n 2, 1) := by decide +kernel
theorem dX12_round_18 : decode cX12_round 18 = .ok (.sipush 400, 3) := by decide +kernel
theorem dX12_round_21 : decode cX12_round 21 = .ok (.if_icmp .gt 80, 3) := by decide +kernel
theorem dX12_round_24 : decode cX12_round 24 = .ok (.iconst 0, 1) := by decide +kernel
theorem dX12_round_25 : decode cX12_round 25 = .ok (.istore_n 3, 1) := by decide +kernel
theorem dX12_round_26 : decode cX12_round 26 = .ok (.iload_n 3, 1) := by decide +kernel
theorem dX12_round_27 : decode cX12_round 27 = .ok (.iload_n 2, 1) := by decide +kernel
theorem dX12_round_28 : decode cX12_round 28 = .ok (.if_icmp .ge 29, 3) := by decide +kernel
theorem dX12_round_31 : decode cX12_round 31 = .ok (.aload_n 0, 1) := by decide +kernel
theorem dX12_round_32 : decode cX12_round 32 = .ok (.iload_n 3, 1) := by decide +kernel
theorem dX12_round_33 : decode cX12_round 33 = .ok (.invokevirtual 466, 3) := by decide +kernel
theorem dX12_round_36 : decode cX12_round 36 = .ok (.ifCond .eq 15, 3) := by decide +kernel
theorem dX12_round_39 : decode cX12_round 39 = .ok (.iload_n 1, 1) := by decide +kernel
theorem dX12_round_40 : decode cX12_round 40 = .ok (.ifCond .ne 9, 3) := by decide +kernel
theorem dX12_round_43 : decode cX12_round 43 = .ok (.iload_n 2, 1) := by decide +kernel
theorem dX12_round_44 : decode cX12_round 44 = .ok (.iload_n 3, 1) := by decide +kernel
theorem dX12_round_45 : decode cX12_round 45 = .ok (.isub, 1) := by decide +kernel
theorem dX12_round_46 : decode cX12_round 46 = .ok (.goto 4, 3) := by decide +kernel
theorem dX12_round_49 : decode cX12_round 49 = .ok (.iload_n 3, 1) := by decide +kernel
theorem dX12_round_50 : decode cX12_round 50 = .ok (.ireturn, 1) := by decide +kernel
theorem dX12_round_51 : decode cX12_round 51 = .ok (.iinc 3 1, 3) := by decide +kernel
theorem dX12_round_54 : decode cX12_round 54 = .ok (.goto (-28), 3) := by decide +kernel
theorem dX12_round_57 : decode cX12_round 57 = .ok (.iconst 0, 1) := by decide +kernel
theorem dX12_round_58 : decode cX12_round 58 = .ok (.istore_n 3, 1) := by decide +kernel
theorem dX12_round_59 : decode cX12_round 59 = .ok (.iload_n 3, 1) := by decide +kernel
theorem dX12_round_60 : decode cX12_round 60 = .ok (.aload_n 0, 1) := by decide +kernel
theorem dX12_round_61 : decode cX12_round 61 = .ok (.getfield 399, 3) := by decide +kernel
theorem dX12_round_64 : decode cX12_round 64 = .ok (.if_icmp .ge 26, 3) := by decide +kernel
theorem dX12_round_67 : decode cX12_round 67 = .ok (.aload_n 0, 1) := by decide +kernel
theorem dX12_round_68 : decode cX12_round 68 = .ok (.getfield 161, 3) := by decide +kernel
theorem dX12_round_71 : decode cX12_round 71 = .ok (.bipush 12, 2) := by decide +kernel
theorem dX12_round_73 : decode cX12_round 73 = .ok (.iload_n 2, 1) := by decide +kernel
theorem dX12_round_74 : decode cX12_round 74 = .ok (.imul, 1) := by decide +kernel
theorem dX12_round_75 : decode cX12_round 75 = .ok (.iload_n 3, 1) := by decide +kernel
theorem dX12_round_76 : decode cX12_round 76 = .ok (.iadd, 1) := by decide +kernel
theorem dX12_round_77 : decode cX12_round 77 = .ok (.aload_n 0, 1) := by decide +kernel
theorem dX12_round_78 : decode cX12_round 78 = .ok (.getfield 140, 3) := by decide +kernel
theorem dX12_round_81 : decode cX12_round 81 = .ok (.iload_n 3, 1) := by decide +kernel
theorem dX12_round_82 : decode cX12_round 82 = .ok (.iaload, 1) := by decide +kernel
theorem dX12_round_83 : decode cX12_round 83 = .ok (.iastore, 1) := by decide +kernel
theorem dX12_round_84 : decode cX12_round 84 = .ok (.iinc 3 1, 3) := by decide +kernel
theorem dX12_round_87 : decode cX12_round 87 = .ok (.goto (-28), 3) := by decide +kernel
theorem dX12_round_90 : decode cX12_round 90 = .ok (.aload_n 0, 1) := by decide +kernel
theorem dX12_round_91 : decode cX12_round 91 = .ok (.iconst 0, 1) := by decide +kernel
theorem dX12_round_92 : decode cX12_round 92 = .ok (.invokevirtual 450, 3) := by decide +kernel
theorem dX12_round_95 : decode cX12_round 95 = .ok (.iinc 2 1, 3) := by decide +kernel
theorem dX12_round_98 : decode cX12_round 98 = .ok (.goto (-81), 3) := by decide +kernel
theorem dX12_round_101 : decode cX12_round 101 = .ok (.bipush (-2), 2) := by decide +kernel
theorem dX12_round_103 : decode cX12_round 103 = .ok (.ireturn, 1) := by decide +kernel
def k_X12_round_26 (X : CX) (T : List Dsc) (R : RM) (n1 n2 : Nat) (x1 : Int32) (x2 : Int32) (r : ((Int32 × M2) ⊕ ((Int32 × M2) ⊕ (M2)))) : Prop := match r with
  | .inl s => Wp X cX12_round RX12 4 T (mk s.2 R) n1 n2 26 [(0, .ref 56), (1, .int x1), (2, .int x2), (3, .int s.1)] []
  | .inr (.inl e) => Wp X cX12_round RX12 4 T (mk e.2 R) n1 n2 39 [(1, .int x1), (2, .int x2), (3, .int e.1)] []
  | .inr (.inr e) => Wp X cX12_round RX12 4 T (mk e R) n1 n2 57 [(0, .ref 56), (1, .int x1), (2, .int x2)] []
def k_X12_round_59 (X : CX) (T : List Dsc) (R : RM) (n1 n2 : Nat) (x1 : Int32) (x2 : Int32) (r : ((Int32 × M2) ⊕ ((M2)))) : Prop := match r with
  | .inl s => Wp X cX12_round RX12 4 T (mk s.2 R) n1 n2 59 [(0, .ref 56), (1, .int x1), (2, .int x2), (3, .int s.1)] []
  | .inr e => Wp X cX12_round RX12 4 T (mk e R) n1 n2 90 [(0, .ref 56), (1, .int x1), (2, .int x2)] []
def k_X12_round_17 (X : CX) (T : List Dsc) (R : RM) (n1 n2 : Nat) (x1 : Int32) (r : ((Int32 × M2) ⊕ ((Int32 × Int32 × M2) ⊕ (M2)))) : Prop := match r with
  | .inl s => Wp X cX12_round RX12 4 T (mk s.2 R) n1 n2 17 [(0, .ref 56), (1, .int x1), (2, .int s.1)] []
  | .inr (.inl e) => Wp X cX12_round RX12 4 T (mk e.2.2 R) n1 n2 39 [(1, .int x1), (2, .int e.1), (3, .int e.2.1)] []
  | .inr (.inr e) => Wp X cX12_round RX12 4 T (mk e R) n1 n2 101 [] []
set_option maxHeartbeats 4000000 in
set_option maxRecDepth 100000 in
theorem w_X12_round_26 {X : CX} {T : List Dsc} {R : RM} {c e : Nat} {n1 n2 : Nat} {x1 : Int32} {x2 : Int32} {x3 : Int32} {m : M2} {r : ((Int32 × M2) ⊕ ((Int32 × M2) ⊕ (M2)))} (hX : XR X 9 n1 n2) (hG : Geo T R c e) (hf : f_X12_round_26 x1 x2 x3 m = some r) (hk : k_X12_round_26 X T R n1 n2 x1 x2 r) : Wp X cX12_round RX12 4 T (mk m R) n1 n2 26 [(0, .ref 56), (1, .int x1), (2, .int x2), (3, .int x3)] [] := by
  unfold f_X12_round_26 at hf
  refine Wp.iload_n (pc := 26) 3 rfl rfl dX12_round_26 ?_
  refine Wp.iload_n (pc := 27) 2 rfl rfl dX12_round_27 ?_
  refine Wp.icmp_ge (pc := 28) 57 dX12_round_28 (by decide) (fun hc1 => ?_) (fun hc1 => ?_)
  · rw [if_pos hc1] at hf
    refine Wp.lo' (lo' := [(0, .ref 56), (1, .int x1), (2, .int x2)]) [0, 1, 2] rfl ?_
    cases hf
    exact hk
  · rw [if_neg hc1] at hf
    refine Wp.aload_n (pc := 31) 0 rfl rfl dX12_round_31 ?_
    refine Wp.iload_n (pc := 32) 3 rfl rfl dX12_round_32 ?_
    obtain ⟨c2, h3, hf⟩ := bnd hf
    refine Wp.callVi (pc := 33) (st := []) (as := [.int x3]) (c_X12_isAt hG h3) ml_RX12_466 mv_X12_isAt mb_X12_isAt hX (Nat.le_of_ble_eq_true rfl) (by decide) rfl (hG.t 56 rfl) rfl (by simp) dX12_round_33 rfl ?_
    refine Wp.if_eq (pc := 36) 51 dX12_round_36 (by decide) (fun hc4 => ?_) (fun hc4 => ?_)
    · rw [if_pos hc4] at hf
      obtain ⟨v5, h6, hf⟩ := bnd hf
      refine Wp.iincN (pc := 51) (lo' := [(0, .ref 56), (1, .int x1), (2, .int x2), (3, .int v5)]) (1 : Int32) (by decide) h6 3 rfl [1, 2, 3, 0] rfl (by decide) dX12_round_51 ?_
      refine Wp.goto (pc := 54) 26 dX12_round_54 (by decide) ?_
      cases hf
      exact hk
    · rw [if_neg hc4] at hf
      refine Wp.lo' (lo' := [(1, .int x1), (2, .int x2), (3, .int x3)]) [1, 2, 3] rfl ?_
      cases hf
      exact hk
theorem wl_X12_round_26 {X : CX} {T : List Dsc} {R : RM} {c e : Nat} {n1 n2 : Nat} {x1 : Int32} {x2 : Int32} {x3 : Int32} {m : M2} {e1 : ((Int32 × M2) ⊕ (M2))} (hX : XR X 9 n1 n2) (hG : Geo T R c e) (h : loop (g_X12_round_26 x1 x2) (x3, m) = some e1) (he0 : ∀ e_, e1 = (Sum.inl e_) → Wp X cX12_round RX12 4 T (mk e_.2 R) n1 n2 39 [(1, .int x1), (2, .int x2), (3, .int e_.1)] []) (he1 : ∀ e_, e1 = (Sum.inr e_) → Wp X cX12_round RX12 4 T (mk e_ R) n1 n2 57 [(0, .ref 56), (1, .int x1), (2, .int x2)] []) : Wp X cX12_round RX12 4 T (mk m R) n1 n2 26 [(0, .ref 56), (1, .int x1), (2, .int x2), (3, .int x3)] [] :=
  loop_ok (K := k_X12_round_26 X T R n1 n2 x1 x2) (fun s r hf hk => w_X12_round_26 hX hG hf hk) h (by rcases e1 with e_ | e_ <;> first | exact he0 _ rfl | exact he1 _ rfl)
set_option maxHeartbeats 4000000 in
set_option maxRecDepth 100000 in
theorem w_X12_round_59 {X : CX} {T : List Dsc} {R : RM} {c e : Nat} {n1 n2 : Nat} {x1 : Int32} {x2 : Int32} {x3 : Int32} {m : M2} {r : ((Int32 × M2) ⊕ ((M2)))} (hX : XR X 9 n1 n2) (hG : Geo T R c e) (hf : f_X12_round_59 x1 x2 x3 m = some r) (hk : k_X12_round_59 X T R n1 n2 x1 x2 r) : Wp X cX12_round RX12 4 T (mk m R) n1 n2 59 [(0, .ref 56), (1, .int x1), (2, .int x2), (3, .int x3)] [] := by
  unfold f_X12_round_59 at hf
  refine Wp.iload_n (pc := 59) 3 rfl rfl dX12_round_59 ?_
  refine Wp.aload_n (pc := 60) 0 rfl rfl dX12_round_60 ?_
  refine Wp.getI2 (pc := 61) (hG.t 56 rfl) fk_RX12_399 rfl dX12_round_61 ?_
  refine Wp.icmp_ge (pc := 64) 90 dX12_round_64 (by decide) (fun hc1 => ?_) (fun hc1 => ?_)
  · rw [if_pos hc1] at hf
    refine Wp.lo' (lo' := [(0, .ref 56), (1, .int x1), (2, .int x2)]) [0, 1, 2] rfl ?_
    cases hf
    exact hk
  · rw [if_neg hc1] at hf
    refine Wp.aload_n (pc := 67) 0 rfl rfl dX12_round_67 ?_
    refine Wp.getR2 (pc := 68) (hG.r 56 74 rfl) (hG.t 56 rfl) fk_RX12_161 rfl dX12_round_68 ?_
    refine Wp.bipush (pc := 71) (12 : Int32) (by decide) dX12_round_71 ?_
    refine Wp.iload_n (pc := 73) 2 rfl rfl dX12_round_73 ?_
    refine Wp.imul (pc := 74) dX12_round_74 ?_
    refine Wp.iload_n (pc := 75) 3 rfl rfl dX12_round_75 ?_
    refine Wp.iadd (pc := 76) dX12_round_76 ?_
    refine Wp.aload_n (pc := 77) 0 rfl rfl dX12_round_77 ?_
    refine Wp.getR2 (pc := 78) (hG.r 56 63 rfl) (hG.t 56 rfl) fk_RX12_140 rfl dX12_round_78 ?_
    refine Wp.iload_n (pc := 81) 3 rfl rfl dX12_round_81 ?_
    obtain ⟨v2, h3, hf⟩ := bnd hf
    refine Wp.iald2 (pc := 82) h3 (hG.a 97 0 rfl) dX12_round_82 ?_
    obtain ⟨m4, h5, hf⟩ := bnd hf
    refine Wp.iast2 (pc := 83) h5 (hG.a 104 0 rfl) dX12_round_83 ?_
    obtain ⟨v6, h7, hf⟩ := bnd hf
    refine Wp.iincN (pc := 84) (lo' := [(0, .ref 56), (1, .int x1), (2, .int x2), (3, .int v6)]) (1 : Int32) (by decide) h7 3 rfl [1, 2, 3, 0] rfl (by decide) dX12_round_84 ?_
    refine Wp.goto (pc := 87) 59 dX12_round_87 (by decide) ?_
    cases hf
    exact hk
theorem wl_X12_round_59 {X : CX} {T : List Dsc} {R : RM} {c e : Nat} {n1 n2 : Nat} {x1 : Int32} {x2 : Int32} {x3 : Int32} {m : M2} {e1 : ((M2))} (hX : XR X 9 n1 n2) (hG : Geo T R c e) (h : loop (g_X12_round_59 x1 x2) (x3, m) = some e1) (he : Wp X cX12_round RX12 4 T (mk e1 R) n1 n2 90 [(0, .ref 56), (1, .int x1), (2, .int x2)] []) : Wp X cX12_round RX12 4 T (mk m R) n1 n2 59 [(0, .ref 56), (1, .int x1), (2, .int x2), (3, .int x3)] [] :=
  loop_ok (K := k_X12_round_59 X T R n1 n2 x1 x2) (fun s r hf hk => w_X12_round_59 hX hG hf hk) h he
set_option maxHeartbeats 4000000 in
set_option maxRecDepth 100000 in
theorem w_X12_round_17 {X : CX} {T : List Dsc} {R : RM} {c e : Nat} {n1 n2 : Nat} {x1 : Int32} {x2 : Int32} {m : M2} {r : ((Int32 × M2) ⊕ ((Int32 × Int32 × M2) ⊕ (M2)))} (hX : XR X 9 n1 n2) (hG : Geo T R c e) (hf : f_X12_round_17 x1 x2 m = some r) (hk : k_X12_round_17 X T R n1 n2 x1 r) : Wp X cX12_round RX12 4 T (mk m R) n1 n2 17 [(0, .ref 56), (1, .int x1), (2, .int x2)] [] := by
  unfold f_X12_round_17 at hf
  refine Wp.iload_n (pc := 17) 2 rfl rfl dX12_round_17 ?_
  refine Wp.sipush (pc := 18) (400 : Int32) (by decide) dX12_round_18 ?_
  refine Wp.icmp_gt (pc := 21) 101 dX12_round_21 (by decide) (fun hc1 => ?_) (fun hc1 => ?_)
  · rw [if_pos hc1] at hf
    refine Wp.lo' (lo' := []) [] rfl ?_
    cases hf
    exact hk
  · rw [if_neg hc1] at hf
    refine Wp.iconst (pc := 24) (0 : Int32) (by decide) dX12_round_24 ?_
    refine Wp.istore_n (pc := 25) (lo' := [(0, .ref 56), (1, .int x1), (2, .int x2), (3, .int (0 : Int32))]) [1, 2, 3, 0] rfl (by decide) rfl dX12_round_25 ?_
    obtain ⟨e2, h3, hf⟩ := bnd hf
    refine wl_X12_round_26 hX hG h3 (fun e2_0 hq => ?_) (fun e2_1 hq => ?_)
    · rw [hq, Sum.elim_inl] at hf
      cases hf
      exact hk
    · rw [hq, Sum.elim_inr] at hf
      refine Wp.iconst (pc := 57) (0 : Int32) (by decide) dX12_round_57 ?_
      refine Wp.istore_n (pc := 58) (lo' := [(0, .ref 56), (1, .int x1), (2, .int x2), (3, .int (0 : Int32))]) [1, 2, 3, 0] rfl (by decide) rfl dX12_round_58 ?_
      obtain ⟨e4, h5, hf⟩ := bnd hf
      refine wl_X12_round_59 hX hG h5 ?_
      refine Wp.aload_n (pc := 90) 0 rfl rfl dX12_round_90 ?_
      refine Wp.iconst (pc := 91) (0 : Int32) (by decide) dX12_round_91 ?_
      obtain ⟨c6, h7, hf⟩ := bnd hf
      refine Wp.callVv (pc := 92) (st := []) (as := [.int (0 : Int32)]) (c_X12_strikes hG h7) ml_RX12_450 mv_X12_strikes mb_X12_strikes hX (Nat.le_of_ble_eq_true rfl) (by decide) rfl (hG.t 56 rfl) rfl (by simp) dX12_round_92 rfl ?_
      obtain ⟨v8, h9, hf⟩ := bnd hf
      refine Wp.iincN (pc := 95) (lo' := [(0, .ref 56), (1, .int x1), (2, .int v8)]) (1 : Int32) (by decide) h9 2 rfl [1, 2, 0] rfl (by decide) dX12_round_95 ?_
      refine Wp.goto (pc := 98) 17 dX12_round_98 (by decide) ?_
      cases hf
      exact hk
theorem wl_X12_round_17 {X : CX} {T : List Dsc} {R : RM} {c e : Nat} {n1 n2 : Nat} {x1 : Int32} {x2 : Int32} {m : M2} {e1 : ((Int32 × Int32 × M2) ⊕ (M2))} (hX : XR X 9 n1 n2) (hG : Geo T R c e) (h : loop (g_X12_round_17 x1) (x2, m) = some e1) (he0 : ∀ e_, e1 = (Sum.inl e_) → Wp X cX12_round RX12 4 T (mk e_.2.2 R) n1 n2 39 [(1, .int x1), (2, .int e_.1), (3, .int e_.2.1)] []) (he1 : ∀ e_, e1 = (Sum.inr e_) → Wp X cX12_round RX12 4 T (mk e_ R) n1 n2 101 [] []) : Wp X cX12_round RX12 4 T (mk m R) n1 n2 17 [(0, .ref 56), (1, .int x1), (2, .int x2)] [] :=
  loop_ok (K := k_X12_round_17 X T R n1 n2 x1) (fun s r hf hk => w_X12_round_17 hX hG hf hk) h (by rcases e1 with e_ | e_ <;> first | exact he0 _ rfl | exact he1 _ rfl)
set_option maxHeartbeats 4000000 in
set_option maxRecDepth 100000 in
theorem w_X12_round_50 {X : CX} {T : List Dsc} {R : RM} {c e : Nat} {n1 n2 : Nat} {s0 : Int32} {m : M2} {r : (Int32 × M2)} (hX : XR X 9 n1 n2) (hG : Geo T R c e) (hf : f_X12_round_50 s0 m = some r) (hk : FnI X cX12_round RX12 4 T n1 n2 (r.1, mk r.2 R)) : Wp X cX12_round RX12 4 T (mk m R) n1 n2 50 [] [.int s0] := by
  unfold f_X12_round_50 at hf
  cases hf
  exact hk _ _ dX12_round_50
set_option maxHeartbeats 4000000 in
set_option maxRecDepth 100000 in
theorem w_X12_round {X : CX} {T : List Dsc} {R : RM} {c e : Nat} {n1 n2 : Nat} {x1 : Int32} {m : M2} {r : (Int32 × M2)} (hX : XR X 9 n1 n2) (hG : Geo T R c e) (hf : F_X12_round x1 m = some r) (hk : FnI X cX12_round RX12 4 T n1 n2 (r.1, mk r.2 R)) : Wp X cX12_round RX12 4 T (mk m R) n1 n2 0 [(0, .ref 56), (1, .int x1)] [] := by
  unfold F_X12_round at hf
  refine Wp.iload_n (pc := 0) 1 rfl rfl dX12_round_0 ?_
  refine Wp.iconst (pc := 1) (0 : Int32) (by decide) dX12_round_1 ?_
  refine Wp.iconst (pc := 2) (1 : Int32) (by decide) dX12_round_2 ?_
  obtain ⟨c1, h2, hf⟩ := bnd hf
  refine Wp.callSi (pc := 3) (st := []) (as := [.int x1, .int (0 : Int32), .int (1 : Int32)]) (c_X12_in hG h2) ml_RX12_414 ms_X12_in mb_X12_in hX (Nat.le_of_ble_eq_true rfl) (by decide) rfl (by simp) dX12_round_3 rfl ?_
  refine Wp.if_ne (pc := 6) 11 dX12_round_6 (by decide) (fun hc3 => ?_) (fun hc3 => ?_)
  · rw [if_neg hc3] at hf
    refine Wp.aload_n (pc := 11) 0 rfl rfl dX12_round_11 ?_
    obtain ⟨c4, h5, hf⟩ := bnd hf
    refine Wp.callVv (pc := 12) (st := []) (as := []) (c_X12_takes hG h5) ml_RX12_444 mv_X12_takes mb_X12_takes hX (Nat.le_of_ble_eq_true rfl) (by decide) rfl (hG.t 56 rfl) rfl (by simp) dX12_round_12 rfl ?_
    refine Wp.iconst (pc := 15) (0 : Int32) (by decide) dX12_round_15 ?_
    refine Wp.istore_n (pc := 16) (lo' := [(0, .ref 56), (1, .int x1), (2, .int (0 : Int32))]) [1, 2, 0] rfl (by decide) rfl dX12_round_16 ?_
    obtain ⟨e6, h7, hf⟩ := bnd hf
    refine wl_X12_round_17 hX hG h7 (fun e6_0 hq => ?_) (fun e6_1 hq => ?_)
    · rw [hq, Sum.elim_inl] at hf
      refine Wp.iload_n (pc := 39) 0 rfl rfl dX12_round_39 ?_
      refine Wp.if_ne (pc := 40) 49 dX12_round_40 (by decide) (fun hc8 => ?_) (fun hc8 => ?_)
      · rw [if_neg hc8] at hf
        refine Wp.iload_n (pc := 49) 2 rfl rfl dX12_round_49 ?_
        refine Wp.lo' (lo' := []) [] rfl ?_
        exact w_X12_round_50 hX hG hf hk
      · rw [if_pos hc8] at hf
        refine Wp.iload_n (pc := 43) 1 rfl rfl dX12_round_43 ?_
        refine Wp.iload_n (pc := 44) 2 rfl rfl dX12_round_44 ?_
        refine Wp.isub (pc := 45) dX12_round_45 ?_
        refine Wp.goto (pc := 46) 50 dX12_round_46 (by decide) ?_
        refine Wp.lo' (lo' := []) [] rfl ?_
        exact w_X12_round_50 hX hG hf hk
    · rw [hq, Sum.elim_inr] at hf
      refine Wp.bipush (pc := 101) (-2 : Int32) (by decide) dX12_round_101 ?_
      cases hf
      exact hk _ _ dX12_round_103
  · rw [if_pos hc3] at hf
    refine Wp.iconst (pc := 9) (-1 : Int32) (by decide) dX12_round_9 ?_
    cases hf
    exact hk _ _ dX12_round_10
theorem c_X12_round {T : List Dsc} {R : RM} {c e : Nat} {x1 : Int32} {m : M2} {r : (Int32 × M2)} (hG : Geo T R c e) (hf : F_X12_round x1 m = some r) : Ct 9 yX12_round cX12_round 4 (some .int) T (mk m R) [.ref 56, .int x1] (some (.int r.1)) (mk r.2 R) := Ct.ofI (r := (r.1, mk r.2 R)) (by decide +kernel) (Nat.le_of_ble_eq_true rfl) (fun X hX hk => w_X12_round hX hG hf hk)
theorem dX12_change_0 : decode cX12_change 0 = .ok (.aload_n 0, 1) := by decide +kernel
theorem dX12_change_1 : decode cX12_change 1 = .ok (.iload_n 1, 1) := by decide +kernel
theorem dX12_change_2 : decode cX12_change 2 = .ok (.invokevirtual 441, 3) := by decide +kernel
theorem dX12_change_5 : decode cX12_change 5 = .ok (.ifCond .eq 16, 3) := by decide +kernel
theorem dX12_change_8 : decode cX12_change 8 = .ok (.aload_n 0, 1) := by decide +kernel
theorem dX12_change_9 : decode cX12_change 9 = .ok (.iload_n 2, 1) := by decide +kernel
theorem dX12_change_10 : decode cX12_change 10 = .ok (.invokevirtual 441, 3) := by decide +kernel
theorem dX12_change_13 : decode cX12_change 13 = .ok (.ifCond .eq 8, 3) := by decide +kernel
theorem dX12_change_16 : decode cX12_change 16 = .ok (.iload_n 1, 1) := by decide +kernel
theorem dX12_change_17 : decode cX12_change 17 = .ok (.iload_n 2, 1) := by decide +kernel
theorem dX12_change_18 : decode cX12_change 18 = .ok (.if_icmp .ne 5, 3) := by decide +kernel
theorem dX12_change_21 : decode cX12_change 21 = .ok (.iconst 0, 1) := by decide +kernel
theorem dX12_change_22 : decode cX12_change 22 = .ok (.ireturn, 1) := by decide +kernel
theorem dX12_change_23 : decode cX12_change 23 = .ok (.aload_n 0, 1) := by decide +kernel
theorem dX12_change_24 : decode cX12_change 24 = .ok (.getfield 128, 3) := by decide +kernel
theorem dX12_change_27 : decode cX12_change 27 = .ok (.iload_n 1, 1) := by decide +kernel
theorem dX12_change_28 : decode cX12_change 28 = .ok (.iaload, 1) := by decide +kernel
theorem dX12_change_29 : decode cX12_change 29 = .ok (.istore_n 3, 1) := by decide +kernel
theorem dX12_change_30 : decode cX12_change 30 = .ok (.aload_n 0, 1) := by decide +kernel
theorem dX12_change_31 : decode cX12_change 31 = .ok (.getfield 131, 3) := by decide +kernel
theorem dX12_change_34 : decode cX12_change 34 = .ok (.iload_n 1, 1) := by decide +kernel
theorem dX12_change_35 : decode cX12_change 35 = .ok (.iaload, 1) := by decide +kernel
theorem dX12_change_36 : decode cX12_change 36 = .ok (.istore 4, 2) := by decide +kernel
theorem dX12_change_38 : decode cX12_change 38 = .ok (.aload_n 0, 1) := by decide +kernel
theorem dX12_change_39 : decode cX12_change 39 = .ok (.getfield 134, 3) := by decide +kernel
theorem dX12_change_42 : decode cX12_change 42 = .ok (.iload_n 1, 1) := by decide +kernel
theorem dX12_change_43 : decode cX12_change 43 = .ok (.iaload, 1) := by decide +kernel
theorem dX12_change_44 : decode cX12_change 44 = .ok (.istore 5, 2) := by decide +kernel
theorem dX12_change_46 : decode cX12_change 46 = .ok (.aload_n 0, 1) := by decide +kernel
theorem dX12_change_47 : decode cX12_change 47 = .ok (.getfield 128, 3) := by decide +kernel
theorem dX12_change_50 : decode cX12_change 50 = .ok (.iload_n 1, 1) := by decide +kernel
theorem dX12_change_51 : decode cX12_change 51 = .ok (.aload_n 0, 1) := by decide +kernel
theorem dX12_change_52 : decode cX12_change 52 = .ok (.getfield 128, 3) := by decide +kernel
theorem dX12_change_55 : decode cX12_change 55 = .ok (.iload_n 2, 1) := by decide +kernel
theorem dX12_change_56 : decode cX12_change 56 = .ok (.iaload, 1) := by decide +kernel
theorem dX12_change_57 : decode cX12_change 57 = .ok (.iastore, 1) := by decide +kernel
theorem dX12_change_58 : decode cX12_change 58 = .ok (.aload_n 0, 1) := by decide +kernel
theorem dX12_change_59 : decode cX12_change 59 = .ok (.getfield 131, 3) := by decide +kernel
theorem dX12_change_62 : decode cX12_change 62 = .ok (.iload_n 1, 1) := by decide +kernel
theorem dX12_change_63 : decode cX12_change 63 = .ok (.aload_n 0, 1) := by decide +kernel
theorem dX12_change_64 : decode cX12_change 64 = .ok (.getfield 131, 3) := by decide +kernel
theorem dX12_change_67 : decode cX12_change 67 = .ok (.iload_n 2, 1) := by decide +kernel
theorem dX12_change_68 : decode cX12_change 68 = .ok (.iaload, 1) := by decide +kernel
theorem dX12_change_69 : decode cX12_change 69 = .ok (.iastore, 1) := by decide +kernel
theorem dX12_change_70 : decode cX12_change 70 = .ok (.aload_n 0, 1) := by decide +kernel
theorem dX12_change_71 : decode cX12_change 71 = .ok (.getfield 134, 3) := by decide +kernel
theorem dX12_change_74 : decode cX12_change 74 = .ok (.iload_n 1, 1) := by decide +kernel
theorem dX12_change_75 : decode cX12_change 75 = .ok (.aload_n 0, 1) := by decide +kernel
theorem dX12_change_76 : decode cX12_change 76 = .ok (.getfield 134, 3) := by decide +kernel
theorem dX12_change_79 : decode cX12_change 79 = .ok (.iload_n 2, 1) := by decide +kernel
theorem dX12_change_80 : decode cX12_change 80 = .ok (.iaload, 1) := by decide +kernel
theorem dX12_change_81 : decode cX12_change 81 = .ok (.iastore, 1) := by decide +kernel
theorem dX12_change_82 : decode cX12_change 82 = .ok (.aload_n 0, 1) := by decide +kernel
theorem dX12_change_83 : decode cX12_change 83 = .ok (.getfield 128, 3) := by decide +kernel
theorem dX12_change_86 : decode cX12_change 86 = .ok (.iload_n 2, 1) := by decide +kernel
theorem dX12_change_87 : decode cX12_change 87 = .ok (.iload_n 3, 1) := by decide +kernel
theorem dX12_change_88 : decode cX12_change 88 = .ok (.iastore, 1) := by decide +kernel
theorem dX12_change_89 : decode cX12_change 89 = .ok (.aload_n 0, 1) := by decide +kernel
theorem dX12_change_90 : decode cX12_change 90 = .ok (.getfield 131, 3) := by decide +kernel
theorem dX12_change_93 : decode cX12_change 93 = .ok (.iload_n 2, 1) := by decide +kernel
theorem dX12_change_94 : decode cX12_change 94 = .ok (.iload 4, 2) := by decide +kernel
theorem dX12_change_96 : decode cX12_change 96 = .ok (.iastore, 1) := by decide +kernel
theorem dX12_change_97 : decode cX12_change 97 = .ok (.aload_n 0, 1) := by decide +kernel
theorem dX12_change_98 : decode cX12_change 98 = .ok (.getfield 134, 3) := by decide +kernel
theorem dX12_change_101 : decode cX12_change 101 = .ok (.iload_n 2, 1) := by decide +kernel
theorem dX12_change_102 : decode cX12_change 102 = .ok (.iload 5, 2) := by decide +kernel
theorem dX12_change_104 : decode cX12_change 104 = .ok (.iastore, 1) := by decide +kernel
theorem dX12_change_105 : decode cX12_change 105 = .ok (.iconst 1, 1) := by decide +kernel
theorem dX12_change_106 : decode cX12_change 106 = .ok (.ireturn, 1) := by decide +kernel
set_option maxHeartbeats 4000000 in
set_option maxRecDepth 100000 in
theorem w_X12_change_21 {X : CX} {T : List Dsc} {R : RM} {c e : Nat} {n1 n2 : Nat} {m : M2} {r : (Int32 × M2)} (hX : XR X 3 n1 n2) (hG : Geo T R c e) (hf : f_X12_change_21 m = some r) (hk : FnZ X cX12_change RX12 6 T n1 n2 (r.1, mk r.2 R)) : Wp X cX12_change RX12 6 T (mk m R) n1 n2 21 [] [] := by
  unfold f_X12_change_21 at hf
  refine Wp.iconst (pc := 21) (0 : Int32) (by decide) dX12_change_21 ?_
  cases hf
  exact hk _ _ (Or.inl rfl) dX12_change_22
set_option maxHeartbeats 4000000 in
set_option maxRecDepth 100000 in
theorem w_X12_change {X : CX} {T : List Dsc} {R : RM} {c e : Nat} {n1 n2 : Nat} {x1 : Int32} {x2 : Int32} {m : M2} {r : (Int32 × M2)} (hX : XR X 3 n1 n2) (hG : Geo T R c e) (hf : F_X12_change x1 x2 m = some r) (hk : FnZ X cX12_change RX12 6 T n1 n2 (r.1, mk r.2 R)) : Wp X cX12_change RX12 6 T (mk m R) n1 n2 0 [(0, .ref 56), (1, .int x1), (2, .int x2)] [] := by
  unfold F_X12_change at hf
  refine Wp.aload_n (pc := 0) 0 rfl rfl dX12_change_0 ?_
  refine Wp.iload_n (pc := 1) 1 rfl rfl dX12_change_1 ?_
  obtain ⟨c1, h2, hf⟩ := bnd hf
  refine Wp.callVi (pc := 2) (st := []) (as := [.int x1]) (c_X12_isBench hG h2) ml_RX12_441 mv_X12_isBench mb_X12_isBench hX (Nat.le_of_ble_eq_true rfl) (by decide) rfl (hG.t 56 rfl) rfl (by simp) dX12_change_2 rfl ?_
  refine Wp.if_eq (pc := 5) 21 dX12_change_5 (by decide) (fun hc3 => ?_) (fun hc3 => ?_)
  · rw [if_pos hc3] at hf
    refine Wp.lo' (lo' := []) [] rfl ?_
    exact w_X12_change_21 hX hG hf hk
  · rw [if_neg hc3] at hf
    refine Wp.aload_n (pc := 8) 0 rfl rfl dX12_change_8 ?_
    refine Wp.iload_n (pc := 9) 2 rfl rfl dX12_change_9 ?_
    obtain ⟨c4, h5, hf⟩ := bnd hf
    refine Wp.callVi (pc := 10) (st := []) (as := [.int x2]) (c_X12_isBench hG h5) ml_RX12_441 mv_X12_isBench mb_X12_isBench hX (Nat.le_of_ble_eq_true rfl) (by decide) rfl (hG.t 56 rfl) rfl (by simp) dX12_change_10 rfl ?_
    refine Wp.if_eq (pc := 13) 21 dX12_change_13 (by decide) (fun hc6 => ?_) (fun hc6 => ?_)
    · rw [if_pos hc6] at hf
      refine Wp.lo' (lo' := []) [] rfl ?_
      exact w_X12_change_21 hX hG hf hk
    · rw [if_neg hc6] at hf
      refine Wp.iload_n (pc := 16) 1 rfl rfl dX12_change_16 ?_
      refine Wp.iload_n (pc := 17) 2 rfl rfl dX12_change_17 ?_
      refine Wp.icmp_ne (pc := 18) 23 dX12_change_18 (by decide) (fun hc7 => ?_) (fun hc7 => ?_)
      · rw [if_neg hc7] at hf
        refine Wp.aload_n (pc := 23) 0 rfl rfl dX12_change_23 ?_
        refine Wp.getR2 (pc := 24) (hG.r 56 55 rfl) (hG.t 56 rfl) fk_RX12_128 rfl dX12_change_24 ?_
        refine Wp.iload_n (pc := 27) 1 rfl rfl dX12_change_27 ?_
        obtain ⟨v8, h9, hf⟩ := bnd hf
        refine Wp.iald2 (pc := 28) h9 (hG.a 93 0 rfl) dX12_change_28 ?_
        refine Wp.istore_n (pc := 29) (lo' := [(0, .ref 56), (1, .int x1), (2, .int x2), (3, .int v8)]) [1, 2, 3, 0] rfl (by decide) rfl dX12_change_29 ?_
        refine Wp.aload_n (pc := 30) 0 rfl rfl dX12_change_30 ?_
        refine Wp.getR2 (pc := 31) (hG.r 56 56 rfl) (hG.t 56 rfl) fk_RX12_131 rfl dX12_change_31 ?_
        refine Wp.iload_n (pc := 34) 1 rfl rfl dX12_change_34 ?_
        obtain ⟨v10, h11, hf⟩ := bnd hf
        refine Wp.iald2 (pc := 35) h11 (hG.a 94 0 rfl) dX12_change_35 ?_
        refine Wp.istore (pc := 36) (lo' := [(0, .ref 56), (1, .int x1), (2, .int x2), (3, .int v8), (4, .int v10)]) [1, 2, 3, 4, 0] rfl (by decide) dX12_change_36 ?_
        refine Wp.aload_n (pc := 38) 0 rfl rfl dX12_change_38 ?_
        refine Wp.getR2 (pc := 39) (hG.r 56 57 rfl) (hG.t 56 rfl) fk_RX12_134 rfl dX12_change_39 ?_
        refine Wp.iload_n (pc := 42) 1 rfl rfl dX12_change_42 ?_
        obtain ⟨v12, h13, hf⟩ := bnd hf
        refine Wp.iald2 (pc := 43) h13 (hG.a 95 0 rfl) dX12_change_43 ?_
        refine Wp.istore (pc := 44) (lo' := [(0, .ref 56), (1, .int x1), (2, .int x2), (3, .int v8), (4, .int v10), (5, .int v12)]) [1, 2, 3, 4, 5, 0] rfl (by decide) dX12_change_44 ?_
        refine Wp.aload_n (pc := 46) 0 rfl rfl dX12_change_46 ?_
        refine Wp.getR2 (pc := 47) (hG.r 56 55 rfl) (hG.t 56 rfl) fk_RX12_128 rfl dX12_change_47 ?_
        refine Wp.iload_n (pc := 50) 1 rfl rfl dX12_change_50 ?_
        refine Wp.aload_n (pc := 51) 0 rfl rfl dX12_change_51 ?_
        refine Wp.getR2 (pc := 52) (hG.r 56 55 rfl) (hG.t 56 rfl) fk_RX12_128 rfl dX12_change_52 ?_
        refine Wp.iload_n (pc := 55) 2 rfl rfl dX12_change_55 ?_
        obtain ⟨v14, h15, hf⟩ := bnd hf
        refine Wp.iald2 (pc := 56) h15 (hG.a 93 0 rfl) dX12_change_56 ?_
        obtain ⟨m16, h17, hf⟩ := bnd hf
        refine Wp.iast2 (pc := 57) h17 (hG.a 93 0 rfl) dX12_change_57 ?_
        refine Wp.aload_n (pc := 58) 0 rfl rfl dX12_change_58 ?_
        refine Wp.getR2 (pc := 59) (hG.r 56 56 rfl) (hG.t 56 rfl) fk_RX12_131 rfl dX12_change_59 ?_
        refine Wp.iload_n (pc := 62) 1 rfl rfl dX12_change_62 ?_
        refine Wp.aload_n (pc := 63) 0 rfl rfl dX12_change_63 ?_
        refine Wp.getR2 (pc := 64) (hG.r 56 56 rfl) (hG.t 56 rfl) fk_RX12_131 rfl dX12_change_64 ?_
        refine Wp.iload_n (pc := 67) 2 rfl rfl dX12_change_67 ?_
        obtain ⟨v18, h19, hf⟩ := bnd hf
        refine Wp.iald2 (pc := 68) h19 (hG.a 94 0 rfl) dX12_change_68 ?_
        obtain ⟨m20, h21, hf⟩ := bnd hf
        refine Wp.iast2 (pc := 69) h21 (hG.a 94 0 rfl) dX12_change_69 ?_
        refine Wp.aload_n (pc := 70) 0 rfl rfl dX12_change_70 ?_
        refine Wp.getR2 (pc := 71) (hG.r 56 57 rfl) (hG.t 56 rfl) fk_RX12_134 rfl dX12_change_71 ?_
        refine Wp.iload_n (pc := 74) 1 rfl rfl dX12_change_74 ?_
        refine Wp.aload_n (pc := 75) 0 rfl rfl dX12_change_75 ?_
        refine Wp.getR2 (pc := 76) (hG.r 56 57 rfl) (hG.t 56 rfl) fk_RX12_134 rfl dX12_change_76 ?_
        refine Wp.iload_n (pc := 79) 2 rfl rfl dX12_change_79 ?_
        obtain ⟨v22, h23, hf⟩ := bnd hf
        refine Wp.iald2 (pc := 80) h23 (hG.a 95 0 rfl) dX12_change_80 ?_
        obtain ⟨m24, h25, hf⟩ := bnd hf
        refine Wp.iast2 (pc := 81) h25 (hG.a 95 0 rfl) dX12_change_81 ?_
        refine Wp.aload_n (pc := 82) 0 rfl rfl dX12_change_82 ?_
        refine Wp.getR2 (pc := 83) (hG.r 56 55 rfl) (hG.t 56 rfl) fk_RX12_128 rfl dX12_change_83 ?_
        refine Wp.iload_n (pc := 86) 2 rfl rfl dX12_change_86 ?_
        refine Wp.iload_n (pc := 87) 3 rfl rfl dX12_change_87 ?_
        obtain ⟨m26, h27, hf⟩ := bnd hf
        refine Wp.iast2 (pc := 88) h27 (hG.a 93 0 rfl) dX12_change_88 ?_
        refine Wp.aload_n (pc := 89) 0 rfl rfl dX12_change_89 ?_
        refine Wp.getR2 (pc := 90) (hG.r 56 56 rfl) (hG.t 56 rfl) fk_RX12_131 rfl dX12_change_90 ?_
        refine Wp.iload_n (pc := 93) 2 rfl rfl dX12_change_93 ?_
        refine Wp.iload (pc := 94) 4 rfl dX12_change_94 ?_
        obtain ⟨m28, h29, hf⟩ := bnd hf
        refine Wp.iast2 (pc := 96) h29 (hG.a 94 0 rfl) dX12_change_96 ?_
        refine Wp.aload_n (pc := 97) 0 rfl rfl dX12_change_97 ?_
        refine Wp.getR2 (pc := 98) (hG.r 56 57 rfl) (hG.t 56 rfl) fk_RX12_134 rfl dX12_change_98 ?_
        refine Wp.iload_n (pc := 101) 2 rfl rfl dX12_change_101 ?_
        refine Wp.iload (pc := 102) 5 rfl dX12_change_102 ?_
        obtain ⟨m30, h31, hf⟩ := bnd hf
        refine Wp.iast2 (pc := 104) h31 (hG.a 95 0 rfl) dX12_change_104 ?_
        refine Wp.iconst (pc := 105) (1 : Int32) (by decide) dX12_change_105 ?_
        cases hf
        exact hk _ _ (Or.inr rfl) dX12_change_106
      · rw [if_pos hc7] at hf
        refine Wp.lo' (lo' := []) [] rfl ?_
        exact w_X12_change_21 hX hG hf hk
theorem c_X12_change {T : List Dsc} {R : RM} {c e : Nat} {x1 : Int32} {x2 : Int32} {m : M2} {r : (Int32 × M2)} (hG : Geo T R c e) (hf : F_X12_change x1 x2 m = some r) : Ct 3 yX12_change cX12_change 6 (some .boolean) T (mk m R) [.ref 56, .int x1, .int x2] (some (.int r.1)) (mk r.2 R) := Ct.ofZ (r := (r.1, mk r.2 R)) (by decide +kernel) (Nat.le_of_ble_eq_true rfl) (fun X hX hk => w_X12_change hX hG hf hk)
theorem dX12_teach_0 : decode cX12_teach 0 = .ok (.aload_n 0, 1) := by decide +kernel
theorem dX12_teach_1 : decode cX12_teach 1 = .ok (.iload_n 1, 1) := by decide +kernel
theorem dX12_teach_2 : decode cX12_teach 2 = .ok (.invokevirtual 441, 3) := by decide +kernel
theorem dX12_teach_5 : decode cX12_teach 5 = .ok (.ifCond .eq 22, 3) := by decide +kernel
theorem dX12_teach_8 : decode cX12_teach 8 = .ok (.iload_n 2, 1) := by decide +kernel
theorem dX12_teach_9 : decode cX12_teach 9 = .ok (.iconst 0, 1) := by decide +kernel
theorem dX12_teach_10 : decode cX12_teach 10 = .ok (.aload_n 0, 1) := by decide +kernel
theorem dX12_teach_11 : decode cX12_teach 11 = .ok (.getfield 49, 3) := by decide +kernel
theorem dX12_teach_14 : decode cX12_teach 14 = .ok (.aload_n 0, 1) := by decide +kernel
theorem dX12_teach_15 : decode cX12_teach 15 = .ok (.getfield 284, 3) := by decide +kernel
theorem dX12_teach_18 : decode cX12_teach 18 = .ok (.iaload, 1) := by decide +kernel
theorem dX12_teach_19 : decode cX12_teach 19 = .ok (.iconst 1, 1) := by decide +kernel
theorem dX12_teach_20 : decode cX12_teach 20 = .ok (.isub, 1) := by decide +kernel
theorem dX12_teach_21 : decode cX12_teach 21 = .ok (.invokestatic 414, 3) := by decide +kernel
theorem dX12_teach_24 : decode cX12_teach 24 = .ok (.ifCond .ne 5, 3) := by decide +kernel
theorem dX12_teach_27 : decode cX12_teach 27 = .ok (.iconst 0, 1) := by decide +kernel
theorem dX12_teach_28 : decode cX12_teach 28 = .ok (.ireturn, 1) := by decide +kernel
theorem dX12_teach_29 : decode cX12_teach 29 = .ok (.aload_n 0, 1) := by decide +kernel
theorem dX12_teach_30 : decode cX12_teach 30 = .ok (.getfield 134, 3) := by decide +kernel
theorem dX12_teach_33 : decode cX12_teach 33 = .ok (.iload_n 1, 1) := by decide +kernel
theorem dX12_teach_34 : decode cX12_teach 34 = .ok (.iload_n 2, 1) := by decide +kernel
theorem dX12_teach_35 : decode cX12_teach 35 = .ok (.iastore, 1) := by decide +kernel
theorem dX12_teach_36 : decode cX12_teach 36 = .ok (.iconst 1, 1) := by decide +kernel
theorem dX12_teach_37 : decode cX12_teach 37 = .ok (.ireturn, 1) := by decide +kernel
set_option maxHeartbeats 4000000 in
set_option maxRecDepth 100000 in
theorem w_X12_teach_27 {X : CX} {T : List Dsc} {R : RM} {c e : Nat} {n1 n2 : Nat} {m : M2} {r : (Int32 × M2)} (hX : XR X 3 n1 n2) (hG : Geo T R c e) (hf : f_X12_teach_27 m = some r) (hk : FnZ X cX12_teach RX12 3 T n1 n2 (r.1, mk r.2 R)) : Wp X cX12_teach RX12 3 T (mk m R) n1 n2 27 [] [] := by
  unfold f_X12_teach_27 at hf
  refine Wp.iconst (pc := 27) (0 : Int32) (by decide) dX12_teach_27 ?_
  cases hf
  exact hk _ _ (Or.inl rfl) dX12_teach_28
set_option maxHeartbeats 4000000 in
set_option maxRecDepth 100000 in
theorem w_X12_teach {X : CX} {T : List Dsc} {R : RM} {c e : Nat} {n1 n2 : Nat} {x1 : Int32} {x2 : Int32} {m : M2} {r : (Int32 × M2)} (hX : XR X 3 n1 n2) (hG : Geo T R c e) (hf : F_X12_teach x1 x2 m = some r) (hk : FnZ X cX12_teach RX12 3 T n1 n2 (r.1, mk r.2 R)) : Wp X cX12_teach RX12 3 T (mk m R) n1 n2 0 [(0, .ref 56), (1, .int x1), (2, .int x2)] [] := by
  unfold F_X12_teach at hf
  refine Wp.aload_n (pc := 0) 0 rfl rfl dX12_teach_0 ?_
  refine Wp.iload_n (pc := 1) 1 rfl rfl dX12_teach_1 ?_
  obtain ⟨c1, h2, hf⟩ := bnd hf
  refine Wp.callVi (pc := 2) (st := []) (as := [.int x1]) (c_X12_isBench hG h2) ml_RX12_441 mv_X12_isBench mb_X12_isBench hX (Nat.le_of_ble_eq_true rfl) (by decide) rfl (hG.t 56 rfl) rfl (by simp) dX12_teach_2 rfl ?_
  refine Wp.if_eq (pc := 5) 27 dX12_teach_5 (by decide) (fun hc3 => ?_) (fun hc3 => ?_)
  · rw [if_pos hc3] at hf
    refine Wp.lo' (lo' := []) [] rfl ?_
    exact w_X12_teach_27 hX hG hf hk
  · rw [if_neg hc3] at hf
    refine Wp.iload_n (pc := 8) 2 rfl rfl dX12_teach_8 ?_
    refine Wp.iconst (pc := 9) (0 : Int32) (by decide) dX12_teach_9 ?_
    refine Wp.aload_n (pc := 10) 0 rfl rfl dX12_teach_10 ?_
    refine Wp.getR2 (pc := 11) (hG.r 56 24 rfl) (hG.t 56 rfl) fk_RX12_49 rfl dX12_teach_11 ?_
    refine Wp.aload_n (pc := 14) 0 rfl rfl dX12_teach_14 ?_
    refine Wp.getI2 (pc := 15) (hG.t 56 rfl) fk_RX12_284 rfl dX12_teach_15 ?_
    obtain ⟨v4, h5, hf⟩ := bnd hf
    refine Wp.iald2 (pc := 18) h5 (hG.a 67 0 rfl) dX12_teach_18 ?_
    refine Wp.iconst (pc := 19) (1 : Int32) (by decide) dX12_teach_19 ?_
    refine Wp.isub (pc := 20) dX12_teach_20 ?_
    obtain ⟨c6, h7, hf⟩ := bnd hf
    refine Wp.callSi (pc := 21) (st := []) (as := [.int x2, .int (0 : Int32), .int (v4 - (1 : Int32))]) (c_X12_in hG h7) ml_RX12_414 ms_X12_in mb_X12_in hX (Nat.le_of_ble_eq_true rfl) (by decide) rfl (by simp) dX12_teach_21 rfl ?_
    refine Wp.if_ne (pc := 24) 29 dX12_teach_24 (by decide) (fun hc8 => ?_) (fun hc8 => ?_)
    · rw [if_neg hc8] at hf
      refine Wp.aload_n (pc := 29) 0 rfl rfl dX12_teach_29 ?_
      refine Wp.getR2 (pc := 30) (hG.r 56 57 rfl) (hG.t 56 rfl) fk_RX12_134 rfl dX12_teach_30 ?_
      refine Wp.iload_n (pc := 33) 1 rfl rfl dX12_teach_33 ?_
      refine Wp.iload_n (pc := 34) 2 rfl rfl dX12_teach_34 ?_
      obtain ⟨m9, h10, hf⟩ := bnd hf
      refine Wp.iast2 (pc := 35) h10 (hG.a 95 0 rfl) dX12_teach_35 ?_
      refine Wp.iconst (pc := 36) (1 : Int32) (by decide) dX12_teach_36 ?_
      cases hf
      exact hk _ _ (Or.inr rfl) dX12_teach_37
    · rw [if_pos hc8] at hf
      refine Wp.lo' (lo' := []) [] rfl ?_
      exact w_X12_teach_27 hX hG hf hk
theorem c_X12_teach {T : List Dsc} {R : RM} {c e : Nat} {x1 : Int32} {x2 : Int32} {m : M2} {r : (Int32 × M2)} (hG : Geo T R c e) (hf : F_X12_teach x1 x2 m = some r) : Ct 3 yX12_teach cX12_teach 3 (some .boolean) T (mk m R) [.ref 56, .int x1, .int x2] (some (.int r.1)) (mk r.2 R) := Ct.ofZ (r := (r.1, mk r.2 R)) (by decide +kernel) (Nat.le_of_ble_eq_true rfl) (fun X hX hk => w_X12_teach hX hG hf hk)
theorem dX12_set_0 : decode cX12_set 0 = .ok (.aload_n 0, 1) := by decide +kernel
theorem dX12_set_1 : decode cX12_set 1 = .ok (.iload_n 1, 1) := by decide +kernel
theorem dX12_set_2 : decode cX12_set 2 = .ok (.invokevirtual 441, 3) := by decide +kernel
theorem dX12_set_5 : decode cX12_set 5 = .ok (.ifCond .eq 17, 3) := by decide +kernel
theorem dX12_set_8 : decode cX12_set 8 = .ok (.iload_n 2, 1) := by decide +kernel
theorem dX12_set_9 : decode cX12_set 9 = .ok (.iconst 0, 1) := by decide +kernel
theorem dX12_set_10 : decode cX12_set 10 = .ok (.aload_n 0, 1) := by decide +kernel
theorem dX12_set_11 : decode cX12_set 11 = .ok (.invokevirtual 408, 3) := by decide +kernel
theorem dX12_set_14 : decode cX12_set 14 = .ok (.iconst 1, 1) := by decide +kernel
theorem dX12_set_15 : decode cX12_set 15 = .ok (.isub, 1) := by decide +kernel
theorem dX12_set_16 : decode cX12_set 16 = .ok (.invokestatic 414, 3) := by decide +kernel
theorem dX12_set_19 : decode cX12_set 19 = .ok (.ifCond .ne 5, 3) := by decide +kernel
theorem dX12_set_22 : decode cX12_set 22 = .ok (.iconst 0, 1) := by decide +kernel
theorem dX12_set_23 : decode cX12_set 23 = .ok (.ireturn, 1) := by decide +kernel
theorem dX12_set_24 : decode cX12_set 24 = .ok (.aload_n 0, 1) := by decide +kernel
theorem dX12_set_25 : decode cX12_set 25 = .ok (.getfield 128, 3) := by decide +kernel
theorem dX12_set_28 : decode cX12_set 28 = .ok (.iload_n 1, 1) := by decide +kernel
theorem dX12_set_29 : decode cX12_set 29 = .ok (.iload_n 2, 1) := by decide +kernel
theorem dX12_set_30 : decode cX12_set 30 = .ok (.iastore, 1) := by decide +kernel
theorem dX12_set_31 : decode cX12_set 31 = .ok (.iconst 1, 1) := by decide +kernel
theorem dX12_set_32 : decode cX12_set 32 = .ok (.ireturn, 1) := by decide +kernel
set_option maxHeartbeats 4000000 in
set_option maxRecDepth 100000 in
theorem w_X12_set_22 {X : CX} {T : List Dsc} {R : RM} {c e : Nat} {n1 n2 : Nat} {m : M2} {r : (Int32 × M2)} (hX : XR X 3 n1 n2) (hG : Geo T R c e) (hf : f_X12_set_22 m = some r) (hk : FnZ X cX12_set RX12 3 T n1 n2 (r.1, mk r.2 R)) : Wp X cX12_set RX12 3 T (mk m R) n1 n2 22 [] [] := by
  unfold f_X12_set_22 at hf
  refine Wp.iconst (pc := 22) (0 : Int32) (by decide) dX12_set_22 ?_
  cases hf
  exact hk _ _ (Or.inl rfl) dX12_set_23
set_option maxHeartbeats 4000000 in
set_option maxRecDepth 100000 in
theorem w_X12_set {X : CX} {T : List Dsc} {R : RM} {c e : Nat} {n1 n2 : Nat} {x1 : Int32} {x2 : Int32} {m : M2} {r : (Int32 × M2)} (hX : XR X 3 n1 n2) (hG : Geo T R c e) (hf : F_X12_set x1 x2 m = some r) (hk : FnZ X cX12_set RX12 3 T n1 n2 (r.1, mk r.2 R)) : Wp X cX12_set RX12 3 T (mk m R) n1 n2 0 [(0, .ref 56), (1, .int x1), (2, .int x2)] [] := by
  unfold F_X12_set at hf
  refine Wp.aload_n (pc := 0) 0 rfl rfl dX12_set_0 ?_
  refine Wp.iload_n (pc := 1) 1 rfl rfl dX12_set_1 ?_
  obtain ⟨c1, h2, hf⟩ := bnd hf
  refine Wp.callVi (pc := 2) (st := []) (as := [.int x1]) (c_X12_isBench hG h2) ml_RX12_441 mv_X12_isBench mb_X12_isBench hX (Nat.le_of_ble_eq_true rfl) (by decide) rfl (hG.t 56 rfl) rfl (by simp) dX12_set_2 rfl ?_
  refine Wp.if_eq (pc := 5) 22 dX12_set_5 (by decide) (fun hc3 => ?_) (fun hc3 => ?_)
  · rw [if_pos hc3] at hf
    refine Wp.lo' (lo' := []) [] rfl ?_
    exact w_X12_set_22 hX hG hf hk
  · rw [if_neg hc3] at hf
    refine Wp.iload_n (pc := 8) 2 rfl rfl dX12_set_8 ?_
    refine Wp.iconst (pc := 9) (0 : Int32) (by decide) dX12_set_9 ?_
    refine Wp.aload_n (pc := 10) 0 rfl rfl dX12_set_10 ?_
    obtain ⟨c4, h5, hf⟩ := bnd hf
    refine Wp.callVi (pc := 11) (st := [.int (0 : Int32), .int x2]) (as := []) (c_X12_all hG h5) ml_RX12_408 mv_X12_all mb_X12_all hX (Nat.le_of_ble_eq_true rfl) (by decide) rfl (hG.t 56 rfl) rfl (by simp [Value.category]) dX12_set_11 rfl ?_
    refine Wp.iconst (pc := 14) (1 : Int32) (by decide) dX12_set_14 ?_
    refine Wp.isub (pc := 15) dX12_set_15 ?_
    obtain ⟨c6, h7, hf⟩ := bnd hf
    refine Wp.callSi (pc := 16) (st := []) (as := [.int x2, .int (0 : Int32), .int (c4.1 - (1 : Int32))]) (c_X12_in hG h7) ml_RX12_414 ms_X12_in mb_X12_in hX (Nat.le_of_ble_eq_true rfl) (by decide) rfl (by simp) dX12_set_16 rfl ?_
    refine Wp.if_ne (pc := 19) 24 dX12_set_19 (by decide) (fun hc8 => ?_) (fun hc8 => ?_)
    · rw [if_neg hc8] at hf
      refine Wp.aload_n (pc := 24) 0 rfl rfl dX12_set_24 ?_
      refine Wp.getR2 (pc := 25) (hG.r 56 55 rfl) (hG.t 56 rfl) fk_RX12_128 rfl dX12_set_25 ?_
      refine Wp.iload_n (pc := 28) 1 rfl rfl dX12_set_28 ?_
      refine Wp.iload_n (pc := 29) 2 rfl rfl dX12_set_29 ?_
      obtain ⟨m9, h10, hf⟩ := bnd hf
      refine Wp.iast2 (pc := 30) h10 (hG.a 93 0 rfl) dX12_set_30 ?_
      refine Wp.iconst (pc := 31) (1 : Int32) (by decide) dX12_set_31 ?_
      cases hf
      exact hk _ _ (Or.inr rfl) dX12_set_32
    · rw [if_pos hc8] at hf
      refine Wp.lo' (lo' := []) [] rfl ?_
      exact w_X12_set_22 hX hG hf hk
theorem c_X12_set {T : List Dsc} {R : RM} {c e : Nat} {x1 : Int32} {x2 : Int32} {m : M2} {r : (Int32 × M2)} (hG : Geo T R c e) (hf : F_X12_set x1 x2 m = some r) : Ct 3 yX12_set cX12_set 3 (some .boolean) T (mk m R) [.ref 56, .int x1, .int x2] (some (.int r.1)) (mk r.2 R) := Ct.ofZ (r := (r.1, mk r.2 R)) (by decide +kernel) (Nat.le_of_ble_eq_true rfl) (fun X hX hk => w_X12_set hX hG hf hk)
theorem dX12_beat_0 : decode cX12_beat 0 = .ok (.iload_n 1, 1) := by decide +kernel
theorem dX12_beat_1 : decode cX12_beat 1 = .ok (.iconst 0, 1) := by decide +kernel
theorem dX12_beat_2 : decode cX12_beat 2 = .ok (.aload_n 0, 1) := by decide +kernel
theorem dX12_beat_3 : decode cX12_beat 3 = .ok (.invokevirtual 408, 3) := by decide +kernel
theorem dX12_beat_6 : decode cX12_beat 6 = .ok (.iconst 1, 1) := by decide +kernel
theorem dX12_beat_7 : decode cX12_beat 7 = .ok (.isub, 1) := by decide +kernel
theorem dX12_beat_8 : decode cX12_beat 8 = .ok (.invokestatic 414, 3) := by decide +kernel
theorem dX12_beat_11 : decode cX12_beat 11 = .ok (.ifCond .ne 5, 3) := by decide +kernel
theorem dX12_beat_14 : decode cX12_beat 14 = .ok (.iconst 0, 1) := by decide +kernel
theorem dX12_beat_15 : decode cX12_beat 15 = .ok (.ireturn, 1) := by decide +kernel
theorem dX12_beat_16 : decode cX12_beat 16 = .ok (.aload_n 0, 1) := by decide +kernel
theorem dX12_beat_17 : decode cX12_beat 17 = .ok (.getfield 209, 3) := by decide +kernel
theorem dX12_beat_20 : decode cX12_beat 20 = .ok (.iconst (-1), 1) := by decide +kernel
theorem dX12_beat_21 : decode cX12_beat 21 = .ok (.if_icmp .ne 8, 3) := by decide +kernel
theorem dX12_beat_24 : decode cX12_beat 24 = .ok (.aload_n 0, 1) := by decide +kernel
theorem dX12_beat_25 : decode cX12_beat 25 = .ok (.iconst 0, 1) := by decide +kernel
theorem dX12_beat_26 : decode cX12_beat 26 = .ok (.putfield 393, 3) := by decide +kernel
theorem dX12_beat_29 : decode cX12_beat 29 = .ok (.aload_n 0, 1) := by decide +kernel
theorem dX12_beat_30 : decode cX12_beat 30 = .ok (.iload_n 1, 1) := by decide +kernel
theorem dX12_beat_31 : decode cX12_beat 31 = .ok (.putfield 209, 3) := by decide +kernel
theorem dX12_beat_34 : decode cX12_beat 34 = .ok (.iconst 1, 1) := by decide +kernel
theorem dX12_beat_35 : decode cX12_beat 35 = .ok (.ireturn, 1) := by decide +kernel
set_option maxHeartbeats 4000000 in
set_option maxRecDepth 100000 in
theorem w_X12_beat_29 {X : CX} {T : List Dsc} {R : RM} {c e : Nat} {n1 n2 : Nat} {x1 : Int32} {m : M2} {r : (Int32 × M2)} (hX : XR X 2 n1 n2) (hG : Geo T R c e) (hf : f_X12_beat_29 x1 m = some r) (hk : FnZ X cX12_beat RX12 2 T n1 n2 (r.1, mk r.2 R)) : Wp X cX12_beat RX12 2 T (mk m R) n1 n2 29 [(0, .ref 56), (1, .int x1)] [] := by
  unfold f_X12_beat_29 at hf
  refine Wp.aload_n (pc := 29) 0 rfl rfl dX12_beat_29 ?_
  refine Wp.iload_n (pc := 30) 1 rfl rfl dX12_beat_30 ?_
  obtain ⟨m1, h2, hf⟩ := bnd hf
  refine Wp.ptI2 (pc := 31) h2 (hG.t 56 rfl) fk_RX12_209 ff_RX12_11_58 rfl dX12_beat_31 ?_
  refine Wp.iconst (pc := 34) (1 : Int32) (by decide) dX12_beat_34 ?_
  cases hf
  exact hk _ _ (Or.inr rfl) dX12_beat_35
set_option maxHeartbeats 4000000 in
set_option maxRecDepth 100000 in
theorem w_X12_beat {X : CX} {T : List Dsc} {R : RM} {c e : Nat} {n1 n2 : Nat} {x1 : Int32} {m : M2} {r : (Int32 × M2)} (hX : XR X 2 n1 n2) (hG : Geo T R c e) (hf : F_X12_beat x1 m = some r) (hk : FnZ X cX12_beat RX12 2 T n1 n2 (r.1, mk r.2 R)) : Wp X cX12_beat RX12 2 T (mk m R) n1 n2 0 [(0, .ref 56), (1, .int x1)] [] := by
  unfold F_X12_beat at hf
  refine Wp.iload_n (pc := 0) 1 rfl rfl dX12_beat_0 ?_
  refine Wp.iconst (pc := 1) (0 : Int32) (by decide) dX12_beat_1 ?_
  refine Wp.aload_n (pc := 2) 0 rfl rfl dX12_beat_2 ?_
  obtain ⟨c1, h2, hf⟩ := bnd hf
  refine Wp.callVi (pc := 3) (st := [.int (0 : Int32), .int x1]) (as := []) (c_X12_all hG h2) ml_RX12_408 mv_X12_all mb_X12_all hX (Nat.le_of_ble_eq_true rfl) (by decide) rfl (hG.t 56 rfl) rfl (by simp [Value.category]) dX12_beat_3 rfl ?_
  refine Wp.iconst (pc := 6) (1 : Int32) (by decide) dX12_beat_6 ?_
  refine Wp.isub (pc := 7) dX12_beat_7 ?_
  obtain ⟨c3, h4, hf⟩ := bnd hf
  refine Wp.callSi (pc := 8) (st := []) (as := [.int x1, .int (0 : Int32), .int (c1.1 - (1 : Int32))]) (c_X12_in hG h4) ml_RX12_414 ms_X12_in mb_X12_in hX (Nat.le_of_ble_eq_true rfl) (by decide) rfl (by simp) dX12_beat_8 rfl ?_
  refine Wp.if_ne (pc := 11) 16 dX12_beat_11 (by decide) (fun hc5 => ?_) (fun hc5 => ?_)
  · rw [if_neg hc5] at hf
    refine Wp.aload_n (pc := 16) 0 rfl rfl dX12_beat_16 ?_
    refine Wp.getI2 (pc := 17) (hG.t 56 rfl) fk_RX12_209 rfl dX12_beat_17 ?_
    refine Wp.iconst (pc := 20) (-1 : Int32) (by decide) dX12_beat_20 ?_
    refine Wp.icmp_ne (pc := 21) 29 dX12_beat_21 (by decide) (fun hc6 => ?_) (fun hc6 => ?_)
    · rw [if_neg hc6] at hf
      exact w_X12_beat_29 hX hG hf hk
    · rw [if_pos hc6] at hf
      refine Wp.aload_n (pc := 24) 0 rfl rfl dX12_beat_24 ?_
      refine Wp.iconst (pc := 25) (0 : Int32) (by decide) dX12_beat_25 ?_
      obtain ⟨m7, h8, hf⟩ := bnd hf
      refine Wp.ptI2 (pc := 26) h8 (hG.t 56 rfl) fk_RX12_393 ff_RX12_11_59 rfl dX12_beat_26 ?_
      exact w_X12_beat_29 hX hG hf hk
  · rw [if_pos hc5] at hf
    refine Wp.iconst (pc := 14) (0 : Int32) (by decide) dX12_beat_14 ?_
    cases hf
    exact hk _ _ (Or.inl rfl) dX12_beat_15
theorem c_X12_beat {T : List Dsc} {R : RM} {c e : Nat} {x1 : Int32} {m : M2} {r : (Int32 × M2)} (hG : Geo T R c e) (hf : F_X12_beat x1 m = some r) : Ct 2 yX12_beat cX12_beat 2 (some .boolean) T (mk m R) [.ref 56, .int x1] (some (.int r.1)) (mk r.2 R) := Ct.ofZ (r := (r.1, mk r.2 R)) (by decide +kernel) (Nat.le_of_ble_eq_true rfl) (fun X hX hk => w_X12_beat hX hG hf hk)
theorem dX12_sits_0 : decode cX12_sits 0 = .ok (.aload_n 0, 1) := by decide +kernel
theorem dX12_sits_1 : decode cX12_sits 1 = .ok (.invokevirtual 444, 3) := by decide +kernel
theorem dX12_sits_4 : decode cX12_sits 4 = .ok (.iconst 0, 1) := by decide +kernel
theorem dX12_sits_5 : decode cX12_sits 5 = .ok (.istore_n 1, 1) := by decide +kernel
theorem dX12_sits_6 : decode cX12_sits 6 = .ok (.iload_n 1, 1) := by decide +kernel
theorem dX12_sits_7 : decode cX12_sits 7 = .ok (.aload_n 0, 1) := by decide +kernel
theorem dX12_sits_8 : decode cX12_sits 8 = .ok (.getfield 399, 3) := by decide +kernel
theorem dX12_sits_11 : decode cX12_sits 11 = .ok (.if_icmp .ge 43, 3) := by decide +kernel
theorem dX12_sits_14 : decode cX12_sits 14 = .ok (.aload_n 0, 1) := by decide +kernel
theorem dX12_sits_15 : decode cX12_sits 15 = .ok (.getfield 140, 3) := by decide +kernel
theorem dX12_sits_18 : decode cX12_sits 18 = .ok (.iload_n 1, 1) := by decide +kernel
theorem dX12_sits_19 : decode cX12_sits 19 = .ok (.aload_n 0, 1) := by decide +kernel
theorem dX12_sits_20 : decode cX12_sits 20 = .ok (.getfield 128, 3) := by decide +kernel
theorem dX12_sits_23 : decode cX12_sits 23 = .ok (.aload_n 0, 1) := by decide +kernel
theorem dX12_sits_24 : decode cX12_sits 24 = .ok (.getfield 164, 3) := by decide +kernel
theorem dX12_sits_27 : decode cX12_sits 27 = .ok (.iload_n 1, 1) := by decide +kernel
theorem dX12_sits_28 : decode cX12_sits 28 = .ok (.iaload, 1) := by decide +kernel
theorem dX12_sits_29 : decode cX12_sits 29 = .ok (.iaload, 1) := by decide +kernel
theorem dX12_sits_30 : decode cX12_sits 30 = .ok (.iastore, 1) := by decide +kernel
theorem dX12_sits_31 : decode cX12_sits 31 = .ok (.aload_n 0, 1) := by decide +kernel
theorem dX12_sits_32 : decode cX12_sits 32 = .ok (.getfield 143, 3) := by decide +kernel
theorem dX12_sits_35 : decode cX12_sits 35 = .ok (.iload_n 1, 1) := by decide +kernel
theorem dX12_sits_36 : decode cX12_sits 36 = .ok (.aload_n 0, 1) := by decide +kernel
theorem dX12_sits_37 : decode cX12_sits 37 = .ok (.getfield 134, 3) := by decide +kernel
theorem dX12_sits_40 : decode cX12_sits 40 = .ok (.aload_n 0, 1) := by decide +kernel
theorem dX12_sits_41 : decode cX12_sits 41 = .ok (.getfield 164, 3) := by decide +kernel
theorem dX12_sits_44 : decode cX12_sits 44 = .ok (.iload_n 1, 1) := by decide +kernel
theorem dX12_sits_45 : decode cX12_sits 45 = .ok (.iaload, 1) := by decide +kernel
theorem dX12_sits_46 : decode cX12_sits 46 = .ok (.iaload, 1) := by decide +kernel
theorem dX12_sits_47 : decode cX12_sits 47 = .ok (.iastore, 1) := by decide +kernel
theorem dX12_sits_48 : decode cX12_sits 48 = .ok (.iinc 1 1, 3) := by decide +kernel
theorem dX12_sits_51 : decode cX12_sits 51 = .ok (.goto (-45), 3) := by decide +kernel
theorem dX12_sits_54 : decode cX12_sits 54 = .ok (.return_, 1) := by decide +kernel
def k_X12_sits_6 (X : CX) (T : List Dsc) (R : RM) (n1 n2 : Nat) (r : ((Int32 × M2) ⊕ ((M2)))) : Prop := match r with
  | .inl s => Wp X cX12_sits RX12 2 T (mk s.2 R) n1 n2 6 [(0, .ref 56), (1, .int s.1)] []
  | .inr e => Wp X cX12_sits RX12 2 T (mk e R) n1 n2 54 [] []
set_option maxHeartbeats 4000000 in
set_option maxRecDepth 100000 in
theorem w_X12_sits_6 {X : CX} {T : List Dsc} {R : RM} {c e : Nat} {n1 n2 : Nat} {x1 : Int32} {m : M2} {r : ((Int32 × M2) ⊕ ((M2)))} (hX : XR X 3 n1 n2) (hG : Geo T R c e) (hf : f_X12_sits_6 x1 m = some r) (hk : k_X12_sits_6 X T R n1 n2 r) : Wp X cX12_sits RX12 2 T (mk m R) n1 n2 6 [(0, .ref 56), (1, .int x1)] [] := by
  unfold f_X12_sits_6 at hf
  refine Wp.iload_n (pc := 6) 1 rfl rfl dX12_sits_6 ?_
  refine Wp.aload_n (pc := 7) 0 rfl rfl dX12_sits_7 ?_
  refine Wp.getI2 (pc := 8) (hG.t 56 rfl) fk_RX12_399 rfl dX12_sits_8 ?_
  refine Wp.icmp_ge (pc := 11) 54 dX12_sits_11 (by decide) (fun hc1 => ?_) (fun hc1 => ?_)
  · rw [if_pos hc1] at hf
    refine Wp.lo' (lo' := []) [] rfl ?_
    cases hf
    exact hk
  · rw [if_neg hc1] at hf
    refine Wp.aload_n (pc := 14) 0 rfl rfl dX12_sits_14 ?_
    refine Wp.getR2 (pc := 15) (hG.r 56 63 rfl) (hG.t 56 rfl) fk_RX12_140 rfl dX12_sits_15 ?_
    refine Wp.iload_n (pc := 18) 1 rfl rfl dX12_sits_18 ?_
    refine Wp.aload_n (pc := 19) 0 rfl rfl dX12_sits_19 ?_
    refine Wp.getR2 (pc := 20) (hG.r 56 55 rfl) (hG.t 56 rfl) fk_RX12_128 rfl dX12_sits_20 ?_
    refine Wp.aload_n (pc := 23) 0 rfl rfl dX12_sits_23 ?_
    refine Wp.getR2 (pc := 24) (hG.r 56 75 rfl) (hG.t 56 rfl) fk_RX12_164 rfl dX12_sits_24 ?_
    refine Wp.iload_n (pc := 27) 1 rfl rfl dX12_sits_27 ?_
    obtain ⟨v2, h3, hf⟩ := bnd hf
    refine Wp.iald2 (pc := 28) h3 (hG.a 105 0 rfl) dX12_sits_28 ?_
    obtain ⟨v4, h5, hf⟩ := bnd hf
    refine Wp.iald2 (pc := 29) h5 (hG.a 93 0 rfl) dX12_sits_29 ?_
    obtain ⟨m6, h7, hf⟩ := bnd hf
    refine Wp.iast2 (pc := 30) h7 (hG.a 97 0 rfl) dX12_sits_30 ?_
    refine Wp.aload_n (pc := 31) 0 rfl rfl dX12_sits_31 ?_
    refine Wp.getR2 (pc := 32) (hG.r 56 64 rfl) (hG.t 56 rfl) fk_RX12_143 rfl dX12_sits_32 ?_
    refine Wp.iload_n (pc := 35) 1 rfl rfl dX12_sits_35 ?_
    refine Wp.aload_n (pc := 36) 0 rfl rfl dX12_sits_36 ?_
    refine Wp.getR2 (pc := 37) (hG.r 56 57 rfl) (hG.t 56 rfl) fk_RX12_134 rfl dX12_sits_37 ?_
    refine Wp.aload_n (pc := 40) 0 rfl rfl dX12_sits_40 ?_
    refine Wp.getR2 (pc := 41) (hG.r 56 75 rfl) (hG.t 56 rfl) fk_RX12_164 rfl dX12_sits_41 ?_
    refine Wp.iload_n (pc := 44) 1 rfl rfl dX12_sits_44 ?_
    obtain ⟨v8, h9, hf⟩ := bnd hf
    refine Wp.iald2 (pc := 45) h9 (hG.a 105 0 rfl) dX12_sits_45 ?_
    obtain ⟨v10, h11, hf⟩ := bnd hf
    refine Wp.iald2 (pc := 46) h11 (hG.a 95 0 rfl) dX12_sits_46 ?_
    obtain ⟨m12, h13, hf⟩ := bnd hf
    refine Wp.iast2 (pc := 47) h13 (hG.a 98 0 rfl) dX12_sits_47 ?_
    obtain ⟨v14, h15, hf⟩ := bnd hf
    refine Wp.iincN (pc := 48) (lo' := [(0, .ref 56), (1, .int v14)]) (1 : Int32) (by decide) h15 1 rfl [1, 0] rfl (by decide) dX12_sits_48 ?_
    refine Wp.goto (pc := 51) 6 dX12_sits_51 (by decide) ?_
    cases hf
    exact hk
theorem wl_X12_sits_6 {X : CX} {T : List Dsc} {R : RM} {c e : Nat} {n1 n2 : Nat} {x1 : Int32} {m : M2} {e1 : ((M2))} (hX : XR X 3 n1 n2) (hG : Geo T R c e) (h : loop (g_X12_sits_6) (x1, m) = some e1) (he : Wp X cX12_sits RX12 2 T (mk e1 R) n1 n2 54 [] []) : Wp X cX12_sits RX12 2 T (mk m R) n1 n2 6 [(0, .ref 56), (1, .int x1)] [] :=
  loop_ok (K := k_X12_sits_6 X T R n1 n2) (fun s r hf hk => w_X12_sits_6 hX hG hf hk) h he
set_option maxHeartbeats 4000000 in
set_option maxRecDepth 100000 in
theorem w_X12_sits {X : CX} {T : List Dsc} {R : RM} {c e : Nat} {n1 n2 : Nat} {m : M2} {r : M2} (hX : XR X 3 n1 n2) (hG : Geo T R c e) (hf : F_X12_sits m = some r) (hk : FnV X cX12_sits RX12 2 T n1 n2 (mk r R)) : Wp X cX12_sits RX12 2 T (mk m R) n1 n2 0 [(0, .ref 56)] [] := by
  unfold F_X12_sits at hf
  refine Wp.aload_n (pc := 0) 0 rfl rfl dX12_sits_0 ?_
  obtain ⟨c1, h2, hf⟩ := bnd hf
  refine Wp.callVv (pc := 1) (st := []) (as := []) (c_X12_takes hG h2) ml_RX12_444 mv_X12_takes mb_X12_takes hX (Nat.le_of_ble_eq_true rfl) (by decide) rfl (hG.t 56 rfl) rfl (by simp) dX12_sits_1 rfl ?_
  refine Wp.iconst (pc := 4) (0 : Int32) (by decide) dX12_sits_4 ?_
  refine Wp.istore_n (pc := 5) (lo' := [(0, .ref 56), (1, .int (0 : Int32))]) [1, 0] rfl (by decide) rfl dX12_sits_5 ?_
  obtain ⟨e3, h4, hf⟩ := bnd hf
  refine wl_X12_sits_6 hX hG h4 ?_
  cases hf
  exact hk _ _ dX12_sits_54
theorem c_X12_sits {T : List Dsc} {R : RM} {c e : Nat} {m : M2} {r : M2} (hG : Geo T R c e) (hf : F_X12_sits m = some r) : Ct 3 yX12_sits cX12_sits 2 none T (mk m R) [.ref 56] none (mk r R) := Ct.ofV (r := mk r R) (by decide +kernel) (Nat.le_of_ble_eq_true rfl) (fun X hX hk => w_X12_sits hX hG hf hk)
theorem dX12_bits_0 : decode cX12_bits 0 = .ok (.iconst 0, 1) := by decide +kernel
theorem dX12_bits_1 : decode cX12_bits 1 = .ok (.istore_n 3, 1) := by decide +kernel
theorem dX12_bits_2 : decode cX12_bits 2 = .ok (.iconst 0, 1) := by decide +kernel
theorem dX12_bits_3 : decode cX12_bits 3 = .ok (.istore 4, 2) := by decide +kernel
theorem dX12_bits_5 : decode cX12_bits 5 = .ok (.iload 4, 2) := by decide +kernel
theorem dX12_bits_7 : decode cX12_bits 7 = .ok (.iload_n 2, 1) := by decide +kernel
theorem dX12_bits_8 : decode cX12_bits 8 = .ok (.if_icmp .ge 18, 3) := by decide +kernel
theorem dX12_bits_11 : decode cX12_bits 11 = .ok (.iload_n 3, 1) := by decide +kernel
theorem dX12_bits_12 : decode cX12_bits 12 = .ok (.iload_n 1, 1) := by decide +kernel
theorem dX12_bits_13 : decode cX12_bits 13 = .ok (.iload 4, 2) := by decide +kernel
theorem dX12_bits_15 : decode cX12_bits 15 = .ok (.ishr, 1) := by decide +kernel
theorem dX12_bits_16 : decode cX12_bits 16 = .ok (.iconst 1, 1) := by decide +kernel
theorem dX12_bits_17 : decode cX12_bits 17 = .ok (.iand, 1) := by decide +kernel
theorem dX12_bits_18 : decode cX12_bits 18 = .ok (.iadd, 1) := by decide +kernel
theorem dX12_bits_19 : decode cX12_bits 19 = .ok (.istore_n 3, 1) := by decide +kernel
theorem dX12_bits_20 : decode cX12_bits 20 = .ok (.iinc 4 1, 3) := by decide +kernel
theorem dX12_bits_23 : decode cX12_bits 23 = .ok (.goto (-18), 3) := by decide +kernel
theorem dX12_bits_26 : decode cX12_bits 26 = .ok (.iload_n 3, 1) := by decide +kernel
theorem dX12_bits_27 : decode cX12_bits 27 = .ok (.ireturn, 1) := by decide +kernel
def k_X12_bits_5 (X : CX) (T : List Dsc) (R : RM) (n1 n2 : Nat) (x1 : Int32) (x2 : Int32) (r : ((Int32 × Int32 × M2) ⊕ ((Int32 × M2)))) : Prop := match r with
  | .inl s => Wp X cX12_bits RX12 5 T (mk s.2.2 R) n1 n2 5 [(1, .int x1), (2, .int x2), (3, .int s.1), (4, .int s.2.1)] []
  | .inr e => Wp X cX12_bits RX12 5 T (mk e.2 R) n1 n2 26 [(3, .int e.1)] []
set_option maxHeartbeats 4000000 in
set_option maxRecDepth 100000 in
theorem w_X12_bits_5 {X : CX} {T : List Dsc} {R : RM} {c e : Nat} {n1 n2 : Nat} {x1 : Int32} {x2 : Int32} {x3 : Int32} {x4 : Int32} {m : M2} {r : ((Int32 × Int32 × M2) ⊕ ((Int32 × M2)))} (hX : XR X 1 n1 n2) (hG : Geo T R c e) (hf : f_X12_bits_5 x1 x2 x3 x4 m = some r) (hk : k_X12_bits_5 X T R n1 n2 x1 x2 r) : Wp X cX12_bits RX12 5 T (mk m R) n1 n2 5 [(1, .int x1), (2, .int x2), (3, .int x3), (4, .int x4)] [] := by
  unfold f_X12_bits_5 at hf
  refine Wp.iload (pc := 5) 3 rfl dX12_bits_5 ?_
  refine Wp.iload_n (pc := 7) 1 rfl rfl dX12_bits_7 ?_
  refine Wp.icmp_ge (pc := 8) 26 dX12_bits_8 (by decide) (fun hc1 => ?_) (fun hc1 => ?_)
  · rw [if_pos hc1] at hf
    refine Wp.lo' (lo' := [(3, .int x3)]) [2] rfl ?_
    cases hf
    exact hk
  · rw [if_neg hc1] at hf
    refine Wp.iload_n (pc := 11) 2 rfl rfl dX12_bits_11 ?_
    refine Wp.iload_n (pc := 12) 0 rfl rfl dX12_bits_12 ?_
    refine Wp.iload (pc := 13) 3 rfl dX12_bits_13 ?_
    refine Wp.ishr (pc := 15) dX12_bits_15 ?_
    refine Wp.iconst (pc := 16) (1 : Int32) (by decide) dX12_bits_16 ?_
    refine Wp.iand (pc := 17) dX12_bits_17 ?_
    refine Wp.iadd (pc := 18) dX12_bits_18 ?_
    obtain ⟨v2, h3, hf⟩ := bnd hf
    refine Wp.nI' h3 ?_
    refine Wp.istore_n (pc := 19) (lo' := [(1, .int x1), (2, .int x2), (3, .int v2), (4, .int x4)]) [1, 2, 0, 3] rfl (by decide) rfl dX12_bits_19 ?_
    obtain ⟨v4, h5, hf⟩ := bnd hf
    refine Wp.iincN (pc := 20) (lo' := [(1, .int x1), (2, .int x2), (3, .int v2), (4, .int v4)]) (1 : Int32) (by decide) h5 3 rfl [1, 2, 3, 0] rfl (by decide) dX12_bits_20 ?_
    refine Wp.goto (pc := 23) 5 dX12_bits_23 (by decide) ?_
    cases hf
    exact hk
theorem wl_X12_bits_5 {X : CX} {T : List Dsc} {R : RM} {c e : Nat} {n1 n2 : Nat} {x1 : Int32} {x2 : Int32} {x3 : Int32} {x4 : Int32} {m : M2} {e1 : ((Int32 × M2))} (hX : XR X 1 n1 n2) (hG : Geo T R c e) (h : loop (g_X12_bits_5 x1 x2) (x3, x4, m) = some e1) (he : Wp X cX12_bits RX12 5 T (mk e1.2 R) n1 n2 26 [(3, .int e1.1)] []) : Wp X cX12_bits RX12 5 T (mk m R) n1 n2 5 [(1, .int x1), (2, .int x2), (3, .int x3), (4, .int x4)] [] :=
  loop_ok (K := k_X12_bits_5 X T R n1 n2 x1 x2) (fun s r hf hk => w_X12_bits_5 hX hG hf hk) h he
set_option maxHeartbeats 4000000 in
set_option maxRecDepth 100000 in
theorem w_X12_bits {X : CX} {T : List Dsc} {R : RM} {c e : Nat} {n1 n2 : Nat} {x1 : Int32} {x2 : Int32} {m : M2} {r : (Int32 × M2)} (hX : XR X 1 n1 n2) (hG : Geo T R c e) (hf : F_X12_bits x1 x2 m = some r) (hk : FnI X cX12_bits RX12 5 T n1 n2 (r.1, mk r.2 R)) : Wp X cX12_bits RX12 5 T (mk m R) n1 n2 0 [(0, .ref 56), (1, .int x1), (2, .int x2)] [] := by
  unfold F_X12_bits at hf
  refine Wp.iconst (pc := 0) (0 : Int32) (by decide) dX12_bits_0 ?_
  refine Wp.istore_n (pc := 1) (lo' := [(1, .int x1), (2, .int x2), (3, .int (0 : Int32))]) [2, 3, 0] rfl (by decide) rfl dX12_bits_1 ?_
  refine Wp.iconst (pc := 2) (0 : Int32) (by decide) dX12_bits_2 ?_
  refine Wp.istore (pc := 3) (lo' := [(1, .int x1), (2, .int x2), (3, .int (0 : Int32)), (4, .int (0 : Int32))]) [1, 2, 3, 0] rfl (by decide) dX12_bits_3 ?_
  obtain ⟨e1, h2, hf⟩ := bnd hf
  refine wl_X12_bits_5 hX hG h2 ?_
  refine Wp.iload_n (pc := 26) 0 rfl rfl dX12_bits_26 ?_
  cases hf
  exact hk _ _ dX12_bits_27
theorem c_X12_bits {T : List Dsc} {R : RM} {c e : Nat} {x1 : Int32} {x2 : Int32} {m : M2} {r : (Int32 × M2)} (hG : Geo T R c e) (hf : F_X12_bits x1 x2 m = some r) : Ct 1 yX12_bits cX12_bits 5 (some .int) T (mk m R) [.ref 56, .int x1, .int x2] (some (.int r.1)) (mk r.2 R) := Ct.ofI (r := (r.1, mk r.2 R)) (by decide +kernel) (Nat.le_of_ble_eq_true rfl) (fun X hX hk => w_X12_bits hX hG hf hk)
theorem dX12_comesTo_0 : decode cX12_comesTo 0 = .ok (.aload_n 0, 1) := by decide +kernel
theorem dX12_comesTo_1 : decode cX12_comesTo 1 = .ok (.invokevirtual 469, 3) := by decide +kernel
theorem dX12_comesTo_4 : decode cX12_comesTo 4 = .ok (.iload_n 1, 1) := by decide +kernel
theorem dX12_comesTo_5 : decode cX12_comesTo 5 = .ok (.ifCond .ne 34, 3) := by decide +kernel
theorem dX12_comesTo_8 : decode cX12_comesTo 8 = .ok (.iconst 0, 1) := by decide +kernel
theorem dX12_comesTo_9 : decode cX12_comesTo 9 = .ok (.istore_n 3, 1) := by decide +kernel
theorem dX12_comesTo_10 : decode cX12_comesTo 10 = .ok (.iload_n 3, 1) := by decide +kernel
theorem dX12_comesTo_11 : decode cX12_comesTo 11 = .ok (.iload_n 2, 1) := by decide +kernel
theorem dX12_comesTo_12 : decode cX12_comesTo 12 = .ok (.if_icmp .gt 23, 3) := by decide +kernel
theorem dX12_comesTo_15 : decode cX12_comesTo 15 = .ok (.aload_n 0, 1) := by decide +kernel
theorem dX12_comesTo_16 : decode cX12_comesTo 16 = .ok (.invokevirtual 462, 3) := by decide +kernel
theorem dX12_comesTo_19 : decode cX12_comesTo 19 = .ok (.ifCond .eq 5, 3) := by decide +kernel
theorem dX12_comesTo_22 : decode cX12_comesTo 22 = .ok (.iload_n 3, 1) := by decide +kernel
theorem dX12_comesTo_23 : decode cX12_comesTo 23 = .ok (.ireturn, 1) := by decide +kernel
theorem dX12_comesTo_24 : decode cX12_comesTo 24 = .ok (.aload_n 0, 1) := by decide +kernel
theorem dX12_comesTo_25 : decode cX12_comesTo 25 = .ok (.iconst 0, 1) := by decide +kernel
theorem dX12_comesTo_26 : decode cX12_comesTo 26 = .ok (.invokevirtual 450, 3) := by decide +kernel
theorem dX12_comesTo_29 : decode cX12_comesTo 29 = .ok (.iinc 3 1, 3) := by decide +kernel
theorem dX12_comesTo_32 : decode cX12_comesTo 32 = .ok (.goto (-22), 3) := by decide +kernel
theorem dX12_comesTo_35 : decode cX12_comesTo 35 = .ok (.iload_n 2, 1) := by decide +kernel
theorem dX12_comesTo_36 : decode cX12_comesTo 36 = .ok (.iconst 1, 1) := by decide +kernel
theorem dX12_comesTo_37 : decode cX12_comesTo 37 = .ok (.iadd, 1) := by decide +kernel
theorem dX12_comesTo_38 : decode cX12_comesTo 38 = .ok (.ireturn, 1) := by decide +kernel
theorem dX12_comesTo_39 : decode cX12_comesTo 39 = .ok (.iconst 0, 1) := by decide +kernel
theorem dX12_comesTo_40 : decode cX12_comesTo 40 = .ok (.istore_n 3, 1) := by decide +kernel
theorem dX12_comesTo_41 : decode cX12_comesTo 41 = .ok (.iconst 0, 1) := by decide +kernel
theorem dX12_comesTo_42 : decode cX12_comesTo 42 = .ok (.istore 4, 2) := by decide +kernel
theorem dX12_comesTo_44 : decode cX12_comesTo 44 = .ok (.iload 4, 2) := by decide +kernel
theorem dX12_comesTo_46 : decode cX12_comesTo 46 = .ok (.iload_n 2, 1) := by decide +kernel
theorem dX12_comesTo_47 : decode cX12_comesTo 47 = .ok (.if_icmp .ge 39, 3) := by decide +kernel
theorem dX12_comesTo_50 : decode cX12_comesTo 50 = .ok (.aload_n 0, 1) := by decide +kernel
theorem dX12_comesTo_51 : decode cX12_comesTo 51 = .ok (.iconst 0, 1) := by decide +kernel
theorem dX12_comesTo_52 : decode cX12_comesTo 52 = .ok (.invokevirtual 450, 3) := by decide +kernel
theorem dX12_comesTo_55 : decode cX12_comesTo 55 = .ok (.iload_n 3, 1) := by decide +kernel
theorem dX12_comesTo_56 : decode cX12_comesTo 56 = .ok (.iload_n 1, 1) := by decide +kernel
theorem dX12_comesTo_57 : decode cX12_comesTo 57 = .ok (.iconst 1, 1) := by decide +kernel
theorem dX12_comesTo_58 : decode cX12_comesTo 58 = .ok (.if_icmp .ne 16, 3) := by decide +kernel
theorem dX12_comesTo_61 : decode cX12_comesTo 61 = .ok (.aload_n 0, 1) := by decide +kernel
theorem dX12_comesTo_62 : decode cX12_comesTo 62 = .ok (.aload_n 0, 1) := by decide +kernel
theorem dX12_comesTo_63 : decode cX12_comesTo 63 = .ok (.invokevirtual 453, 3) := by decide +kernel
theorem dX12_comesTo_66 : decode cX12_comesTo 66 = .ok (.bipush 12, 2) := by decide +kernel
theorem dX12_comesTo_68 : decode cX12_comesTo 68 = .ok (.invokevirtual 472, 3) := by decide +kernel
theorem dX12_comesTo_71 : decode cX12_comesTo 71 = .ok (.goto 7, 3) := by decide +kernel
theorem dX12_comesTo_74 : decode cX12_comesTo 74 = .ok (.aload_n 0, 1) := by decide +kernel
theorem dX12_comesTo_75 : decode cX12_comesTo 75 = .ok (.invokevirtual 459, 3) := by decide +kernel
theorem dX12_comesTo_78 : decode cX12_comesTo 78 = .ok (.iadd, 1) := by decide +kernel
theorem dX12_comesTo_79 : decode cX12_comesTo 79 = .ok (.istore_n 3, 1) := by decide +kernel
theorem dX12_comesTo_80 : decode cX12_comesTo 80 = .ok (.iinc 4 1, 3) := by decide +kernel
theorem dX12_comesTo_83 : decode cX12_comesTo 83 = .ok (.goto (-39), 3) := by decide +kernel
theorem dX12_comesTo_86 : decode cX12_comesTo 86 = .ok (.iload_n 3, 1) := by decide +kernel
theorem dX12_comesTo_87 : decode cX12_comesTo 87 = .ok (.ireturn, 1) := by decide +kernel
def k_X12_comesTo_10 (X : CX) (T : List Dsc) (R : RM) (n1 n2 : Nat) (x2 : Int32) (r : ((Int32 × M2) ⊕ ((Int32 × M2) ⊕ (M2)))) : Prop := match r with
  | .inl s => Wp X cX12_comesTo RX12 5 T (mk s.2 R) n1 n2 10 [(0, .ref 56), (2, .int x2), (3, .int s.1)] []
  | .inr (.inl e) => Wp X cX12_comesTo RX12 5 T (mk e.2 R) n1 n2 22 [(3, .int e.1)] []
  | .inr (.inr e) => Wp X cX12_comesTo RX12 5 T (mk e R) n1 n2 35 [(2, .int x2)] []
def k_X12_comesTo_44 (X : CX) (T : List Dsc) (R : RM) (n1 n2 : Nat) (x1 : Int32) (x2 : Int32) (r : ((Int32 × Int32 × M2) ⊕ ((Int32 × M2)))) : Prop := match r with
  | .inl s => Wp X cX12_comesTo RX12 5 T (mk s.2.2 R) n1 n2 44 [(0, .ref 56), (1, .int x1), (2, .int x2), (3, .int s.1), (4, .int s.2.1)] []
  | .inr e => Wp X cX12_comesTo RX12 5 T (mk e.2 R) n1 n2 86 [(3, .int e.1)] []
set_option maxHeartbeats 4000000 in
set_option maxRecDepth 100000 in
theorem w_X12_comesTo_10 {X : CX} {T : List Dsc} {R : RM} {c e : Nat} {n1 n2 : Nat} {x2 : Int32} {x3 : Int32} {m : M2} {r : ((Int32 × M2) ⊕ ((Int32 × M2) ⊕ (M2)))} (hX : XR X 10 n1 n2) (hG : Geo T R c e) (hf : f_X12_comesTo_10 x2 x3 m = some r) (hk : k_X12_comesTo_10 X T R n1 n2 x2 r) : Wp X cX12_comesTo RX12 5 T (mk m R) n1 n2 10 [(0, .ref 56), (2, .int x2), (3, .int x3)] [] := by
  unfold f_X12_comesTo_10 at hf
  refine Wp.iload_n (pc := 10) 2 rfl rfl dX12_comesTo_10 ?_
  refine Wp.iload_n (pc := 11) 1 rfl rfl dX12_comesTo_11 ?_
  refine Wp.icmp_gt (pc := 12) 35 dX12_comesTo_12 (by decide) (fun hc1 => ?_) (fun hc1 => ?_)
  · rw [if_pos hc1] at hf
    refine Wp.lo' (lo' := [(2, .int x2)]) [1] rfl ?_
    cases hf
    exact hk
  · rw [if_neg hc1] at hf
    refine Wp.aload_n (pc := 15) 0 rfl rfl dX12_comesTo_15 ?_
    obtain ⟨c2, h3, hf⟩ := bnd hf
    refine Wp.callVi (pc := 16) (st := []) (as := []) (c_X12_isStill hG h3) ml_RX12_462 mv_X12_isStill mb_X12_isStill hX (Nat.le_of_ble_eq_true rfl) (by decide) rfl (hG.t 56 rfl) rfl (by simp) dX12_comesTo_16 rfl ?_
    refine Wp.if_eq (pc := 19) 24 dX12_comesTo_19 (by decide) (fun hc4 => ?_) (fun hc4 => ?_)
    · rw [if_pos hc4] at hf
      refine Wp.aload_n (pc := 24) 0 rfl rfl dX12_comesTo_24 ?_
      refine Wp.iconst (pc := 25) (0 : Int32) (by decide) dX12_comesTo_25 ?_
      obtain ⟨c5, h6, hf⟩ := bnd hf
      refine Wp.callVv (pc := 26) (st := []) (as := [.int (0 : Int32)]) (c_X12_strikes hG h6) ml_RX12_450 mv_X12_strikes mb_X12_strikes hX (Nat.le_of_ble_eq_true rfl) (by decide) rfl (hG.t 56 rfl) rfl (by simp) dX12_comesTo_26 rfl ?_
      obtain ⟨v7, h8, hf⟩ := bnd hf
      refine Wp.iincN (pc := 29) (lo' := [(0, .ref 56), (2, .int x2), (3, .int v7)]) (1 : Int32) (by decide) h8 2 rfl [1, 2, 0] rfl (by decide) dX12_comesTo_29 ?_
      refine Wp.goto (pc := 32) 10 dX12_comesTo_32 (by decide) ?_
      cases hf
      exact hk
    · rw [if_neg hc4] at hf
      refine Wp.lo' (lo' := [(3, .int x3)]) [2] rfl ?_
      cases hf
      exact hk
theorem wl_X12_comesTo_10 {X : CX} {T : List Dsc} {R : RM} {c e : Nat} {n1 n2 : Nat} {x2 : Int32} {x3 : Int32} {m : M2} {e1 : ((Int32 × M2) ⊕ (M2))} (hX : XR X 10 n1 n2) (hG : Geo T R c e) (h : loop (g_X12_comesTo_10 x2) (x3, m) = some e1) (he0 : ∀ e_, e1 = (Sum.inl e_) → Wp X cX12_comesTo RX12 5 T (mk e_.2 R) n1 n2 22 [(3, .int e_.1)] []) (he1 : ∀ e_, e1 = (Sum.inr e_) → Wp X cX12_comesTo RX12 5 T (mk e_ R) n1 n2 35 [(2, .int x2)] []) : Wp X cX12_comesTo RX12 5 T (mk m R) n1 n2 10 [(0, .ref 56), (2, .int x2), (3, .int x3)] [] :=
  loop_ok (K := k_X12_comesTo_10 X T R n1 n2 x2) (fun s r hf hk => w_X12_comesTo_10 hX hG hf hk) h (by rcases e1 with e_ | e_ <;> first | exact he0 _ rfl | exact he1 _ rfl)
set_option maxHeartbeats 4000000 in
set_option maxRecDepth 100000 in
theorem w_X12_comesTo_78 {X : CX} {T : List Dsc} {R : RM} {c e : Nat} {n1 n2 : Nat} {x1 : Int32} {x2 : Int32} {x4 : Int32} {s0 : Int32} {s1 : Int32} {m : M2} {r : ((Int32 × Int32 × M2) ⊕ ((Int32 × M2)))} (hX : XR X 10 n1 n2) (hG : Geo T R c e) (hf : f_X12_comesTo_78 x1 x2 x4 s0 s1 m = some r) (hk : k_X12_comesTo_44 X T R n1 n2 x1 x2 r) : Wp X cX12_comesTo RX12 5 T (mk m R) n1 n2 78 [(0, .ref 56), (1, .int x1), (2, .int x2), (4, .int x4)] [.int s1, .int s0] := by
  unfold f_X12_comesTo_78 at hf
  refine Wp.iadd (pc := 78) dX12_comesTo_78 ?_
  obtain ⟨v1, h2, hf⟩ := bnd hf
  refine Wp.nI' h2 ?_
  refine Wp.istore_n (pc := 79) (lo' := [(0, .ref 56), (1, .int x1), (2, .int x2), (3, .int v1), (4, .int x4)]) [1, 2, 3, 0, 4] rfl (by decide) rfl dX12_comesTo_79 ?_
  obtain ⟨v3, h4, hf⟩ := bnd hf
  refine Wp.iincN (pc := 80) (lo' := [(0, .ref 56), (1, .int x1), (2, .int x2), (3, .int v1), (4, .int v3)]) (1 : Int32) (by decide) h4 4 rfl [1, 2, 3, 4, 0] rfl (by decide) dX12_comesTo_80 ?_
  refine Wp.goto (pc := 83) 44 dX12_comesTo_83 (by decide) ?_
  cases hf
  exact hk
set_option maxHeartbeats 4000000 in
set_option maxRecDepth 100000 in
theorem w_X12_comesTo_44 {X : CX} {T : List Dsc} {R : RM} {c e : Nat} {n1 n2 : Nat} {x1 : Int32} {x2 : Int32} {x3 : Int32} {x4 : Int32} {m : M2} {r : ((Int32 × Int32 × M2) ⊕ ((Int32 × M2)))} (hX : XR X 10 n1 n2) (hG : Geo T R c e) (hf : f_X12_comesTo_44 x1 x2 x3 x4 m = some r) (hk : k_X12_comesTo_44 X T R n1 n2 x1 x2 r) : Wp X cX12_comesTo RX12 5 T (mk m R) n1 n2 44 [(0, .ref 56), (1, .int x1), (2, .int x2), (3, .int x3), (4, .int x4)] [] := by
  unfold f_X12_comesTo_44 at hf
  refine Wp.iload (pc := 44) 4 rfl dX12_comesTo_44 ?_
  refine Wp.iload_n (pc := 46) 2 rfl rfl dX12_comesTo_46 ?_
  refine Wp.icmp_ge (pc := 47) 86 dX12_comesTo_47 (by decide) (fun hc1 => ?_) (fun hc1 => ?_)
  · rw [if_pos hc1] at hf
    refine Wp.lo' (lo' := [(3, .int x3)]) [3] rfl ?_
    cases hf
    exact hk
  · rw [if_neg hc1] at hf
    refine Wp.aload_n (pc := 50) 0 rfl rfl dX12_comesTo_50 ?_
    refine Wp.iconst (pc := 51) (0 : Int32) (by decide) dX12_comesTo_51 ?_
    obtain ⟨c2, h3, hf⟩ := bnd hf
    refine Wp.callVv (pc := 52) (st := []) (as := [.int (0 : Int32)]) (c_X12_strikes hG h3) ml_RX12_450 mv_X12_strikes mb_X12_strikes hX (Nat.le_of_ble_eq_true rfl) (by decide) rfl (hG.t 56 rfl) rfl (by simp) dX12_comesTo_52 rfl ?_
    refine Wp.iload_n (pc := 55) 3 rfl rfl dX12_comesTo_55 ?_
    refine Wp.iload_n (pc := 56) 1 rfl rfl dX12_comesTo_56 ?_
    refine Wp.iconst (pc := 57) (1 : Int32) (by decide) dX12_comesTo_57 ?_
    refine Wp.icmp_ne (pc := 58) 74 dX12_comesTo_58 (by decide) (fun hc4 => ?_) (fun hc4 => ?_)
    · rw [if_neg hc4] at hf
      refine Wp.aload_n (pc := 74) 0 rfl rfl dX12_comesTo_74 ?_
      obtain ⟨c5, h6, hf⟩ := bnd hf
      refine Wp.callVi (pc := 75) (st := [.int x3]) (as := []) (c_X12_wayNow hG h6) ml_RX12_459 mv_X12_wayNow mb_X12_wayNow hX (Nat.le_of_ble_eq_true rfl) (by decide) rfl (hG.t 56 rfl) rfl (by simp [Value.category]) dX12_comesTo_75 rfl ?_
      refine Wp.lo' (lo' := [(0, .ref 56), (1, .int x1), (2, .int x2), (4, .int x4)]) [0, 1, 2, 4] rfl ?_
      exact w_X12_comesTo_78 hX hG hf hk
    · rw [if_pos hc4] at hf
      refine Wp.aload_n (pc := 61) 0 rfl rfl dX12_comesTo_61 ?_
      refine Wp.aload_n (pc := 62) 0 rfl rfl dX12_comesTo_62 ?_
      obtain ⟨c7, h8, hf⟩ := bnd hf
      refine Wp.callVi (pc := 63) (st := [.ref 56, .int x3]) (as := []) (c_X12_clashesNow hG h8) ml_RX12_453 mv_X12_clashesNow mb_X12_clashesNow hX (Nat.le_of_ble_eq_true rfl) (by decide) rfl (hG.t 56 rfl) rfl (by simp [Value.category]) dX12_comesTo_63 rfl ?_
      refine Wp.bipush (pc := 66) (12 : Int32) (by decide) dX12_comesTo_66 ?_
      obtain ⟨c9, h10, hf⟩ := bnd hf
      refine Wp.callVi (pc := 68) (st := [.int x3]) (as := [.int c7.1, .int (12 : Int32)]) (c_X12_bits hG h10) ml_RX12_472 mv_X12_bits mb_X12_bits hX (Nat.le_of_ble_eq_true rfl) (by decide) rfl (hG.t 56 rfl) rfl (by simp [Value.category]) dX12_comesTo_68 rfl ?_
      refine Wp.goto (pc := 71) 78 dX12_comesTo_71 (by decide) ?_
      refine Wp.lo' (lo' := [(0, .ref 56), (1, .int x1), (2, .int x2), (4, .int x4)]) [0, 1, 2, 4] rfl ?_
      exact w_X12_comesTo_78 hX hG hf hk
theorem wl_X12_comesTo_44 {X : CX} {T : List Dsc} {R : RM} {c e : Nat} {n1 n2 : Nat} {x1 : Int32} {x2 : Int32} {x3 : Int32} {x4 : Int32} {m : M2} {e1 : ((Int32 × M2))} (hX : XR X 10 n1 n2) (hG : Geo T R c e) (h : loop (g_X12_comesTo_44 x1 x2) (x3, x4, m) = some e1) (he : Wp X cX12_comesTo RX12 5 T (mk e1.2 R) n1 n2 86 [(3, .int e1.1)] []) : Wp X cX12_comesTo RX12 5 T (mk m R) n1 n2 44 [(0, .ref 56), (1, .int x1), (2, .int x2), (3, .int x3), (4, .int x4)] [] :=
  loop_ok (K := k_X12_comesTo_44 X T R n1 n2 x1 x2) (fun s r hf hk => w_X12_comesTo_44 hX hG hf hk) h he
set_option maxHeartbeats 4000000 in
set_option maxRecDepth 100000 in
theorem w_X12_comesTo {X : CX} {T : List Dsc} {R : RM} {c e : Nat} {n1 n2 : Nat} {x1 : Int32} {x2 : Int32} {m : M2} {r : (Int32 × M2)} (hX : XR X 10 n1 n2) (hG : Geo T R c e) (hf : F_X12_comesTo x1 x2 m = some r) (hk : FnI X cX12_comesTo RX12 5 T n1 n2 (r.1, mk r.2 R)) : Wp X cX12_comesTo RX12 5 T (mk m R) n1 n2 0 [(0, .ref 56), (1, .int x1), (2, .int x2)] [] := by
  unfold F_X12_comesTo at hf
  refine Wp.aload_n (pc := 0) 0 rfl rfl dX12_comesTo_0 ?_
  obtain ⟨c1, h2, hf⟩ := bnd hf
  refine Wp.callVv (pc := 1) (st := []) (as := []) (c_X12_sits hG h2) ml_RX12_469 mv_X12_sits mb_X12_sits hX (Nat.le_of_ble_eq_true rfl) (by decide) rfl (hG.t 56 rfl) rfl (by simp) dX12_comesTo_1 rfl ?_
  refine Wp.iload_n (pc := 4) 1 rfl rfl dX12_comesTo_4 ?_
  refine Wp.if_ne (pc := 5) 39 dX12_comesTo_5 (by decide) (fun hc3 => ?_) (fun hc3 => ?_)
  · rw [if_neg hc3] at hf
    refine Wp.iconst (pc := 39) (0 : Int32) (by decide) dX12_comesTo_39 ?_
    refine Wp.istore_n (pc := 40) (lo' := [(0, .ref 56), (1, .int x1), (2, .int x2), (3, .int (0 : Int32))]) [1, 2, 3, 0] rfl (by decide) rfl dX12_comesTo_40 ?_
    refine Wp.iconst (pc := 41) (0 : Int32) (by decide) dX12_comesTo_41 ?_
    refine Wp.istore (pc := 42) (lo' := [(0, .ref 56), (1, .int x1), (2, .int x2), (3, .int (0 : Int32)), (4, .int (0 : Int32))]) [1, 2, 3, 4, 0] rfl (by decide) dX12_comesTo_42 ?_
    obtain ⟨e4, h5, hf⟩ := bnd hf
    refine wl_X12_comesTo_44 hX hG h5 ?_
    refine Wp.iload_n (pc := 86) 0 rfl rfl dX12_comesTo_86 ?_
    cases hf
    exact hk _ _ dX12_comesTo_87
  · rw [if_pos hc3] at hf
    refine Wp.iconst (pc := 8) (0 : Int32) (by decide) dX12_comesTo_8 ?_
    refine Wp.istore_n (pc := 9) (lo' := [(0, .ref 56), (2, .int x2), (3, .int (0 : Int32))]) [1, 3, 0] rfl (by decide) rfl dX12_comesTo_9 ?_
    obtain ⟨e6, h7, hf⟩ := bnd hf
    refine wl_X12_comesTo_10 hX hG h7 (fun e6_0 hq => ?_) (fun e6_1 hq => ?_)
    · rw [hq, Sum.elim_inl] at hf
      refine Wp.iload_n (pc := 22) 0 rfl rfl dX12_comesTo_22 ?_
      cases hf
      exact hk _ _ dX12_comesTo_23
    · rw [hq, Sum.elim_inr] at hf
      refine Wp.iload_n (pc := 35) 0 rfl rfl dX12_comesTo_35 ?_
      refine Wp.iconst (pc := 36) (1 : Int32) (by decide) dX12_comesTo_36 ?_
      refine Wp.iadd (pc := 37) dX12_comesTo_37 ?_
      cases hf
      exact hk _ _ dX12_comesTo_38
theorem c_X12_comesTo {T : List Dsc} {R : RM} {c e : Nat} {x1 : Int32} {x2 : Int32} {m : M2} {r : (Int32 × M2)} (hG : Geo T R c e) (hf : F_X12_comesTo x1 x2 m = some r) : Ct 10 yX12_comesTo cX12_comesTo 5 (some .int) T (mk m R) [.ref 56, .int x1, .int x2] (some (.int r.1)) (mk r.2 R) := Ct.ofI (r := (r.1, mk r.2 R)) (by decide +kernel) (Nat.le_of_ble_eq_true rfl) (fun X hX hk => w_X12_comesTo hX hG hf hk)
theorem dX12_isBetter_0 : decode cX12_isBetter 0 = .ok (.iload_n 0, 1) := by decide +kernel
theorem dX12_isBetter_1 : decode cX12_isBetter 1 = .ok (.iconst 2, 1) := by decide +kernel
theorem dX12_isBetter_2 : decode cX12_isBetter 2 = .ok (.if_icmp .ne 16, 3) := by decide +kernel
theorem dX12_isBetter_5 : decode cX12_isBetter 5 = .ok (.iload_n 1, 1) := by decide +kernel
theorem dX12_isBetter_6 : decode cX12_isBetter 6 = .ok (.iload_n 2, 1) := by decide +kernel
theorem dX12_isBetter_7 : decode cX12_isBetter 7 = .ok (.if_icmp .le 7, 3) := by decide +kernel
theorem dX12_isBetter_10 : decode cX12_isBetter 10 = .ok (.iconst 1, 1) := by decide +kernel
theorem dX12_isBetter_11 : decode cX12_isBetter 11 = .ok (.goto 17, 3) := by decide +kernel
theorem dX12_isBetter_14 : decode cX12_isBetter 14 = .ok (.iconst 0, 1) := by decide +kernel
theorem dX12_isBetter_15 : decode cX12_isBetter 15 = .ok (.goto 13, 3) := by decide +kernel
theorem dX12_isBetter_18 : decode cX12_isBetter 18 = .ok (.iload_n 1, 1) := by decide +kernel
theorem dX12_isBetter_19 : decode cX12_isBetter 19 = .ok (.iload_n 2, 1) := by decide +kernel
theorem dX12_isBetter_20 : decode cX12_isBetter 20 = .ok (.if_icmp .ge 7, 3) := by decide +kernel
theorem dX12_isBetter_23 : decode cX12_isBetter 23 = .ok (.iconst 1, 1) := by decide +kernel
theorem dX12_isBetter_24 : decode cX12_isBetter 24 = .ok (.goto 4, 3) := by decide +kernel
theorem dX12_isBetter_27 : decode cX12_isBetter 27 = .ok (.iconst 0, 1) := by decide +kernel
theorem dX12_isBetter_28 : decode cX12_isBetter 28 = .ok (.ireturn, 1) := by decide +kernel
set_option maxHeartbeats 4000000 in
set_option maxRecDepth 100000 in
theorem w_X12_isBetter_28 {X : CX} {T : List Dsc} {R : RM} {c e : Nat} {n1 n2 : Nat} {s0 : Int32} {m : M2} {r : (Int32 × M2)} (hX : XR X 1 n1 n2) (hG : Geo T R c e) (hf : f_X12_isBetter_28 s0 m = some r) (hk : FnZ X cX12_isBetter RX12 3 T n1 n2 (r.1, mk r.2 R)) : Wp X cX12_isBetter RX12 3 T (mk m R) n1 n2 28 [] [.int s0] := by
  unfold f_X12_isBetter_28 at hf
  obtain ⟨v1, h2, hf⟩ := bnd hf
  refine Wp.zb' h2 (fun h2 => ?_)
  cases hf
  exact hk _ _ h2 dX12_isBetter_28
set_option maxHeartbeats 4000000 in
set_option maxRecDepth 100000 in
theorem w_X12_isBetter {X : CX} {T : List Dsc} {R : RM} {c e : Nat} {n1 n2 : Nat} {x0 : Int32} {x1 : Int32} {x2 : Int32} {m : M2} {r : (Int32 × M2)} (hX : XR X 1 n1 n2) (hG : Geo T R c e) (hf : F_X12_isBetter x0 x1 x2 m = some r) (hk : FnZ X cX12_isBetter RX12 3 T n1 n2 (r.1, mk r.2 R)) : Wp X cX12_isBetter RX12 3 T (mk m R) n1 n2 0 [(0, .int x0), (1, .int x1), (2, .int x2)] [] := by
  unfold F_X12_isBetter at hf
  refine Wp.iload_n (pc := 0) 0 rfl rfl dX12_isBetter_0 ?_
  refine Wp.iconst (pc := 1) (2 : Int32) (by decide) dX12_isBetter_1 ?_
  refine Wp.icmp_ne (pc := 2) 18 dX12_isBetter_2 (by decide) (fun hc1 => ?_) (fun hc1 => ?_)
  · rw [if_neg hc1] at hf
    refine Wp.iload_n (pc := 18) 1 rfl rfl dX12_isBetter_18 ?_
    refine Wp.iload_n (pc := 19) 2 rfl rfl dX12_isBetter_19 ?_
    refine Wp.icmp_ge (pc := 20) 27 dX12_isBetter_20 (by decide) (fun hc2 => ?_) (fun hc2 => ?_)
    · rw [if_pos hc2] at hf
      refine Wp.iconst (pc := 27) (0 : Int32) (by decide) dX12_isBetter_27 ?_
      refine Wp.lo' (lo' := []) [] rfl ?_
      exact w_X12_isBetter_28 hX hG hf hk
    · rw [if_neg hc2] at hf
      refine Wp.iconst (pc := 23) (1 : Int32) (by decide) dX12_isBetter_23 ?_
      refine Wp.goto (pc := 24) 28 dX12_isBetter_24 (by decide) ?_
      refine Wp.lo' (lo' := []) [] rfl ?_
      exact w_X12_isBetter_28 hX hG hf hk
  · rw [if_pos hc1] at hf
    refine Wp.iload_n (pc := 5) 1 rfl rfl dX12_isBetter_5 ?_
    refine Wp.iload_n (pc := 6) 2 rfl rfl dX12_isBetter_6 ?_
    refine Wp.icmp_le (pc := 7) 14 dX12_isBetter_7 (by decide) (fun hc3 => ?_) (fun hc3 => ?_)
    · rw [if_pos hc3] at hf
      refine Wp.iconst (pc := 14) (0 : Int32) (by decide) dX12_isBetter_14 ?_
      refine Wp.goto (pc := 15) 28 dX12_isBetter_15 (by decide) ?_
      refine Wp.lo' (lo' := []) [] rfl ?_
      exact w_X12_isBetter_28 hX hG hf hk
    · rw [if_neg hc3] at hf
      refine Wp.iconst (pc := 10) (1 : Int32) (by decide) dX12_isBetter_10 ?_
      refine Wp.goto (pc := 11) 28 dX12_isBetter_11 (by decide) ?_
      refine Wp.lo' (lo' := []) [] rfl ?_
      exact w_X12_isBetter_28 hX hG hf hk
theorem c_X12_isBetter {T : List Dsc} {R : RM} {c e : Nat} {x0 : Int32} {x1 : Int32} {x2 : Int32} {m : M2} {r : (Int32 × M2)} (hG : Geo T R c e) (hf : F_X12_isBetter x0 x1 x2 m = some r) : Ct 1 yX12_isBetter cX12_isBetter 3 (some .boolean) T (mk m R) [.int x0, .int x1, .int x2] (some (.int r.1)) (mk r.2 R) := Ct.ofZ (r := (r.1, mk r.2 R)) (by decide +kernel) (Nat.le_of_ble_eq_true rfl) (fun X hX hk => w_X12_isBetter hX hG hf hk)
theorem dX12_nextOrder_0 : decode cX12_nextOrder 0 = .ok (.aload_n 0, 1) := by decide +kernel
theorem dX12_nextOrder_1 : decode cX12_nextOrder 1 = .ok (.getfield 399, 3) := by decide +kernel
theorem dX12_nextOrder_4 : decode cX12_nextOrder 4 = .ok (.iconst 2, 1) := by decide +kernel
theorem dX12_nextOrder_5 : decode cX12_nextOrder 5 = .ok (.isub, 1) := by decide +kernel
theorem dX12_nextOrder_6 : decode cX12_nextOrder 6 = .ok (.istore_n 1, 1) := by decide +kernel
theorem dX12_nextOrder_7 : decode cX12_nextOrder 7 = .ok (.iload_n 1, 1) := by decide +kernel
theorem dX12_nextOrder_8 : decode cX12_nextOrder 8 = .ok (.ifCond .lt 26, 3) := by decide +kernel
theorem dX12_nextOrder_11 : decode cX12_nextOrder 11 = .ok (.aload_n 0, 1) := by decide +kernel
theorem dX12_nextOrder_12 : decode cX12_nextOrder 12 = .ok (.getfield 164, 3) := by decide +kernel
theorem dX12_nextOrder_15 : decode cX12_nextOrder 15 = .ok (.iload_n 1, 1) := by decide +kernel
theorem dX12_nextOrder_16 : decode cX12_nextOrder 16 = .ok (.iaload, 1) := by decide +kernel
theorem dX12_nextOrder_17 : decode cX12_nextOrder 17 = .ok (.aload_n 0, 1) := by decide +kernel
theorem dX12_nextOrder_18 : decode cX12_nextOrder 18 = .ok (.getfield 164, 3) := by decide +kernel
theorem dX12_nextOrder_21 : decode cX12_nextOrder 21 = .ok (.iload_n 1, 1) := by decide +kernel
theorem dX12_nextOrder_22 : decode cX12_nextOrder 22 = .ok (.iconst 1, 1) := by decide +kernel
theorem dX12_nextOrder_23 : decode cX12_nextOrder 23 = .ok (.iadd, 1) := by decide +kernel
theorem dX12_nextOrder_24 : decode cX12_nextOrder 24 = .ok (.iaload, 1) := by decide +kernel
theorem dX12_nextOrder_25 : decode cX12_nextOrder 25 = .ok (.if_icmp .le 9, 3) := by decide +kernel
theorem dX12_nextOrder_28 : decode cX12_nextOrder 28 = .ok (.iinc 1 (-1), 3) := by decide +kernel
theorem dX12_nextOrder_31 : decode cX12_nextOrder 31 = .ok (.goto (-24), 3) := by decide +kernel
theorem dX12_nextOrder_34 : decode cX12_nextOrder 34 = .ok (.iload_n 1, 1) := by decide +kernel
theorem dX12_nextOrder_35 : decode cX12_nextOrder 35 = .ok (.ifCond .ge 5, 3) := by decide +kernel
theorem dX12_nextOrder_38 : decode cX12_nextOrder 38 = .ok (.iconst 0, 1) := by decide +kernel
theorem dX12_nextOrder_39 : decode cX12_nextOrder 39 = .ok (.ireturn, 1) := by decide +kernel
theorem dX12_nextOrder_40 : decode cX12_nextOrder 40 = .ok (.aload_n 0, 1) := by decide +kernel
theorem dX12_nextOrder_41 : decode cX12_nextOrder 41 = .ok (.getfield 399, 3) := by decide +kernel
theorem dX12_nextOrder_44 : decode cX12_nextOrder 44 = .ok (.iconst 1, 1) := by decide +kernel
theorem dX12_nextOrder_45 : decode cX12_nextOrder 45 = .ok (.isub, 1) := by decide +kernel
theorem dX12_nextOrder_46 : decode cX12_nextOrder 46 = .ok (.istore_n 2, 1) := by decide +kernel
theorem dX12_nextOrder_47 : decode cX12_nextOrder 47 = .ok (.aload_n 0, 1) := by decide +kernel
theorem dX12_nextOrder_48 : decode cX12_nextOrder 48 = .ok (.getfield 164, 3) := by decide +kernel
theorem dX12_nextOrder_51 : decode cX12_nextOrder 51 = .ok (.iload_n 2, 1) := by decide +kernel
theorem dX12_nextOrder_52 : decode cX12_nextOrder 52 = .ok (.iaload, 1) := by decide +kernel
theorem dX12_nextOrder_53 : decode cX12_nextOrder 53 = .ok (.aload_n 0, 1) := by decide +kernel
theorem dX12_nextOrder_54 : decode cX12_nextOrder 54 = .ok (.getfield 164, 3) := by decide +kernel
theorem dX12_nextOrder_57 : decode cX12_nextOrder 57 = .ok (.iload_n 1, 1) := by decide +kernel
theorem dX12_nextOrder_58 : decode cX12_nextOrder 58 = .ok (.iaload, 1) := by decide +kernel
theorem dX12_nextOrder_59 : decode cX12_nextOrder 59 = .ok (.if_icmp .ge 9, 3) := by decide +kernel
theorem dX12_nextOrder_62 : decode cX12_nextOrder 62 = .ok (.iinc 2 (-1), 3) := by decide +kernel
theorem dX12_nextOrder_65 : decode cX12_nextOrder 65 = .ok (.goto (-18), 3) := by decide +kernel
theorem dX12_nextOrder_68 : decode cX12_nextOrder 68 = .ok (.aload_n 0, 1) := by decide +kernel
theorem dX12_nextOrder_69 : decode cX12_nextOrder 69 = .ok (.getfield 164, 3) := by decide +kernel
theorem dX12_nextOrder_72 : decode cX12_nextOrder 72 = .ok (.iload_n 1, 1) := by decide +kernel
theorem dX12_nextOrder_73 : decode cX12_nextOrder 73 = .ok (.iaload, 1) := by decide +kernel
theorem dX12_nextOrder_74 : decode cX12_nextOrder 74 = .ok (.istore_n 3, 1) := by decide +kernel
theorem dX12_nextOrder_75 : decode cX12_nextOrder 75 = .ok (.aload_n 0, 1) := by decide +kernel
theorem dX12_nextOrder_76 : decode cX12_nextOrder 76 = .ok (.getfield 164, 3) := by decide +kernel
theorem dX12_nextOrder_79 : decode cX12_nextOrder 79 = .ok (.iload_n 1, 1) := by decide +kernel
theorem dX12_nextOrder_80 : decode cX12_nextOrder 80 = .ok (.aload_n 0, 1) := by decide +kernel
theorem dX12_nextOrder_81 : decode cX12_nextOrder 81 = .ok (.getfield 164, 3) := by decide +kernel
theorem dX12_nextOrder_84 : decode cX12_nextOrder 84 = .ok (.iload_n 2, 1) := by decide +kernel
theorem dX12_nextOrder_85 : decode cX12_nextOrder 85 = .ok (.iaload, 1) := by decide +kernel
theorem dX12_nextOrder_86 : decode cX12_nextOrder 86 = .ok (.iastore, 1) := by decide +kernel
theorem dX12_nextOrder_87 : decode cX12_nextOrder 87 = .ok (.aload_n 0, 1) := by decide +kernel
theorem dX12_nextOrder_88 : decode cX12_nextOrder 88 = .ok (.getfield 164, 3) := by decide +kernel
theorem dX12_nextOrder_91 : decode cX12_nextOrder 91 = .ok (.iload_n 2, 1) := by decide +kernel
theorem dX12_nextOrder_92 : decode cX12_nextOrder 92 = .ok (.iload_n 3, 1) := by decide +kernel
theorem dX12_nextOrder_93 : decode cX12_nextOrder 93 = .ok (.iastore, 1) := by decide +kernel
theorem dX12_nextOrder_94 : decode cX12_nextOrder 94 = .ok (.iload_n 1, 1) := by decide +kernel
theorem dX12_nextOrder_95 : decode cX12_nextOrder 95 = .ok (.iconst 1, 1) := by decide +kernel
theorem dX12_nextOrder_96 : decode cX12_nextOrder 96 = .ok (.iadd, 1) := by decide +kernel
theorem dX12_nextOrder_97 : decode cX12_nextOrder 97 = .ok (.istore 4, 2) := by decide +kernel
theorem dX12_nextOrder_99 : decode cX12_nextOrder 99 = .ok (.aload_n 0, 1) := by decide +kernel
theorem dX12_nextOrder_100 : decode cX12_nextOrder 100 = .ok (.getfield 399, 3) := by decide +kernel
theorem dX12_nextOrder_103 : decode cX12_nextOrder 103 = .ok (.iconst 1, 1) := by decide +kernel
theorem dX12_nextOrder_104 : decode cX12_nextOrder 104 = .ok (.isub, 1) := by decide +kernel
theorem dX12_nextOrder_105 : decode cX12_nextOrder 105 = .ok (.istore 5, 2) := by decide +kernel
theorem dX12_nextOrder_107 : decode cX12_nextOrder 107 = .ok (.iload 4, 2) := by decide +kernel
theorem dX12_nextOrder_109 : decode cX12_nextOrder 109 = .ok (.iload 5, 2) := by decide +kernel
theorem dX12_nextOrder_111 : decode cX12_nextOrder 111 = .ok (.if_icmp .ge 42, 3) := by decide +kernel
theorem dX12_nextOrder_114 : decode cX12_nextOrder 114 = .ok (.aload_n 0, 1) := by decide +kernel
theorem dX12_nextOrder_115 : decode cX12_nextOrder 115 = .ok (.getfield 164, 3) := by decide +kernel
theorem dX12_nextOrder_118 : decode cX12_nextOrder 118 = .ok (.iload 4, 2) := by decide +kernel
theorem dX12_nextOrder_120 : decode cX12_nextOrder 120 = .ok (.iaload, 1) := by decide +kernel
theorem dX12_nextOrder_121 : decode cX12_nextOrder 121 = .ok (.istore_n 3, 1) := by decide +kernel
theorem dX12_nextOrder_122 : decode cX12_nextOrder 122 = .ok (.aload_n 0, 1) := by decide +kernel
theorem dX12_nextOrder_123 : decode cX12_nextOrder 123 = .ok (.getfield 164, 3) := by decide +kernel
theorem dX12_nextOrder_126 : decode cX12_nextOrder 126 = .ok (.iload 4, 2) := by decide +kernel
theorem dX12_nextOrder_128 : decode cX12_nextOrder 128 = .ok (.aload_n 0, 1) := by decide +kernel
theorem dX12_nextOrder_129 : decode cX12_nextOrder 129 = .ok (.getfield 164, 3) := by decide +kernel
theorem dX12_nextOrder_132 : decode cX12_nextOrder 132 = .ok (.iload 5, 2) := by decide +kernel
theorem dX12_nextOrder_134 : decode cX12_nextOrder 134 = .ok (.iaload, 1) := by decide +kernel
theorem dX12_nextOrder_135 : decode cX12_nextOrder 135 = .ok (.iastore, 1) := by decide +kernel
theorem dX12_nextOrder_136 : decode cX12_nextOrder 136 = .ok (.aload_n 0, 1) := by decide +kernel
theorem dX12_nextOrder_137 : decode cX12_nextOrder 137 = .ok (.getfield 164, 3) := by decide +kernel
theorem dX12_nextOrder_140 : decode cX12_nextOrder 140 = .ok (.iload 5, 2) := by decide +kernel
theorem dX12_nextOrder_142 : decode cX12_nextOrder 142 = .ok (.iload_n 3, 1) := by decide +kernel
theorem dX12_nextOrder_143 : decode cX12_nextOrder 143 = .ok (.iastore, 1) := by decide +kernel
theorem dX12_nextOrder_144 : decode cX12_nextOrder 144 = .ok (.iinc 4 1, 3) := by decide +kernel
theorem dX12_nextOrder_147 : decode cX12_nextOrder 147 = .ok (.iinc 5 (-1), 3) := by decide +kernel
theorem dX12_nextOrder_150 : decode cX12_nextOrder 150 = .ok (.goto (-43), 3) := by decide +kernel
theorem dX12_nextOrder_153 : decode cX12_nextOrder 153 = .ok (.iconst 1, 1) := by decide +kernel
theorem dX12_nextOrder_154 : decode cX12_nextOrder 154 = .ok (.ireturn, 1) := by decide +kernel
def k_X12_nextOrder_7 (X : CX) (T : List Dsc) (R : RM) (n1 n2 : Nat) (r : ((Int32 × M2) ⊕ ((Int32 × M2)))) : Prop := match r with
  | .inl s => Wp X cX12_nextOrder RX12 6 T (mk s.2 R) n1 n2 7 [(0, .ref 56), (1, .int s.1)] []
  | .inr e => Wp X cX12_nextOrder RX12 6 T (mk e.2 R) n1 n2 34 [(0, .ref 56), (1, .int e.1)] []
def k_X12_nextOrder_47 (X : CX) (T : List Dsc) (R : RM) (n1 n2 : Nat) (x1 : Int32) (r : ((Int32 × M2) ⊕ ((Int32 × M2)))) : Prop := match r with
  | .inl s => Wp X cX12_nextOrder RX12 6 T (mk s.2 R) n1 n2 47 [(0, .ref 56), (1, .int x1), (2, .int s.1)] []
  | .inr e => Wp X cX12_nextOrder RX12 6 T (mk e.2 R) n1 n2 68 [(0, .ref 56), (1, .int x1), (2, .int e.1)] []
def k_X12_nextOrder_107 (X : CX) (T : List Dsc) (R : RM) (n1 n2 : Nat) (r : ((Int32 × Int32 × M2) ⊕ ((M2)))) : Prop := match r with
  | .inl s => Wp X cX12_nextOrder RX12 6 T (mk s.2.2 R) n1 n2 107 [(0, .ref 56), (4, .int s.1), (5, .int s.2.1)] []
  | .inr e => Wp X cX12_nextOrder RX12 6 T (mk e R) n1 n2 153 [] []
set_option maxHeartbeats 4000000 in
set_option maxRecDepth 100000 in
theorem w_X12_nextOrder_7 {X : CX} {T : List Dsc} {R : RM} {c e : Nat} {n1 n2 : Nat} {x1 : Int32} {m : M2} {r : ((Int32 × M2) ⊕ ((Int32 × M2)))} (hX : XR X 1 n1 n2) (hG : Geo T R c e) (hf : f_X12_nextOrder_7 x1 m = some r) (hk : k_X12_nextOrder_7 X T R n1 n2 r) : Wp X cX12_nextOrder RX12 6 T (mk m R) n1 n2 7 [(0, .ref 56), (1, .int x1)] [] := by
  unfold f_X12_nextOrder_7 at hf
  refine Wp.iload_n (pc := 7) 1 rfl rfl dX12_nextOrder_7 ?_
  refine Wp.if_lt (pc := 8) 34 dX12_nextOrder_8 (by decide) (fun hc1 => ?_) (fun hc1 => ?_)
  · rw [if_pos hc1] at hf
    cases hf
    exact hk
  · rw [if_neg hc1] at hf
    refine Wp.aload_n (pc := 11) 0 rfl rfl dX12_nextOrder_11 ?_
    refine Wp.getR2 (pc := 12) (hG.r 56 75 rfl) (hG.t 56 rfl) fk_RX12_164 rfl dX12_nextOrder_12 ?_
    refine Wp.iload_n (pc := 15) 1 rfl rfl dX12_nextOrder_15 ?_
    obtain ⟨v2, h3, hf⟩ := bnd hf
    refine Wp.iald2 (pc := 16) h3 (hG.a 105 0 rfl) dX12_nextOrder_16 ?_
    refine Wp.aload_n (pc := 17) 0 rfl rfl dX12_nextOrder_17 ?_
    refine Wp.getR2 (pc := 18) (hG.r 56 75 rfl) (hG.t 56 rfl) fk_RX12_164 rfl dX12_nextOrder_18 ?_
    refine Wp.iload_n (pc := 21) 1 rfl rfl dX12_nextOrder_21 ?_
    refine Wp.iconst (pc := 22) (1 : Int32) (by decide) dX12_nextOrder_22 ?_
    refine Wp.iadd (pc := 23) dX12_nextOrder_23 ?_
    obtain ⟨v4, h5, hf⟩ := bnd hf
    refine Wp.iald2 (pc := 24) h5 (hG.a 105 0 rfl) dX12_nextOrder_24 ?_
    refine Wp.icmp_le (pc := 25) 34 dX12_nextOrder_25 (by decide) (fun hc6 => ?_) (fun hc6 => ?_)
    · rw [if_pos hc6] at hf
      cases hf
      exact hk
    · rw [if_neg hc6] at hf
      obtain ⟨v7, h8, hf⟩ := bnd hf
      refine Wp.iincN (pc := 28) (lo' := [(0, .ref 56), (1, .int v7)]) (-1 : Int32) (by decide) h8 1 rfl [1, 0] rfl (by decide) dX12_nextOrder_28 ?_
      refine Wp.goto (pc := 31) 7 dX12_nextOrder_31 (by decide) ?_
      cases hf
      exact hk
theorem wl_X12_nextOrder_7 {X : CX} {T : List Dsc} {R : RM} {c e : Nat} {n1 n2 : Nat} {x1 : Int32} {m : M2} {e1 : ((Int32 × M2))} (hX : XR X 1 n1 n2) (hG : Geo T R c e) (h : loop (g_X12_nextOrder_7) (x1, m) = some e1) (he : Wp X cX12_nextOrder RX12 6 T (mk e1.2 R) n1 n2 34 [(0, .ref 56), (1, .int e1.1)] []) : Wp X cX12_nextOrder RX12 6 T (mk m R) n1 n2 7 [(0, .ref 56), (1, .int x1)] [] :=
  loop_ok (K := k_X12_nextOrder_7 X T R n1 n2) (fun s r hf hk => w_X12_nextOrder_7 hX hG hf hk) h he
set_option maxHeartbeats 4000000 in
set_option maxRecDepth 100000 in
theorem w_X12_nextOrder_47 {X : CX} {T : List Dsc} {R : RM} {c e : Nat} {n1 n2 : Nat} {x1 : Int32} {x2 : Int32} {m : M2} {r : ((Int32 × M2) ⊕ ((Int32 × M2)))} (hX : XR X 1 n1 n2) (hG : Geo T R c e) (hf : f_X12_nextOrder_47 x1 x2 m = some r) (hk : k_X12_nextOrder_47 X T R n1 n2 x1 r) : Wp X cX12_nextOrder RX12 6 T (mk m R) n1 n2 47 [(0, .ref 56), (1, .int x1), (2, .int x2)] [] := by
  unfold f_X12_nextOrder_47 at hf
  refine Wp.aload_n (pc := 47) 0 rfl rfl dX12_nextOrder_47 ?_
  refine Wp.getR2 (pc := 48) (hG.r 56 75 rfl) (hG.t 56 rfl) fk_RX12_164 rfl dX12_nextOrder_48 ?_
  refine Wp.iload_n (pc := 51) 2 rfl rfl dX12_nextOrder_51 ?_
  obtain ⟨v1, h2, hf⟩ := bnd hf
  refine Wp.iald2 (pc := 52) h2 (hG.a 105 0 rfl) dX12_nextOrder_52 ?_
  refine Wp.aload_n (pc := 53) 0 rfl rfl dX12_nextOrder_53 ?_
  refine Wp.getR2 (pc := 54) (hG.r 56 75 rfl) (hG.t 56 rfl) fk_RX12_164 rfl dX12_nextOrder_54 ?_
  refine Wp.iload_n (pc := 57) 1 rfl rfl dX12_nextOrder_57 ?_
  obtain ⟨v3, h4, hf⟩ := bnd hf
  refine Wp.iald2 (pc := 58) h4 (hG.a 105 0 rfl) dX12_nextOrder_58 ?_
  refine Wp.icmp_ge (pc := 59) 68 dX12_nextOrder_59 (by decide) (fun hc5 => ?_) (fun hc5 => ?_)
  · rw [if_pos hc5] at hf
    cases hf
    exact hk
  · rw [if_neg hc5] at hf
    obtain ⟨v6, h7, hf⟩ := bnd hf
    refine Wp.iincN (pc := 62) (lo' := [(0, .ref 56), (1, .int x1), (2, .int v6)]) (-1 : Int32) (by decide) h7 2 rfl [1, 2, 0] rfl (by decide) dX12_nextOrder_62 ?_
    refine Wp.goto (pc := 65) 47 dX12_nextOrder_65 (by decide) ?_
    cases hf
    exact hk
theorem wl_X12_nextOrder_47 {X : CX} {T : List Dsc} {R : RM} {c e : Nat} {n1 n2 : Nat} {x1 : Int32} {x2 : Int32} {m : M2} {e1 : ((Int32 × M2))} (hX : XR X 1 n1 n2) (hG : Geo T R c e) (h : loop (g_X12_nextOrder_47 x1) (x2, m) = some e1) (he : Wp X cX12_nextOrder RX12 6 T (mk e1.2 R) n1 n2 68 [(0, .ref 56), (1, .int x1), (2, .int e1.1)] []) : Wp X cX12_nextOrder RX12 6 T (mk m R) n1 n2 47 [(0, .ref 56), (1, .int x1), (2, .int x2)] [] :=
  loop_ok (K := k_X12_nextOrder_47 X T R n1 n2 x1) (fun s r hf hk => w_X12_nextOrder_47 hX hG hf hk) h he
set_option maxHeartbeats 4000000 in
set_option maxRecDepth 100000 in
theorem w_X12_nextOrder_107 {X : CX} {T : List Dsc} {R : RM} {c e : Nat} {n1 n2 : Nat} {x4 : Int32} {x5 : Int32} {m : M2} {r : ((Int32 × Int32 × M2) ⊕ ((M2)))} (hX : XR X 1 n1 n2) (hG : Geo T R c e) (hf : f_X12_nextOrder_107 x4 x5 m = some r) (hk : k_X12_nextOrder_107 X T R n1 n2 r) : Wp X cX12_nextOrder RX12 6 T (mk m R) n1 n2 107 [(0, .ref 56), (4, .int x4), (5, .int x5)] [] := by
  unfold f_X12_nextOrder_107 at hf
  refine Wp.iload (pc := 107) 1 rfl dX12_nextOrder_107 ?_
  refine Wp.iload (pc := 109) 2 rfl dX12_nextOrder_109 ?_
  refine Wp.icmp_ge (pc := 111) 153 dX12_nextOrder_111 (by decide) (fun hc1 => ?_) (fun hc1 => ?_)
  · rw [if_pos hc1] at hf
    refine Wp.lo' (lo' := []) [] rfl ?_
    cases hf
    exact hk
  · rw [if_neg hc1] at hf
    refine Wp.aload_n (pc := 114) 0 rfl rfl dX12_nextOrder_114 ?_
    refine Wp.getR2 (pc := 115) (hG.r 56 75 rfl) (hG.t 56 rfl) fk_RX12_164 rfl dX12_nextOrder_115 ?_
    refine Wp.iload (pc := 118) 1 rfl dX12_nextOrder_118 ?_
    obtain ⟨v2, h3, hf⟩ := bnd hf
    refine Wp.iald2 (pc := 120) h3 (hG.a 105 0 rfl) dX12_nextOrder_120 ?_
    refine Wp.istore_n (pc := 121) (lo' := [(0, .ref 56), (3, .int v2), (4, .int x4), (5, .int x5)]) [1, 0, 2, 3] rfl (by decide) rfl dX12_nextOrder_121 ?_
    refine Wp.aload_n (pc := 122) 0 rfl rfl dX12_nextOrder_122 ?_
    refine Wp.getR2 (pc := 123) (hG.r 56 75 rfl) (hG.t 56 rfl) fk_RX12_164 rfl dX12_nextOrder_123 ?_
    refine Wp.iload (pc := 126) 2 rfl dX12_nextOrder_126 ?_
    refine Wp.aload_n (pc := 128) 0 rfl rfl dX12_nextOrder_128 ?_
    refine Wp.getR2 (pc := 129) (hG.r 56 75 rfl) (hG.t 56 rfl) fk_RX12_164 rfl dX12_nextOrder_129 ?_
    refine Wp.iload (pc := 132) 3 rfl dX12_nextOrder_132 ?_
    obtain ⟨v4, h5, hf⟩ := bnd hf
    refine Wp.iald2 (pc := 134) h5 (hG.a 105 0 rfl) dX12_nextOrder_134 ?_
    obtain ⟨m6, h7, hf⟩ := bnd hf
    refine Wp.iast2 (pc := 135) h7 (hG.a 105 0 rfl) dX12_nextOrder_135 ?_
    refine Wp.aload_n (pc := 136) 0 rfl rfl dX12_nextOrder_136 ?_
    refine Wp.getR2 (pc := 137) (hG.r 56 75 rfl) (hG.t 56 rfl) fk_RX12_164 rfl dX12_nextOrder_137 ?_
    refine Wp.iload (pc := 140) 3 rfl dX12_nextOrder_140 ?_
    refine Wp.iload_n (pc := 142) 1 rfl rfl dX12_nextOrder_142 ?_
    obtain ⟨m8, h9, hf⟩ := bnd hf
    refine Wp.iast2 (pc := 143) h9 (hG.a 105 0 rfl) dX12_nextOrder_143 ?_
    obtain ⟨v10, h11, hf⟩ := bnd hf
    refine Wp.iincN (pc := 144) (lo' := [(0, .ref 56), (4, .int v10), (5, .int x5)]) (1 : Int32) (by decide) h11 2 rfl [1, 0, 3] rfl (by decide) dX12_nextOrder_144 ?_
    obtain ⟨v12, h13, hf⟩ := bnd hf
    refine Wp.iincN (pc := 147) (lo' := [(0, .ref 56), (4, .int v10), (5, .int v12)]) (-1 : Int32) (by decide) h13 2 rfl [1, 2, 0] rfl (by decide) dX12_nextOrder_147 ?_
    refine Wp.goto (pc := 150) 107 dX12_nextOrder_150 (by decide) ?_
    cases hf
    exact hk
theorem wl_X12_nextOrder_107 {X : CX} {T : List Dsc} {R : RM} {c e : Nat} {n1 n2 : Nat} {x4 : Int32} {x5 : Int32} {m : M2} {e1 : ((M2))} (hX : XR X 1 n1 n2) (hG : Geo T R c e) (h : loop (g_X12_nextOrder_107) (x4, x5, m) = some e1) (he : Wp X cX12_nextOrder RX12 6 T (mk e1 R) n1 n2 153 [] []) : Wp X cX12_nextOrder RX12 6 T (mk m R) n1 n2 107 [(0, .ref 56), (4, .int x4), (5, .int x5)] [] :=
  loop_ok (K := k_X12_nextOrder_107 X T R n1 n2) (fun s r hf hk => w_X12_nextOrder_107 hX hG hf hk) h he
set_option maxHeartbeats 4000000 in
set_option maxRecDepth 100000 in
theorem w_X12_nextOrder_34 {X : CX} {T : List Dsc} {R : RM} {c e : Nat} {n1 n2 : Nat} {x1 : Int32} {m : M2} {r : (Int32 × M2)} (hX : XR X 1 n1 n2) (hG : Geo T R c e) (hf : f_X12_nextOrder_34 x1 m = some r) (hk : FnZ X cX12_nextOrder RX12 6 T n1 n2 (r.1, mk r.2 R)) : Wp X cX12_nextOrder RX12 6 T (mk m R) n1 n2 34 [(0, .ref 56), (1, .int x1)] [] := by
  unfold f_X12_nextOrder_34 at hf
  refine Wp.iload_n (pc := 34) 1 rfl rfl dX12_nextOrder_34 ?_
  refine Wp.if_ge (pc := 35) 40 dX12_nextOrder_35 (by decide) (fun hc1 => ?_) (fun hc1 => ?_)
  · rw [if_pos hc1] at hf
    refine Wp.aload_n (pc := 40) 0 rfl rfl dX12_nextOrder_40 ?_
    refine Wp.getI2 (pc := 41) (hG.t 56 rfl) fk_RX12_399 rfl dX12_nextOrder_41 ?_
    refine Wp.iconst (pc := 44) (1 : Int32) (by decide) dX12_nextOrder_44 ?_
    refine Wp.isub (pc := 45) dX12_nextOrder_45 ?_
    obtain ⟨v2, h3, hf⟩ := bnd hf
    refine Wp.nI' h3 ?_
    refine Wp.istore_n (pc := 46) (lo' := [(0, .ref 56), (1, .int x1), (2, .int v2)]) [1, 2, 0] rfl (by decide) rfl dX12_nextOrder_46 ?_
    obtain ⟨e4, h5, hf⟩ := bnd hf
    refine wl_X12_nextOrder_47 hX hG h5 ?_
    refine Wp.aload_n (pc := 68) 0 rfl rfl dX12_nextOrder_68 ?_
    refine Wp.getR2 (pc := 69) (hG.r 56 75 rfl) (hG.t 56 rfl) fk_RX12_164 rfl dX12_nextOrder_69 ?_
    refine Wp.iload_n (pc := 72) 1 rfl rfl dX12_nextOrder_72 ?_
    obtain ⟨v6, h7, hf⟩ := bnd hf
    refine Wp.iald2 (pc := 73) h7 (hG.a 105 0 rfl) dX12_nextOrder_73 ?_
    refine Wp.istore_n (pc := 74) (lo' := [(0, .ref 56), (1, .int x1), (2, .int e4.1), (3, .int v6)]) [1, 2, 3, 0] rfl (by decide) rfl dX12_nextOrder_74 ?_
    refine Wp.aload_n (pc := 75) 0 rfl rfl dX12_nextOrder_75 ?_
    refine Wp.getR2 (pc := 76) (hG.r 56 75 rfl) (hG.t 56 rfl) fk_RX12_164 rfl dX12_nextOrder_76 ?_
    refine Wp.iload_n (pc := 79) 1 rfl rfl dX12_nextOrder_79 ?_
    refine Wp.aload_n (pc := 80) 0 rfl rfl dX12_nextOrder_80 ?_
    refine Wp.getR2 (pc := 81) (hG.r 56 75 rfl) (hG.t 56 rfl) fk_RX12_164 rfl dX12_nextOrder_81 ?_
    refine Wp.iload_n (pc := 84) 2 rfl rfl dX12_nextOrder_84 ?_
    obtain ⟨v8, h9, hf⟩ := bnd hf
    refine Wp.iald2 (pc := 85) h9 (hG.a 105 0 rfl) dX12_nextOrder_85 ?_
    obtain ⟨m10, h11, hf⟩ := bnd hf
    refine Wp.iast2 (pc := 86) h11 (hG.a 105 0 rfl) dX12_nextOrder_86 ?_
    refine Wp.aload_n (pc := 87) 0 rfl rfl dX12_nextOrder_87 ?_
    refine Wp.getR2 (pc := 88) (hG.r 56 75 rfl) (hG.t 56 rfl) fk_RX12_164 rfl dX12_nextOrder_88 ?_
    refine Wp.iload_n (pc := 91) 2 rfl rfl dX12_nextOrder_91 ?_
    refine Wp.iload_n (pc := 92) 3 rfl rfl dX12_nextOrder_92 ?_
    obtain ⟨m12, h13, hf⟩ := bnd hf
    refine Wp.iast2 (pc := 93) h13 (hG.a 105 0 rfl) dX12_nextOrder_93 ?_
    refine Wp.iload_n (pc := 94) 1 rfl rfl dX12_nextOrder_94 ?_
    refine Wp.iconst (pc := 95) (1 : Int32) (by decide) dX12_nextOrder_95 ?_
    refine Wp.iadd (pc := 96) dX12_nextOrder_96 ?_
    obtain ⟨v14, h15, hf⟩ := bnd hf
    refine Wp.nI' h15 ?_
    refine Wp.istore (pc := 97) (lo' := [(0, .ref 56), (4, .int v14)]) [1, 0] rfl (by decide) dX12_nextOrder_97 ?_
    refine Wp.aload_n (pc := 99) 0 rfl rfl dX12_nextOrder_99 ?_
    refine Wp.getI2 (pc := 100) (hG.t 56 rfl) fk_RX12_399 rfl dX12_nextOrder_100 ?_
    refine Wp.iconst (pc := 103) (1 : Int32) (by decide) dX12_nextOrder_103 ?_
    refine Wp.isub (pc := 104) dX12_nextOrder_104 ?_
    obtain ⟨v16, h17, hf⟩ := bnd hf
    refine Wp.nI' h17 ?_
    refine Wp.istore (pc := 105) (lo' := [(0, .ref 56), (4, .int v14), (5, .int v16)]) [1, 2, 0] rfl (by decide) dX12_nextOrder_105 ?_
    obtain ⟨e18, h19, hf⟩ := bnd hf
    refine wl_X12_nextOrder_107 hX hG h19 ?_
    refine Wp.iconst (pc := 153) (1 : Int32) (by decide) dX12_nextOrder_153 ?_
    cases hf
    exact hk _ _ (Or.inr rfl) dX12_nextOrder_154
  · rw [if_neg hc1] at hf
    refine Wp.iconst (pc := 38) (0 : Int32) (by decide) dX12_nextOrder_38 ?_
    cases hf
    exact hk _ _ (Or.inl rfl) dX12_nextOrder_39
set_option maxHeartbeats 4000000 in
set_option maxRecDepth 100000 in
theorem w_X12_nextOrder {X : CX} {T : List Dsc} {R : RM} {c e : Nat} {n1 n2 : Nat} {m : M2} {r : (Int32 × M2)} (hX : XR X 1 n1 n2) (hG : Geo T R c e) (hf : F_X12_nextOrder m = some r) (hk : FnZ X cX12_nextOrder RX12 6 T n1 n2 (r.1, mk r.2 R)) : Wp X cX12_nextOrder RX12 6 T (mk m R) n1 n2 0 [(0, .ref 56)] [] := by
  unfold F_X12_nextOrder at hf
  refine Wp.aload_n (pc := 0) 0 rfl rfl dX12_nextOrder_0 ?_
  refine Wp.getI2 (pc := 1) (hG.t 56 rfl) fk_RX12_399 rfl dX12_nextOrder_1 ?_
  refine Wp.iconst (pc := 4) (2 : Int32) (by decide) dX12_nextOrder_4 ?_
  refine Wp.isub (pc := 5) dX12_nextOrder_5 ?_
  obtain ⟨v1, h2, hf⟩ := bnd hf
  refine Wp.nI' h2 ?_
  refine Wp.istore_n (pc := 6) (lo' := [(0, .ref 56), (1, .int v1)]) [1, 0] rfl (by decide) rfl dX12_nextOrder_6 ?_
  obtain ⟨e3, h4, hf⟩ := bnd hf
  refine wl_X12_nextOrder_7 hX hG h4 ?_
  exact w_X12_nextOrder_34 hX hG hf hk
theorem c_X12_nextOrder {T : List Dsc} {R : RM} {c e : Nat} {m : M2} {r : (Int32 × M2)} (hG : Geo T R c e) (hf : F_X12_nextOrder m = some r) : Ct 1 yX12_nextOrder cX12_nextOrder 6 (some .boolean) T (mk m R) [.ref 56] (some (.int r.1)) (mk r.2 R) := Ct.ofZ (r := (r.1, mk r.2 R)) (by decide +kernel) (Nat.le_of_ble_eq_true rfl) (fun X hX hk => w_X12_nextOrder hX hG hf hk)
theorem dX12_seats_0 : decode cX12_seats 0 = .ok (.iconst 0, 1) := by decide +kernel
theorem dX12_seats_1 : decode cX12_seats 1 = .ok (.istore_n 3, 1) := by decide +kernel
theorem dX12_seats_2 : decode cX12_seats 2 = .ok (.iload_n 3, 1) := by decide +kernel
theorem dX12_seats_3 : decode cX12_seats 3 = .ok (.aload_n 0, 1) := by decide +kernel
theorem dX12_seats_4 : decode cX12_seats 4 = .ok (.invokevirtual 390, 3) := by decide +kernel
theorem dX12_seats_7 : decode cX12_seats 7 = .ok (.if_icmp .ge 16, 3) := by decide +kernel
theorem dX12_seats_10 : decode cX12_seats 10 = .ok (.aload_n 0, 1) := by decide +kernel
theorem dX12_seats_11 : decode cX12_seats 11 = .ok (.getfield 164, 3) := by decide +kernel
theorem dX12_seats_14 : decode cX12_seats 14 = .ok (.iload_n 3, 1) := by decide +kernel
theorem dX12_seats_15 : decode cX12_seats 15 = .ok (.iload_n 3, 1) := by decide +kernel
theorem dX12_seats_16 : decode cX12_seats 16 = .ok (.iastore, 1) := by decide +kernel
theorem dX12_seats_17 : decode cX12_seats 17 = .ok (.iinc 3 1, 3) := by decide +kernel
theorem dX12_seats_20 : decode cX12_seats 20 = .ok (.goto (-18), 3) := by decide +kernel
theorem dX12_seats_23 : decode cX12_seats 23 = .ok (.iconst 0, 1) := by decide +kernel
theorem dX12_seats_24 : decode cX12_seats 24 = .ok (.istore_n 3, 1) := by decide +kernel
theorem dX12_seats_25 : decode cX12_seats 25 = .ok (.iconst 1, 1) := by decide +kernel
theorem dX12_seats_26 : decode cX12_seats 26 = .ok (.istore 4, 2) := by decide +kernel
theorem dX12_seats_28 : decode cX12_seats 28 = .ok (.iconst 1, 1) := by decide +kernel
theorem dX12_seats_29 : decode cX12_seats 29 = .ok (.istore 5, 2) := by decide +kernel
theorem dX12_seats_31 : decode cX12_seats 31 = .ok (.iload 5, 2) := by decide +kernel
theorem dX12_seats_33 : decode cX12_seats 33 = .ok (.ifCond .eq 73, 3) := by decide +kernel
theorem dX12_seats_36 : decode cX12_seats 36 = .ok (.aload_n 0, 1) := by decide +kernel
theorem dX12_seats_37 : decode cX12_seats 37 = .ok (.iload_n 1, 1) := by decide +kernel
theorem dX12_seats_38 : decode cX12_seats 38 = .ok (.iload_n 2, 1) := by decide +kernel
theorem dX12_seats_39 : decode cX12_seats 39 = .ok (.invokevirtual 475, 3) := by decide +kernel
theorem dX12_seats_42 : decode cX12_seats 42 = .ok (.istore 6, 2) := by decide +kernel
theorem dX12_seats_44 : decode cX12_seats 44 = .ok (.iload 4, 2) := by decide +kernel
theorem dX12_seats_46 : decode cX12_seats 46 = .ok (.ifCond .ne 13, 3) := by decide +kernel
theorem dX12_seats_49 : decode cX12_seats 49 = .ok (.iload_n 1, 1) := by decide +kernel
theorem dX12_seats_50 : decode cX12_seats 50 = .ok (.iload 6, 2) := by decide +kernel
theorem dX12_seats_52 : decode cX12_seats 52 = .ok (.iload_n 3, 1) := by decide +kernel
theorem dX12_seats_53 : decode cX12_seats 53 = .ok (.invokestatic 478, 3) := by decide +kernel
theorem dX12_seats_56 : decode cX12_seats 56 = .ok (.ifCond .eq 38, 3) := by decide +kernel
theorem dX12_seats_59 : decode cX12_seats 59 = .ok (.iload 6, 2) := by decide +kernel
theorem dX12_seats_61 : decode cX12_seats 61 = .ok (.istore_n 3, 1) := by decide +kernel
theorem dX12_seats_62 : decode cX12_seats 62 = .ok (.iconst 0, 1) := by decide +kernel
theorem dX12_seats_63 : decode cX12_seats 63 = .ok (.istore 7, 2) := by decide +kernel
theorem dX12_seats_65 : decode cX12_seats 65 = .ok (.iload 7, 2) := by decide +kernel
theorem dX12_seats_67 : decode cX12_seats 67 = .ok (.aload_n 0, 1) := by decide +kernel
theorem dX12_seats_68 : decode cX12_seats 68 = .ok (.invokevirtual 390, 3) := by decide +kernel
theorem dX12_seats_71 : decode cX12_seats 71 = .ok (.if_icmp .ge 23, 3) := by decide +kernel
theorem dX12_seats_74 : decode cX12_seats 74 = .ok (.aload_n 0, 1) := by decide +kernel
theorem dX12_seats_75 : decode cX12_seats 75 = .ok (.getfield 167, 3) := by decide +kernel
theorem dX12_seats_78 : decode cX12_seats 78 = .ok (.iload 7, 2) := by decide +kernel
theorem dX12_seats_80 : decode cX12_seats 80 = .ok (.aload_n 0, 1) := by decide +kernel
theorem dX12_seats_81 : decode cX12_seats 81 = .ok (.getfield 164, 3) := by decide +kernel
theorem dX12_seats_84 : decode cX12_seats 84 = .ok (.iload 7, 2) := by decide +kernel
theorem dX12_seats_86 : decode cX12_seats 86 = .ok (.iaload, 1) := by decide +kernel
theorem dX12_seats_87 : decode cX12_seats 87 = .ok (.iastore, 1) := by decide +kernel
theorem dX12_seats_88 : decode cX12_seats 88 = .ok (.iinc 7 1, 3) := by decide +kernel
theorem dX12_seats_91 : decode cX12_seats 91 = .ok (.goto (-26), 3) := by decide +kernel
theorem dX12_seats_94 : decode cX12_seats 94 = .ok (.iconst 0, 1) := by decide +kernel
theorem dX12_seats_95 : decode cX12_seats 95 = .ok (.istore 4, 2) := by decide +kernel
theorem dX12_seats_97 : decode cX12_seats 97 = .ok (.aload_n 0, 1) := by decide +kernel
theorem dX12_seats_98 : decode cX12_seats 98 = .ok (.invokevirtual 481, 3) := by decide +kernel
theorem dX12_seats_101 : decode cX12_seats 101 = .ok (.istore 5, 2) := by decide +kernel
theorem dX12_seats_103 : decode cX12_seats 103 = .ok (.goto (-72), 3) := by decide +kernel
theorem dX12_seats_106 : decode cX12_seats 106 = .ok (.iload_n 3, 1) := by decide +kernel
theorem dX12_seats_107 : decode cX12_seats 107 = .ok (.ireturn, 1) := by decide +kernel
def k_X12_seats_2 (X : CX) (T : List Dsc) (R : RM) (n1 n2 : Nat) (x1 : Int32) (x2 : Int32) (r : ((Int32 × M2) ⊕ ((M2)))) : Prop := match r with
  | .inl s => Wp X cX12_seats RX12 8 T (mk s.2 R) n1 n2 2 [(0, .ref 56), (1, .int x1), (2, .int x2), (3, .int s.1)] []
  | .inr e => Wp X cX12_seats RX12 8 T (mk e R) n1 n2 23 [(0, .ref 56), (1, .int x1), (2, .int x2)] []
def k_X12_seats_65 (X : CX) (T : List Dsc) (R : RM) (n1 n2 : Nat) (x1 : Int32) (x2 : Int32) (x3 : Int32) (r : ((Int32 × M2) ⊕ ((M2)))) : Prop := match r with
  | .inl s => Wp X cX12_seats RX12 8 T (mk s.2 R) n1 n2 65 [(0, .ref 56), (1, .int x1), (2, .int x2), (3, .int x3), (7, .int s.1)] []
  | .inr e => Wp X cX12_seats RX12 8 T (mk e R) n1 n2 94 [(0, .ref 56), (1, .int x1), (2, .int x2), (3, .int x3)] []
def k_X12_seats_31 (X : CX) (T : List Dsc) (R : RM) (n1 n2 : Nat) (x1 : Int32) (x2 : Int32) (r : ((Int32 × Int32 × Int32 × M2) ⊕ ((Int32 × M2)))) : Prop := match r with
  | .inl s => Wp X cX12_seats RX12 8 T (mk s.2.2.2 R) n1 n2 31 [(0, .ref 56), (1, .int x1), (2, .int x2), (3, .int s.1), (4, .int s.2.1), (5, .int s.2.2.1)] []
  | .inr e => Wp X cX12_seats RX12 8 T (mk e.2 R) n1 n2 106 [(3, .int e.1)] []
set_option maxHeartbeats 4000000 in
set_option maxRecDepth 100000 in
theorem w_X12_seats_2 {X : CX} {T : List Dsc} {R : RM} {c e : Nat} {n1 n2 : Nat} {x1 : Int32} {x2 : Int32} {x3 : Int32} {m : M2} {r : ((Int32 × M2) ⊕ ((M2)))} (hX : XR X 11 n1 n2) (hG : Geo T R c e) (hf : f_X12_seats_2 x1 x2 x3 m = some r) (hk : k_X12_seats_2 X T R n1 n2 x1 x2 r) : Wp X cX12_seats RX12 8 T (mk m R) n1 n2 2 [(0, .ref 56), (1, .int x1), (2, .int x2), (3, .int x3)] [] := by
  unfold f_X12_seats_2 at hf
  refine Wp.iload_n (pc := 2) 3 rfl rfl dX12_seats_2 ?_
  refine Wp.aload_n (pc := 3) 0 rfl rfl dX12_seats_3 ?_
  obtain ⟨c1, h2, hf⟩ := bnd hf
  refine Wp.callVi (pc := 4) (st := [.int x3]) (as := []) (c_X12_menNow hG h2) ml_RX12_390 mv_X12_menNow mb_X12_menNow hX (Nat.le_of_ble_eq_true rfl) (by decide) rfl (hG.t 56 rfl) rfl (by simp [Value.category]) dX12_seats_4 rfl ?_
  refine Wp.icmp_ge (pc := 7) 23 dX12_seats_7 (by decide) (fun hc3 => ?_) (fun hc3 => ?_)
  · rw [if_pos hc3] at hf
    refine Wp.lo' (lo' := [(0, .ref 56), (1, .int x1), (2, .int x2)]) [0, 1, 2] rfl ?_
    cases hf
    exact hk
  · rw [if_neg hc3] at hf
    refine Wp.aload_n (pc := 10) 0 rfl rfl dX12_seats_10 ?_
    refine Wp.getR2 (pc := 11) (hG.r 56 75 rfl) (hG.t 56 rfl) fk_RX12_164 rfl dX12_seats_11 ?_
    refine Wp.iload_n (pc := 14) 3 rfl rfl dX12_seats_14 ?_
    refine Wp.iload_n (pc := 15) 3 rfl rfl dX12_seats_15 ?_
    obtain ⟨m4, h5, hf⟩ := bnd hf
    refine Wp.iast2 (pc := 16) h5 (hG.a 105 0 rfl) dX12_seats_16 ?_
    obtain ⟨v6, h7, hf⟩ := bnd hf
    refine Wp.iincN (pc := 17) (lo' := [(0, .ref 56), (1, .int x1), (2, .int x2), (3, .int v6)]) (1 : Int32) (by decide) h7 3 rfl [1, 2, 3, 0] rfl (by decide) dX12_seats_17 ?_
    refine Wp.goto (pc := 20) 2 dX12_seats_20 (by decide) ?_
    cases hf
    exact hk
theorem wl_X12_seats_2 {X : CX} {T : List Dsc} {R : RM} {c e : Nat} {n1 n2 : Nat} {x1 : Int32} {x2 : Int32} {x3 : Int32} {m : M2} {e1 : ((M2))} (hX : XR X 11 n1 n2) (hG : Geo T R c e) (h : loop (g_X12_seats_2 x1 x2) (x3, m) = some e1) (he : Wp X cX12_seats RX12 8 T (mk e1 R) n1 n2 23 [(0, .ref 56), (1, .int x1), (2, .int x2)] []) : Wp X cX12_seats RX12 8 T (mk m R) n1 n2 2 [(0, .ref 56), (1, .int x1), (2, .int x2), (3, .int x3)] [] :=
  loop_ok (K := k_X12_seats_2 X T R n1 n2 x1 x2) (fun s r hf hk => w_X12_seats_2 hX hG hf hk) h he
set_option maxHeartbeats 4000000 in
set_option maxRecDepth 100000 in
theorem w_X12_seats_65 {X : CX} {T : List Dsc} {R : RM} {c e : Nat} {n1 n2 : Nat} {x1 : Int32} {x2 : Int32} {x3 : Int32} {x7 : Int32} {m : M2} {r : ((Int32 × M2) ⊕ ((M2)))} (hX : XR X 11 n1 n2) (hG : Geo T R c e) (hf : f_X12_seats_65 x1 x2 x3 x7 m = some r) (hk : k_X12_seats_65 X T R n1 n2 x1 x2 x3 r) : Wp X cX12_seats RX12 8 T (mk m R) n1 n2 65 [(0, .ref 56), (1, .int x1), (2, .int x2), (3, .int x3), (7, .int x7)] [] := by
  unfold f_X12_seats_65 at hf
  refine Wp.iload (pc := 65) 4 rfl dX12_seats_65 ?_
  refine Wp.aload_n (pc := 67) 0 rfl rfl dX12_seats_67 ?_
  obtain ⟨c1, h2, hf⟩ := bnd hf
  refine Wp.callVi (pc := 68) (st := [.int x7]) (as := []) (c_X12_menNow hG h2) ml_RX12_390 mv_X12_menNow mb_X12_menNow hX (Nat.le_of_ble_eq_true rfl) (by decide) rfl (hG.t 56 rfl) rfl (by simp [Value.category]) dX12_seats_68 rfl ?_
  refine Wp.icmp_ge (pc := 71) 94 dX12_seats_71 (by decide) (fun hc3 => ?_) (fun hc3 => ?_)
  · rw [if_pos hc3] at hf
    refine Wp.lo' (lo' := [(0, .ref 56), (1, .int x1), (2, .int x2), (3, .int x3)]) [0, 1, 2, 3] rfl ?_
    cases hf
    exact hk
  · rw [if_neg hc3] at hf
    refine Wp.aload_n (pc := 74) 0 rfl rfl dX12_seats_74 ?_
    refine Wp.getR2 (pc := 75) (hG.r 56 76 rfl) (hG.t 56 rfl) fk_RX12_167 rfl dX12_seats_75 ?_
    refine Wp.iload (pc := 78) 4 rfl dX12_seats_78 ?_
    refine Wp.aload_n (pc := 80) 0 rfl rfl dX12_seats_80 ?_
    refine Wp.getR2 (pc := 81) (hG.r 56 75 rfl) (hG.t 56 rfl) fk_RX12_164 rfl dX12_seats_81 ?_
    refine Wp.iload (pc := 84) 4 rfl dX12_seats_84 ?_
    obtain ⟨v4, h5, hf⟩ := bnd hf
    refine Wp.iald2 (pc := 86) h5 (hG.a 105 0 rfl) dX12_seats_86 ?_
    obtain ⟨m6, h7, hf⟩ := bnd hf
    refine Wp.iast2 (pc := 87) h7 (hG.a 106 0 rfl) dX12_seats_87 ?_
    obtain ⟨v8, h9, hf⟩ := bnd hf
    refine Wp.iincN (pc := 88) (lo' := [(0, .ref 56), (1, .int x1), (2, .int x2), (3, .int x3), (7, .int v8)]) (1 : Int32) (by decide) h9 4 rfl [1, 2, 3, 4, 0] rfl (by decide) dX12_seats_88 ?_
    refine Wp.goto (pc := 91) 65 dX12_seats_91 (by decide) ?_
    cases hf
    exact hk
theorem wl_X12_seats_65 {X : CX} {T : List Dsc} {R : RM} {c e : Nat} {n1 n2 : Nat} {x1 : Int32} {x2 : Int32} {x3 : Int32} {x7 : Int32} {m : M2} {e1 : ((M2))} (hX : XR X 11 n1 n2) (hG : Geo T R c e) (h : loop (g_X12_seats_65 x1 x2 x3) (x7, m) = some e1) (he : Wp X cX12_seats RX12 8 T (mk e1 R) n1 n2 94 [(0, .ref 56), (1, .int x1), (2, .int x2), (3, .int x3)] []) : Wp X cX12_seats RX12 8 T (mk m R) n1 n2 65 [(0, .ref 56), (1, .int x1), (2, .int x2), (3, .int x3), (7, .int x7)] [] :=
  loop_ok (K := k_X12_seats_65 X T R n1 n2 x1 x2 x3) (fun s r hf hk => w_X12_seats_65 hX hG hf hk) h he
set_option maxHeartbeats 4000000 in
set_option maxRecDepth 100000 in
theorem w_X12_seats_94 {X : CX} {T : List Dsc} {R : RM} {c e : Nat} {n1 n2 : Nat} {x1 : Int32} {x2 : Int32} {x3 : Int32} {m : M2} {r : ((Int32 × Int32 × Int32 × M2) ⊕ ((Int32 × M2)))} (hX : XR X 11 n1 n2) (hG : Geo T R c e) (hf : f_X12_seats_94 x1 x2 x3 m = some r) (hk : k_X12_seats_31 X T R n1 n2 x1 x2 r) : Wp X cX12_seats RX12 8 T (mk m R) n1 n2 94 [(0, .ref 56), (1, .int x1), (2, .int x2), (3, .int x3)] [] := by
  unfold f_X12_seats_94 at hf
  refine Wp.iconst (pc := 94) (0 : Int32) (by decide) dX12_seats_94 ?_
  refine Wp.istore (pc := 95) (lo' := [(0, .ref 56), (1, .int x1), (2, .int x2), (3, .int x3), (4, .int (0 : Int32))]) [1, 2, 3, 4, 0] rfl (by decide) dX12_seats_95 ?_
  refine Wp.aload_n (pc := 97) 0 rfl rfl dX12_seats_97 ?_
  obtain ⟨c1, h2, hf⟩ := bnd hf
  refine Wp.callVi (pc := 98) (st := []) (as := []) (c_X12_nextOrder hG h2) ml_RX12_481 mv_X12_nextOrder mb_X12_nextOrder hX (Nat.le_of_ble_eq_true rfl) (by decide) rfl (hG.t 56 rfl) rfl (by simp) dX12_seats_98 rfl ?_
  refine Wp.istore (pc := 101) (lo' := [(0, .ref 56), (1, .int x1), (2, .int x2), (3, .int x3), (4, .int (0 : Int32)), (5, .int c1.1)]) [1, 2, 3, 4, 5, 0] rfl (by decide) dX12_seats_101 ?_
  refine Wp.goto (pc := 103) 31 dX12_seats_103 (by decide) ?_
  cases hf
  exact hk
set_option maxHeartbeats 4000000 in
set_option maxRecDepth 100000 in
theorem w_X12_seats_59 {X : CX} {T : List Dsc} {R : RM} {c e : Nat} {n1 n2 : Nat} {x1 : Int32} {x2 : Int32} {x6 : Int32} {m : M2} {r : ((Int32 × Int32 × Int32 × M2) ⊕ ((Int32 × M2)))} (hX : XR X 11 n1 n2) (hG : Geo T R c e) (hf : f_X12_seats_59 x1 x2 x6 m = some r) (hk : k_X12_seats_31 X T R n1 n2 x1 x2 r) : Wp X cX12_seats RX12 8 T (mk m R) n1 n2 59 [(0, .ref 56), (1, .int x1), (2, .int x2), (6, .int x6)] [] := by
  unfold f_X12_seats_59 at hf
  refine Wp.iload (pc := 59) 3 rfl dX12_seats_59 ?_
  refine Wp.istore_n (pc := 61) (lo' := [(0, .ref 56), (1, .int x1), (2, .int x2), (3, .int x6)]) [1, 2, 3, 0] rfl (by decide) rfl dX12_seats_61 ?_
  refine Wp.iconst (pc := 62) (0 : Int32) (by decide) dX12_seats_62 ?_
  refine Wp.istore (pc := 63) (lo' := [(0, .ref 56), (1, .int x1), (2, .int x2), (3, .int x6), (7, .int (0 : Int32))]) [1, 2, 3, 4, 0] rfl (by decide) dX12_seats_63 ?_
  obtain ⟨e1, h2, hf⟩ := bnd hf
  refine wl_X12_seats_65 hX hG h2 ?_
  exact w_X12_seats_94 hX hG hf hk
set_option maxHeartbeats 4000000 in
set_option maxRecDepth 100000 in
theorem w_X12_seats_31 {X : CX} {T : List Dsc} {R : RM} {c e : Nat} {n1 n2 : Nat} {x1 : Int32} {x2 : Int32} {x3 : Int32} {x4 : Int32} {x5 : Int32} {m : M2} {r : ((Int32 × Int32 × Int32 × M2) ⊕ ((Int32 × M2)))} (hX : XR X 11 n1 n2) (hG : Geo T R c e) (hf : f_X12_seats_31 x1 x2 x3 x4 x5 m = some r) (hk : k_X12_seats_31 X T R n1 n2 x1 x2 r) : Wp X cX12_seats RX12 8 T (mk m R) n1 n2 31 [(0, .ref 56), (1, .int x1), (2, .int x2), (3, .int x3), (4, .int x4), (5, .int x5)] [] := by
  unfold f_X12_seats_31 at hf
  refine Wp.iload (pc := 31) 5 rfl dX12_seats_31 ?_
  refine Wp.if_eq (pc := 33) 106 dX12_seats_33 (by decide) (fun hc1 => ?_) (fun hc1 => ?_)
  · rw [if_pos hc1] at hf
    refine Wp.lo' (lo' := [(3, .int x3)]) [3] rfl ?_
    cases hf
    exact hk
  · rw [if_neg hc1] at hf
    refine Wp.aload_n (pc := 36) 0 rfl rfl dX12_seats_36 ?_
    refine Wp.iload_n (pc := 37) 1 rfl rfl dX12_seats_37 ?_
    refine Wp.iload_n (pc := 38) 2 rfl rfl dX12_seats_38 ?_
    obtain ⟨c2, h3, hf⟩ := bnd hf
    refine Wp.callVi (pc := 39) (st := []) (as := [.int x1, .int x2]) (c_X12_comesTo hG h3) ml_RX12_475 mv_X12_comesTo mb_X12_comesTo hX (Nat.le_of_ble_eq_true rfl) (by decide) rfl (hG.t 56 rfl) rfl (by simp) dX12_seats_39 rfl ?_
    refine Wp.istore (pc := 42) (lo' := [(0, .ref 56), (1, .int x1), (2, .int x2), (3, .int x3), (4, .int x4), (6, .int c2.1)]) [1, 2, 3, 4, 5, 0] rfl (by decide) dX12_seats_42 ?_
    refine Wp.iload (pc := 44) 4 rfl dX12_seats_44 ?_
    refine Wp.if_ne (pc := 46) 59 dX12_seats_46 (by decide) (fun hc4 => ?_) (fun hc4 => ?_)
    · rw [if_neg hc4] at hf
      refine Wp.lo' (lo' := [(0, .ref 56), (1, .int x1), (2, .int x2), (6, .int c2.1)]) [0, 1, 2, 5] rfl ?_
      exact w_X12_seats_59 hX hG hf hk
    · rw [if_pos hc4] at hf
      refine Wp.iload_n (pc := 49) 1 rfl rfl dX12_seats_49 ?_
      refine Wp.iload (pc := 50) 5 rfl dX12_seats_50 ?_
      refine Wp.iload_n (pc := 52) 3 rfl rfl dX12_seats_52 ?_
      obtain ⟨c5, h6, hf⟩ := bnd hf
      refine Wp.callSi (pc := 53) (st := []) (as := [.int x1, .int c2.1, .int x3]) (c_X12_isBetter hG h6) ml_RX12_478 ms_X12_isBetter mb_X12_isBetter hX (Nat.le_of_ble_eq_true rfl) (by decide) rfl (by simp) dX12_seats_53 rfl ?_
      refine Wp.if_eq (pc := 56) 94 dX12_seats_56 (by decide) (fun hc7 => ?_) (fun hc7 => ?_)
      · rw [if_pos hc7] at hf
        refine Wp.lo' (lo' := [(0, .ref 56), (1, .int x1), (2, .int x2), (3, .int x3)]) [0, 1, 2, 3] rfl ?_
        exact w_X12_seats_94 hX hG hf hk
      · rw [if_neg hc7] at hf
        refine Wp.lo' (lo' := [(0, .ref 56), (1, .int x1), (2, .int x2), (6, .int c2.1)]) [0, 1, 2, 5] rfl ?_
        exact w_X12_seats_59 hX hG hf hk
theorem wl_X12_seats_31 {X : CX} {T : List Dsc} {R : RM} {c e : Nat} {n1 n2 : Nat} {x1 : Int32} {x2 : Int32} {x3 : Int32} {x4 : Int32} {x5 : Int32} {m : M2} {e1 : ((Int32 × M2))} (hX : XR X 11 n1 n2) (hG : Geo T R c e) (h : loop (g_X12_seats_31 x1 x2) (x3, x4, x5, m) = some e1) (he : Wp X cX12_seats RX12 8 T (mk e1.2 R) n1 n2 106 [(3, .int e1.1)] []) : Wp X cX12_seats RX12 8 T (mk m R) n1 n2 31 [(0, .ref 56), (1, .int x1), (2, .int x2), (3, .int x3), (4, .int x4), (5, .int x5)] [] :=
  loop_ok (K := k_X12_seats_31 X T R n1 n2 x1 x2) (fun s r hf hk => w_X12_seats_31 hX hG hf hk) h he
set_option maxHeartbeats 4000000 in
set_option maxRecDepth 100000 in
theorem w_X12_seats {X : CX} {T : List Dsc} {R : RM} {c e : Nat} {n1 n2 : Nat} {x1 : Int32} {x2 : Int32} {m : M2} {r : (Int32 × M2)} (hX : XR X 11 n1 n2) (hG : Geo T R c e) (hf : F_X12_seats x1 x2 m = some r) (hk : FnI X cX12_seats RX12 8 T n1 n2 (r.1, mk r.2 R)) : Wp X cX12_seats RX12 8 T (mk m R) n1 n2 0 [(0, .ref 56), (1, .int x1), (2, .int x2)] [] := by
  unfold F_X12_seats at hf
  refine Wp.iconst (pc := 0) (0 : Int32) (by decide) dX12_seats_0 ?_
  refine Wp.istore_n (pc := 1) (lo' := [(0, .ref 56), (1, .int x1), (2, .int x2), (3, .int (0 : Int32))]) [1, 2, 3, 0] rfl (by decide) rfl dX12_seats_1 ?_
  obtain ⟨e1, h2, hf⟩ := bnd hf
  refine wl_X12_seats_2 hX hG h2 ?_
  refine Wp.iconst (pc := 23) (0 : Int32) (by decide) dX12_seats_23 ?_
  refine Wp.istore_n (pc := 24) (lo' := [(0, .ref 56), (1, .int x1), (2, .int x2), (3, .int (0 : Int32))]) [1, 2, 3, 0] rfl (by decide) rfl dX12_seats_24 ?_
  refine Wp.iconst (pc := 25) (1 : Int32) (by decide) dX12_seats_25 ?_
  refine Wp.istore (pc := 26) (lo' := [(0, .ref 56), (1, .int x1), (2, .int x2), (3, .int (0 : Int32)), (4, .int (1 : Int32))]) [1, 2, 3, 4, 0] rfl (by decide) dX12_seats_26 ?_
  refine Wp.iconst (pc := 28) (1 : Int32) (by decide) dX12_seats_28 ?_
  refine Wp.istore (pc := 29) (lo' := [(0, .ref 56), (1, .int x1), (2, .int x2), (3, .int (0 : Int32)), (4, .int (1 : Int32)), (5, .int (1 : Int32))]) [1, 2, 3, 4, 5, 0] rfl (by decide) dX12_seats_29 ?_
  obtain ⟨e3, h4, hf⟩ := bnd hf
  refine wl_X12_seats_31 hX hG h4 ?_
  refine Wp.iload_n (pc := 106) 0 rfl rfl dX12_seats_106 ?_
  cases hf
  exact hk _ _ dX12_seats_107
theorem c_X12_seats {T : List Dsc} {R : RM} {c e : Nat} {x1 : Int32} {x2 : Int32} {m : M2} {r : (Int32 × M2)} (hG : Geo T R c e) (hf : F_X12_seats x1 x2 m = some r) : Ct 11 yX12_seats cX12_seats 8 (some .int) T (mk m R) [.ref 56, .int x1, .int x2] (some (.int r.1)) (mk r.2 R) := Ct.ofI (r := (r.1, mk r.2 R)) (by decide +kernel) (Nat.le_of_ble_eq_true rfl) (fun X hX hk => w_X12_seats hX hG hf hk)
theorem dX12_canSeat_0 : decode cX12_canSeat 0 = .ok (.iload_n 1, 1) := by decide +kernel
theorem dX12_canSeat_1 : decode cX12_canSeat 1 = .ok (.iconst 0, 1) := by decide +kernel
theorem dX12_canSeat_2 : decode cX12_canSeat 2 = .ok (.iconst 2, 1) := by decide +kernel
theorem dX12_canSeat_3 : decode cX12_canSeat 3 = .ok (.invokestatic 414, 3) := by decide +kernel
theorem dX12_canSeat_6 : decode cX12_canSeat 6 = .ok (.ifCond .eq 24, 3) := by decide +kernel
theorem dX12_canSeat_9 : decode cX12_canSeat 9 = .ok (.iload_n 2, 1) := by decide +kernel
theorem dX12_canSeat_10 : decode cX12_canSeat 10 = .ok (.iconst 1, 1) := by decide +kernel
theorem dX12_canSeat_11 : decode cX12_canSeat 11 = .ok (.bipush 30, 2) := by decide +kernel
theorem dX12_canSeat_13 : decode cX12_canSeat 13 = .ok (.invokestatic 414, 3) := by decide +kernel
theorem dX12_canSeat_16 : decode cX12_canSeat 16 = .ok (.ifCond .eq 14, 3) := by decide +kernel
theorem dX12_canSeat_19 : decode cX12_canSeat 19 = .ok (.aload_n 0, 1) := by decide +kernel
theorem dX12_canSeat_20 : decode cX12_canSeat 20 = .ok (.invokevirtual 390, 3) := by decide +kernel
theorem dX12_canSeat_23 : decode cX12_canSeat 23 = .ok (.ifCond .le 7, 3) := by decide +kernel
theorem dX12_canSeat_26 : decode cX12_canSeat 26 = .ok (.iconst 1, 1) := by decide +kernel
theorem dX12_canSeat_27 : decode cX12_canSeat 27 = .ok (.goto 4, 3) := by decide +kernel
theorem dX12_canSeat_30 : decode cX12_canSeat 30 = .ok (.iconst 0, 1) := by decide +kernel
theorem dX12_canSeat_31 : decode cX12_canSeat 31 = .ok (.ireturn, 1) := by decide +kernel
set_option maxHeartbeats 4000000 in
set_option maxRecDepth 100000 in
theorem w_X12_canSeat_31 {X : CX} {T : List Dsc} {R : RM} {c e : Nat} {n1 n2 : Nat} {s0 : Int32} {m : M2} {r : (Int32 × M2)} (hX : XR X 2 n1 n2) (hG : Geo T R c e) (hf : f_X12_canSeat_31 s0 m = some r) (hk : FnZ X cX12_canSeat RX12 3 T n1 n2 (r.1, mk r.2 R)) : Wp X cX12_canSeat RX12 3 T (mk m R) n1 n2 31 [] [.int s0] := by
  unfold f_X12_canSeat_31 at hf
  obtain ⟨v1, h2, hf⟩ := bnd hf
  refine Wp.zb' h2 (fun h2 => ?_)
  cases hf
  exact hk _ _ h2 dX12_canSeat_31
set_option maxHeartbeats 4000000 in
set_option maxRecDepth 100000 in
theorem w_X12_canSeat_30 {X : CX} {T : List Dsc} {R : RM} {c e : Nat} {n1 n2 : Nat} {m : M2} {r : (Int32 × M2)} (hX : XR X 2 n1 n2) (hG : Geo T R c e) (hf : f_X12_canSeat_30 m = some r) (hk : FnZ X cX12_canSeat RX12 3 T n1 n2 (r.1, mk r.2 R)) : Wp X cX12_canSeat RX12 3 T (mk m R) n1 n2 30 [] [] := by
  unfold f_X12_canSeat_30 at hf
  refine Wp.iconst (pc := 30) (0 : Int32) (by decide) dX12_canSeat_30 ?_
  exact w_X12_canSeat_31 hX hG hf hk
set_option maxHeartbeats 4000000 in
set_option maxRecDepth 100000 in
theorem w_X12_canSeat {X : CX} {T : List Dsc} {R : RM} {c e : Nat} {n1 n2 : Nat} {x1 : Int32} {x2 : Int32} {m : M2} {r : (Int32 × M2)} (hX : XR X 2 n1 n2) (hG : Geo T R c e) (hf : F_X12_canSeat x1 x2 m = some r) (hk : FnZ X cX12_canSeat RX12 3 T n1 n2 (r.1, mk r.2 R)) : Wp X cX12_canSeat RX12 3 T (mk m R) n1 n2 0 [(0, .ref 56), (1, .int x1), (2, .int x2)] [] := by
  unfold F_X12_canSeat at hf
  refine Wp.iload_n (pc := 0) 1 rfl rfl dX12_canSeat_0 ?_
  refine Wp.iconst (pc := 1) (0 : Int32) (by decide) dX12_canSeat_1 ?_
  refine Wp.iconst (pc := 2) (2 : Int32) (by decide) dX12_canSeat_2 ?_
  obtain ⟨c1, h2, hf⟩ := bnd hf
  refine Wp.callSi (pc := 3) (st := []) (as := [.int x1, .int (0 : Int32), .int (2 : Int32)]) (c_X12_in hG h2) ml_RX12_414 ms_X12_in mb_X12_in hX (Nat.le_of_ble_eq_true rfl) (by decide) rfl (by simp) dX12_canSeat_3 rfl ?_
  refine Wp.if_eq (pc := 6) 30 dX12_canSeat_6 (by decide) (fun hc3 => ?_) (fun hc3 => ?_)
  · rw [if_pos hc3] at hf
    refine Wp.lo' (lo' := []) [] rfl ?_
    exact w_X12_canSeat_30 hX hG hf hk
  · rw [if_neg hc3] at hf
    refine Wp.iload_n (pc := 9) 2 rfl rfl dX12_canSeat_9 ?_
    refine Wp.iconst (pc := 10) (1 : Int32) (by decide) dX12_canSeat_10 ?_
    refine Wp.bipush (pc := 11) (30 : Int32) (by decide) dX12_canSeat_11 ?_
    obtain ⟨c4, h5, hf⟩ := bnd hf
    refine Wp.callSi (pc := 13) (st := []) (as := [.int x2, .int (1 : Int32), .int (30 : Int32)]) (c_X12_in hG h5) ml_RX12_414 ms_X12_in mb_X12_in hX (Nat.le_of_ble_eq_true rfl) (by decide) rfl (by simp) dX12_canSeat_13 rfl ?_
    refine Wp.if_eq (pc := 16) 30 dX12_canSeat_16 (by decide) (fun hc6 => ?_) (fun hc6 => ?_)
    · rw [if_pos hc6] at hf
      refine Wp.lo' (lo' := []) [] rfl ?_
      exact w_X12_canSeat_30 hX hG hf hk
    · rw [if_neg hc6] at hf
      refine Wp.aload_n (pc := 19) 0 rfl rfl dX12_canSeat_19 ?_
      obtain ⟨c7, h8, hf⟩ := bnd hf
      refine Wp.callVi (pc := 20) (st := []) (as := []) (c_X12_menNow hG h8) ml_RX12_390 mv_X12_menNow mb_X12_menNow hX (Nat.le_of_ble_eq_true rfl) (by decide) rfl (hG.t 56 rfl) rfl (by simp) dX12_canSeat_20 rfl ?_
      refine Wp.if_le (pc := 23) 30 dX12_canSeat_23 (by decide) (fun hc9 => ?_) (fun hc9 => ?_)
      · rw [if_pos hc9] at hf
        refine Wp.lo' (lo' := []) [] rfl ?_
        exact w_X12_canSeat_30 hX hG hf hk
      · rw [if_neg hc9] at hf
        refine Wp.iconst (pc := 26) (1 : Int32) (by decide) dX12_canSeat_26 ?_
        refine Wp.goto (pc := 27) 31 dX12_canSeat_27 (by decide) ?_
        refine Wp.lo' (lo' := []) [] rfl ?_
        exact w_X12_canSeat_31 hX hG hf hk
theorem c_X12_canSeat {T : List Dsc} {R : RM} {c e : Nat} {x1 : Int32} {x2 : Int32} {m : M2} {r : (Int32 × M2)} (hG : Geo T R c e) (hf : F_X12_canSeat x1 x2 m = some r) : Ct 2 yX12_canSeat cX12_canSeat 3 (some .boolean) T (mk m R) [.ref 56, .int x1, .int x2] (some (.int r.1)) (mk r.2 R) := Ct.ofZ (r := (r.1, mk r.2 R)) (by decide +kernel) (Nat.le_of_ble_eq_true rfl) (fun X hX hk => w_X12_canSeat hX hG hf hk)
theorem dX12_seating_0 : decode cX12_seating 0 = .ok (.aload_n 0, 1) := by decide +kernel
theorem dX12_seating_1 : decode cX12_seating 1 = .ok (.iload_n 1, 1) := by decide +kernel
theorem dX12_seating_2 : decode cX12_seating 2 = .ok (.iload_n 2, 1) := by decide +kernel
theorem dX12_seating_3 : decode cX12_seating 3 = .ok (.invokevirtual 484, 3) := by decide +kernel
theorem dX12_seating_6 : decode cX12_seating 6 = .ok (.ifCond .ne 7, 3) := by decide +kernel
theorem dX12_seating_9 : decode cX12_seating 9 = .ok (.iconst (-1), 1) := by decide +kernel
theorem dX12_seating_10 : decode cX12_seating 10 = .ok (.goto 23, 3) := by decide +kernel
theorem dX12_seating_13 : decode cX12_seating 13 = .ok (.aload_n 0, 1) := by decide +kernel
theorem dX12_seating_14 : decode cX12_seating 14 = .ok (.invokevirtual 390, 3) := by decide +kernel
theorem dX12_seating_17 : decode cX12_seating 17 = .ok (.bipush 6, 2) := by decide +kernel
theorem dX12_seating_19 : decode cX12_seating 19 = .ok (.if_icmp .le 8, 3) := by decide +kernel
theorem dX12_seating_22 : decode cX12_seating 22 = .ok (.bipush (-2), 2) := by decide +kernel
theorem dX12_seating_24 : decode cX12_seating 24 = .ok (.goto 9, 3) := by decide +kernel
theorem dX12_seating_27 : decode cX12_seating 27 = .ok (.aload_n 0, 1) := by decide +kernel
theorem dX12_seating_28 : decode cX12_seating 28 = .ok (.iload_n 1, 1) := by decide +kernel
theorem dX12_seating_29 : decode cX12_seating 29 = .ok (.iload_n 2, 1) := by decide +kernel
theorem dX12_seating_30 : decode cX12_seating 30 = .ok (.invokevirtual 488, 3) := by decide +kernel
theorem dX12_seating_33 : decode cX12_seating 33 = .ok (.ireturn, 1) := by decide +kernel
set_option maxHeartbeats 4000000 in
set_option maxRecDepth 100000 in
theorem w_X12_seating_33 {X : CX} {T : List Dsc} {R : RM} {c e : Nat} {n1 n2 : Nat} {s0 : Int32} {m : M2} {r : (Int32 × M2)} (hX : XR X 12 n1 n2) (hG : Geo T R c e) (hf : f_X12_seating_33 s0 m = some r) (hk : FnI X cX12_seating RX12 3 T n1 n2 (r.1, mk r.2 R)) : Wp X cX12_seating RX12 3 T (mk m R) n1 n2 33 [] [.int s0] := by
  unfold f_X12_seating_33 at hf
  cases hf
  exact hk _ _ dX12_seating_33
set_option maxHeartbeats 4000000 in
set_option maxRecDepth 100000 in
theorem w_X12_seating {X : CX} {T : List Dsc} {R : RM} {c e : Nat} {n1 n2 : Nat} {x1 : Int32} {x2 : Int32} {m : M2} {r : (Int32 × M2)} (hX : XR X 12 n1 n2) (hG : Geo T R c e) (hf : F_X12_seating x1 x2 m = some r) (hk : FnI X cX12_seating RX12 3 T n1 n2 (r.1, mk r.2 R)) : Wp X cX12_seating RX12 3 T (mk m R) n1 n2 0 [(0, .ref 56), (1, .int x1), (2, .int x2)] [] := by
  unfold F_X12_seating at hf
  refine Wp.aload_n (pc := 0) 0 rfl rfl dX12_seating_0 ?_
  refine Wp.iload_n (pc := 1) 1 rfl rfl dX12_seating_1 ?_
  refine Wp.iload_n (pc := 2) 2 rfl rfl dX12_seating_2 ?_
  obtain ⟨c1, h2, hf⟩ := bnd hf
  refine Wp.callVi (pc := 3) (st := []) (as := [.int x1, .int x2]) (c_X12_canSeat hG h2) ml_RX12_484 mv_X12_canSeat mb_X12_canSeat hX (Nat.le_of_ble_eq_true rfl) (by decide) rfl (hG.t 56 rfl) rfl (by simp) dX12_seating_3 rfl ?_
  refine Wp.if_ne (pc := 6) 13 dX12_seating_6 (by decide) (fun hc3 => ?_) (fun hc3 => ?_)
  · rw [if_neg hc3] at hf
    refine Wp.aload_n (pc := 13) 0 rfl rfl dX12_seating_13 ?_
    obtain ⟨c4, h5, hf⟩ := bnd hf
    refine Wp.callVi (pc := 14) (st := []) (as := []) (c_X12_menNow hG h5) ml_RX12_390 mv_X12_menNow mb_X12_menNow hX (Nat.le_of_ble_eq_true rfl) (by decide) rfl (hG.t 56 rfl) rfl (by simp) dX12_seating_14 rfl ?_
    refine Wp.bipush (pc := 17) (6 : Int32) (by decide) dX12_seating_17 ?_
    refine Wp.icmp_le (pc := 19) 27 dX12_seating_19 (by decide) (fun hc6 => ?_) (fun hc6 => ?_)
    · rw [if_pos hc6] at hf
      refine Wp.aload_n (pc := 27) 0 rfl rfl dX12_seating_27 ?_
      refine Wp.iload_n (pc := 28) 1 rfl rfl dX12_seating_28 ?_
      refine Wp.iload_n (pc := 29) 2 rfl rfl dX12_seating_29 ?_
      obtain ⟨c7, h8, hf⟩ := bnd hf
      refine Wp.callVi (pc := 30) (st := []) (as := [.int x1, .int x2]) (c_X12_seats hG h8) ml_RX12_488 mv_X12_seats mb_X12_seats hX (Nat.le_of_ble_eq_true rfl) (by decide) rfl (hG.t 56 rfl) rfl (by simp) dX12_seating_30 rfl ?_
      refine Wp.lo' (lo' := []) [] rfl ?_
      exact w_X12_seating_33 hX hG hf hk
    · rw [if_neg hc6] at hf
      refine Wp.bipush (pc := 22) (-2 : Int32) (by decide) dX12_seating_22 ?_
      refine Wp.goto (pc := 24) 33 dX12_seating_24 (by decide) ?_
      refine Wp.lo' (lo' := []) [] rfl ?_
      exact w_X12_seating_33 hX hG hf hk
  · rw [if_pos hc3] at hf
    refine Wp.iconst (pc := 9) (-1 : Int32) (by decide) dX12_seating_9 ?_
    refine Wp.goto (pc := 10) 33 dX12_seating_10 (by decide) ?_
    refine Wp.lo' (lo' := []) [] rfl ?_
    exact w_X12_seating_33 hX hG hf hk
theorem c_X12_seating {T : List Dsc} {R : RM} {c e : Nat} {x1 : Int32} {x2 : Int32} {m : M2} {r : (Int32 × M2)} (hG : Geo T R c e) (hf : F_X12_seating x1 x2 m = some r) : Ct 12 yX12_seating cX12_seating 3 (some .int) T (mk m R) [.ref 56, .int x1, .int x2] (some (.int r.1)) (mk r.2 R) := Ct.ofI (r := (r.1, mk r.2 R)) (by decide +kernel) (Nat.le_of_ble_eq_true rfl) (fun X hX hk => w_X12_seating hX hG hf hk)
theorem dX12_seat_0 : decode cX12_seat 0 = .ok (.aload_n 0, 1) := by decide +kernel
theorem dX12_seat_1 : decode cX12_seat 1 = .ok (.iload_n 1, 1) := by decide +kernel
theorem dX12_seat_2 : decode cX12_seat 2 = .ok (.iload_n 2, 1) := by decide +kernel
theorem dX12_seat_3 : decode cX12_seat 3 = .ok (.invokevirtual 484, 3) := by decide +kernel
theorem dX12_seat_6 : decode cX12_seat 6 = .ok (.ifCond .eq 11, 3) := by decide +kernel
theorem dX12_seat_9 : decode cX12_seat 9 = .ok (.aload_n 0, 1) := by decide +kernel
theorem dX12_seat_10 : decode cX12_seat 10 = .ok (.iload_n 3, 1) := by decide +kernel
theorem dX12_seat_11 : decode cX12_seat 11 = .ok (.invokevirtual 441, 3) := by decide +kernel
theorem dX12_seat_14 : decode cX12_seat 14 = .ok (.ifCond .ne 5, 3) := by decide +kernel
theorem dX12_seat_17 : decode cX12_seat 17 = .ok (.iconst (-1), 1) := by decide +kernel
theorem dX12_seat_18 : decode cX12_seat 18 = .ok (.ireturn, 1) := by decide +kernel
theorem dX12_seat_19 : decode cX12_seat 19 = .ok (.aload_n 0, 1) := by decide +kernel
theorem dX12_seat_20 : decode cX12_seat 20 = .ok (.invokevirtual 390, 3) := by decide +kernel
theorem dX12_seat_23 : decode cX12_seat 23 = .ok (.bipush 6, 2) := by decide +kernel
theorem dX12_seat_25 : decode cX12_seat 25 = .ok (.if_icmp .le 6, 3) := by decide +kernel
theorem dX12_seat_28 : decode cX12_seat 28 = .ok (.bipush (-2), 2) := by decide +kernel
theorem dX12_seat_30 : decode cX12_seat 30 = .ok (.ireturn, 1) := by decide +kernel
theorem dX12_seat_31 : decode cX12_seat 31 = .ok (.aload_n 0, 1) := by decide +kernel
theorem dX12_seat_32 : decode cX12_seat 32 = .ok (.iload_n 1, 1) := by decide +kernel
theorem dX12_seat_33 : decode cX12_seat 33 = .ok (.iload_n 2, 1) := by decide +kernel
theorem dX12_seat_34 : decode cX12_seat 34 = .ok (.invokevirtual 488, 3) := by decide +kernel
theorem dX12_seat_37 : decode cX12_seat 37 = .ok (.ifCond .ge 7, 3) := by decide +kernel
theorem dX12_seat_40 : decode cX12_seat 40 = .ok (.iconst (-1), 1) := by decide +kernel
theorem dX12_seat_41 : decode cX12_seat 41 = .ok (.goto 9, 3) := by decide +kernel
theorem dX12_seat_44 : decode cX12_seat 44 = .ok (.aload_n 0, 1) := by decide +kernel
theorem dX12_seat_45 : decode cX12_seat 45 = .ok (.getfield 167, 3) := by decide +kernel
theorem dX12_seat_48 : decode cX12_seat 48 = .ok (.iload_n 3, 1) := by decide +kernel
theorem dX12_seat_49 : decode cX12_seat 49 = .ok (.iaload, 1) := by decide +kernel
theorem dX12_seat_50 : decode cX12_seat 50 = .ok (.ireturn, 1) := by decide +kernel
set_option maxHeartbeats 4000000 in
set_option maxRecDepth 100000 in
theorem w_X12_seat_17 {X : CX} {T : List Dsc} {R : RM} {c e : Nat} {n1 n2 : Nat} {m : M2} {r : (Int32 × M2)} (hX : XR X 12 n1 n2) (hG : Geo T R c e) (hf : f_X12_seat_17 m = some r) (hk : FnI X cX12_seat RX12 4 T n1 n2 (r.1, mk r.2 R)) : Wp X cX12_seat RX12 4 T (mk m R) n1 n2 17 [] [] := by
  unfold f_X12_seat_17 at hf
  refine Wp.iconst (pc := 17) (-1 : Int32) (by decide) dX12_seat_17 ?_
  cases hf
  exact hk _ _ dX12_seat_18
set_option maxHeartbeats 4000000 in
set_option maxRecDepth 100000 in
theorem w_X12_seat_50 {X : CX} {T : List Dsc} {R : RM} {c e : Nat} {n1 n2 : Nat} {s0 : Int32} {m : M2} {r : (Int32 × M2)} (hX : XR X 12 n1 n2) (hG : Geo T R c e) (hf : f_X12_seat_50 s0 m = some r) (hk : FnI X cX12_seat RX12 4 T n1 n2 (r.1, mk r.2 R)) : Wp X cX12_seat RX12 4 T (mk m R) n1 n2 50 [] [.int s0] := by
  unfold f_X12_seat_50 at hf
  cases hf
  exact hk _ _ dX12_seat_50
set_option maxHeartbeats 4000000 in
set_option maxRecDepth 100000 in
theorem w_X12_seat {X : CX} {T : List Dsc} {R : RM} {c e : Nat} {n1 n2 : Nat} {x1 : Int32} {x2 : Int32} {x3 : Int32} {m : M2} {r : (Int32 × M2)} (hX : XR X 12 n1 n2) (hG : Geo T R c e) (hf : F_X12_seat x1 x2 x3 m = some r) (hk : FnI X cX12_seat RX12 4 T n1 n2 (r.1, mk r.2 R)) : Wp X cX12_seat RX12 4 T (mk m R) n1 n2 0 [(0, .ref 56), (1, .int x1), (2, .int x2), (3, .int x3)] [] := by
  unfold F_X12_seat at hf
  refine Wp.aload_n (pc := 0) 0 rfl rfl dX12_seat_0 ?_
  refine Wp.iload_n (pc := 1) 1 rfl rfl dX12_seat_1 ?_
  refine Wp.iload_n (pc := 2) 2 rfl rfl dX12_seat_2 ?_
  obtain ⟨c1, h2, hf⟩ := bnd hf
  refine Wp.callVi (pc := 3) (st := []) (as := [.int x1, .int x2]) (c_X12_canSeat hG h2) ml_RX12_484 mv_X12_canSeat mb_X12_canSeat hX (Nat.le_of_ble_eq_true rfl) (by decide) rfl (hG.t 56 rfl) rfl (by simp) dX12_seat_3 rfl ?_
  refine Wp.if_eq (pc := 6) 17 dX12_seat_6 (by decide) (fun hc3 => ?_) (fun hc3 => ?_)
  · rw [if_pos hc3] at hf
    refine Wp.lo' (lo' := []) [] rfl ?_
    exact w_X12_seat_17 hX hG hf hk
  · rw [if_neg hc3] at hf
    refine Wp.aload_n (pc := 9) 0 rfl rfl dX12_seat_9 ?_
    refine Wp.iload_n (pc := 10) 3 rfl rfl dX12_seat_10 ?_
    obtain ⟨c4, h5, hf⟩ := bnd hf
    refine Wp.callVi (pc := 11) (st := []) (as := [.int x3]) (c_X12_isBench hG h5) ml_RX12_441 mv_X12_isBench mb_X12_isBench hX (Nat.le_of_ble_eq_true rfl) (by decide) rfl (hG.t 56 rfl) rfl (by simp) dX12_seat_11 rfl ?_
    refine Wp.if_ne (pc := 14) 19 dX12_seat_14 (by decide) (fun hc6 => ?_) (fun hc6 => ?_)
    · rw [if_neg hc6] at hf
      refine Wp.aload_n (pc := 19) 0 rfl rfl dX12_seat_19 ?_
      obtain ⟨c7, h8, hf⟩ := bnd hf
      refine Wp.callVi (pc := 20) (st := []) (as := []) (c_X12_menNow hG h8) ml_RX12_390 mv_X12_menNow mb_X12_menNow hX (Nat.le_of_ble_eq_true rfl) (by decide) rfl (hG.t 56 rfl) rfl (by simp) dX12_seat_20 rfl ?_
      refine Wp.bipush (pc := 23) (6 : Int32) (by decide) dX12_seat_23 ?_
      refine Wp.icmp_le (pc := 25) 31 dX12_seat_25 (by decide) (fun hc9 => ?_) (fun hc9 => ?_)
      · rw [if_pos hc9] at hf
        refine Wp.aload_n (pc := 31) 0 rfl rfl dX12_seat_31 ?_
        refine Wp.iload_n (pc := 32) 1 rfl rfl dX12_seat_32 ?_
        refine Wp.iload_n (pc := 33) 2 rfl rfl dX12_seat_33 ?_
        obtain ⟨c10, h11, hf⟩ := bnd hf
        refine Wp.callVi (pc := 34) (st := []) (as := [.int x1, .int x2]) (c_X12_seats hG h11) ml_RX12_488 mv_X12_seats mb_X12_seats hX (Nat.le_of_ble_eq_true rfl) (by decide) rfl (hG.t 56 rfl) rfl (by simp) dX12_seat_34 rfl ?_
        refine Wp.if_ge (pc := 37) 44 dX12_seat_37 (by decide) (fun hc12 => ?_) (fun hc12 => ?_)
        · rw [if_pos hc12] at hf
          refine Wp.aload_n (pc := 44) 0 rfl rfl dX12_seat_44 ?_
          refine Wp.getR2 (pc := 45) (hG.r 56 76 rfl) (hG.t 56 rfl) fk_RX12_167 rfl dX12_seat_45 ?_
          refine Wp.iload_n (pc := 48) 3 rfl rfl dX12_seat_48 ?_
          obtain ⟨v13, h14, hf⟩ := bnd hf
          refine Wp.iald2 (pc := 49) h14 (hG.a 106 0 rfl) dX12_seat_49 ?_
          refine Wp.lo' (lo' := []) [] rfl ?_
          exact w_X12_seat_50 hX hG hf hk
        · rw [if_neg hc12] at hf
          refine Wp.iconst (pc := 40) (-1 : Int32) (by decide) dX12_seat_40 ?_
          refine Wp.goto (pc := 41) 50 dX12_seat_41 (by decide) ?_
          refine Wp.lo' (lo' := []) [] rfl ?_
          exact w_X12_seat_50 hX hG hf hk
      · rw [if_neg hc9] at hf
        refine Wp.bipush (pc := 28) (-2 : Int32) (by decide) dX12_seat_28 ?_
        cases hf
        exact hk _ _ dX12_seat_30
    · rw [if_pos hc6] at hf
      refine Wp.lo' (lo' := []) [] rfl ?_
      exact w_X12_seat_17 hX hG hf hk
theorem c_X12_seat {T : List Dsc} {R : RM} {c e : Nat} {x1 : Int32} {x2 : Int32} {x3 : Int32} {m : M2} {r : (Int32 × M2)} (hG : Geo T R c e) (hf : F_X12_seat x1 x2 x3 m = some r) : Ct 12 yX12_seat cX12_seat 4 (some .int) T (mk m R) [.ref 56, .int x1, .int x2, .int x3] (some (.int r.1)) (mk r.2 R) := Ct.ofI (r := (r.1, mk r.2 R)) (by decide +kernel) (Nat.le_of_ble_eq_true rfl) (fun X hX hk => w_X12_seat hX hG hf hk)
