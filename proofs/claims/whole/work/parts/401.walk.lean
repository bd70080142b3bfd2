theorem dX7_clear_0 : decode cX7_clear 0 = .ok (.aload_n 0, 1) := by decide +kernel
theorem dX7_clear_1 : decode cX7_clear 1 = .ok (.bipush 24, 2) := by decide +kernel
theorem dX7_clear_3 : decode cX7_clear 3 = .ok (.putfield 9, 3) := by decide +kernel
theorem dX7_clear_6 : decode cX7_clear 6 = .ok (.aload_n 0, 1) := by decide +kernel
theorem dX7_clear_7 : decode cX7_clear 7 = .ok (.iconst 0, 1) := by decide +kernel
theorem dX7_clear_8 : decode cX7_clear 8 = .ok (.putfield 37, 3) := by decide +kernel
theorem dX7_clear_11 : decode cX7_clear 11 = .ok (.aload_n 0, 1) := by decide +kernel
theorem dX7_clear_12 : decode cX7_clear 12 = .ok (.iconst 0, 1) := by decide +kernel
theorem dX7_clear_13 : decode cX7_clear 13 = .ok (.putfield 40, 3) := by decide +kernel
theorem dX7_clear_16 : decode cX7_clear 16 = .ok (.aload_n 0, 1) := by decide +kernel
theorem dX7_clear_17 : decode cX7_clear 17 = .ok (.iconst 0, 1) := by decide +kernel
theorem dX7_clear_18 : decode cX7_clear 18 = .ok (.putfield 43, 3) := by decide +kernel
theorem dX7_clear_21 : decode cX7_clear 21 = .ok (.aload_n 0, 1) := by decide +kernel
theorem dX7_clear_22 : decode cX7_clear 22 = .ok (.lconst 0, 1) := by decide +kernel
theorem dX7_clear_23 : decode cX7_clear 23 = .ok (.putfield 46, 3) := by decide +kernel
theorem dX7_clear_26 : decode cX7_clear 26 = .ok (.aload_n 0, 1) := by decide +kernel
theorem dX7_clear_27 : decode cX7_clear 27 = .ok (.iconst (-1), 1) := by decide +kernel
theorem dX7_clear_28 : decode cX7_clear 28 = .ok (.putfield 25, 3) := by decide +kernel
theorem dX7_clear_31 : decode cX7_clear 31 = .ok (.aload_n 0, 1) := by decide +kernel
theorem dX7_clear_32 : decode cX7_clear 32 = .ok (.iconst 0, 1) := by decide +kernel
theorem dX7_clear_33 : decode cX7_clear 33 = .ok (.putfield 50, 3) := by decide +kernel
theorem dX7_clear_36 : decode cX7_clear 36 = .ok (.aload_n 0, 1) := by decide +kernel
theorem dX7_clear_37 : decode cX7_clear 37 = .ok (.iconst (-1), 1) := by decide +kernel
theorem dX7_clear_38 : decode cX7_clear 38 = .ok (.putfield 28, 3) := by decide +kernel
theorem dX7_clear_41 : decode cX7_clear 41 = .ok (.aload_n 0, 1) := by decide +kernel
theorem dX7_clear_42 : decode cX7_clear 42 = .ok (.iconst 0, 1) := by decide +kernel
theorem dX7_clear_43 : decode cX7_clear 43 = .ok (.putfield 53, 3) := by decide +kernel
theorem dX7_clear_46 : decode cX7_clear 46 = .ok (.return_, 1) := by decide +kernel
set_option maxHeartbeats 4000000 in
set_option maxRecDepth 100000 in
theorem w_X7_clear {X : CX} {T : List Dsc} {R : RM} {c e : Nat} {n1 n2 : Nat} {x0 : Nat} {m : M2} {r : M2} (hX : XR X 1 n1 n2) (hG : Geo T R c e) (hx0 : tx x0) (hf : F_X7_clear x0 m = some r) (hk : FnV X cX7_clear RX7 1 T n1 n2 (mk r R)) : Wp X cX7_clear RX7 1 T (mk m R) n1 n2 0 [(0, .ref x0)] [] := by
  unfold F_X7_clear at hf
  refine Wp.aload_n (pc := 0) 0 rfl rfl dX7_clear_0 ?_
  refine Wp.bipush (pc := 1) (24 : Int32) (by decide) dX7_clear_1 ?_
  obtain ⟨m1, h2, hf⟩ := bnd hf
  refine Wp.ptI2 (pc := 3) h2 (hG.tt hx0) fk_RX7_9 ff_RX7_6_0 rfl dX7_clear_3 ?_
  refine Wp.aload_n (pc := 6) 0 rfl rfl dX7_clear_6 ?_
  refine Wp.iconst (pc := 7) (0 : Int32) (by decide) dX7_clear_7 ?_
  obtain ⟨m3, h4, hf⟩ := bnd hf
  refine Wp.ptI2 (pc := 8) h4 (hG.tt hx0) fk_RX7_37 ff_RX7_6_1 rfl dX7_clear_8 ?_
  refine Wp.aload_n (pc := 11) 0 rfl rfl dX7_clear_11 ?_
  refine Wp.iconst (pc := 12) (0 : Int32) (by decide) dX7_clear_12 ?_
  obtain ⟨m5, h6, hf⟩ := bnd hf
  refine Wp.ptI2 (pc := 13) h6 (hG.tt hx0) fk_RX7_40 ff_RX7_6_4 rfl dX7_clear_13 ?_
  refine Wp.aload_n (pc := 16) 0 rfl rfl dX7_clear_16 ?_
  refine Wp.iconst (pc := 17) (0 : Int32) (by decide) dX7_clear_17 ?_
  obtain ⟨m7, h8, hf⟩ := bnd hf
  refine Wp.ptI2 (pc := 18) h8 (hG.tt hx0) fk_RX7_43 ff_RX7_6_5 rfl dX7_clear_18 ?_
  refine Wp.aload_n (pc := 21) 0 rfl rfl dX7_clear_21 ?_
  refine Wp.lconst (pc := 22) (0 : Int64) (by decide) dX7_clear_22 ?_
  obtain ⟨m9, h10, hf⟩ := bnd hf
  refine Wp.ptJ2 (pc := 23) h10 (hG.tt hx0) fk_RX7_46 ff_RX7_6_7 rfl dX7_clear_23 ?_
  refine Wp.aload_n (pc := 26) 0 rfl rfl dX7_clear_26 ?_
  refine Wp.iconst (pc := 27) (-1 : Int32) (by decide) dX7_clear_27 ?_
  obtain ⟨m11, h12, hf⟩ := bnd hf
  refine Wp.ptI2 (pc := 28) h12 (hG.tt hx0) fk_RX7_25 ff_RX7_6_8 rfl dX7_clear_28 ?_
  refine Wp.aload_n (pc := 31) 0 rfl rfl dX7_clear_31 ?_
  refine Wp.iconst (pc := 32) (0 : Int32) (by decide) dX7_clear_32 ?_
  obtain ⟨m13, h14, hf⟩ := bnd hf
  refine Wp.ptI2 (pc := 33) h14 (hG.tt hx0) fk_RX7_50 ff_RX7_6_9 rfl dX7_clear_33 ?_
  refine Wp.aload_n (pc := 36) 0 rfl rfl dX7_clear_36 ?_
  refine Wp.iconst (pc := 37) (-1 : Int32) (by decide) dX7_clear_37 ?_
  obtain ⟨m15, h16, hf⟩ := bnd hf
  refine Wp.ptI2 (pc := 38) h16 (hG.tt hx0) fk_RX7_28 ff_RX7_6_10 rfl dX7_clear_38 ?_
  refine Wp.aload_n (pc := 41) 0 rfl rfl dX7_clear_41 ?_
  refine Wp.iconst (pc := 42) (0 : Int32) (by decide) dX7_clear_42 ?_
  obtain ⟨m17, h18, hf⟩ := bnd hf
  refine Wp.ptI2 (pc := 43) h18 (hG.tt hx0) fk_RX7_53 ff_RX7_6_11 rfl dX7_clear_43 ?_
  cases hf
  exact hk _ _ dX7_clear_46
theorem c_X7_clear {T : List Dsc} {R : RM} {c e : Nat} {x0 : Nat} {m : M2} {r : M2} (hG : Geo T R c e) (hx0 : tx x0) (hf : F_X7_clear x0 m = some r) : Ct 1 yX7_clear cX7_clear 1 none T (mk m R) [.ref x0] none (mk r R) := Ct.ofV (r := mk r R) (by decide +kernel) (Nat.le_of_ble_eq_true rfl) (fun X hX hk => w_X7_clear hX hG hx0 hf hk)
theorem dX8_byteAt_0 : decode cX8_byteAt 0 = .ok (.iload_n 1, 1) := by decide +kernel
theorem dX8_byteAt_1 : decode cX8_byteAt 1 = .ok (.aload_n 0, 1) := by decide +kernel
theorem dX8_byteAt_2 : decode cX8_byteAt 2 = .ok (.getfield 53, 3) := by decide +kernel
theorem dX8_byteAt_5 : decode cX8_byteAt 5 = .ok (.if_icmp .ge 16, 3) := by decide +kernel
theorem dX8_byteAt_8 : decode cX8_byteAt 8 = .ok (.aload_n 0, 1) := by decide +kernel
theorem dX8_byteAt_9 : decode cX8_byteAt 9 = .ok (.getfield 27, 3) := by decide +kernel
theorem dX8_byteAt_12 : decode cX8_byteAt 12 = .ok (.iload_n 1, 1) := by decide +kernel
theorem dX8_byteAt_13 : decode cX8_byteAt 13 = .ok (.baload, 1) := by decide +kernel
theorem dX8_byteAt_14 : decode cX8_byteAt 14 = .ok (.sipush 255, 3) := by decide +kernel
theorem dX8_byteAt_17 : decode cX8_byteAt 17 = .ok (.iand, 1) := by decide +kernel
theorem dX8_byteAt_18 : decode cX8_byteAt 18 = .ok (.goto 4, 3) := by decide +kernel
theorem dX8_byteAt_21 : decode cX8_byteAt 21 = .ok (.iconst (-1), 1) := by decide +kernel
theorem dX8_byteAt_22 : decode cX8_byteAt 22 = .ok (.ireturn, 1) := by decide +kernel
set_option maxHeartbeats 4000000 in
set_option maxRecDepth 100000 in
theorem w_X8_byteAt_22 {X : CX} {T : List Dsc} {R : RM} {c e : Nat} {n1 n2 : Nat} {s0 : Int32} {m : M2} {r : (Int32 × M2)} (hX : XR X 1 n1 n2) (hG : Geo T R c e) (hf : f_X8_byteAt_22 s0 m = some r) (hk : FnI X cX8_byteAt RX8 2 T n1 n2 (r.1, mk r.2 R)) : Wp X cX8_byteAt RX8 2 T (mk m R) n1 n2 22 [] [.int s0] := by
  unfold f_X8_byteAt_22 at hf
  cases hf
  exact hk _ _ dX8_byteAt_22
set_option maxHeartbeats 4000000 in
set_option maxRecDepth 100000 in
theorem w_X8_byteAt {X : CX} {T : List Dsc} {R : RM} {c e : Nat} {n1 n2 : Nat} {x1 : Int32} {m : M2} {r : (Int32 × M2)} (hX : XR X 1 n1 n2) (hG : Geo T R c e) (hf : F_X8_byteAt x1 m = some r) (hk : FnI X cX8_byteAt RX8 2 T n1 n2 (r.1, mk r.2 R)) : Wp X cX8_byteAt RX8 2 T (mk m R) n1 n2 0 [(0, .ref 18), (1, .int x1)] [] := by
  unfold F_X8_byteAt at hf
  refine Wp.iload_n (pc := 0) 1 rfl rfl dX8_byteAt_0 ?_
  refine Wp.aload_n (pc := 1) 0 rfl rfl dX8_byteAt_1 ?_
  refine Wp.getI2 (pc := 2) (hG.t 18 rfl) fk_RX8_53 rfl dX8_byteAt_2 ?_
  refine Wp.icmp_ge (pc := 5) 21 dX8_byteAt_5 (by decide) (fun hc1 => ?_) (fun hc1 => ?_)
  · rw [if_pos hc1] at hf
    refine Wp.iconst (pc := 21) (-1 : Int32) (by decide) dX8_byteAt_21 ?_
    refine Wp.lo' (lo' := []) [] rfl ?_
    exact w_X8_byteAt_22 hX hG hf hk
  · rw [if_neg hc1] at hf
    refine Wp.aload_n (pc := 8) 0 rfl rfl dX8_byteAt_8 ?_
    refine Wp.getR2 (pc := 9) (hG.r 18 4 rfl) (hG.t 18 rfl) fk_RX8_27 rfl dX8_byteAt_9 ?_
    refine Wp.iload_n (pc := 12) 1 rfl rfl dX8_byteAt_12 ?_
    obtain ⟨v2, h3, hf⟩ := bnd hf
    refine Wp.bald2 (pc := 13) h3 (hG.a 1 2 rfl) dX8_byteAt_13 ?_
    refine Wp.sipush (pc := 14) (255 : Int32) (by decide) dX8_byteAt_14 ?_
    refine Wp.iand (pc := 17) dX8_byteAt_17 ?_
    refine Wp.goto (pc := 18) 22 dX8_byteAt_18 (by decide) ?_
    refine Wp.lo' (lo' := []) [] rfl ?_
    exact w_X8_byteAt_22 hX hG hf hk
theorem c_X8_byteAt {T : List Dsc} {R : RM} {c e : Nat} {x1 : Int32} {m : M2} {r : (Int32 × M2)} (hG : Geo T R c e) (hf : F_X8_byteAt x1 m = some r) : Ct 1 yX8_byteAt cX8_byteAt 2 (some .int) T (mk m R) [.ref 18, .int x1] (some (.int r.1)) (mk r.2 R) := Ct.ofI (r := (r.1, mk r.2 R)) (by decide +kernel) (Nat.le_of_ble_eq_true rfl) (fun X hX hk => w_X8_byteAt hX hG hf hk)
theorem dX8_isBlank_0 : decode cX8_isBlank 0 = .ok (.iload_n 0, 1) := by decide +kernel
theorem dX8_isBlank_1 : decode cX8_isBlank 1 = .ok (.bipush 9, 2) := by decide +kernel
theorem dX8_isBlank_3 : decode cX8_isBlank 3 = .ok (.if_icmp .eq 21, 3) := by decide +kernel
theorem dX8_isBlank_6 : decode cX8_isBlank 6 = .ok (.iload_n 0, 1) := by decide +kernel
theorem dX8_isBlank_7 : decode cX8_isBlank 7 = .ok (.bipush 10, 2) := by decide +kernel
theorem dX8_isBlank_9 : decode cX8_isBlank 9 = .ok (.if_icmp .eq 15, 3) := by decide +kernel
theorem dX8_isBlank_12 : decode cX8_isBlank 12 = .ok (.iload_n 0, 1) := by decide +kernel
theorem dX8_isBlank_13 : decode cX8_isBlank 13 = .ok (.bipush 13, 2) := by decide +kernel
theorem dX8_isBlank_15 : decode cX8_isBlank 15 = .ok (.if_icmp .eq 9, 3) := by decide +kernel
theorem dX8_isBlank_18 : decode cX8_isBlank 18 = .ok (.iload_n 0, 1) := by decide +kernel
theorem dX8_isBlank_19 : decode cX8_isBlank 19 = .ok (.bipush 32, 2) := by decide +kernel
theorem dX8_isBlank_21 : decode cX8_isBlank 21 = .ok (.if_icmp .ne 7, 3) := by decide +kernel
theorem dX8_isBlank_24 : decode cX8_isBlank 24 = .ok (.iconst 1, 1) := by decide +kernel
theorem dX8_isBlank_25 : decode cX8_isBlank 25 = .ok (.goto 4, 3) := by decide +kernel
theorem dX8_isBlank_28 : decode cX8_isBlank 28 = .ok (.iconst 0, 1) := by decide +kernel
theorem dX8_isBlank_29 : decode cX8_isBlank 29 = .ok (.ireturn, 1) := by decide +kernel
set_option maxHeartbeats 4000000 in
set_option maxRecDepth 100000 in
theorem w_X8_isBlank_29 {X : CX} {T : List Dsc} {R : RM} {c e : Nat} {n1 n2 : Nat} {s0 : Int32} {m : M2} {r : (Int32 × M2)} (hX : XR X 1 n1 n2) (hG : Geo T R c e) (hf : f_X8_isBlank_29 s0 m = some r) (hk : FnZ X cX8_isBlank RX8 1 T n1 n2 (r.1, mk r.2 R)) : Wp X cX8_isBlank RX8 1 T (mk m R) n1 n2 29 [] [.int s0] := by
  unfold f_X8_isBlank_29 at hf
  obtain ⟨v1, h2, hf⟩ := bnd hf
  refine Wp.zb' h2 (fun h2 => ?_)
  cases hf
  exact hk _ _ h2 dX8_isBlank_29
set_option maxHeartbeats 4000000 in
set_option maxRecDepth 100000 in
theorem w_X8_isBlank_24 {X : CX} {T : List Dsc} {R : RM} {c e : Nat} {n1 n2 : Nat} {m : M2} {r : (Int32 × M2)} (hX : XR X 1 n1 n2) (hG : Geo T R c e) (hf : f_X8_isBlank_24 m = some r) (hk : FnZ X cX8_isBlank RX8 1 T n1 n2 (r.1, mk r.2 R)) : Wp X cX8_isBlank RX8 1 T (mk m R) n1 n2 24 [] [] := by
  unfold f_X8_isBlank_24 at hf
  refine Wp.iconst (pc := 24) (1 : Int32) (by decide) dX8_isBlank_24 ?_
  refine Wp.goto (pc := 25) 29 dX8_isBlank_25 (by decide) ?_
  exact w_X8_isBlank_29 hX hG hf hk
set_option maxHeartbeats 4000000 in
set_option maxRecDepth 100000 in
theorem w_X8_isBlank {X : CX} {T : List Dsc} {R : RM} {c e : Nat} {n1 n2 : Nat} {x0 : Int32} {m : M2} {r : (Int32 × M2)} (hX : XR X 1 n1 n2) (hG : Geo T R c e) (hf : F_X8_isBlank x0 m = some r) (hk : FnZ X cX8_isBlank RX8 1 T n1 n2 (r.1, mk r.2 R)) : Wp X cX8_isBlank RX8 1 T (mk m R) n1 n2 0 [(0, .int x0)] [] := by
  unfold F_X8_isBlank at hf
  refine Wp.iload_n (pc := 0) 0 rfl rfl dX8_isBlank_0 ?_
  refine Wp.bipush (pc := 1) (9 : Int32) (by decide) dX8_isBlank_1 ?_
  refine Wp.icmp_eq (pc := 3) 24 dX8_isBlank_3 (by decide) (fun hc1 => ?_) (fun hc1 => ?_)
  · rw [if_pos hc1] at hf
    refine Wp.lo' (lo' := []) [] rfl ?_
    exact w_X8_isBlank_24 hX hG hf hk
  · rw [if_neg hc1] at hf
    refine Wp.iload_n (pc := 6) 0 rfl rfl dX8_isBlank_6 ?_
    refine Wp.bipush (pc := 7) (10 : Int32) (by decide) dX8_isBlank_7 ?_
    refine Wp.icmp_eq (pc := 9) 24 dX8_isBlank_9 (by decide) (fun hc2 => ?_) (fun hc2 => ?_)
    · rw [if_pos hc2] at hf
      refine Wp.lo' (lo' := []) [] rfl ?_
      exact w_X8_isBlank_24 hX hG hf hk
    · rw [if_neg hc2] at hf
      refine Wp.iload_n (pc := 12) 0 rfl rfl dX8_isBlank_12 ?_
      refine Wp.bipush (pc := 13) (13 : Int32) (by decide) dX8_isBlank_13 ?_
      refine Wp.icmp_eq (pc := 15) 24 dX8_isBlank_15 (by decide) (fun hc3 => ?_) (fun hc3 => ?_)
      · rw [if_pos hc3] at hf
        refine Wp.lo' (lo' := []) [] rfl ?_
        exact w_X8_isBlank_24 hX hG hf hk
      · rw [if_neg hc3] at hf
        refine Wp.iload_n (pc := 18) 0 rfl rfl dX8_isBlank_18 ?_
        refine Wp.bipush (pc := 19) (32 : Int32) (by decide) dX8_isBlank_19 ?_
        refine Wp.icmp_ne (pc := 21) 28 dX8_isBlank_21 (by decide) (fun hc4 => ?_) (fun hc4 => ?_)
        · rw [if_neg hc4] at hf
          refine Wp.iconst (pc := 28) (0 : Int32) (by decide) dX8_isBlank_28 ?_
          refine Wp.lo' (lo' := []) [] rfl ?_
          exact w_X8_isBlank_29 hX hG hf hk
        · rw [if_pos hc4] at hf
          refine Wp.lo' (lo' := []) [] rfl ?_
          exact w_X8_isBlank_24 hX hG hf hk
theorem c_X8_isBlank {T : List Dsc} {R : RM} {c e : Nat} {x0 : Int32} {m : M2} {r : (Int32 × M2)} (hG : Geo T R c e) (hf : F_X8_isBlank x0 m = some r) : Ct 1 yX8_isBlank cX8_isBlank 1 (some .boolean) T (mk m R) [.int x0] (some (.int r.1)) (mk r.2 R) := Ct.ofZ (r := (r.1, mk r.2 R)) (by decide +kernel) (Nat.le_of_ble_eq_true rfl) (fun X hX hk => w_X8_isBlank hX hG hf hk)
theorem dX8_skipBlanks_0 : decode cX8_skipBlanks 0 = .ok (.aload_n 0, 1) := by decide +kernel
theorem dX8_skipBlanks_1 : decode cX8_skipBlanks 1 = .ok (.getfield 56, 3) := by decide +kernel
theorem dX8_skipBlanks_4 : decode cX8_skipBlanks 4 = .ok (.aload_n 0, 1) := by decide +kernel
theorem dX8_skipBlanks_5 : decode cX8_skipBlanks 5 = .ok (.getfield 53, 3) := by decide +kernel
theorem dX8_skipBlanks_8 : decode cX8_skipBlanks 8 = .ok (.if_icmp .ge 30, 3) := by decide +kernel
theorem dX8_skipBlanks_11 : decode cX8_skipBlanks 11 = .ok (.aload_n 0, 1) := by decide +kernel
theorem dX8_skipBlanks_12 : decode cX8_skipBlanks 12 = .ok (.aload_n 0, 1) := by decide +kernel
theorem dX8_skipBlanks_13 : decode cX8_skipBlanks 13 = .ok (.getfield 56, 3) := by decide +kernel
theorem dX8_skipBlanks_16 : decode cX8_skipBlanks 16 = .ok (.invokevirtual 69, 3) := by decide +kernel
theorem dX8_skipBlanks_19 : decode cX8_skipBlanks 19 = .ok (.invokestatic 73, 3) := by decide +kernel
theorem dX8_skipBlanks_22 : decode cX8_skipBlanks 22 = .ok (.ifCond .eq 16, 3) := by decide +kernel
theorem dX8_skipBlanks_25 : decode cX8_skipBlanks 25 = .ok (.aload_n 0, 1) := by decide +kernel
theorem dX8_skipBlanks_26 : decode cX8_skipBlanks 26 = .ok (.dup, 1) := by decide +kernel
theorem dX8_skipBlanks_27 : decode cX8_skipBlanks 27 = .ok (.getfield 56, 3) := by decide +kernel
theorem dX8_skipBlanks_30 : decode cX8_skipBlanks 30 = .ok (.iconst 1, 1) := by decide +kernel
theorem dX8_skipBlanks_31 : decode cX8_skipBlanks 31 = .ok (.iadd, 1) := by decide +kernel
theorem dX8_skipBlanks_32 : decode cX8_skipBlanks 32 = .ok (.putfield 56, 3) := by decide +kernel
theorem dX8_skipBlanks_35 : decode cX8_skipBlanks 35 = .ok (.goto (-35), 3) := by decide +kernel
theorem dX8_skipBlanks_38 : decode cX8_skipBlanks 38 = .ok (.return_, 1) := by decide +kernel
def k_X8_skipBlanks_0 (X : CX) (T : List Dsc) (R : RM) (n1 n2 : Nat) (r : ((M2) ⊕ ((M2)))) : Prop := match r with
  | .inl s => Wp X cX8_skipBlanks RX8 1 T (mk s R) n1 n2 0 [(0, .ref 18)] []
  | .inr e => Wp X cX8_skipBlanks RX8 1 T (mk e R) n1 n2 38 [] []
set_option maxHeartbeats 4000000 in
set_option maxRecDepth 100000 in
theorem w_X8_skipBlanks_0 {X : CX} {T : List Dsc} {R : RM} {c e : Nat} {n1 n2 : Nat} {m : M2} {r : ((M2) ⊕ ((M2)))} (hX : XR X 2 n1 n2) (hG : Geo T R c e) (hf : f_X8_skipBlanks_0 m = some r) (hk : k_X8_skipBlanks_0 X T R n1 n2 r) : Wp X cX8_skipBlanks RX8 1 T (mk m R) n1 n2 0 [(0, .ref 18)] [] := by
  unfold f_X8_skipBlanks_0 at hf
  refine Wp.aload_n (pc := 0) 0 rfl rfl dX8_skipBlanks_0 ?_
  refine Wp.getI2 (pc := 1) (hG.t 18 rfl) fk_RX8_56 rfl dX8_skipBlanks_1 ?_
  refine Wp.aload_n (pc := 4) 0 rfl rfl dX8_skipBlanks_4 ?_
  refine Wp.getI2 (pc := 5) (hG.t 18 rfl) fk_RX8_53 rfl dX8_skipBlanks_5 ?_
  refine Wp.icmp_ge (pc := 8) 38 dX8_skipBlanks_8 (by decide) (fun hc1 => ?_) (fun hc1 => ?_)
  · rw [if_pos hc1] at hf
    refine Wp.lo' (lo' := []) [] rfl ?_
    cases hf
    exact hk
  · rw [if_neg hc1] at hf
    refine Wp.aload_n (pc := 11) 0 rfl rfl dX8_skipBlanks_11 ?_
    refine Wp.aload_n (pc := 12) 0 rfl rfl dX8_skipBlanks_12 ?_
    refine Wp.getI2 (pc := 13) (hG.t 18 rfl) fk_RX8_56 rfl dX8_skipBlanks_13 ?_
    obtain ⟨c2, h3, hf⟩ := bnd hf
    refine Wp.callVi (pc := 16) (st := []) (as := [.int (hI m 18 6)]) (c_X8_byteAt hG h3) ml_RX8_69 mv_X8_byteAt mb_X8_byteAt hX (Nat.le_of_ble_eq_true rfl) (by decide) rfl (hG.t 18 rfl) rfl (by simp) dX8_skipBlanks_16 rfl ?_
    obtain ⟨c4, h5, hf⟩ := bnd hf
    refine Wp.callSi (pc := 19) (st := []) (as := [.int c2.1]) (c_X8_isBlank hG h5) ml_RX8_73 ms_X8_isBlank mb_X8_isBlank hX (Nat.le_of_ble_eq_true rfl) (by decide) rfl (by simp) dX8_skipBlanks_19 rfl ?_
    refine Wp.if_eq (pc := 22) 38 dX8_skipBlanks_22 (by decide) (fun hc6 => ?_) (fun hc6 => ?_)
    · rw [if_pos hc6] at hf
      refine Wp.lo' (lo' := []) [] rfl ?_
      cases hf
      exact hk
    · rw [if_neg hc6] at hf
      refine Wp.aload_n (pc := 25) 0 rfl rfl dX8_skipBlanks_25 ?_
      refine Wp.dup (pc := 26) rfl dX8_skipBlanks_26 ?_
      refine Wp.getI2 (pc := 27) (hG.t 18 rfl) fk_RX8_56 rfl dX8_skipBlanks_27 ?_
      refine Wp.iconst (pc := 30) (1 : Int32) (by decide) dX8_skipBlanks_30 ?_
      refine Wp.iadd (pc := 31) dX8_skipBlanks_31 ?_
      obtain ⟨m7, h8, hf⟩ := bnd hf
      refine Wp.ptI2 (pc := 32) h8 (hG.t 18 rfl) fk_RX8_56 ff_RX8_7_6 rfl dX8_skipBlanks_32 ?_
      refine Wp.goto (pc := 35) 0 dX8_skipBlanks_35 (by decide) ?_
      cases hf
      exact hk
theorem wl_X8_skipBlanks_0 {X : CX} {T : List Dsc} {R : RM} {c e : Nat} {n1 n2 : Nat} {m : M2} {e1 : ((M2))} (hX : XR X 2 n1 n2) (hG : Geo T R c e) (h : loop (g_X8_skipBlanks_0) m = some e1) (he : Wp X cX8_skipBlanks RX8 1 T (mk e1 R) n1 n2 38 [] []) : Wp X cX8_skipBlanks RX8 1 T (mk m R) n1 n2 0 [(0, .ref 18)] [] :=
  loop_ok (K := k_X8_skipBlanks_0 X T R n1 n2) (fun s r hf hk => w_X8_skipBlanks_0 hX hG hf hk) h he
set_option maxHeartbeats 4000000 in
set_option maxRecDepth 100000 in
theorem w_X8_skipBlanks_38 {X : CX} {T : List Dsc} {R : RM} {c e : Nat} {n1 n2 : Nat} {m : M2} {r : M2} (hX : XR X 2 n1 n2) (hG : Geo T R c e) (hf : f_X8_skipBlanks_38 m = some r) (hk : FnV X cX8_skipBlanks RX8 1 T n1 n2 (mk r R)) : Wp X cX8_skipBlanks RX8 1 T (mk m R) n1 n2 38 [] [] := by
  unfold f_X8_skipBlanks_38 at hf
  cases hf
  exact hk _ _ dX8_skipBlanks_38
set_option maxHeartbeats 4000000 in
set_option maxRecDepth 100000 in
theorem w_X8_skipBlanks {X : CX} {T : List Dsc} {R : RM} {c e : Nat} {n1 n2 : Nat} {m : M2} {r : M2} (hX : XR X 2 n1 n2) (hG : Geo T R c e) (hf : F_X8_skipBlanks m = some r) (hk : FnV X cX8_skipBlanks RX8 1 T n1 n2 (mk r R)) : Wp X cX8_skipBlanks RX8 1 T (mk m R) n1 n2 0 [(0, .ref 18)] [] := by
  unfold F_X8_skipBlanks at hf
  obtain ⟨e1, h2, hf⟩ := bnd hf
  refine wl_X8_skipBlanks_0 hX hG h2 ?_
  exact w_X8_skipBlanks_38 hX hG hf hk
theorem c_X8_skipBlanks {T : List Dsc} {R : RM} {c e : Nat} {m : M2} {r : M2} (hG : Geo T R c e) (hf : F_X8_skipBlanks m = some r) : Ct 2 yX8_skipBlanks cX8_skipBlanks 1 none T (mk m R) [.ref 18] none (mk r R) := Ct.ofV (r := mk r R) (by decide +kernel) (Nat.le_of_ble_eq_true rfl) (fun X hX hk => w_X8_skipBlanks hX hG hf hk)
theorem dX8_isLetter_0 : decode cX8_isLetter 0 = .ok (.iload_n 0, 1) := by decide +kernel
theorem dX8_isLetter_1 : decode cX8_isLetter 1 = .ok (.bipush 97, 2) := by decide +kernel
theorem dX8_isLetter_3 : decode cX8_isLetter 3 = .ok (.if_icmp .lt 13, 3) := by decide +kernel
theorem dX8_isLetter_6 : decode cX8_isLetter 6 = .ok (.iload_n 0, 1) := by decide +kernel
theorem dX8_isLetter_7 : decode cX8_isLetter 7 = .ok (.bipush 122, 2) := by decide +kernel
theorem dX8_isLetter_9 : decode cX8_isLetter 9 = .ok (.if_icmp .gt 7, 3) := by decide +kernel
theorem dX8_isLetter_12 : decode cX8_isLetter 12 = .ok (.iconst 1, 1) := by decide +kernel
theorem dX8_isLetter_13 : decode cX8_isLetter 13 = .ok (.goto 4, 3) := by decide +kernel
theorem dX8_isLetter_16 : decode cX8_isLetter 16 = .ok (.iconst 0, 1) := by decide +kernel
theorem dX8_isLetter_17 : decode cX8_isLetter 17 = .ok (.ireturn, 1) := by decide +kernel
set_option maxHeartbeats 4000000 in
set_option maxRecDepth 100000 in
theorem w_X8_isLetter_17 {X : CX} {T : List Dsc} {R : RM} {c e : Nat} {n1 n2 : Nat} {s0 : Int32} {m : M2} {r : (Int32 × M2)} (hX : XR X 1 n1 n2) (hG : Geo T R c e) (hf : f_X8_isLetter_17 s0 m = some r) (hk : FnZ X cX8_isLetter RX8 1 T n1 n2 (r.1, mk r.2 R)) : Wp X cX8_isLetter RX8 1 T (mk m R) n1 n2 17 [] [.int s0] := by
  unfold f_X8_isLetter_17 at hf
  obtain ⟨v1, h2, hf⟩ := bnd hf
  refine Wp.zb' h2 (fun h2 => ?_)
  cases hf
  exact hk _ _ h2 dX8_isLetter_17
set_option maxHeartbeats 4000000 in
set_option maxRecDepth 100000 in
theorem w_X8_isLetter_16 {X : CX} {T : List Dsc} {R : RM} {c e : Nat} {n1 n2 : Nat} {m : M2} {r : (Int32 × M2)} (hX : XR X 1 n1 n2) (hG : Geo T R c e) (hf : f_X8_isLetter_16 m = some r) (hk : FnZ X cX8_isLetter RX8 1 T n1 n2 (r.1, mk r.2 R)) : Wp X cX8_isLetter RX8 1 T (mk m R) n1 n2 16 [] [] := by
  unfold f_X8_isLetter_16 at hf
  refine Wp.iconst (pc := 16) (0 : Int32) (by decide) dX8_isLetter_16 ?_
  exact w_X8_isLetter_17 hX hG hf hk
set_option maxHeartbeats 4000000 in
set_option maxRecDepth 100000 in
theorem w_X8_isLetter {X : CX} {T : List Dsc} {R : RM} {c e : Nat} {n1 n2 : Nat} {x0 : Int32} {m : M2} {r : (Int32 × M2)} (hX : XR X 1 n1 n2) (hG : Geo T R c e) (hf : F_X8_isLetter x0 m = some r) (hk : FnZ X cX8_isLetter RX8 1 T n1 n2 (r.1, mk r.2 R)) : Wp X cX8_isLetter RX8 1 T (mk m R) n1 n2 0 [(0, .int x0)] [] := by
  unfold F_X8_isLetter at hf
  refine Wp.iload_n (pc := 0) 0 rfl rfl dX8_isLetter_0 ?_
  refine Wp.bipush (pc := 1) (97 : Int32) (by decide) dX8_isLetter_1 ?_
  refine Wp.icmp_lt (pc := 3) 16 dX8_isLetter_3 (by decide) (fun hc1 => ?_) (fun hc1 => ?_)
  · rw [if_pos hc1] at hf
    refine Wp.lo' (lo' := []) [] rfl ?_
    exact w_X8_isLetter_16 hX hG hf hk
  · rw [if_neg hc1] at hf
    refine Wp.iload_n (pc := 6) 0 rfl rfl dX8_isLetter_6 ?_
    refine Wp.bipush (pc := 7) (122 : Int32) (by decide) dX8_isLetter_7 ?_
    refine Wp.icmp_gt (pc := 9) 16 dX8_isLetter_9 (by decide) (fun hc2 => ?_) (fun hc2 => ?_)
    · rw [if_pos hc2] at hf
      refine Wp.lo' (lo' := []) [] rfl ?_
      exact w_X8_isLetter_16 hX hG hf hk
    · rw [if_neg hc2] at hf
      refine Wp.iconst (pc := 12) (1 : Int32) (by decide) dX8_isLetter_12 ?_
      refine Wp.goto (pc := 13) 17 dX8_isLetter_13 (by decide) ?_
      refine Wp.lo' (lo' := []) [] rfl ?_
      exact w_X8_isLetter_17 hX hG hf hk
theorem c_X8_isLetter {T : List Dsc} {R : RM} {c e : Nat} {x0 : Int32} {m : M2} {r : (Int32 × M2)} (hG : Geo T R c e) (hf : F_X8_isLetter x0 m = some r) : Ct 1 yX8_isLetter cX8_isLetter 1 (some .boolean) T (mk m R) [.int x0] (some (.int r.1)) (mk r.2 R) := Ct.ofZ (r := (r.1, mk r.2 R)) (by decide +kernel) (Nat.le_of_ble_eq_true rfl) (fun X hX hk => w_X8_isLetter hX hG hf hk)
theorem dX8_withLetter_0 : decode cX8_withLetter 0 = .ok (.lload_n 0, 1) := by decide +kernel
theorem dX8_withLetter_1 : decode cX8_withLetter 1 = .ok (.iconst 5, 1) := by decide +kernel
theorem dX8_withLetter_2 : decode cX8_withLetter 2 = .ok (.lshl, 1) := by decide +kernel
theorem dX8_withLetter_3 : decode cX8_withLetter 3 = .ok (.iload_n 2, 1) := by decide +kernel
theorem dX8_withLetter_4 : decode cX8_withLetter 4 = .ok (.bipush 97, 2) := by decide +kernel
theorem dX8_withLetter_6 : decode cX8_withLetter 6 = .ok (.isub, 1) := by decide +kernel
theorem dX8_withLetter_7 : decode cX8_withLetter 7 = .ok (.iconst 1, 1) := by decide +kernel
theorem dX8_withLetter_8 : decode cX8_withLetter 8 = .ok (.iadd, 1) := by decide +kernel
theorem dX8_withLetter_9 : decode cX8_withLetter 9 = .ok (.i2l, 1) := by decide +kernel
theorem dX8_withLetter_10 : decode cX8_withLetter 10 = .ok (.lor, 1) := by decide +kernel
theorem dX8_withLetter_11 : decode cX8_withLetter 11 = .ok (.lreturn, 1) := by decide +kernel
set_option maxHeartbeats 4000000 in
set_option maxRecDepth 100000 in
theorem w_X8_withLetter {X : CX} {T : List Dsc} {R : RM} {c e : Nat} {n1 n2 : Nat} {x0 : Int64} {x2 : Int32} {m : M2} {r : (Int64 × M2)} (hX : XR X 1 n1 n2) (hG : Geo T R c e) (hf : F_X8_withLetter x0 x2 m = some r) (hk : FnJ X cX8_withLetter RX8 3 T n1 n2 (r.1, mk r.2 R)) : Wp X cX8_withLetter RX8 3 T (mk m R) n1 n2 0 [(0, .long x0), (2, .int x2)] [] := by
  unfold F_X8_withLetter at hf
  refine Wp.lload_n (pc := 0) 0 rfl rfl dX8_withLetter_0 ?_
  refine Wp.iconst (pc := 1) (5 : Int32) (by decide) dX8_withLetter_1 ?_
  refine Wp.lshl (pc := 2) dX8_withLetter_2 ?_
  refine Wp.iload_n (pc := 3) 1 rfl rfl dX8_withLetter_3 ?_
  refine Wp.bipush (pc := 4) (97 : Int32) (by decide) dX8_withLetter_4 ?_
  refine Wp.isub (pc := 6) dX8_withLetter_6 ?_
  refine Wp.iconst (pc := 7) (1 : Int32) (by decide) dX8_withLetter_7 ?_
  refine Wp.iadd (pc := 8) dX8_withLetter_8 ?_
  refine Wp.i2l (pc := 9) dX8_withLetter_9 ?_
  refine Wp.lor (pc := 10) dX8_withLetter_10 ?_
  cases hf
  exact hk _ _ dX8_withLetter_11
theorem c_X8_withLetter {T : List Dsc} {R : RM} {c e : Nat} {x0 : Int64} {x2 : Int32} {m : M2} {r : (Int64 × M2)} (hG : Geo T R c e) (hf : F_X8_withLetter x0 x2 m = some r) : Ct 1 yX8_withLetter cX8_withLetter 3 (some .long) T (mk m R) [.long x0, .int x2] (some (.long r.1)) (mk r.2 R) := Ct.ofJ (r := (r.1, mk r.2 R)) (by decide +kernel) (Nat.le_of_ble_eq_true rfl) (fun X hX hk => w_X8_withLetter hX hG hf hk)
theorem dX8_nextWord_0 : decode cX8_nextWord 0 = .ok (.aload_n 0, 1) := by decide +kernel
theorem dX8_nextWord_1 : decode cX8_nextWord 1 = .ok (.getfield 56, 3) := by decide +kernel
theorem dX8_nextWord_4 : decode cX8_nextWord 4 = .ok (.istore_n 1, 1) := by decide +kernel
theorem dX8_nextWord_5 : decode cX8_nextWord 5 = .ok (.aload_n 0, 1) := by decide +kernel
theorem dX8_nextWord_6 : decode cX8_nextWord 6 = .ok (.getfield 56, 3) := by decide +kernel
theorem dX8_nextWord_9 : decode cX8_nextWord 9 = .ok (.aload_n 0, 1) := by decide +kernel
theorem dX8_nextWord_10 : decode cX8_nextWord 10 = .ok (.getfield 53, 3) := by decide +kernel
theorem dX8_nextWord_13 : decode cX8_nextWord 13 = .ok (.if_icmp .ge 49, 3) := by decide +kernel
theorem dX8_nextWord_16 : decode cX8_nextWord 16 = .ok (.aload_n 0, 1) := by decide +kernel
theorem dX8_nextWord_17 : decode cX8_nextWord 17 = .ok (.aload_n 0, 1) := by decide +kernel
theorem dX8_nextWord_18 : decode cX8_nextWord 18 = .ok (.getfield 56, 3) := by decide +kernel
theorem dX8_nextWord_21 : decode cX8_nextWord 21 = .ok (.invokevirtual 69, 3) := by decide +kernel
theorem dX8_nextWord_24 : decode cX8_nextWord 24 = .ok (.invokestatic 77, 3) := by decide +kernel
theorem dX8_nextWord_27 : decode cX8_nextWord 27 = .ok (.ifCond .eq 35, 3) := by decide +kernel
theorem dX8_nextWord_30 : decode cX8_nextWord 30 = .ok (.aload_n 0, 1) := by decide +kernel
theorem dX8_nextWord_31 : decode cX8_nextWord 31 = .ok (.aload_n 0, 1) := by decide +kernel
theorem dX8_nextWord_32 : decode cX8_nextWord 32 = .ok (.getfield 62, 3) := by decide +kernel
theorem dX8_nextWord_35 : decode cX8_nextWord 35 = .ok (.aload_n 0, 1) := by decide +kernel
theorem dX8_nextWord_36 : decode cX8_nextWord 36 = .ok (.aload_n 0, 1) := by decide +kernel
theorem dX8_nextWord_37 : decode cX8_nextWord 37 = .ok (.getfield 56, 3) := by decide +kernel
theorem dX8_nextWord_40 : decode cX8_nextWord 40 = .ok (.invokevirtual 69, 3) := by decide +kernel
theorem dX8_nextWord_43 : decode cX8_nextWord 43 = .ok (.invokestatic 43, 3) := by decide +kernel
theorem dX8_nextWord_46 : decode cX8_nextWord 46 = .ok (.putfield 62, 3) := by decide +kernel
theorem dX8_nextWord_49 : decode cX8_nextWord 49 = .ok (.aload_n 0, 1) := by decide +kernel
theorem dX8_nextWord_50 : decode cX8_nextWord 50 = .ok (.dup, 1) := by decide +kernel
theorem dX8_nextWord_51 : decode cX8_nextWord 51 = .ok (.getfield 56, 3) := by decide +kernel
theorem dX8_nextWord_54 : decode cX8_nextWord 54 = .ok (.iconst 1, 1) := by decide +kernel
theorem dX8_nextWord_55 : decode cX8_nextWord 55 = .ok (.iadd, 1) := by decide +kernel
theorem dX8_nextWord_56 : decode cX8_nextWord 56 = .ok (.putfield 56, 3) := by decide +kernel
theorem dX8_nextWord_59 : decode cX8_nextWord 59 = .ok (.goto (-54), 3) := by decide +kernel
theorem dX8_nextWord_62 : decode cX8_nextWord 62 = .ok (.aload_n 0, 1) := by decide +kernel
theorem dX8_nextWord_63 : decode cX8_nextWord 63 = .ok (.getfield 56, 3) := by decide +kernel
theorem dX8_nextWord_66 : decode cX8_nextWord 66 = .ok (.iload_n 1, 1) := by decide +kernel
theorem dX8_nextWord_67 : decode cX8_nextWord 67 = .ok (.isub, 1) := by decide +kernel
theorem dX8_nextWord_68 : decode cX8_nextWord 68 = .ok (.bipush 8, 2) := by decide +kernel
theorem dX8_nextWord_70 : decode cX8_nextWord 70 = .ok (.if_icmp .le 5, 3) := by decide +kernel
theorem dX8_nextWord_73 : decode cX8_nextWord 73 = .ok (.iconst 1, 1) := by decide +kernel
theorem dX8_nextWord_74 : decode cX8_nextWord 74 = .ok (.ireturn, 1) := by decide +kernel
theorem dX8_nextWord_75 : decode cX8_nextWord 75 = .ok (.iconst 0, 1) := by decide +kernel
theorem dX8_nextWord_76 : decode cX8_nextWord 76 = .ok (.istore_n 2, 1) := by decide +kernel
theorem dX8_nextWord_77 : decode cX8_nextWord 77 = .ok (.iload_n 2, 1) := by decide +kernel
theorem dX8_nextWord_78 : decode cX8_nextWord 78 = .ok (.bipush 17, 2) := by decide +kernel
theorem dX8_nextWord_80 : decode cX8_nextWord 80 = .ok (.if_icmp .ge 28, 3) := by decide +kernel
theorem dX8_nextWord_83 : decode cX8_nextWord 83 = .ok (.aload_n 0, 1) := by decide +kernel
theorem dX8_nextWord_84 : decode cX8_nextWord 84 = .ok (.getfield 11, 3) := by decide +kernel
theorem dX8_nextWord_87 : decode cX8_nextWord 87 = .ok (.iload_n 2, 1) := by decide +kernel
theorem dX8_nextWord_88 : decode cX8_nextWord 88 = .ok (.laload, 1) := by decide +kernel
theorem dX8_nextWord_89 : decode cX8_nextWord 89 = .ok (.aload_n 0, 1) := by decide +kernel
theorem dX8_nextWord_90 : decode cX8_nextWord 90 = .ok (.getfield 62, 3) := by decide +kernel
theorem dX8_nextWord_93 : decode cX8_nextWord 93 = .ok (.lcmp, 1) := by decide +kernel
theorem dX8_nextWord_94 : decode cX8_nextWord 94 = .ok (.ifCond .ne 8, 3) := by decide +kernel
theorem dX8_nextWord_97 : decode cX8_nextWord 97 = .ok (.bipush 17, 2) := by decide +kernel
theorem dX8_nextWord_99 : decode cX8_nextWord 99 = .ok (.iload_n 2, 1) := by decide +kernel
theorem dX8_nextWord_100 : decode cX8_nextWord 100 = .ok (.iadd, 1) := by decide +kernel
theorem dX8_nextWord_101 : decode cX8_nextWord 101 = .ok (.ireturn, 1) := by decide +kernel
theorem dX8_nextWord_102 : decode cX8_nextWord 102 = .ok (.iinc 2 1, 3) := by decide +kernel
theorem dX8_nextWord_105 : decode cX8_nextWord 105 = .ok (.goto (-28), 3) := by decide +kernel
theorem dX8_nextWord_108 : decode cX8_nextWord 108 = .ok (.iconst 2, 1) := by decide +kernel
theorem dX8_nextWord_109 : decode cX8_nextWord 109 = .ok (.ireturn, 1) := by decide +kernel
def k_X8_nextWord_5 (X : CX) (T : List Dsc) (R : RM) (n1 n2 : Nat) (x1 : Int32) (r : ((M2) ⊕ ((M2)))) : Prop := match r with
  | .inl s => Wp X cX8_nextWord RX8 3 T (mk s R) n1 n2 5 [(0, .ref 18), (1, .int x1)] []
  | .inr e => Wp X cX8_nextWord RX8 3 T (mk e R) n1 n2 62 [(0, .ref 18), (1, .int x1)] []
def k_X8_nextWord_77 (X : CX) (T : List Dsc) (R : RM) (n1 n2 : Nat) (r : ((Int32 × M2) ⊕ ((Int32 × M2) ⊕ (M2)))) : Prop := match r with
  | .inl s => Wp X cX8_nextWord RX8 3 T (mk s.2 R) n1 n2 77 [(0, .ref 18), (2, .int s.1)] []
  | .inr (.inl e) => Wp X cX8_nextWord RX8 3 T (mk e.2 R) n1 n2 97 [(2, .int e.1)] []
  | .inr (.inr e) => Wp X cX8_nextWord RX8 3 T (mk e R) n1 n2 108 [] []
set_option maxHeartbeats 4000000 in
set_option maxRecDepth 100000 in
theorem w_X8_nextWord_5 {X : CX} {T : List Dsc} {R : RM} {c e : Nat} {n1 n2 : Nat} {x1 : Int32} {m : M2} {r : ((M2) ⊕ ((M2)))} (hX : XR X 2 n1 n2) (hG : Geo T R c e) (hf : f_X8_nextWord_5 x1 m = some r) (hk : k_X8_nextWord_5 X T R n1 n2 x1 r) : Wp X cX8_nextWord RX8 3 T (mk m R) n1 n2 5 [(0, .ref 18), (1, .int x1)] [] := by
  unfold f_X8_nextWord_5 at hf
  refine Wp.aload_n (pc := 5) 0 rfl rfl dX8_nextWord_5 ?_
  refine Wp.getI2 (pc := 6) (hG.t 18 rfl) fk_RX8_56 rfl dX8_nextWord_6 ?_
  refine Wp.aload_n (pc := 9) 0 rfl rfl dX8_nextWord_9 ?_
  refine Wp.getI2 (pc := 10) (hG.t 18 rfl) fk_RX8_53 rfl dX8_nextWord_10 ?_
  refine Wp.icmp_ge (pc := 13) 62 dX8_nextWord_13 (by decide) (fun hc1 => ?_) (fun hc1 => ?_)
  · rw [if_pos hc1] at hf
    cases hf
    exact hk
  · rw [if_neg hc1] at hf
    refine Wp.aload_n (pc := 16) 0 rfl rfl dX8_nextWord_16 ?_
    refine Wp.aload_n (pc := 17) 0 rfl rfl dX8_nextWord_17 ?_
    refine Wp.getI2 (pc := 18) (hG.t 18 rfl) fk_RX8_56 rfl dX8_nextWord_18 ?_
    obtain ⟨c2, h3, hf⟩ := bnd hf
    refine Wp.callVi (pc := 21) (st := []) (as := [.int (hI m 18 6)]) (c_X8_byteAt hG h3) ml_RX8_69 mv_X8_byteAt mb_X8_byteAt hX (Nat.le_of_ble_eq_true rfl) (by decide) rfl (hG.t 18 rfl) rfl (by simp) dX8_nextWord_21 rfl ?_
    obtain ⟨c4, h5, hf⟩ := bnd hf
    refine Wp.callSi (pc := 24) (st := []) (as := [.int c2.1]) (c_X8_isLetter hG h5) ml_RX8_77 ms_X8_isLetter mb_X8_isLetter hX (Nat.le_of_ble_eq_true rfl) (by decide) rfl (by simp) dX8_nextWord_24 rfl ?_
    refine Wp.if_eq (pc := 27) 62 dX8_nextWord_27 (by decide) (fun hc6 => ?_) (fun hc6 => ?_)
    · rw [if_pos hc6] at hf
      cases hf
      exact hk
    · rw [if_neg hc6] at hf
      refine Wp.aload_n (pc := 30) 0 rfl rfl dX8_nextWord_30 ?_
      refine Wp.aload_n (pc := 31) 0 rfl rfl dX8_nextWord_31 ?_
      refine Wp.getJ2 (pc := 32) (hG.t 18 rfl) fk_RX8_62 rfl dX8_nextWord_32 ?_
      refine Wp.aload_n (pc := 35) 0 rfl rfl dX8_nextWord_35 ?_
      refine Wp.aload_n (pc := 36) 0 rfl rfl dX8_nextWord_36 ?_
      refine Wp.getI2 (pc := 37) (hG.t 18 rfl) fk_RX8_56 rfl dX8_nextWord_37 ?_
      obtain ⟨c7, h8, hf⟩ := bnd hf
      refine Wp.callVi (pc := 40) (st := [.long (hJ c4.2 18 7), .ref 18]) (as := [.int (hI c4.2 18 6)]) (c_X8_byteAt hG h8) ml_RX8_69 mv_X8_byteAt mb_X8_byteAt hX (Nat.le_of_ble_eq_true rfl) (by decide) rfl (hG.t 18 rfl) rfl (by simp [Value.category]) dX8_nextWord_40 rfl ?_
      obtain ⟨c9, h10, hf⟩ := bnd hf
      refine Wp.callSl (pc := 43) (st := [.ref 18]) (as := [.long (hJ c4.2 18 7), .int c7.1]) (c_X8_withLetter hG h10) ml_RX8_43 ms_X8_withLetter mb_X8_withLetter hX (Nat.le_of_ble_eq_true rfl) (by decide) rfl (by simp [Value.category]) dX8_nextWord_43 rfl ?_
      obtain ⟨m11, h12, hf⟩ := bnd hf
      refine Wp.ptJ2 (pc := 46) h12 (hG.t 18 rfl) fk_RX8_62 ff_RX8_7_7 rfl dX8_nextWord_46 ?_
      refine Wp.aload_n (pc := 49) 0 rfl rfl dX8_nextWord_49 ?_
      refine Wp.dup (pc := 50) rfl dX8_nextWord_50 ?_
      refine Wp.getI2 (pc := 51) (hG.t 18 rfl) fk_RX8_56 rfl dX8_nextWord_51 ?_
      refine Wp.iconst (pc := 54) (1 : Int32) (by decide) dX8_nextWord_54 ?_
      refine Wp.iadd (pc := 55) dX8_nextWord_55 ?_
      obtain ⟨m13, h14, hf⟩ := bnd hf
      refine Wp.ptI2 (pc := 56) h14 (hG.t 18 rfl) fk_RX8_56 ff_RX8_7_6 rfl dX8_nextWord_56 ?_
      refine Wp.goto (pc := 59) 5 dX8_nextWord_59 (by decide) ?_
      cases hf
      exact hk
theorem wl_X8_nextWord_5 {X : CX} {T : List Dsc} {R : RM} {c e : Nat} {n1 n2 : Nat} {x1 : Int32} {m : M2} {e1 : ((M2))} (hX : XR X 2 n1 n2) (hG : Geo T R c e) (h : loop (g_X8_nextWord_5 x1) m = some e1) (he : Wp X cX8_nextWord RX8 3 T (mk e1 R) n1 n2 62 [(0, .ref 18), (1, .int x1)] []) : Wp X cX8_nextWord RX8 3 T (mk m R) n1 n2 5 [(0, .ref 18), (1, .int x1)] [] :=
  loop_ok (K := k_X8_nextWord_5 X T R n1 n2 x1) (fun s r hf hk => w_X8_nextWord_5 hX hG hf hk) h he
set_option maxHeartbeats 4000000 in
set_option maxRecDepth 100000 in
theorem w_X8_nextWord_77 {X : CX} {T : List Dsc} {R : RM} {c e : Nat} {n1 n2 : Nat} {x2 : Int32} {m : M2} {r : ((Int32 × M2) ⊕ ((Int32 × M2) ⊕ (M2)))} (hX : XR X 2 n1 n2) (hG : Geo T R c e) (hf : f_X8_nextWord_77 x2 m = some r) (hk : k_X8_nextWord_77 X T R n1 n2 r) : Wp X cX8_nextWord RX8 3 T (mk m R) n1 n2 77 [(0, .ref 18), (2, .int x2)] [] := by
  unfold f_X8_nextWord_77 at hf
  refine Wp.iload_n (pc := 77) 1 rfl rfl dX8_nextWord_77 ?_
  refine Wp.bipush (pc := 78) (17 : Int32) (by decide) dX8_nextWord_78 ?_
  refine Wp.icmp_ge (pc := 80) 108 dX8_nextWord_80 (by decide) (fun hc1 => ?_) (fun hc1 => ?_)
  · rw [if_pos hc1] at hf
    refine Wp.lo' (lo' := []) [] rfl ?_
    cases hf
    exact hk
  · rw [if_neg hc1] at hf
    refine Wp.aload_n (pc := 83) 0 rfl rfl dX8_nextWord_83 ?_
    refine Wp.getR2 (pc := 84) (hG.r 18 0 rfl) (hG.t 18 rfl) fk_RX8_11 rfl dX8_nextWord_84 ?_
    refine Wp.iload_n (pc := 87) 1 rfl rfl dX8_nextWord_87 ?_
    obtain ⟨v2, h3, hf⟩ := bnd hf
    refine Wp.lald2 (pc := 88) h3 (hG.a 19 1 rfl) dX8_nextWord_88 ?_
    refine Wp.aload_n (pc := 89) 0 rfl rfl dX8_nextWord_89 ?_
    refine Wp.getJ2 (pc := 90) (hG.t 18 rfl) fk_RX8_62 rfl dX8_nextWord_90 ?_
    refine Wp.lcmp (pc := 93) dX8_nextWord_93 ?_
    refine Wp.if_ne (pc := 94) 102 dX8_nextWord_94 (by decide) (fun hc4 => ?_) (fun hc4 => ?_)
    · rw [if_neg hc4] at hf
      obtain ⟨v5, h6, hf⟩ := bnd hf
      refine Wp.iincN (pc := 102) (lo' := [(0, .ref 18), (2, .int v5)]) (1 : Int32) (by decide) h6 1 rfl [1, 0] rfl (by decide) dX8_nextWord_102 ?_
      refine Wp.goto (pc := 105) 77 dX8_nextWord_105 (by decide) ?_
      cases hf
      exact hk
    · rw [if_pos hc4] at hf
      refine Wp.lo' (lo' := [(2, .int x2)]) [1] rfl ?_
      cases hf
      exact hk
theorem wl_X8_nextWord_77 {X : CX} {T : List Dsc} {R : RM} {c e : Nat} {n1 n2 : Nat} {x2 : Int32} {m : M2} {e1 : ((Int32 × M2) ⊕ (M2))} (hX : XR X 2 n1 n2) (hG : Geo T R c e) (h : loop (g_X8_nextWord_77) (x2, m) = some e1) (he0 : ∀ e_, e1 = (Sum.inl e_) → Wp X cX8_nextWord RX8 3 T (mk e_.2 R) n1 n2 97 [(2, .int e_.1)] []) (he1 : ∀ e_, e1 = (Sum.inr e_) → Wp X cX8_nextWord RX8 3 T (mk e_ R) n1 n2 108 [] []) : Wp X cX8_nextWord RX8 3 T (mk m R) n1 n2 77 [(0, .ref 18), (2, .int x2)] [] :=
  loop_ok (K := k_X8_nextWord_77 X T R n1 n2) (fun s r hf hk => w_X8_nextWord_77 hX hG hf hk) h (by rcases e1 with e_ | e_ <;> first | exact he0 _ rfl | exact he1 _ rfl)
set_option maxHeartbeats 4000000 in
set_option maxRecDepth 100000 in
theorem w_X8_nextWord_62 {X : CX} {T : List Dsc} {R : RM} {c e : Nat} {n1 n2 : Nat} {x1 : Int32} {m : M2} {r : (Int32 × M2)} (hX : XR X 2 n1 n2) (hG : Geo T R c e) (hf : f_X8_nextWord_62 x1 m = some r) (hk : FnI X cX8_nextWord RX8 3 T n1 n2 (r.1, mk r.2 R)) : Wp X cX8_nextWord RX8 3 T (mk m R) n1 n2 62 [(0, .ref 18), (1, .int x1)] [] := by
  unfold f_X8_nextWord_62 at hf
  refine Wp.aload_n (pc := 62) 0 rfl rfl dX8_nextWord_62 ?_
  refine Wp.getI2 (pc := 63) (hG.t 18 rfl) fk_RX8_56 rfl dX8_nextWord_63 ?_
  refine Wp.iload_n (pc := 66) 1 rfl rfl dX8_nextWord_66 ?_
  refine Wp.isub (pc := 67) dX8_nextWord_67 ?_
  refine Wp.bipush (pc := 68) (8 : Int32) (by decide) dX8_nextWord_68 ?_
  refine Wp.icmp_le (pc := 70) 75 dX8_nextWord_70 (by decide) (fun hc1 => ?_) (fun hc1 => ?_)
  · rw [if_pos hc1] at hf
    refine Wp.iconst (pc := 75) (0 : Int32) (by decide) dX8_nextWord_75 ?_
    refine Wp.istore_n (pc := 76) (lo' := [(0, .ref 18), (2, .int (0 : Int32))]) [1, 0] rfl (by decide) rfl dX8_nextWord_76 ?_
    obtain ⟨e2, h3, hf⟩ := bnd hf
    refine wl_X8_nextWord_77 hX hG h3 (fun e2_0 hq => ?_) (fun e2_1 hq => ?_)
    · rw [hq, Sum.elim_inl] at hf
      refine Wp.bipush (pc := 97) (17 : Int32) (by decide) dX8_nextWord_97 ?_
      refine Wp.iload_n (pc := 99) 0 rfl rfl dX8_nextWord_99 ?_
      refine Wp.iadd (pc := 100) dX8_nextWord_100 ?_
      cases hf
      exact hk _ _ dX8_nextWord_101
    · rw [hq, Sum.elim_inr] at hf
      refine Wp.iconst (pc := 108) (2 : Int32) (by decide) dX8_nextWord_108 ?_
      cases hf
      exact hk _ _ dX8_nextWord_109
  · rw [if_neg hc1] at hf
    refine Wp.iconst (pc := 73) (1 : Int32) (by decide) dX8_nextWord_73 ?_
    cases hf
    exact hk _ _ dX8_nextWord_74
set_option maxHeartbeats 4000000 in
set_option maxRecDepth 100000 in
theorem w_X8_nextWord {X : CX} {T : List Dsc} {R : RM} {c e : Nat} {n1 n2 : Nat} {m : M2} {r : (Int32 × M2)} (hX : XR X 2 n1 n2) (hG : Geo T R c e) (hf : F_X8_nextWord m = some r) (hk : FnI X cX8_nextWord RX8 3 T n1 n2 (r.1, mk r.2 R)) : Wp X cX8_nextWord RX8 3 T (mk m R) n1 n2 0 [(0, .ref 18)] [] := by
  unfold F_X8_nextWord at hf
  refine Wp.aload_n (pc := 0) 0 rfl rfl dX8_nextWord_0 ?_
  refine Wp.getI2 (pc := 1) (hG.t 18 rfl) fk_RX8_56 rfl dX8_nextWord_1 ?_
  obtain ⟨v1, h2, hf⟩ := bnd hf
  refine Wp.nI' h2 ?_
  refine Wp.istore_n (pc := 4) (lo' := [(0, .ref 18), (1, .int v1)]) [1, 0] rfl (by decide) rfl dX8_nextWord_4 ?_
  obtain ⟨e3, h4, hf⟩ := bnd hf
  refine wl_X8_nextWord_5 hX hG h4 ?_
  exact w_X8_nextWord_62 hX hG hf hk
theorem c_X8_nextWord {T : List Dsc} {R : RM} {c e : Nat} {m : M2} {r : (Int32 × M2)} (hG : Geo T R c e) (hf : F_X8_nextWord m = some r) : Ct 2 yX8_nextWord cX8_nextWord 3 (some .int) T (mk m R) [.ref 18] (some (.int r.1)) (mk r.2 R) := Ct.ofI (r := (r.1, mk r.2 R)) (by decide +kernel) (Nat.le_of_ble_eq_true rfl) (fun X hX hk => w_X8_nextWord hX hG hf hk)
theorem dX8_isDigit_0 : decode cX8_isDigit 0 = .ok (.iload_n 0, 1) := by decide +kernel
theorem dX8_isDigit_1 : decode cX8_isDigit 1 = .ok (.bipush 48, 2) := by decide +kernel
theorem dX8_isDigit_3 : decode cX8_isDigit 3 = .ok (.if_icmp .lt 13, 3) := by decide +kernel
theorem dX8_isDigit_6 : decode cX8_isDigit 6 = .ok (.iload_n 0, 1) := by decide +kernel
theorem dX8_isDigit_7 : decode cX8_isDigit 7 = .ok (.bipush 57, 2) := by decide +kernel
theorem dX8_isDigit_9 : decode cX8_isDigit 9 = .ok (.if_icmp .gt 7, 3) := by decide +kernel
theorem dX8_isDigit_12 : decode cX8_isDigit 12 = .ok (.iconst 1, 1) := by decide +kernel
theorem dX8_isDigit_13 : decode cX8_isDigit 13 = .ok (.goto 4, 3) := by decide +kernel
theorem dX8_isDigit_16 : decode cX8_isDigit 16 = .ok (.iconst 0, 1) := by decide +kernel
theorem dX8_isDigit_17 : decode cX8_isDigit 17 = .ok (.ireturn, 1) := by decide +kernel
set_option maxHeartbeats 4000000 in
set_option maxRecDepth 100000 in
theorem w_X8_isDigit_17 {X : CX} {T : List Dsc} {R : RM} {c e : Nat} {n1 n2 : Nat} {s0 : Int32} {m : M2} {r : (Int32 × M2)} (hX : XR X 1 n1 n2) (hG : Geo T R c e) (hf : f_X8_isDigit_17 s0 m = some r) (hk : FnZ X cX8_isDigit RX8 1 T n1 n2 (r.1, mk r.2 R)) : Wp X cX8_isDigit RX8 1 T (mk m R) n1 n2 17 [] [.int s0] := by
  unfold f_X8_isDigit_17 at hf
  obtain ⟨v1, h2, hf⟩ := bnd hf
  refine Wp.zb' h2 (fun h2 => ?_)
  cases hf
  exact hk _ _ h2 dX8_isDigit_17
set_option maxHeartbeats 4000000 in
set_option maxRecDepth 100000 in
theorem w_X8_isDigit_16 {X : CX} {T : List Dsc} {R : RM} {c e : Nat} {n1 n2 : Nat} {m : M2} {r : (Int32 × M2)} (hX : XR X 1 n1 n2) (hG : Geo T R c e) (hf : f_X8_isDigit_16 m = some r) (hk : FnZ X cX8_isDigit RX8 1 T n1 n2 (r.1, mk r.2 R)) : Wp X cX8_isDigit RX8 1 T (mk m R) n1 n2 16 [] [] := by
  unfold f_X8_isDigit_16 at hf
  refine Wp.iconst (pc := 16) (0 : Int32) (by decide) dX8_isDigit_16 ?_
  exact w_X8_isDigit_17 hX hG hf hk
set_option maxHeartbeats 4000000 in
set_option maxRecDepth 100000 in
theorem w_X8_isDigit {X : CX} {T : List Dsc} {R : RM} {c e : Nat} {n1 n2 : Nat} {x0 : Int32} {m : M2} {r : (Int32 × M2)} (hX : XR X 1 n1 n2) (hG : Geo T R c e) (hf : F_X8_isDigit x0 m = some r) (hk : FnZ X cX8_isDigit RX8 1 T n1 n2 (r.1, mk r.2 R)) : Wp X cX8_isDigit RX8 1 T (mk m R) n1 n2 0 [(0, .int x0)] [] := by
  unfold F_X8_isDigit at hf
  refine Wp.iload_n (pc := 0) 0 rfl rfl dX8_isDigit_0 ?_
  refine Wp.bipush (pc := 1) (48 : Int32) (by decide) dX8_isDigit_1 ?_
  refine Wp.icmp_lt (pc := 3) 16 dX8_isDigit_3 (by decide) (fun hc1 => ?_) (fun hc1 => ?_)
  · rw [if_pos hc1] at hf
    refine Wp.lo' (lo' := []) [] rfl ?_
    exact w_X8_isDigit_16 hX hG hf hk
  · rw [if_neg hc1] at hf
    refine Wp.iload_n (pc := 6) 0 rfl rfl dX8_isDigit_6 ?_
    refine Wp.bipush (pc := 7) (57 : Int32) (by decide) dX8_isDigit_7 ?_
    refine Wp.icmp_gt (pc := 9) 16 dX8_isDigit_9 (by decide) (fun hc2 => ?_) (fun hc2 => ?_)
    · rw [if_pos hc2] at hf
      refine Wp.lo' (lo' := []) [] rfl ?_
      exact w_X8_isDigit_16 hX hG hf hk
    · rw [if_neg hc2] at hf
      refine Wp.iconst (pc := 12) (1 : Int32) (by decide) dX8_isDigit_12 ?_
      refine Wp.goto (pc := 13) 17 dX8_isDigit_13 (by decide) ?_
      refine Wp.lo' (lo' := []) [] rfl ?_
      exact w_X8_isDigit_17 hX hG hf hk
theorem c_X8_isDigit {T : List Dsc} {R : RM} {c e : Nat} {x0 : Int32} {m : M2} {r : (Int32 × M2)} (hG : Geo T R c e) (hf : F_X8_isDigit x0 m = some r) : Ct 1 yX8_isDigit cX8_isDigit 1 (some .boolean) T (mk m R) [.int x0] (some (.int r.1)) (mk r.2 R) := Ct.ofZ (r := (r.1, mk r.2 R)) (by decide +kernel) (Nat.le_of_ble_eq_true rfl) (fun X hX hk => w_X8_isDigit hX hG hf hk)
theorem dX8_nextInt_0 : decode cX8_nextInt 0 = .ok (.aload_n 0, 1) := by decide +kernel
theorem dX8_nextInt_1 : decode cX8_nextInt 1 = .ok (.getfield 56, 3) := by decide +kernel
theorem dX8_nextInt_4 : decode cX8_nextInt 4 = .ok (.istore_n 1, 1) := by decide +kernel
theorem dX8_nextInt_5 : decode cX8_nextInt 5 = .ok (.aload_n 0, 1) := by decide +kernel
theorem dX8_nextInt_6 : decode cX8_nextInt 6 = .ok (.getfield 56, 3) := by decide +kernel
theorem dX8_nextInt_9 : decode cX8_nextInt 9 = .ok (.aload_n 0, 1) := by decide +kernel
theorem dX8_nextInt_10 : decode cX8_nextInt 10 = .ok (.getfield 53, 3) := by decide +kernel
theorem dX8_nextInt_13 : decode cX8_nextInt 13 = .ok (.if_icmp .ge 55, 3) := by decide +kernel
theorem dX8_nextInt_16 : decode cX8_nextInt 16 = .ok (.aload_n 0, 1) := by decide +kernel
theorem dX8_nextInt_17 : decode cX8_nextInt 17 = .ok (.aload_n 0, 1) := by decide +kernel
theorem dX8_nextInt_18 : decode cX8_nextInt 18 = .ok (.getfield 56, 3) := by decide +kernel
theorem dX8_nextInt_21 : decode cX8_nextInt 21 = .ok (.invokevirtual 69, 3) := by decide +kernel
theorem dX8_nextInt_24 : decode cX8_nextInt 24 = .ok (.invokestatic 83, 3) := by decide +kernel
theorem dX8_nextInt_27 : decode cX8_nextInt 27 = .ok (.ifCond .eq 41, 3) := by decide +kernel
theorem dX8_nextInt_30 : decode cX8_nextInt 30 = .ok (.aload_n 0, 1) := by decide +kernel
theorem dX8_nextInt_31 : decode cX8_nextInt 31 = .ok (.aload_n 0, 1) := by decide +kernel
theorem dX8_nextInt_32 : decode cX8_nextInt 32 = .ok (.getfield 62, 3) := by decide +kernel
theorem dX8_nextInt_35 : decode cX8_nextInt 35 = .ok (.ldc2_w 92, 3) := by decide +kernel
theorem dX8_nextInt_38 : decode cX8_nextInt 38 = .ok (.lmul, 1) := by decide +kernel
theorem dX8_nextInt_39 : decode cX8_nextInt 39 = .ok (.aload_n 0, 1) := by decide +kernel
theorem dX8_nextInt_40 : decode cX8_nextInt 40 = .ok (.aload_n 0, 1) := by decide +kernel
theorem dX8_nextInt_41 : decode cX8_nextInt 41 = .ok (.getfield 56, 3) := by decide +kernel
theorem dX8_nextInt_44 : decode cX8_nextInt 44 = .ok (.invokevirtual 69, 3) := by decide +kernel
theorem dX8_nextInt_47 : decode cX8_nextInt 47 = .ok (.bipush 48, 2) := by decide +kernel
theorem dX8_nextInt_49 : decode cX8_nextInt 49 = .ok (.isub, 1) := by decide +kernel
theorem dX8_nextInt_50 : decode cX8_nextInt 50 = .ok (.i2l, 1) := by decide +kernel
theorem dX8_nextInt_51 : decode cX8_nextInt 51 = .ok (.ladd, 1) := by decide +kernel
theorem dX8_nextInt_52 : decode cX8_nextInt 52 = .ok (.putfield 62, 3) := by decide +kernel
theorem dX8_nextInt_55 : decode cX8_nextInt 55 = .ok (.aload_n 0, 1) := by decide +kernel
theorem dX8_nextInt_56 : decode cX8_nextInt 56 = .ok (.dup, 1) := by decide +kernel
theorem dX8_nextInt_57 : decode cX8_nextInt 57 = .ok (.getfield 56, 3) := by decide +kernel
theorem dX8_nextInt_60 : decode cX8_nextInt 60 = .ok (.iconst 1, 1) := by decide +kernel
theorem dX8_nextInt_61 : decode cX8_nextInt 61 = .ok (.iadd, 1) := by decide +kernel
theorem dX8_nextInt_62 : decode cX8_nextInt 62 = .ok (.putfield 56, 3) := by decide +kernel
theorem dX8_nextInt_65 : decode cX8_nextInt 65 = .ok (.goto (-60), 3) := by decide +kernel
theorem dX8_nextInt_68 : decode cX8_nextInt 68 = .ok (.aload_n 0, 1) := by decide +kernel
theorem dX8_nextInt_69 : decode cX8_nextInt 69 = .ok (.getfield 56, 3) := by decide +kernel
theorem dX8_nextInt_72 : decode cX8_nextInt 72 = .ok (.iload_n 1, 1) := by decide +kernel
theorem dX8_nextInt_73 : decode cX8_nextInt 73 = .ok (.isub, 1) := by decide +kernel
theorem dX8_nextInt_74 : decode cX8_nextInt 74 = .ok (.iconst 4, 1) := by decide +kernel
theorem dX8_nextInt_75 : decode cX8_nextInt 75 = .ok (.if_icmp .le 7, 3) := by decide +kernel
theorem dX8_nextInt_78 : decode cX8_nextInt 78 = .ok (.iconst 1, 1) := by decide +kernel
theorem dX8_nextInt_79 : decode cX8_nextInt 79 = .ok (.goto 4, 3) := by decide +kernel
theorem dX8_nextInt_82 : decode cX8_nextInt 82 = .ok (.iconst 3, 1) := by decide +kernel
theorem dX8_nextInt_83 : decode cX8_nextInt 83 = .ok (.ireturn, 1) := by decide +kernel
def k_X8_nextInt_5 (X : CX) (T : List Dsc) (R : RM) (n1 n2 : Nat) (x1 : Int32) (r : ((M2) ⊕ ((M2)))) : Prop := match r with
  | .inl s => Wp X cX8_nextInt RX8 2 T (mk s R) n1 n2 5 [(0, .ref 18), (1, .int x1)] []
  | .inr e => Wp X cX8_nextInt RX8 2 T (mk e R) n1 n2 68 [(0, .ref 18), (1, .int x1)] []
set_option maxHeartbeats 4000000 in
set_option maxRecDepth 100000 in
theorem w_X8_nextInt_5 {X : CX} {T : List Dsc} {R : RM} {c e : Nat} {n1 n2 : Nat} {x1 : Int32} {m : M2} {r : ((M2) ⊕ ((M2)))} (hX : XR X 2 n1 n2) (hG : Geo T R c e) (hf : f_X8_nextInt_5 x1 m = some r) (hk : k_X8_nextInt_5 X T R n1 n2 x1 r) : Wp X cX8_nextInt RX8 2 T (mk m R) n1 n2 5 [(0, .ref 18), (1, .int x1)] [] := by
  unfold f_X8_nextInt_5 at hf
  refine Wp.aload_n (pc := 5) 0 rfl rfl dX8_nextInt_5 ?_
  refine Wp.getI2 (pc := 6) (hG.t 18 rfl) fk_RX8_56 rfl dX8_nextInt_6 ?_
  refine Wp.aload_n (pc := 9) 0 rfl rfl dX8_nextInt_9 ?_
  refine Wp.getI2 (pc := 10) (hG.t 18 rfl) fk_RX8_53 rfl dX8_nextInt_10 ?_
  refine Wp.icmp_ge (pc := 13) 68 dX8_nextInt_13 (by decide) (fun hc1 => ?_) (fun hc1 => ?_)
  · rw [if_pos hc1] at hf
    cases hf
    exact hk
  · rw [if_neg hc1] at hf
    refine Wp.aload_n (pc := 16) 0 rfl rfl dX8_nextInt_16 ?_
    refine Wp.aload_n (pc := 17) 0 rfl rfl dX8_nextInt_17 ?_
    refine Wp.getI2 (pc := 18) (hG.t 18 rfl) fk_RX8_56 rfl dX8_nextInt_18 ?_
    obtain ⟨c2, h3, hf⟩ := bnd hf
    refine Wp.callVi (pc := 21) (st := []) (as := [.int (hI m 18 6)]) (c_X8_byteAt hG h3) ml_RX8_69 mv_X8_byteAt mb_X8_byteAt hX (Nat.le_of_ble_eq_true rfl) (by decide) rfl (hG.t 18 rfl) rfl (by simp) dX8_nextInt_21 rfl ?_
    obtain ⟨c4, h5, hf⟩ := bnd hf
    refine Wp.callSi (pc := 24) (st := []) (as := [.int c2.1]) (c_X8_isDigit hG h5) ml_RX8_83 ms_X8_isDigit mb_X8_isDigit hX (Nat.le_of_ble_eq_true rfl) (by decide) rfl (by simp) dX8_nextInt_24 rfl ?_
    refine Wp.if_eq (pc := 27) 68 dX8_nextInt_27 (by decide) (fun hc6 => ?_) (fun hc6 => ?_)
    · rw [if_pos hc6] at hf
      cases hf
      exact hk
    · rw [if_neg hc6] at hf
      refine Wp.aload_n (pc := 30) 0 rfl rfl dX8_nextInt_30 ?_
      refine Wp.aload_n (pc := 31) 0 rfl rfl dX8_nextInt_31 ?_
      refine Wp.getJ2 (pc := 32) (hG.t 18 rfl) fk_RX8_62 rfl dX8_nextInt_32 ?_
      refine Wp.ldc2 (pc := 35) (v := (10 : Int64)) (gw_tb 551 (by decide +kernel) rfl) dX8_nextInt_35 ?_
      refine Wp.lmul (pc := 38) dX8_nextInt_38 ?_
      refine Wp.aload_n (pc := 39) 0 rfl rfl dX8_nextInt_39 ?_
      refine Wp.aload_n (pc := 40) 0 rfl rfl dX8_nextInt_40 ?_
      refine Wp.getI2 (pc := 41) (hG.t 18 rfl) fk_RX8_56 rfl dX8_nextInt_41 ?_
      obtain ⟨c7, h8, hf⟩ := bnd hf
      refine Wp.callVi (pc := 44) (st := [.long ((hJ c4.2 18 7) * (10 : Int64)), .ref 18]) (as := [.int (hI c4.2 18 6)]) (c_X8_byteAt hG h8) ml_RX8_69 mv_X8_byteAt mb_X8_byteAt hX (Nat.le_of_ble_eq_true rfl) (by decide) rfl (hG.t 18 rfl) rfl (by simp [Value.category]) dX8_nextInt_44 rfl ?_
      refine Wp.bipush (pc := 47) (48 : Int32) (by decide) dX8_nextInt_47 ?_
      refine Wp.isub (pc := 49) dX8_nextInt_49 ?_
      refine Wp.i2l (pc := 50) dX8_nextInt_50 ?_
      refine Wp.ladd (pc := 51) dX8_nextInt_51 ?_
      obtain ⟨m9, h10, hf⟩ := bnd hf
      refine Wp.ptJ2 (pc := 52) h10 (hG.t 18 rfl) fk_RX8_62 ff_RX8_7_7 rfl dX8_nextInt_52 ?_
      refine Wp.aload_n (pc := 55) 0 rfl rfl dX8_nextInt_55 ?_
      refine Wp.dup (pc := 56) rfl dX8_nextInt_56 ?_
      refine Wp.getI2 (pc := 57) (hG.t 18 rfl) fk_RX8_56 rfl dX8_nextInt_57 ?_
      refine Wp.iconst (pc := 60) (1 : Int32) (by decide) dX8_nextInt_60 ?_
      refine Wp.iadd (pc := 61) dX8_nextInt_61 ?_
      obtain ⟨m11, h12, hf⟩ := bnd hf
      refine Wp.ptI2 (pc := 62) h12 (hG.t 18 rfl) fk_RX8_56 ff_RX8_7_6 rfl dX8_nextInt_62 ?_
      refine Wp.goto (pc := 65) 5 dX8_nextInt_65 (by decide) ?_
      cases hf
      exact hk
theorem wl_X8_nextInt_5 {X : CX} {T : List Dsc} {R : RM} {c e : Nat} {n1 n2 : Nat} {x1 : Int32} {m : M2} {e1 : ((M2))} (hX : XR X 2 n1 n2) (hG : Geo T R c e) (h : loop (g_X8_nextInt_5 x1) m = some e1) (he : Wp X cX8_nextInt RX8 2 T (mk e1 R) n1 n2 68 [(0, .ref 18), (1, .int x1)] []) : Wp X cX8_nextInt RX8 2 T (mk m R) n1 n2 5 [(0, .ref 18), (1, .int x1)] [] :=
  loop_ok (K := k_X8_nextInt_5 X T R n1 n2 x1) (fun s r hf hk => w_X8_nextInt_5 hX hG hf hk) h he
set_option maxHeartbeats 4000000 in
set_option maxRecDepth 100000 in
theorem w_X8_nextInt_83 {X : CX} {T : List Dsc} {R : RM} {c e : Nat} {n1 n2 : Nat} {s0 : Int32} {m : M2} {r : (Int32 × M2)} (hX : XR X 2 n1 n2) (hG : Geo T R c e) (hf : f_X8_nextInt_83 s0 m = some r) (hk : FnI X cX8_nextInt RX8 2 T n1 n2 (r.1, mk r.2 R)) : Wp X cX8_nextInt RX8 2 T (mk m R) n1 n2 83 [] [.int s0] := by
  unfold f_X8_nextInt_83 at hf
  cases hf
  exact hk _ _ dX8_nextInt_83
set_option maxHeartbeats 4000000 in
set_option maxRecDepth 100000 in
theorem w_X8_nextInt_68 {X : CX} {T : List Dsc} {R : RM} {c e : Nat} {n1 n2 : Nat} {x1 : Int32} {m : M2} {r : (Int32 × M2)} (hX : XR X 2 n1 n2) (hG : Geo T R c e) (hf : f_X8_nextInt_68 x1 m = some r) (hk : FnI X cX8_nextInt RX8 2 T n1 n2 (r.1, mk r.2 R)) : Wp X cX8_nextInt RX8 2 T (mk m R) n1 n2 68 [(0, .ref 18), (1, .int x1)] [] := by
  unfold f_X8_nextInt_68 at hf
  refine Wp.aload_n (pc := 68) 0 rfl rfl dX8_nextInt_68 ?_
  refine Wp.getI2 (pc := 69) (hG.t 18 rfl) fk_RX8_56 rfl dX8_nextInt_69 ?_
  refine Wp.iload_n (pc := 72) 1 rfl rfl dX8_nextInt_72 ?_
  refine Wp.isub (pc := 73) dX8_nextInt_73 ?_
  refine Wp.iconst (pc := 74) (4 : Int32) (by decide) dX8_nextInt_74 ?_
  refine Wp.icmp_le (pc := 75) 82 dX8_nextInt_75 (by decide) (fun hc1 => ?_) (fun hc1 => ?_)
  · rw [if_pos hc1] at hf
    refine Wp.iconst (pc := 82) (3 : Int32) (by decide) dX8_nextInt_82 ?_
    refine Wp.lo' (lo' := []) [] rfl ?_
    exact w_X8_nextInt_83 hX hG hf hk
  · rw [if_neg hc1] at hf
    refine Wp.iconst (pc := 78) (1 : Int32) (by decide) dX8_nextInt_78 ?_
    refine Wp.goto (pc := 79) 83 dX8_nextInt_79 (by decide) ?_
    refine Wp.lo' (lo' := []) [] rfl ?_
    exact w_X8_nextInt_83 hX hG hf hk
set_option maxHeartbeats 4000000 in
set_option maxRecDepth 100000 in
theorem w_X8_nextInt {X : CX} {T : List Dsc} {R : RM} {c e : Nat} {n1 n2 : Nat} {m : M2} {r : (Int32 × M2)} (hX : XR X 2 n1 n2) (hG : Geo T R c e) (hf : F_X8_nextInt m = some r) (hk : FnI X cX8_nextInt RX8 2 T n1 n2 (r.1, mk r.2 R)) : Wp X cX8_nextInt RX8 2 T (mk m R) n1 n2 0 [(0, .ref 18)] [] := by
  unfold F_X8_nextInt at hf
  refine Wp.aload_n (pc := 0) 0 rfl rfl dX8_nextInt_0 ?_
  refine Wp.getI2 (pc := 1) (hG.t 18 rfl) fk_RX8_56 rfl dX8_nextInt_1 ?_
  obtain ⟨v1, h2, hf⟩ := bnd hf
  refine Wp.nI' h2 ?_
  refine Wp.istore_n (pc := 4) (lo' := [(0, .ref 18), (1, .int v1)]) [1, 0] rfl (by decide) rfl dX8_nextInt_4 ?_
  obtain ⟨e3, h4, hf⟩ := bnd hf
  refine wl_X8_nextInt_5 hX hG h4 ?_
  exact w_X8_nextInt_68 hX hG hf hk
theorem c_X8_nextInt {T : List Dsc} {R : RM} {c e : Nat} {m : M2} {r : (Int32 × M2)} (hG : Geo T R c e) (hf : F_X8_nextInt m = some r) : Ct 2 yX8_nextInt cX8_nextInt 2 (some .int) T (mk m R) [.ref 18] (some (.int r.1)) (mk r.2 R) := Ct.ofI (r := (r.1, mk r.2 R)) (by decide +kernel) (Nat.le_of_ble_eq_true rfl) (fun X hX hk => w_X8_nextInt hX hG hf hk)
theorem dX8_nextSign_0 : decode cX8_nextSign 0 = .ok (.aload_n 0, 1) := by decide +kernel
theorem dX8_nextSign_1 : decode cX8_nextSign 1 = .ok (.dup, 1) := by decide +kernel
theorem dX8_nextSign_2 : decode cX8_nextSign 2 = .ok (.getfield 56, 3) := by decide +kernel
theorem dX8_nextSign_5 : decode cX8_nextSign 5 = .ok (.iconst 1, 1) := by decide +kernel
theorem dX8_nextSign_6 : decode cX8_nextSign 6 = .ok (.iadd, 1) := by decide +kernel
theorem dX8_nextSign_7 : decode cX8_nextSign 7 = .ok (.putfield 56, 3) := by decide +kernel
theorem dX8_nextSign_10 : decode cX8_nextSign 10 = .ok (.aload_n 0, 1) := by decide +kernel
theorem dX8_nextSign_11 : decode cX8_nextSign 11 = .ok (.aload_n 0, 1) := by decide +kernel
theorem dX8_nextSign_12 : decode cX8_nextSign 12 = .ok (.getfield 56, 3) := by decide +kernel
theorem dX8_nextSign_15 : decode cX8_nextSign 15 = .ok (.invokevirtual 69, 3) := by decide +kernel
theorem dX8_nextSign_18 : decode cX8_nextSign 18 = .ok (.bipush 61, 2) := by decide +kernel
theorem dX8_nextSign_20 : decode cX8_nextSign 20 = .ok (.if_icmp .ne 54, 3) := by decide +kernel
theorem dX8_nextSign_23 : decode cX8_nextSign 23 = .ok (.iload_n 1, 1) := by decide +kernel
theorem dX8_nextSign_24 : decode cX8_nextSign 24 = .ok (.bipush 61, 2) := by decide +kernel
theorem dX8_nextSign_26 : decode cX8_nextSign 26 = .ok (.if_icmp .eq 15, 3) := by decide +kernel
theorem dX8_nextSign_29 : decode cX8_nextSign 29 = .ok (.iload_n 1, 1) := by decide +kernel
theorem dX8_nextSign_30 : decode cX8_nextSign 30 = .ok (.bipush 33, 2) := by decide +kernel
theorem dX8_nextSign_32 : decode cX8_nextSign 32 = .ok (.if_icmp .eq 9, 3) := by decide +kernel
theorem dX8_nextSign_35 : decode cX8_nextSign 35 = .ok (.iload_n 1, 1) := by decide +kernel
theorem dX8_nextSign_36 : decode cX8_nextSign 36 = .ok (.bipush 60, 2) := by decide +kernel
theorem dX8_nextSign_38 : decode cX8_nextSign 38 = .ok (.if_icmp .ne 36, 3) := by decide +kernel
theorem dX8_nextSign_41 : decode cX8_nextSign 41 = .ok (.aload_n 0, 1) := by decide +kernel
theorem dX8_nextSign_42 : decode cX8_nextSign 42 = .ok (.dup, 1) := by decide +kernel
theorem dX8_nextSign_43 : decode cX8_nextSign 43 = .ok (.getfield 56, 3) := by decide +kernel
theorem dX8_nextSign_46 : decode cX8_nextSign 46 = .ok (.iconst 1, 1) := by decide +kernel
theorem dX8_nextSign_47 : decode cX8_nextSign 47 = .ok (.iadd, 1) := by decide +kernel
theorem dX8_nextSign_48 : decode cX8_nextSign 48 = .ok (.putfield 56, 3) := by decide +kernel
theorem dX8_nextSign_51 : decode cX8_nextSign 51 = .ok (.iload_n 1, 1) := by decide +kernel
theorem dX8_nextSign_52 : decode cX8_nextSign 52 = .ok (.bipush 61, 2) := by decide +kernel
theorem dX8_nextSign_54 : decode cX8_nextSign 54 = .ok (.if_icmp .ne 6, 3) := by decide +kernel
theorem dX8_nextSign_57 : decode cX8_nextSign 57 = .ok (.bipush 11, 2) := by decide +kernel
theorem dX8_nextSign_59 : decode cX8_nextSign 59 = .ok (.ireturn, 1) := by decide +kernel
theorem dX8_nextSign_60 : decode cX8_nextSign 60 = .ok (.iload_n 1, 1) := by decide +kernel
theorem dX8_nextSign_61 : decode cX8_nextSign 61 = .ok (.bipush 33, 2) := by decide +kernel
theorem dX8_nextSign_63 : decode cX8_nextSign 63 = .ok (.if_icmp .ne 8, 3) := by decide +kernel
theorem dX8_nextSign_66 : decode cX8_nextSign 66 = .ok (.bipush 12, 2) := by decide +kernel
theorem dX8_nextSign_68 : decode cX8_nextSign 68 = .ok (.goto 5, 3) := by decide +kernel
theorem dX8_nextSign_71 : decode cX8_nextSign 71 = .ok (.bipush 14, 2) := by decide +kernel
theorem dX8_nextSign_73 : decode cX8_nextSign 73 = .ok (.ireturn, 1) := by decide +kernel
theorem dX8_nextSign_74 : decode cX8_nextSign 74 = .ok (.iload_n 1, 1) := by decide +kernel
theorem dX8_nextSign_75 : decode cX8_nextSign 75 = .ok (.tableswitch 129 40 61 #[123, 126, 114, 108, 105, 111, 129, 117, 129, 129, 129, 129, 129, 129, 129, 129, 129, 129, 129, 101, 120, 103], 101) := by decide +kernel
theorem dX8_nextSign_176 : decode cX8_nextSign 176 = .ok (.iconst 4, 1) := by decide +kernel
theorem dX8_nextSign_177 : decode cX8_nextSign 177 = .ok (.ireturn, 1) := by decide +kernel
theorem dX8_nextSign_178 : decode cX8_nextSign 178 = .ok (.iconst 5, 1) := by decide +kernel
theorem dX8_nextSign_179 : decode cX8_nextSign 179 = .ok (.ireturn, 1) := by decide +kernel
theorem dX8_nextSign_180 : decode cX8_nextSign 180 = .ok (.bipush 6, 2) := by decide +kernel
theorem dX8_nextSign_182 : decode cX8_nextSign 182 = .ok (.ireturn, 1) := by decide +kernel
theorem dX8_nextSign_183 : decode cX8_nextSign 183 = .ok (.bipush 7, 2) := by decide +kernel
theorem dX8_nextSign_185 : decode cX8_nextSign 185 = .ok (.ireturn, 1) := by decide +kernel
theorem dX8_nextSign_186 : decode cX8_nextSign 186 = .ok (.bipush 8, 2) := by decide +kernel
theorem dX8_nextSign_188 : decode cX8_nextSign 188 = .ok (.ireturn, 1) := by decide +kernel
theorem dX8_nextSign_189 : decode cX8_nextSign 189 = .ok (.bipush 9, 2) := by decide +kernel
theorem dX8_nextSign_191 : decode cX8_nextSign 191 = .ok (.ireturn, 1) := by decide +kernel
theorem dX8_nextSign_192 : decode cX8_nextSign 192 = .ok (.bipush 10, 2) := by decide +kernel
theorem dX8_nextSign_194 : decode cX8_nextSign 194 = .ok (.ireturn, 1) := by decide +kernel
theorem dX8_nextSign_195 : decode cX8_nextSign 195 = .ok (.bipush 13, 2) := by decide +kernel
theorem dX8_nextSign_197 : decode cX8_nextSign 197 = .ok (.ireturn, 1) := by decide +kernel
theorem dX8_nextSign_198 : decode cX8_nextSign 198 = .ok (.bipush 15, 2) := by decide +kernel
theorem dX8_nextSign_200 : decode cX8_nextSign 200 = .ok (.ireturn, 1) := by decide +kernel
theorem dX8_nextSign_201 : decode cX8_nextSign 201 = .ok (.bipush 16, 2) := by decide +kernel
theorem dX8_nextSign_203 : decode cX8_nextSign 203 = .ok (.ireturn, 1) := by decide +kernel
theorem dX8_nextSign_204 : decode cX8_nextSign 204 = .ok (.iconst 1, 1) := by decide +kernel
theorem dX8_nextSign_205 : decode cX8_nextSign 205 = .ok (.ireturn, 1) := by decide +kernel
set_option maxHeartbeats 4000000 in
set_option maxRecDepth 100000 in
theorem w_X8_nextSign_73 {X : CX} {T : List Dsc} {R : RM} {c e : Nat} {n1 n2 : Nat} {s0 : Int32} {m : M2} {r : (Int32 × M2)} (hX : XR X 2 n1 n2) (hG : Geo T R c e) (hf : f_X8_nextSign_73 s0 m = some r) (hk : FnI X cX8_nextSign RX8 2 T n1 n2 (r.1, mk r.2 R)) : Wp X cX8_nextSign RX8 2 T (mk m R) n1 n2 73 [] [.int s0] := by
  unfold f_X8_nextSign_73 at hf
  cases hf
  exact hk _ _ dX8_nextSign_73
set_option maxHeartbeats 4000000 in
set_option maxRecDepth 100000 in
theorem w_X8_nextSign_41 {X : CX} {T : List Dsc} {R : RM} {c e : Nat} {n1 n2 : Nat} {x1 : Int32} {m : M2} {r : (Int32 × M2)} (hX : XR X 2 n1 n2) (hG : Geo T R c e) (hf : f_X8_nextSign_41 x1 m = some r) (hk : FnI X cX8_nextSign RX8 2 T n1 n2 (r.1, mk r.2 R)) : Wp X cX8_nextSign RX8 2 T (mk m R) n1 n2 41 [(0, .ref 18), (1, .int x1)] [] := by
  unfold f_X8_nextSign_41 at hf
  refine Wp.aload_n (pc := 41) 0 rfl rfl dX8_nextSign_41 ?_
  refine Wp.dup (pc := 42) rfl dX8_nextSign_42 ?_
  refine Wp.getI2 (pc := 43) (hG.t 18 rfl) fk_RX8_56 rfl dX8_nextSign_43 ?_
  refine Wp.iconst (pc := 46) (1 : Int32) (by decide) dX8_nextSign_46 ?_
  refine Wp.iadd (pc := 47) dX8_nextSign_47 ?_
  obtain ⟨m1, h2, hf⟩ := bnd hf
  refine Wp.ptI2 (pc := 48) h2 (hG.t 18 rfl) fk_RX8_56 ff_RX8_7_6 rfl dX8_nextSign_48 ?_
  refine Wp.iload_n (pc := 51) 1 rfl rfl dX8_nextSign_51 ?_
  refine Wp.bipush (pc := 52) (61 : Int32) (by decide) dX8_nextSign_52 ?_
  refine Wp.icmp_ne (pc := 54) 60 dX8_nextSign_54 (by decide) (fun hc3 => ?_) (fun hc3 => ?_)
  · rw [if_neg hc3] at hf
    refine Wp.iload_n (pc := 60) 1 rfl rfl dX8_nextSign_60 ?_
    refine Wp.bipush (pc := 61) (33 : Int32) (by decide) dX8_nextSign_61 ?_
    refine Wp.icmp_ne (pc := 63) 71 dX8_nextSign_63 (by decide) (fun hc4 => ?_) (fun hc4 => ?_)
    · rw [if_neg hc4] at hf
      refine Wp.bipush (pc := 71) (14 : Int32) (by decide) dX8_nextSign_71 ?_
      refine Wp.lo' (lo' := []) [] rfl ?_
      exact w_X8_nextSign_73 hX hG hf hk
    · rw [if_pos hc4] at hf
      refine Wp.bipush (pc := 66) (12 : Int32) (by decide) dX8_nextSign_66 ?_
      refine Wp.goto (pc := 68) 73 dX8_nextSign_68 (by decide) ?_
      refine Wp.lo' (lo' := []) [] rfl ?_
      exact w_X8_nextSign_73 hX hG hf hk
  · rw [if_pos hc3] at hf
    refine Wp.bipush (pc := 57) (11 : Int32) (by decide) dX8_nextSign_57 ?_
    cases hf
    exact hk _ _ dX8_nextSign_59
set_option maxHeartbeats 4000000 in
set_option maxRecDepth 100000 in
theorem w_X8_nextSign_74 {X : CX} {T : List Dsc} {R : RM} {c e : Nat} {n1 n2 : Nat} {x1 : Int32} {m : M2} {r : (Int32 × M2)} (hX : XR X 2 n1 n2) (hG : Geo T R c e) (hf : f_X8_nextSign_74 x1 m = some r) (hk : FnI X cX8_nextSign RX8 2 T n1 n2 (r.1, mk r.2 R)) : Wp X cX8_nextSign RX8 2 T (mk m R) n1 n2 74 [(1, .int x1)] [] := by
  unfold f_X8_nextSign_74 at hf
  refine Wp.iload_n (pc := 74) 0 rfl rfl dX8_nextSign_74 ?_
  by_cases hc1 : x1 = (40 : Int32)
  · rw [if_pos hc1] at hf
    refine Wp.swIn (pc := 75) 198 dX8_nextSign_75 hc1 (by decide) (by decide) rfl (by decide) ?_
    refine Wp.bipush (pc := 198) (15 : Int32) (by decide) dX8_nextSign_198 ?_
    cases hf
    exact hk _ _ dX8_nextSign_200
  · rw [if_neg hc1] at hf
    by_cases hc2 : x1 = (41 : Int32)
    · rw [if_pos hc2] at hf
      refine Wp.swIn (pc := 75) 201 dX8_nextSign_75 hc2 (by decide) (by decide) rfl (by decide) ?_
      refine Wp.bipush (pc := 201) (16 : Int32) (by decide) dX8_nextSign_201 ?_
      cases hf
      exact hk _ _ dX8_nextSign_203
    · rw [if_neg hc2] at hf
      by_cases hc3 : x1 = (42 : Int32)
      · rw [if_pos hc3] at hf
        refine Wp.swIn (pc := 75) 189 dX8_nextSign_75 hc3 (by decide) (by decide) rfl (by decide) ?_
        refine Wp.bipush (pc := 189) (9 : Int32) (by decide) dX8_nextSign_189 ?_
        cases hf
        exact hk _ _ dX8_nextSign_191
      · rw [if_neg hc3] at hf
        by_cases hc4 : x1 = (43 : Int32)
        · rw [if_pos hc4] at hf
          refine Wp.swIn (pc := 75) 183 dX8_nextSign_75 hc4 (by decide) (by decide) rfl (by decide) ?_
          refine Wp.bipush (pc := 183) (7 : Int32) (by decide) dX8_nextSign_183 ?_
          cases hf
          exact hk _ _ dX8_nextSign_185
        · rw [if_neg hc4] at hf
          by_cases hc5 : x1 = (44 : Int32)
          · rw [if_pos hc5] at hf
            refine Wp.swIn (pc := 75) 180 dX8_nextSign_75 hc5 (by decide) (by decide) rfl (by decide) ?_
            refine Wp.bipush (pc := 180) (6 : Int32) (by decide) dX8_nextSign_180 ?_
            cases hf
            exact hk _ _ dX8_nextSign_182
          · rw [if_neg hc5] at hf
            by_cases hc6 : x1 = (45 : Int32)
            · rw [if_pos hc6] at hf
              refine Wp.swIn (pc := 75) 186 dX8_nextSign_75 hc6 (by decide) (by decide) rfl (by decide) ?_
              refine Wp.bipush (pc := 186) (8 : Int32) (by decide) dX8_nextSign_186 ?_
              cases hf
              exact hk _ _ dX8_nextSign_188
            · rw [if_neg hc6] at hf
              by_cases hc7 : x1 = (46 : Int32)
              · rw [if_pos hc7] at hf
                refine Wp.swIn (pc := 75) 204 dX8_nextSign_75 hc7 (by decide) (by decide) rfl (by decide) ?_
                refine Wp.iconst (pc := 204) (1 : Int32) (by decide) dX8_nextSign_204 ?_
                cases hf
                exact hk _ _ dX8_nextSign_205
              · rw [if_neg hc7] at hf
                by_cases hc8 : x1 = (47 : Int32)
                · rw [if_pos hc8] at hf
                  refine Wp.swIn (pc := 75) 192 dX8_nextSign_75 hc8 (by decide) (by decide) rfl (by decide) ?_
                  refine Wp.bipush (pc := 192) (10 : Int32) (by decide) dX8_nextSign_192 ?_
                  cases hf
                  exact hk _ _ dX8_nextSign_194
                · rw [if_neg hc8] at hf
                  by_cases hc9 : x1 = (48 : Int32)
                  · rw [if_pos hc9] at hf
                    refine Wp.swIn (pc := 75) 204 dX8_nextSign_75 hc9 (by decide) (by decide) rfl (by decide) ?_
                    refine Wp.iconst (pc := 204) (1 : Int32) (by decide) dX8_nextSign_204 ?_
                    cases hf
                    exact hk _ _ dX8_nextSign_205
                  · rw [if_neg hc9] at hf
                    by_cases hc10 : x1 = (49 : Int32)
                    · rw [if_pos hc10] at hf
                      refine Wp.swIn (pc := 75) 204 dX8_nextSign_75 hc10 (by decide) (by decide) rfl (by decide) ?_
                      refine Wp.iconst (pc := 204) (1 : Int32) (by decide) dX8_nextSign_204 ?_
                      cases hf
                      exact hk _ _ dX8_nextSign_205
                    · rw [if_neg hc10] at hf
                      by_cases hc11 : x1 = (50 : Int32)
                      · rw [if_pos hc11] at hf
                        refine Wp.swIn (pc := 75) 204 dX8_nextSign_75 hc11 (by decide) (by decide) rfl (by decide) ?_
                        refine Wp.iconst (pc := 204) (1 : Int32) (by decide) dX8_nextSign_204 ?_
                        cases hf
                        exact hk _ _ dX8_nextSign_205
                      · rw [if_neg hc11] at hf
                        by_cases hc12 : x1 = (51 : Int32)
                        · rw [if_pos hc12] at hf
                          refine Wp.swIn (pc := 75) 204 dX8_nextSign_75 hc12 (by decide) (by decide) rfl (by decide) ?_
                          refine Wp.iconst (pc := 204) (1 : Int32) (by decide) dX8_nextSign_204 ?_
                          cases hf
                          exact hk _ _ dX8_nextSign_205
                        · rw [if_neg hc12] at hf
                          by_cases hc13 : x1 = (52 : Int32)
                          · rw [if_pos hc13] at hf
                            refine Wp.swIn (pc := 75) 204 dX8_nextSign_75 hc13 (by decide) (by decide) rfl (by decide) ?_
                            refine Wp.iconst (pc := 204) (1 : Int32) (by decide) dX8_nextSign_204 ?_
                            cases hf
                            exact hk _ _ dX8_nextSign_205
                          · rw [if_neg hc13] at hf
                            by_cases hc14 : x1 = (53 : Int32)
                            · rw [if_pos hc14] at hf
                              refine Wp.swIn (pc := 75) 204 dX8_nextSign_75 hc14 (by decide) (by decide) rfl (by decide) ?_
                              refine Wp.iconst (pc := 204) (1 : Int32) (by decide) dX8_nextSign_204 ?_
                              cases hf
                              exact hk _ _ dX8_nextSign_205
                            · rw [if_neg hc14] at hf
                              by_cases hc15 : x1 = (54 : Int32)
                              · rw [if_pos hc15] at hf
                                refine Wp.swIn (pc := 75) 204 dX8_nextSign_75 hc15 (by decide) (by decide) rfl (by decide) ?_
                                refine Wp.iconst (pc := 204) (1 : Int32) (by decide) dX8_nextSign_204 ?_
                                cases hf
                                exact hk _ _ dX8_nextSign_205
                              · rw [if_neg hc15] at hf
                                by_cases hc16 : x1 = (55 : Int32)
                                · rw [if_pos hc16] at hf
                                  refine Wp.swIn (pc := 75) 204 dX8_nextSign_75 hc16 (by decide) (by decide) rfl (by decide) ?_
                                  refine Wp.iconst (pc := 204) (1 : Int32) (by decide) dX8_nextSign_204 ?_
                                  cases hf
                                  exact hk _ _ dX8_nextSign_205
                                · rw [if_neg hc16] at hf
                                  by_cases hc17 : x1 = (56 : Int32)
                                  · rw [if_pos hc17] at hf
                                    refine Wp.swIn (pc := 75) 204 dX8_nextSign_75 hc17 (by decide) (by decide) rfl (by decide) ?_
                                    refine Wp.iconst (pc := 204) (1 : Int32) (by decide) dX8_nextSign_204 ?_
                                    cases hf
                                    exact hk _ _ dX8_nextSign_205
                                  · rw [if_neg hc17] at hf
                                    by_cases hc18 : x1 = (57 : Int32)
                                    · rw [if_pos hc18] at hf
                                      refine Wp.swIn (pc := 75) 204 dX8_nextSign_75 hc18 (by decide) (by decide) rfl (by decide) ?_
                                      refine Wp.iconst (pc := 204) (1 : Int32) (by decide) dX8_nextSign_204 ?_
                                      cases hf
                                      exact hk _ _ dX8_nextSign_205
                                    · rw [if_neg hc18] at hf
                                      by_cases hc19 : x1 = (58 : Int32)
                                      · rw [if_pos hc19] at hf
                                        refine Wp.swIn (pc := 75) 204 dX8_nextSign_75 hc19 (by decide) (by decide) rfl (by decide) ?_
                                        refine Wp.iconst (pc := 204) (1 : Int32) (by decide) dX8_nextSign_204 ?_
                                        cases hf
                                        exact hk _ _ dX8_nextSign_205
                                      · rw [if_neg hc19] at hf
                                        by_cases hc20 : x1 = (59 : Int32)
                                        · rw [if_pos hc20] at hf
                                          refine Wp.swIn (pc := 75) 176 dX8_nextSign_75 hc20 (by decide) (by decide) rfl (by decide) ?_
                                          refine Wp.iconst (pc := 176) (4 : Int32) (by decide) dX8_nextSign_176 ?_
                                          cases hf
                                          exact hk _ _ dX8_nextSign_177
                                        · rw [if_neg hc20] at hf
                                          by_cases hc21 : x1 = (60 : Int32)
                                          · rw [if_pos hc21] at hf
                                            refine Wp.swIn (pc := 75) 195 dX8_nextSign_75 hc21 (by decide) (by decide) rfl (by decide) ?_
                                            refine Wp.bipush (pc := 195) (13 : Int32) (by decide) dX8_nextSign_195 ?_
                                            cases hf
                                            exact hk _ _ dX8_nextSign_197
                                          · rw [if_neg hc21] at hf
                                            by_cases hc22 : x1 = (61 : Int32)
                                            · rw [if_pos hc22] at hf
                                              refine Wp.swIn (pc := 75) 178 dX8_nextSign_75 hc22 (by decide) (by decide) rfl (by decide) ?_
                                              refine Wp.iconst (pc := 178) (5 : Int32) (by decide) dX8_nextSign_178 ?_
                                              cases hf
                                              exact hk _ _ dX8_nextSign_179
                                            · rw [if_neg hc22] at hf
                                              refine Wp.swOut (pc := 75) 204 dX8_nextSign_75 (swx (fun k h1 h2 => ?_)) (by decide) ?_
                                              · have z0 := lv_neT hc1 (a := 40) (by decide); have z1 := lv_neT hc2 (a := 41) (by decide); have z2 := lv_neT hc3 (a := 42) (by decide); have z3 := lv_neT hc4 (a := 43) (by decide); have z4 := lv_neT hc5 (a := 44) (by decide); have z5 := lv_neT hc6 (a := 45) (by decide); have z6 := lv_neT hc7 (a := 46) (by decide); have z7 := lv_neT hc8 (a := 47) (by decide); have z8 := lv_neT hc9 (a := 48) (by decide); have z9 := lv_neT hc10 (a := 49) (by decide); have z10 := lv_neT hc11 (a := 50) (by decide); have z11 := lv_neT hc12 (a := 51) (by decide); have z12 := lv_neT hc13 (a := 52) (by decide); have z13 := lv_neT hc14 (a := 53) (by decide); have z14 := lv_neT hc15 (a := 54) (by decide); have z15 := lv_neT hc16 (a := 55) (by decide); have z16 := lv_neT hc17 (a := 56) (by decide); have z17 := lv_neT hc18 (a := 57) (by decide); have z18 := lv_neT hc19 (a := 58) (by decide); have z19 := lv_neT hc20 (a := 59) (by decide); have z20 := lv_neT hc21 (a := 60) (by decide); have z21 := lv_neT hc22 (a := 61) (by decide); omega
                                              · skip
                                                refine Wp.iconst (pc := 204) (1 : Int32) (by decide) dX8_nextSign_204 ?_
                                                cases hf
                                                exact hk _ _ dX8_nextSign_205
set_option maxHeartbeats 4000000 in
set_option maxRecDepth 100000 in
theorem w_X8_nextSign {X : CX} {T : List Dsc} {R : RM} {c e : Nat} {n1 n2 : Nat} {x1 : Int32} {m : M2} {r : (Int32 × M2)} (hX : XR X 2 n1 n2) (hG : Geo T R c e) (hf : F_X8_nextSign x1 m = some r) (hk : FnI X cX8_nextSign RX8 2 T n1 n2 (r.1, mk r.2 R)) : Wp X cX8_nextSign RX8 2 T (mk m R) n1 n2 0 [(0, .ref 18), (1, .int x1)] [] := by
  unfold F_X8_nextSign at hf
  refine Wp.aload_n (pc := 0) 0 rfl rfl dX8_nextSign_0 ?_
  refine Wp.dup (pc := 1) rfl dX8_nextSign_1 ?_
  refine Wp.getI2 (pc := 2) (hG.t 18 rfl) fk_RX8_56 rfl dX8_nextSign_2 ?_
  refine Wp.iconst (pc := 5) (1 : Int32) (by decide) dX8_nextSign_5 ?_
  refine Wp.iadd (pc := 6) dX8_nextSign_6 ?_
  obtain ⟨m1, h2, hf⟩ := bnd hf
  refine Wp.ptI2 (pc := 7) h2 (hG.t 18 rfl) fk_RX8_56 ff_RX8_7_6 rfl dX8_nextSign_7 ?_
  refine Wp.aload_n (pc := 10) 0 rfl rfl dX8_nextSign_10 ?_
  refine Wp.aload_n (pc := 11) 0 rfl rfl dX8_nextSign_11 ?_
  refine Wp.getI2 (pc := 12) (hG.t 18 rfl) fk_RX8_56 rfl dX8_nextSign_12 ?_
  obtain ⟨c3, h4, hf⟩ := bnd hf
  refine Wp.callVi (pc := 15) (st := []) (as := [.int (hI m1 18 6)]) (c_X8_byteAt hG h4) ml_RX8_69 mv_X8_byteAt mb_X8_byteAt hX (Nat.le_of_ble_eq_true rfl) (by decide) rfl (hG.t 18 rfl) rfl (by simp) dX8_nextSign_15 rfl ?_
  refine Wp.bipush (pc := 18) (61 : Int32) (by decide) dX8_nextSign_18 ?_
  refine Wp.icmp_ne (pc := 20) 74 dX8_nextSign_20 (by decide) (fun hc5 => ?_) (fun hc5 => ?_)
  · rw [if_neg hc5] at hf
    refine Wp.lo' (lo' := [(1, .int x1)]) [1] rfl ?_
    exact w_X8_nextSign_74 hX hG hf hk
  · rw [if_pos hc5] at hf
    refine Wp.iload_n (pc := 23) 1 rfl rfl dX8_nextSign_23 ?_
    refine Wp.bipush (pc := 24) (61 : Int32) (by decide) dX8_nextSign_24 ?_
    refine Wp.icmp_eq (pc := 26) 41 dX8_nextSign_26 (by decide) (fun hc6 => ?_) (fun hc6 => ?_)
    · rw [if_pos hc6] at hf
      exact w_X8_nextSign_41 hX hG hf hk
    · rw [if_neg hc6] at hf
      refine Wp.iload_n (pc := 29) 1 rfl rfl dX8_nextSign_29 ?_
      refine Wp.bipush (pc := 30) (33 : Int32) (by decide) dX8_nextSign_30 ?_
      refine Wp.icmp_eq (pc := 32) 41 dX8_nextSign_32 (by decide) (fun hc7 => ?_) (fun hc7 => ?_)
      · rw [if_pos hc7] at hf
        exact w_X8_nextSign_41 hX hG hf hk
      · rw [if_neg hc7] at hf
        refine Wp.iload_n (pc := 35) 1 rfl rfl dX8_nextSign_35 ?_
        refine Wp.bipush (pc := 36) (60 : Int32) (by decide) dX8_nextSign_36 ?_
        refine Wp.icmp_ne (pc := 38) 74 dX8_nextSign_38 (by decide) (fun hc8 => ?_) (fun hc8 => ?_)
        · rw [if_neg hc8] at hf
          refine Wp.lo' (lo' := [(1, .int x1)]) [1] rfl ?_
          exact w_X8_nextSign_74 hX hG hf hk
        · rw [if_pos hc8] at hf
          exact w_X8_nextSign_41 hX hG hf hk
theorem c_X8_nextSign {T : List Dsc} {R : RM} {c e : Nat} {x1 : Int32} {m : M2} {r : (Int32 × M2)} (hG : Geo T R c e) (hf : F_X8_nextSign x1 m = some r) : Ct 2 yX8_nextSign cX8_nextSign 2 (some .int) T (mk m R) [.ref 18, .int x1] (some (.int r.1)) (mk r.2 R) := Ct.ofI (r := (r.1, mk r.2 R)) (by decide +kernel) (Nat.le_of_ble_eq_true rfl) (fun X hX hk => w_X8_nextSign hX hG hf hk)
theorem dX8_nextKind_0 : decode cX8_nextKind 0 = .ok (.aload_n 0, 1) := by decide +kernel
theorem dX8_nextKind_1 : decode cX8_nextKind 1 = .ok (.aload_n 0, 1) := by decide +kernel
theorem dX8_nextKind_2 : decode cX8_nextKind 2 = .ok (.getfield 56, 3) := by decide +kernel
theorem dX8_nextKind_5 : decode cX8_nextKind 5 = .ok (.invokevirtual 69, 3) := by decide +kernel
theorem dX8_nextKind_8 : decode cX8_nextKind 8 = .ok (.istore_n 1, 1) := by decide +kernel
theorem dX8_nextKind_9 : decode cX8_nextKind 9 = .ok (.iload_n 1, 1) := by decide +kernel
theorem dX8_nextKind_10 : decode cX8_nextKind 10 = .ok (.ifCond .ge 5, 3) := by decide +kernel
theorem dX8_nextKind_13 : decode cX8_nextKind 13 = .ok (.iconst 0, 1) := by decide +kernel
theorem dX8_nextKind_14 : decode cX8_nextKind 14 = .ok (.ireturn, 1) := by decide +kernel
theorem dX8_nextKind_15 : decode cX8_nextKind 15 = .ok (.iload_n 1, 1) := by decide +kernel
theorem dX8_nextKind_16 : decode cX8_nextKind 16 = .ok (.invokestatic 77, 3) := by decide +kernel
theorem dX8_nextKind_19 : decode cX8_nextKind 19 = .ok (.ifCond .eq 8, 3) := by decide +kernel
theorem dX8_nextKind_22 : decode cX8_nextKind 22 = .ok (.aload_n 0, 1) := by decide +kernel
theorem dX8_nextKind_23 : decode cX8_nextKind 23 = .ok (.invokevirtual 80, 3) := by decide +kernel
theorem dX8_nextKind_26 : decode cX8_nextKind 26 = .ok (.ireturn, 1) := by decide +kernel
theorem dX8_nextKind_27 : decode cX8_nextKind 27 = .ok (.iload_n 1, 1) := by decide +kernel
theorem dX8_nextKind_28 : decode cX8_nextKind 28 = .ok (.invokestatic 83, 3) := by decide +kernel
theorem dX8_nextKind_31 : decode cX8_nextKind 31 = .ok (.ifCond .eq 10, 3) := by decide +kernel
theorem dX8_nextKind_34 : decode cX8_nextKind 34 = .ok (.aload_n 0, 1) := by decide +kernel
theorem dX8_nextKind_35 : decode cX8_nextKind 35 = .ok (.invokevirtual 86, 3) := by decide +kernel
theorem dX8_nextKind_38 : decode cX8_nextKind 38 = .ok (.goto 8, 3) := by decide +kernel
theorem dX8_nextKind_41 : decode cX8_nextKind 41 = .ok (.aload_n 0, 1) := by decide +kernel
theorem dX8_nextKind_42 : decode cX8_nextKind 42 = .ok (.iload_n 1, 1) := by decide +kernel
theorem dX8_nextKind_43 : decode cX8_nextKind 43 = .ok (.invokevirtual 89, 3) := by decide +kernel
theorem dX8_nextKind_46 : decode cX8_nextKind 46 = .ok (.ireturn, 1) := by decide +kernel
set_option maxHeartbeats 4000000 in
set_option maxRecDepth 100000 in
theorem w_X8_nextKind_46 {X : CX} {T : List Dsc} {R : RM} {c e : Nat} {n1 n2 : Nat} {s0 : Int32} {m : M2} {r : (Int32 × M2)} (hX : XR X 3 n1 n2) (hG : Geo T R c e) (hf : f_X8_nextKind_46 s0 m = some r) (hk : FnI X cX8_nextKind RX8 2 T n1 n2 (r.1, mk r.2 R)) : Wp X cX8_nextKind RX8 2 T (mk m R) n1 n2 46 [] [.int s0] := by
  unfold f_X8_nextKind_46 at hf
  cases hf
  exact hk _ _ dX8_nextKind_46
set_option maxHeartbeats 4000000 in
set_option maxRecDepth 100000 in
theorem w_X8_nextKind {X : CX} {T : List Dsc} {R : RM} {c e : Nat} {n1 n2 : Nat} {m : M2} {r : (Int32 × M2)} (hX : XR X 3 n1 n2) (hG : Geo T R c e) (hf : F_X8_nextKind m = some r) (hk : FnI X cX8_nextKind RX8 2 T n1 n2 (r.1, mk r.2 R)) : Wp X cX8_nextKind RX8 2 T (mk m R) n1 n2 0 [(0, .ref 18)] [] := by
  unfold F_X8_nextKind at hf
  refine Wp.aload_n (pc := 0) 0 rfl rfl dX8_nextKind_0 ?_
  refine Wp.aload_n (pc := 1) 0 rfl rfl dX8_nextKind_1 ?_
  refine Wp.getI2 (pc := 2) (hG.t 18 rfl) fk_RX8_56 rfl dX8_nextKind_2 ?_
  obtain ⟨c1, h2, hf⟩ := bnd hf
  refine Wp.callVi (pc := 5) (st := []) (as := [.int (hI m 18 6)]) (c_X8_byteAt hG h2) ml_RX8_69 mv_X8_byteAt mb_X8_byteAt hX (Nat.le_of_ble_eq_true rfl) (by decide) rfl (hG.t 18 rfl) rfl (by simp) dX8_nextKind_5 rfl ?_
  refine Wp.istore_n (pc := 8) (lo' := [(0, .ref 18), (1, .int c1.1)]) [1, 0] rfl (by decide) rfl dX8_nextKind_8 ?_
  refine Wp.iload_n (pc := 9) 1 rfl rfl dX8_nextKind_9 ?_
  refine Wp.if_ge (pc := 10) 15 dX8_nextKind_10 (by decide) (fun hc3 => ?_) (fun hc3 => ?_)
  · rw [if_pos hc3] at hf
    refine Wp.iload_n (pc := 15) 1 rfl rfl dX8_nextKind_15 ?_
    obtain ⟨c4, h5, hf⟩ := bnd hf
    refine Wp.callSi (pc := 16) (st := []) (as := [.int c1.1]) (c_X8_isLetter hG h5) ml_RX8_77 ms_X8_isLetter mb_X8_isLetter hX (Nat.le_of_ble_eq_true rfl) (by decide) rfl (by simp) dX8_nextKind_16 rfl ?_
    refine Wp.if_eq (pc := 19) 27 dX8_nextKind_19 (by decide) (fun hc6 => ?_) (fun hc6 => ?_)
    · rw [if_pos hc6] at hf
      refine Wp.iload_n (pc := 27) 1 rfl rfl dX8_nextKind_27 ?_
      obtain ⟨c7, h8, hf⟩ := bnd hf
      refine Wp.callSi (pc := 28) (st := []) (as := [.int c1.1]) (c_X8_isDigit hG h8) ml_RX8_83 ms_X8_isDigit mb_X8_isDigit hX (Nat.le_of_ble_eq_true rfl) (by decide) rfl (by simp) dX8_nextKind_28 rfl ?_
      refine Wp.if_eq (pc := 31) 41 dX8_nextKind_31 (by decide) (fun hc9 => ?_) (fun hc9 => ?_)
      · rw [if_pos hc9] at hf
        refine Wp.aload_n (pc := 41) 0 rfl rfl dX8_nextKind_41 ?_
        refine Wp.iload_n (pc := 42) 1 rfl rfl dX8_nextKind_42 ?_
        obtain ⟨c10, h11, hf⟩ := bnd hf
        refine Wp.callVi (pc := 43) (st := []) (as := [.int c1.1]) (c_X8_nextSign hG h11) ml_RX8_89 mv_X8_nextSign mb_X8_nextSign hX (Nat.le_of_ble_eq_true rfl) (by decide) rfl (hG.t 18 rfl) rfl (by simp) dX8_nextKind_43 rfl ?_
        refine Wp.lo' (lo' := []) [] rfl ?_
        exact w_X8_nextKind_46 hX hG hf hk
      · rw [if_neg hc9] at hf
        refine Wp.aload_n (pc := 34) 0 rfl rfl dX8_nextKind_34 ?_
        obtain ⟨c12, h13, hf⟩ := bnd hf
        refine Wp.callVi (pc := 35) (st := []) (as := []) (c_X8_nextInt hG h13) ml_RX8_86 mv_X8_nextInt mb_X8_nextInt hX (Nat.le_of_ble_eq_true rfl) (by decide) rfl (hG.t 18 rfl) rfl (by simp) dX8_nextKind_35 rfl ?_
        refine Wp.goto (pc := 38) 46 dX8_nextKind_38 (by decide) ?_
        refine Wp.lo' (lo' := []) [] rfl ?_
        exact w_X8_nextKind_46 hX hG hf hk
    · rw [if_neg hc6] at hf
      refine Wp.aload_n (pc := 22) 0 rfl rfl dX8_nextKind_22 ?_
      obtain ⟨c14, h15, hf⟩ := bnd hf
      refine Wp.callVi (pc := 23) (st := []) (as := []) (c_X8_nextWord hG h15) ml_RX8_80 mv_X8_nextWord mb_X8_nextWord hX (Nat.le_of_ble_eq_true rfl) (by decide) rfl (hG.t 18 rfl) rfl (by simp) dX8_nextKind_23 rfl ?_
      cases hf
      exact hk _ _ dX8_nextKind_26
  · rw [if_neg hc3] at hf
    refine Wp.iconst (pc := 13) (0 : Int32) (by decide) dX8_nextKind_13 ?_
    cases hf
    exact hk _ _ dX8_nextKind_14
theorem c_X8_nextKind {T : List Dsc} {R : RM} {c e : Nat} {m : M2} {r : (Int32 × M2)} (hG : Geo T R c e) (hf : F_X8_nextKind m = some r) : Ct 3 yX8_nextKind cX8_nextKind 2 (some .int) T (mk m R) [.ref 18] (some (.int r.1)) (mk r.2 R) := Ct.ofI (r := (r.1, mk r.2 R)) (by decide +kernel) (Nat.le_of_ble_eq_true rfl) (fun X hX hk => w_X8_nextKind hX hG hf hk)
theorem dX8_cut_0 : decode cX8_cut 0 = .ok (.aload_n 0, 1) := by decide +kernel
theorem dX8_cut_1 : decode cX8_cut 1 = .ok (.iload_n 1, 1) := by decide +kernel
theorem dX8_cut_2 : decode cX8_cut 2 = .ok (.aload_n 0, 1) := by decide +kernel
theorem dX8_cut_3 : decode cX8_cut 3 = .ok (.getfield 27, 3) := by decide +kernel
theorem dX8_cut_6 : decode cX8_cut 6 = .ok (.arraylength, 1) := by decide +kernel
theorem dX8_cut_7 : decode cX8_cut 7 = .ok (.invokestatic 47, 3) := by decide +kernel
theorem dX8_cut_10 : decode cX8_cut 10 = .ok (.putfield 53, 3) := by decide +kernel
theorem dX8_cut_13 : decode cX8_cut 13 = .ok (.aload_n 0, 1) := by decide +kernel
theorem dX8_cut_14 : decode cX8_cut 14 = .ok (.iconst 0, 1) := by decide +kernel
theorem dX8_cut_15 : decode cX8_cut 15 = .ok (.putfield 56, 3) := by decide +kernel
theorem dX8_cut_18 : decode cX8_cut 18 = .ok (.iconst 0, 1) := by decide +kernel
theorem dX8_cut_19 : decode cX8_cut 19 = .ok (.istore_n 2, 1) := by decide +kernel
theorem dX8_cut_20 : decode cX8_cut 20 = .ok (.iload_n 2, 1) := by decide +kernel
theorem dX8_cut_21 : decode cX8_cut 21 = .ok (.sipush 400, 3) := by decide +kernel
theorem dX8_cut_24 : decode cX8_cut 24 = .ok (.if_icmp .gt 68, 3) := by decide +kernel
theorem dX8_cut_27 : decode cX8_cut 27 = .ok (.aload_n 0, 1) := by decide +kernel
theorem dX8_cut_28 : decode cX8_cut 28 = .ok (.invokevirtual 59, 3) := by decide +kernel
theorem dX8_cut_31 : decode cX8_cut 31 = .ok (.aload_n 0, 1) := by decide +kernel
theorem dX8_cut_32 : decode cX8_cut 32 = .ok (.getfield 24, 3) := by decide +kernel
theorem dX8_cut_35 : decode cX8_cut 35 = .ok (.iload_n 2, 1) := by decide +kernel
theorem dX8_cut_36 : decode cX8_cut 36 = .ok (.aload_n 0, 1) := by decide +kernel
theorem dX8_cut_37 : decode cX8_cut 37 = .ok (.getfield 56, 3) := by decide +kernel
theorem dX8_cut_40 : decode cX8_cut 40 = .ok (.iastore, 1) := by decide +kernel
theorem dX8_cut_41 : decode cX8_cut 41 = .ok (.aload_n 0, 1) := by decide +kernel
theorem dX8_cut_42 : decode cX8_cut 42 = .ok (.lconst 0, 1) := by decide +kernel
theorem dX8_cut_43 : decode cX8_cut 43 = .ok (.putfield 62, 3) := by decide +kernel
theorem dX8_cut_46 : decode cX8_cut 46 = .ok (.aload_n 0, 1) := by decide +kernel
theorem dX8_cut_47 : decode cX8_cut 47 = .ok (.getfield 17, 3) := by decide +kernel
theorem dX8_cut_50 : decode cX8_cut 50 = .ok (.iload_n 2, 1) := by decide +kernel
theorem dX8_cut_51 : decode cX8_cut 51 = .ok (.aload_n 0, 1) := by decide +kernel
theorem dX8_cut_52 : decode cX8_cut 52 = .ok (.invokevirtual 66, 3) := by decide +kernel
theorem dX8_cut_55 : decode cX8_cut 55 = .ok (.iastore, 1) := by decide +kernel
theorem dX8_cut_56 : decode cX8_cut 56 = .ok (.aload_n 0, 1) := by decide +kernel
theorem dX8_cut_57 : decode cX8_cut 57 = .ok (.getfield 21, 3) := by decide +kernel
theorem dX8_cut_60 : decode cX8_cut 60 = .ok (.iload_n 2, 1) := by decide +kernel
theorem dX8_cut_61 : decode cX8_cut 61 = .ok (.aload_n 0, 1) := by decide +kernel
theorem dX8_cut_62 : decode cX8_cut 62 = .ok (.getfield 62, 3) := by decide +kernel
theorem dX8_cut_65 : decode cX8_cut 65 = .ok (.lastore, 1) := by decide +kernel
theorem dX8_cut_66 : decode cX8_cut 66 = .ok (.aload_n 0, 1) := by decide +kernel
theorem dX8_cut_67 : decode cX8_cut 67 = .ok (.getfield 17, 3) := by decide +kernel
theorem dX8_cut_70 : decode cX8_cut 70 = .ok (.iload_n 2, 1) := by decide +kernel
theorem dX8_cut_71 : decode cX8_cut 71 = .ok (.iaload, 1) := by decide +kernel
theorem dX8_cut_72 : decode cX8_cut 72 = .ok (.ifCond .eq 13, 3) := by decide +kernel
theorem dX8_cut_75 : decode cX8_cut 75 = .ok (.aload_n 0, 1) := by decide +kernel
theorem dX8_cut_76 : decode cX8_cut 76 = .ok (.getfield 17, 3) := by decide +kernel
theorem dX8_cut_79 : decode cX8_cut 79 = .ok (.iload_n 2, 1) := by decide +kernel
theorem dX8_cut_80 : decode cX8_cut 80 = .ok (.iaload, 1) := by decide +kernel
theorem dX8_cut_81 : decode cX8_cut 81 = .ok (.iconst 1, 1) := by decide +kernel
theorem dX8_cut_82 : decode cX8_cut 82 = .ok (.if_icmp .ne 4, 3) := by decide +kernel
theorem dX8_cut_85 : decode cX8_cut 85 = .ok (.return_, 1) := by decide +kernel
theorem dX8_cut_86 : decode cX8_cut 86 = .ok (.iinc 2 1, 3) := by decide +kernel
theorem dX8_cut_89 : decode cX8_cut 89 = .ok (.goto (-69), 3) := by decide +kernel
theorem dX8_cut_92 : decode cX8_cut 92 = .ok (.return_, 1) := by decide +kernel
def k_X8_cut_20 (X : CX) (T : List Dsc) (R : RM) (n1 n2 : Nat) (r : ((Int32 × M2) ⊕ ((M2) ⊕ (M2)))) : Prop := match r with
  | .inl s => Wp X cX8_cut RX8 3 T (mk s.2 R) n1 n2 20 [(0, .ref 18), (2, .int s.1)] []
  | .inr (.inl e) => Wp X cX8_cut RX8 3 T (mk e R) n1 n2 85 [] []
  | .inr (.inr e) => Wp X cX8_cut RX8 3 T (mk e R) n1 n2 92 [] []
set_option maxHeartbeats 4000000 in
set_option maxRecDepth 100000 in
theorem w_X8_cut_20 {X : CX} {T : List Dsc} {R : RM} {c e : Nat} {n1 n2 : Nat} {x2 : Int32} {m : M2} {r : ((Int32 × M2) ⊕ ((M2) ⊕ (M2)))} (hX : XR X 4 n1 n2) (hG : Geo T R c e) (hf : f_X8_cut_20 x2 m = some r) (hk : k_X8_cut_20 X T R n1 n2 r) : Wp X cX8_cut RX8 3 T (mk m R) n1 n2 20 [(0, .ref 18), (2, .int x2)] [] := by
  unfold f_X8_cut_20 at hf
  refine Wp.iload_n (pc := 20) 1 rfl rfl dX8_cut_20 ?_
  refine Wp.sipush (pc := 21) (400 : Int32) (by decide) dX8_cut_21 ?_
  refine Wp.icmp_gt (pc := 24) 92 dX8_cut_24 (by decide) (fun hc1 => ?_) (fun hc1 => ?_)
  · rw [if_pos hc1] at hf
    refine Wp.lo' (lo' := []) [] rfl ?_
    cases hf
    exact hk
  · rw [if_neg hc1] at hf
    refine Wp.aload_n (pc := 27) 0 rfl rfl dX8_cut_27 ?_
    obtain ⟨c2, h3, hf⟩ := bnd hf
    refine Wp.callVv (pc := 28) (st := []) (as := []) (c_X8_skipBlanks hG h3) ml_RX8_59 mv_X8_skipBlanks mb_X8_skipBlanks hX (Nat.le_of_ble_eq_true rfl) (by decide) rfl (hG.t 18 rfl) rfl (by simp) dX8_cut_28 rfl ?_
    refine Wp.aload_n (pc := 31) 0 rfl rfl dX8_cut_31 ?_
    refine Wp.getR2 (pc := 32) (hG.r 18 3 rfl) (hG.t 18 rfl) fk_RX8_24 rfl dX8_cut_32 ?_
    refine Wp.iload_n (pc := 35) 1 rfl rfl dX8_cut_35 ?_
    refine Wp.aload_n (pc := 36) 0 rfl rfl dX8_cut_36 ?_
    refine Wp.getI2 (pc := 37) (hG.t 18 rfl) fk_RX8_56 rfl dX8_cut_37 ?_
    obtain ⟨m4, h5, hf⟩ := bnd hf
    refine Wp.iast2 (pc := 40) h5 (hG.a 22 0 rfl) dX8_cut_40 ?_
    refine Wp.aload_n (pc := 41) 0 rfl rfl dX8_cut_41 ?_
    refine Wp.lconst (pc := 42) (0 : Int64) (by decide) dX8_cut_42 ?_
    obtain ⟨m6, h7, hf⟩ := bnd hf
    refine Wp.ptJ2 (pc := 43) h7 (hG.t 18 rfl) fk_RX8_62 ff_RX8_7_7 rfl dX8_cut_43 ?_
    refine Wp.aload_n (pc := 46) 0 rfl rfl dX8_cut_46 ?_
    refine Wp.getR2 (pc := 47) (hG.r 18 1 rfl) (hG.t 18 rfl) fk_RX8_17 rfl dX8_cut_47 ?_
    refine Wp.iload_n (pc := 50) 1 rfl rfl dX8_cut_50 ?_
    refine Wp.aload_n (pc := 51) 0 rfl rfl dX8_cut_51 ?_
    obtain ⟨c8, h9, hf⟩ := bnd hf
    refine Wp.callVi (pc := 52) (st := [.int x2, .ref 20]) (as := []) (c_X8_nextKind hG h9) ml_RX8_66 mv_X8_nextKind mb_X8_nextKind hX (Nat.le_of_ble_eq_true rfl) (by decide) rfl (hG.t 18 rfl) rfl (by simp [Value.category]) dX8_cut_52 rfl ?_
    obtain ⟨m10, h11, hf⟩ := bnd hf
    refine Wp.iast2 (pc := 55) h11 (hG.a 20 0 rfl) dX8_cut_55 ?_
    refine Wp.aload_n (pc := 56) 0 rfl rfl dX8_cut_56 ?_
    refine Wp.getR2 (pc := 57) (hG.r 18 2 rfl) (hG.t 18 rfl) fk_RX8_21 rfl dX8_cut_57 ?_
    refine Wp.iload_n (pc := 60) 1 rfl rfl dX8_cut_60 ?_
    refine Wp.aload_n (pc := 61) 0 rfl rfl dX8_cut_61 ?_
    refine Wp.getJ2 (pc := 62) (hG.t 18 rfl) fk_RX8_62 rfl dX8_cut_62 ?_
    obtain ⟨m12, h13, hf⟩ := bnd hf
    refine Wp.last2 (pc := 65) h13 (hG.a 21 1 rfl) dX8_cut_65 ?_
    refine Wp.aload_n (pc := 66) 0 rfl rfl dX8_cut_66 ?_
    refine Wp.getR2 (pc := 67) (hG.r 18 1 rfl) (hG.t 18 rfl) fk_RX8_17 rfl dX8_cut_67 ?_
    refine Wp.iload_n (pc := 70) 1 rfl rfl dX8_cut_70 ?_
    obtain ⟨v14, h15, hf⟩ := bnd hf
    refine Wp.iald2 (pc := 71) h15 (hG.a 20 0 rfl) dX8_cut_71 ?_
    refine Wp.if_eq (pc := 72) 85 dX8_cut_72 (by decide) (fun hc16 => ?_) (fun hc16 => ?_)
    · rw [if_pos hc16] at hf
      refine Wp.lo' (lo' := []) [] rfl ?_
      cases hf
      exact hk
    · rw [if_neg hc16] at hf
      refine Wp.aload_n (pc := 75) 0 rfl rfl dX8_cut_75 ?_
      refine Wp.getR2 (pc := 76) (hG.r 18 1 rfl) (hG.t 18 rfl) fk_RX8_17 rfl dX8_cut_76 ?_
      refine Wp.iload_n (pc := 79) 1 rfl rfl dX8_cut_79 ?_
      obtain ⟨v17, h18, hf⟩ := bnd hf
      refine Wp.iald2 (pc := 80) h18 (hG.a 20 0 rfl) dX8_cut_80 ?_
      refine Wp.iconst (pc := 81) (1 : Int32) (by decide) dX8_cut_81 ?_
      refine Wp.icmp_ne (pc := 82) 86 dX8_cut_82 (by decide) (fun hc19 => ?_) (fun hc19 => ?_)
      · rw [if_neg hc19] at hf
        obtain ⟨v20, h21, hf⟩ := bnd hf
        refine Wp.iincN (pc := 86) (lo' := [(0, .ref 18), (2, .int v20)]) (1 : Int32) (by decide) h21 1 rfl [1, 0] rfl (by decide) dX8_cut_86 ?_
        refine Wp.goto (pc := 89) 20 dX8_cut_89 (by decide) ?_
        cases hf
        exact hk
      · rw [if_pos hc19] at hf
        refine Wp.lo' (lo' := []) [] rfl ?_
        cases hf
        exact hk
theorem wl_X8_cut_20 {X : CX} {T : List Dsc} {R : RM} {c e : Nat} {n1 n2 : Nat} {x2 : Int32} {m : M2} {e1 : ((M2) ⊕ (M2))} (hX : XR X 4 n1 n2) (hG : Geo T R c e) (h : loop (g_X8_cut_20) (x2, m) = some e1) (he0 : ∀ e_, e1 = (Sum.inl e_) → Wp X cX8_cut RX8 3 T (mk e_ R) n1 n2 85 [] []) (he1 : ∀ e_, e1 = (Sum.inr e_) → Wp X cX8_cut RX8 3 T (mk e_ R) n1 n2 92 [] []) : Wp X cX8_cut RX8 3 T (mk m R) n1 n2 20 [(0, .ref 18), (2, .int x2)] [] :=
  loop_ok (K := k_X8_cut_20 X T R n1 n2) (fun s r hf hk => w_X8_cut_20 hX hG hf hk) h (by rcases e1 with e_ | e_ <;> first | exact he0 _ rfl | exact he1 _ rfl)
set_option maxHeartbeats 4000000 in
set_option maxRecDepth 100000 in
theorem w_X8_cut_85 {X : CX} {T : List Dsc} {R : RM} {c e : Nat} {n1 n2 : Nat} {m : M2} {r : M2} (hX : XR X 4 n1 n2) (hG : Geo T R c e) (hf : f_X8_cut_85 m = some r) (hk : FnV X cX8_cut RX8 3 T n1 n2 (mk r R)) : Wp X cX8_cut RX8 3 T (mk m R) n1 n2 85 [] [] := by
  unfold f_X8_cut_85 at hf
  cases hf
  exact hk _ _ dX8_cut_85
set_option maxHeartbeats 4000000 in
set_option maxRecDepth 100000 in
theorem w_X8_cut {X : CX} {T : List Dsc} {R : RM} {c e : Nat} {n1 n2 : Nat} {x1 : Int32} {m : M2} {r : M2} (hX : XR X 4 n1 n2) (hG : Geo T R c e) (hf : F_X8_cut x1 m = some r) (hk : FnV X cX8_cut RX8 3 T n1 n2 (mk r R)) : Wp X cX8_cut RX8 3 T (mk m R) n1 n2 0 [(0, .ref 18), (1, .int x1)] [] := by
  unfold F_X8_cut at hf
  refine Wp.aload_n (pc := 0) 0 rfl rfl dX8_cut_0 ?_
  refine Wp.iload_n (pc := 1) 1 rfl rfl dX8_cut_1 ?_
  refine Wp.aload_n (pc := 2) 0 rfl rfl dX8_cut_2 ?_
  refine Wp.getR2 (pc := 3) (hG.r 18 4 rfl) (hG.t 18 rfl) fk_RX8_27 rfl dX8_cut_3 ?_
  refine Wp.alen (pc := 6) (hG.a 1 2 rfl) dX8_cut_6 ?_
  refine Wp.mmin (pc := 7) mm_RX8_47 hX (Nat.le_of_ble_eq_true rfl) (by simp [Value.category]) dX8_cut_7 ?_
  obtain ⟨m1, h2, hf⟩ := bnd hf
  refine Wp.ptI2 (pc := 10) h2 (hG.t 18 rfl) fk_RX8_53 ff_RX8_7_5 rfl dX8_cut_10 ?_
  refine Wp.aload_n (pc := 13) 0 rfl rfl dX8_cut_13 ?_
  refine Wp.iconst (pc := 14) (0 : Int32) (by decide) dX8_cut_14 ?_
  obtain ⟨m3, h4, hf⟩ := bnd hf
  refine Wp.ptI2 (pc := 15) h4 (hG.t 18 rfl) fk_RX8_56 ff_RX8_7_6 rfl dX8_cut_15 ?_
  refine Wp.iconst (pc := 18) (0 : Int32) (by decide) dX8_cut_18 ?_
  refine Wp.istore_n (pc := 19) (lo' := [(0, .ref 18), (2, .int (0 : Int32))]) [1, 0] rfl (by decide) rfl dX8_cut_19 ?_
  obtain ⟨e5, h6, hf⟩ := bnd hf
  refine wl_X8_cut_20 hX hG h6 (fun e5_0 hq => ?_) (fun e5_1 hq => ?_)
  · rw [hq, Sum.elim_inl] at hf
    exact w_X8_cut_85 hX hG hf hk
  · rw [hq, Sum.elim_inr] at hf
    cases hf
    exact hk _ _ dX8_cut_92
theorem c_X8_cut {T : List Dsc} {R : RM} {c e : Nat} {x1 : Int32} {m : M2} {r : M2} (hG : Geo T R c e) (hf : F_X8_cut x1 m = some r) : Ct 4 yX8_cut cX8_cut 3 none T (mk m R) [.ref 18, .int x1] none (mk r R) := Ct.ofV (r := mk r R) (by decide +kernel) (Nat.le_of_ble_eq_true rfl) (fun X hX hk => w_X8_cut hX hG hf hk)
theorem dJ7_fill_53178_0 : decode cJ7_fill_53178 0 = .ok (.iconst 0, 1) := by decide +kernel
theorem dJ7_fill_53178_1 : decode cJ7_fill_53178 1 = .ok (.istore_n 2, 1) := by decide +kernel
theorem dJ7_fill_53178_2 : decode cJ7_fill_53178 2 = .ok (.aload_n 0, 1) := by decide +kernel
theorem dJ7_fill_53178_3 : decode cJ7_fill_53178 3 = .ok (.arraylength, 1) := by decide +kernel
theorem dJ7_fill_53178_4 : decode cJ7_fill_53178 4 = .ok (.istore_n 3, 1) := by decide +kernel
theorem dJ7_fill_53178_5 : decode cJ7_fill_53178 5 = .ok (.iload_n 2, 1) := by decide +kernel
theorem dJ7_fill_53178_6 : decode cJ7_fill_53178 6 = .ok (.iload_n 3, 1) := by decide +kernel
theorem dJ7_fill_53178_7 : decode cJ7_fill_53178 7 = .ok (.if_icmp .ge 13, 3) := by decide +kernel
theorem dJ7_fill_53178_10 : decode cJ7_fill_53178 10 = .ok (.aload_n 0, 1) := by decide +kernel
theorem dJ7_fill_53178_11 : decode cJ7_fill_53178 11 = .ok (.iload_n 2, 1) := by decide +kernel
theorem dJ7_fill_53178_12 : decode cJ7_fill_53178 12 = .ok (.iload_n 1, 1) := by decide +kernel
theorem dJ7_fill_53178_13 : decode cJ7_fill_53178 13 = .ok (.iastore, 1) := by decide +kernel
theorem dJ7_fill_53178_14 : decode cJ7_fill_53178 14 = .ok (.iinc 2 1, 3) := by decide +kernel
theorem dJ7_fill_53178_17 : decode cJ7_fill_53178 17 = .ok (.goto (-12), 3) := by decide +kernel
theorem dJ7_fill_53178_20 : decode cJ7_fill_53178 20 = .ok (.return_, 1) := by decide +kernel
def k_J7_fill_53178_5 (X : CX) (T : List Dsc) (R : RM) (n1 n2 : Nat) (x0 : Nat) (l0 : Nat) (x1 : Int32) (x3 : Int32) (r : ((Int32 × M2) ⊕ ((M2)))) : Prop := match r with
  | .inl s => Wp X cJ7_fill_53178 RJ7 4 T (mk s.2 R) n1 n2 5 [(0, .ref x0), (1, .int x1), (2, .int s.1), (3, .int x3)] []
  | .inr e => Wp X cJ7_fill_53178 RJ7 4 T (mk e R) n1 n2 20 [] []
set_option maxHeartbeats 4000000 in
set_option maxRecDepth 100000 in
theorem w_J7_fill_53178_5 {X : CX} {T : List Dsc} {R : RM} {c e : Nat} {n1 n2 : Nat} {x0 : Nat} {l0 : Nat} {x1 : Int32} {x2 : Int32} {x3 : Int32} {m : M2} {r : ((Int32 × M2) ⊕ ((M2)))} (hX : XR X 1 n1 n2) (hG : Geo T R c e) (hx0 : aLen T x0 0 = some l0) (hf : f_J7_fill_53178_5 x0 l0 x1 x2 x3 m = some r) (hk : k_J7_fill_53178_5 X T R n1 n2 x0 l0 x1 x3 r) : Wp X cJ7_fill_53178 RJ7 4 T (mk m R) n1 n2 5 [(0, .ref x0), (1, .int x1), (2, .int x2), (3, .int x3)] [] := by
  unfold f_J7_fill_53178_5 at hf
  refine Wp.iload_n (pc := 5) 2 rfl rfl dJ7_fill_53178_5 ?_
  refine Wp.iload_n (pc := 6) 3 rfl rfl dJ7_fill_53178_6 ?_
  refine Wp.icmp_ge (pc := 7) 20 dJ7_fill_53178_7 (by decide) (fun hc1 => ?_) (fun hc1 => ?_)
  · rw [if_pos hc1] at hf
    refine Wp.lo' (lo' := []) [] rfl ?_
    cases hf
    exact hk
  · rw [if_neg hc1] at hf
    refine Wp.aload_n (pc := 10) 0 rfl rfl dJ7_fill_53178_10 ?_
    refine Wp.iload_n (pc := 11) 2 rfl rfl dJ7_fill_53178_11 ?_
    refine Wp.iload_n (pc := 12) 1 rfl rfl dJ7_fill_53178_12 ?_
    obtain ⟨m2, h3, hf⟩ := bnd hf
    refine Wp.iast2 (pc := 13) h3 hx0 dJ7_fill_53178_13 ?_
    obtain ⟨v4, h5, hf⟩ := bnd hf
    refine Wp.iincN (pc := 14) (lo' := [(0, .ref x0), (1, .int x1), (2, .int v4), (3, .int x3)]) (1 : Int32) (by decide) h5 2 rfl [1, 2, 0, 3] rfl (by decide) dJ7_fill_53178_14 ?_
    refine Wp.goto (pc := 17) 5 dJ7_fill_53178_17 (by decide) ?_
    cases hf
    exact hk
theorem wl_J7_fill_53178_5 {X : CX} {T : List Dsc} {R : RM} {c e : Nat} {n1 n2 : Nat} {x0 : Nat} {l0 : Nat} {x1 : Int32} {x2 : Int32} {x3 : Int32} {m : M2} {e1 : ((M2))} (hX : XR X 1 n1 n2) (hG : Geo T R c e) (hx0 : aLen T x0 0 = some l0) (h : loop (g_J7_fill_53178_5 x0 l0 x1 x3) (x2, m) = some e1) (he : Wp X cJ7_fill_53178 RJ7 4 T (mk e1 R) n1 n2 20 [] []) : Wp X cJ7_fill_53178 RJ7 4 T (mk m R) n1 n2 5 [(0, .ref x0), (1, .int x1), (2, .int x2), (3, .int x3)] [] :=
  loop_ok (K := k_J7_fill_53178_5 X T R n1 n2 x0 l0 x1 x3) (fun s r hf hk => w_J7_fill_53178_5 hX hG hx0 hf hk) h he
set_option maxHeartbeats 4000000 in
set_option maxRecDepth 100000 in
theorem w_J7_fill_53178 {X : CX} {T : List Dsc} {R : RM} {c e : Nat} {n1 n2 : Nat} {x0 : Nat} {l0 : Nat} {x1 : Int32} {m : M2} {r : M2} (hX : XR X 1 n1 n2) (hG : Geo T R c e) (hx0 : aLen T x0 0 = some l0) (hf : F_J7_fill_53178 x0 l0 x1 m = some r) (hk : FnV X cJ7_fill_53178 RJ7 4 T n1 n2 (mk r R)) : Wp X cJ7_fill_53178 RJ7 4 T (mk m R) n1 n2 0 [(0, .ref x0), (1, .int x1)] [] := by
  unfold F_J7_fill_53178 at hf
  refine Wp.iconst (pc := 0) (0 : Int32) (by decide) dJ7_fill_53178_0 ?_
  refine Wp.istore_n (pc := 1) (lo' := [(0, .ref x0), (1, .int x1), (2, .int (0 : Int32))]) [1, 2, 0] rfl (by decide) rfl dJ7_fill_53178_1 ?_
  refine Wp.aload_n (pc := 2) 0 rfl rfl dJ7_fill_53178_2 ?_
  refine Wp.alen (pc := 3) hx0 dJ7_fill_53178_3 ?_
  obtain ⟨v1, h2, hf⟩ := bnd hf
  refine Wp.nI' h2 ?_
  refine Wp.istore_n (pc := 4) (lo' := [(0, .ref x0), (1, .int x1), (2, .int (0 : Int32)), (3, .int v1)]) [1, 2, 3, 0] rfl (by decide) rfl dJ7_fill_53178_4 ?_
  obtain ⟨e3, h4, hf⟩ := bnd hf
  refine wl_J7_fill_53178_5 hX hG hx0 h4 ?_
  cases hf
  exact hk _ _ dJ7_fill_53178_20
theorem c_J7_fill_53178 {T : List Dsc} {R : RM} {c e : Nat} {x0 : Nat} {l0 : Nat} {x1 : Int32} {m : M2} {r : M2} (hG : Geo T R c e) (hx0 : aLen T x0 0 = some l0) (hf : F_J7_fill_53178 x0 l0 x1 m = some r) : Ct 1 yJ7_fill_53178 cJ7_fill_53178 4 none T (mk m R) [.ref x0, .int x1] none (mk r R) := Ct.ofV (r := mk r R) (by decide +kernel) (Nat.le_of_ble_eq_true rfl) (fun X hX hk => w_J7_fill_53178 hX hG hx0 hf hk)
theorem dX4_begin_0 : decode cX4_begin 0 = .ok (.aload_n 0, 1) := by decide +kernel
theorem dX4_begin_1 : decode cX4_begin 1 = .ok (.aload_n 2, 1) := by decide +kernel
theorem dX4_begin_2 : decode cX4_begin 2 = .ok (.putfield 35, 3) := by decide +kernel
theorem dX4_begin_5 : decode cX4_begin 5 = .ok (.aload_n 0, 1) := by decide +kernel
theorem dX4_begin_6 : decode cX4_begin 6 = .ok (.getfield 35, 3) := by decide +kernel
theorem dX4_begin_9 : decode cX4_begin 9 = .ok (.invokevirtual 74, 3) := by decide +kernel
theorem dX4_begin_12 : decode cX4_begin 12 = .ok (.aload_n 0, 1) := by decide +kernel
theorem dX4_begin_13 : decode cX4_begin 13 = .ok (.getfield 31, 3) := by decide +kernel
theorem dX4_begin_16 : decode cX4_begin 16 = .ok (.iload_n 1, 1) := by decide +kernel
theorem dX4_begin_17 : decode cX4_begin 17 = .ok (.invokevirtual 79, 3) := by decide +kernel
theorem dX4_begin_20 : decode cX4_begin 20 = .ok (.aload_n 0, 1) := by decide +kernel
theorem dX4_begin_21 : decode cX4_begin 21 = .ok (.iconst 0, 1) := by decide +kernel
theorem dX4_begin_22 : decode cX4_begin 22 = .ok (.putfield 82, 3) := by decide +kernel
theorem dX4_begin_25 : decode cX4_begin 25 = .ok (.aload_n 0, 1) := by decide +kernel
theorem dX4_begin_26 : decode cX4_begin 26 = .ok (.aload_n 0, 1) := by decide +kernel
theorem dX4_begin_27 : decode cX4_begin 27 = .ok (.getfield 31, 3) := by decide +kernel
theorem dX4_begin_30 : decode cX4_begin 30 = .ok (.getfield 85, 3) := by decide +kernel
theorem dX4_begin_33 : decode cX4_begin 33 = .ok (.iconst 0, 1) := by decide +kernel
theorem dX4_begin_34 : decode cX4_begin 34 = .ok (.iaload, 1) := by decide +kernel
theorem dX4_begin_35 : decode cX4_begin 35 = .ok (.putfield 46, 3) := by decide +kernel
theorem dX4_begin_38 : decode cX4_begin 38 = .ok (.aload_n 0, 1) := by decide +kernel
theorem dX4_begin_39 : decode cX4_begin 39 = .ok (.iconst 0, 1) := by decide +kernel
theorem dX4_begin_40 : decode cX4_begin 40 = .ok (.putfield 43, 3) := by decide +kernel
theorem dX4_begin_43 : decode cX4_begin 43 = .ok (.aload_n 0, 1) := by decide +kernel
theorem dX4_begin_44 : decode cX4_begin 44 = .ok (.iconst (-1), 1) := by decide +kernel
theorem dX4_begin_45 : decode cX4_begin 45 = .ok (.putfield 9, 3) := by decide +kernel
theorem dX4_begin_48 : decode cX4_begin 48 = .ok (.aload_n 0, 1) := by decide +kernel
theorem dX4_begin_49 : decode cX4_begin 49 = .ok (.iconst 0, 1) := by decide +kernel
theorem dX4_begin_50 : decode cX4_begin 50 = .ok (.putfield 88, 3) := by decide +kernel
theorem dX4_begin_53 : decode cX4_begin 53 = .ok (.aload_n 0, 1) := by decide +kernel
theorem dX4_begin_54 : decode cX4_begin 54 = .ok (.iconst 0, 1) := by decide +kernel
theorem dX4_begin_55 : decode cX4_begin 55 = .ok (.putfield 91, 3) := by decide +kernel
theorem dX4_begin_58 : decode cX4_begin 58 = .ok (.aload_n 0, 1) := by decide +kernel
theorem dX4_begin_59 : decode cX4_begin 59 = .ok (.getfield 15, 3) := by decide +kernel
theorem dX4_begin_62 : decode cX4_begin 62 = .ok (.iconst (-1), 1) := by decide +kernel
theorem dX4_begin_63 : decode cX4_begin 63 = .ok (.invokestatic 94, 3) := by decide +kernel
theorem dX4_begin_66 : decode cX4_begin 66 = .ok (.return_, 1) := by decide +kernel
set_option maxHeartbeats 4000000 in
set_option maxRecDepth 100000 in
theorem w_X4_begin {X : CX} {T : List Dsc} {R : RM} {c e : Nat} {n1 n2 : Nat} {x1 : Int32} {x2 : Nat} {m : M2} {r : M2} (hX : XR X 5 n1 n2) (hG : Geo T R c e) (hx2 : tx x2) (hf : F_X4_begin e x1 x2 m = some r) (hk : FnV X cX4_begin RX4 3 T n1 n2 (mk r (u2 R 14 3 (some x2)))) : Wp X cX4_begin RX4 3 T (mk m R) n1 n2 0 [(0, .ref 14), (1, .int x1), (2, .ref x2)] [] := by
  unfold F_X4_begin at hf
  refine Wp.aload_n (pc := 0) 0 rfl rfl dX4_begin_0 ?_
  refine Wp.aload_n (pc := 1) 2 rfl rfl dX4_begin_1 ?_
  refine Wp.ptR2 (pc := 2) (hG.t 14 rfl) fk_RX4_35 ff_RX4_3_3 rfl dX4_begin_2 ?_
  refine Wp.aload_n (pc := 5) 0 rfl rfl dX4_begin_5 ?_
  refine Wp.getR2 (pc := 6) (hG.set3 hx2).r3 ((hG.set3 hx2).t 14 rfl) fk_RX4_35 rfl dX4_begin_6 ?_
  obtain ⟨c1, h2, hf⟩ := bnd hf
  refine Wp.callVv (pc := 9) (st := []) (as := []) (c_X7_clear (hG.set3 hx2) (hG.set3 hx2).he h2) ml_RX4_74 mv_X7_clear mb_X7_clear hX (Nat.le_of_ble_eq_true rfl) (by decide) rfl ((hG.set3 hx2).tt (hG.set3 hx2).he) rfl (by simp) dX4_begin_9 rfl ?_
  refine Wp.aload_n (pc := 12) 0 rfl rfl dX4_begin_12 ?_
  refine Wp.getR2 (pc := 13) ((hG.set3 hx2).r 14 0 rfl) ((hG.set3 hx2).t 14 rfl) fk_RX4_31 rfl dX4_begin_13 ?_
  refine Wp.iload_n (pc := 16) 1 rfl rfl dX4_begin_16 ?_
  obtain ⟨c3, h4, hf⟩ := bnd hf
  refine Wp.callVv (pc := 17) (st := []) (as := [.int x1]) (c_X8_cut (hG.set3 hx2) h4) ml_RX4_79 mv_X8_cut mb_X8_cut hX (Nat.le_of_ble_eq_true rfl) (by decide) rfl ((hG.set3 hx2).t 18 rfl) rfl (by simp) dX4_begin_17 rfl ?_
  refine Wp.aload_n (pc := 20) 0 rfl rfl dX4_begin_20 ?_
  refine Wp.iconst (pc := 21) (0 : Int32) (by decide) dX4_begin_21 ?_
  obtain ⟨m5, h6, hf⟩ := bnd hf
  refine Wp.ptI2 (pc := 22) h6 ((hG.set3 hx2).t 14 rfl) fk_RX4_82 ff_RX4_3_1 rfl dX4_begin_22 ?_
  refine Wp.aload_n (pc := 25) 0 rfl rfl dX4_begin_25 ?_
  refine Wp.aload_n (pc := 26) 0 rfl rfl dX4_begin_26 ?_
  refine Wp.getR2 (pc := 27) ((hG.set3 hx2).r 14 0 rfl) ((hG.set3 hx2).t 14 rfl) fk_RX4_31 rfl dX4_begin_27 ?_
  refine Wp.getR2 (pc := 30) ((hG.set3 hx2).r 18 1 rfl) ((hG.set3 hx2).t 18 rfl) fk_RX4_85 rfl dX4_begin_30 ?_
  refine Wp.iconst (pc := 33) (0 : Int32) (by decide) dX4_begin_33 ?_
  obtain ⟨v7, h8, hf⟩ := bnd hf
  refine Wp.iald2 (pc := 34) h8 ((hG.set3 hx2).a 20 0 rfl) dX4_begin_34 ?_
  obtain ⟨m9, h10, hf⟩ := bnd hf
  refine Wp.ptI2 (pc := 35) h10 ((hG.set3 hx2).t 14 rfl) fk_RX4_46 ff_RX4_3_2 rfl dX4_begin_35 ?_
  refine Wp.aload_n (pc := 38) 0 rfl rfl dX4_begin_38 ?_
  refine Wp.iconst (pc := 39) (0 : Int32) (by decide) dX4_begin_39 ?_
  obtain ⟨m11, h12, hf⟩ := bnd hf
  refine Wp.ptI2 (pc := 40) h12 ((hG.set3 hx2).t 14 rfl) fk_RX4_43 ff_RX4_3_4 rfl dX4_begin_40 ?_
  refine Wp.aload_n (pc := 43) 0 rfl rfl dX4_begin_43 ?_
  refine Wp.iconst (pc := 44) (-1 : Int32) (by decide) dX4_begin_44 ?_
  obtain ⟨m13, h14, hf⟩ := bnd hf
  refine Wp.ptI2 (pc := 45) h14 ((hG.set3 hx2).t 14 rfl) fk_RX4_9 ff_RX4_3_5 rfl dX4_begin_45 ?_
  refine Wp.aload_n (pc := 48) 0 rfl rfl dX4_begin_48 ?_
  refine Wp.iconst (pc := 49) (0 : Int32) (by decide) dX4_begin_49 ?_
  obtain ⟨m15, h16, hf⟩ := bnd hf
  refine Wp.ptI2 (pc := 50) h16 ((hG.set3 hx2).t 14 rfl) fk_RX4_88 ff_RX4_3_6 rfl dX4_begin_50 ?_
  refine Wp.aload_n (pc := 53) 0 rfl rfl dX4_begin_53 ?_
  refine Wp.iconst (pc := 54) (0 : Int32) (by decide) dX4_begin_54 ?_
  obtain ⟨m17, h18, hf⟩ := bnd hf
  refine Wp.ptI2 (pc := 55) h18 ((hG.set3 hx2).t 14 rfl) fk_RX4_91 ff_RX4_3_11 rfl dX4_begin_55 ?_
  refine Wp.aload_n (pc := 58) 0 rfl rfl dX4_begin_58 ?_
  refine Wp.getR2 (pc := 59) ((hG.set3 hx2).r 14 8 rfl) ((hG.set3 hx2).t 14 rfl) fk_RX4_15 rfl dX4_begin_59 ?_
  refine Wp.iconst (pc := 62) (-1 : Int32) (by decide) dX4_begin_62 ?_
  obtain ⟨c19, h20, hf⟩ := bnd hf
  refine Wp.callSv (pc := 63) (st := []) (as := [.ref 15, .int (-1 : Int32)]) (c_J7_fill_53178 (hG.set3 hx2) ((hG.set3 hx2).a 15 0 rfl) h20) ml_RX4_94 ms_J7_fill_53178 mb_J7_fill_53178 hX (Nat.le_of_ble_eq_true rfl) (by decide) rfl (by simp) dX4_begin_63 rfl ?_
  cases hf
  exact hk _ _ dX4_begin_66
theorem c_X4_begin {T : List Dsc} {R : RM} {c e : Nat} {x1 : Int32} {x2 : Nat} {m : M2} {r : M2} (hG : Geo T R c e) (hx2 : tx x2) (hf : F_X4_begin e x1 x2 m = some r) : Ct 5 yX4_begin cX4_begin 3 none T (mk m R) [.ref 14, .int x1, .ref x2] none (mk r (u2 R 14 3 (some x2))) := Ct.ofV (r := mk r (u2 R 14 3 (some x2))) (by decide +kernel) (Nat.le_of_ble_eq_true rfl) (fun X hX hk => w_X4_begin hX hG hx2 hf hk)
theorem dX4_take_0 : decode cX4_take 0 = .ok (.aload_n 0, 1) := by decide +kernel
theorem dX4_take_1 : decode cX4_take 1 = .ok (.getfield 43, 3) := by decide +kernel
theorem dX4_take_4 : decode cX4_take 4 = .ok (.ifCond .eq 5, 3) := by decide +kernel
theorem dX4_take_7 : decode cX4_take 7 = .ok (.iconst 0, 1) := by decide +kernel
theorem dX4_take_8 : decode cX4_take 8 = .ok (.ireturn, 1) := by decide +kernel
theorem dX4_take_9 : decode cX4_take 9 = .ok (.aload_n 0, 1) := by decide +kernel
theorem dX4_take_10 : decode cX4_take 10 = .ok (.getfield 46, 3) := by decide +kernel
theorem dX4_take_13 : decode cX4_take 13 = .ok (.iload_n 1, 1) := by decide +kernel
theorem dX4_take_14 : decode cX4_take 14 = .ok (.if_icmp .ne 13, 3) := by decide +kernel
theorem dX4_take_17 : decode cX4_take 17 = .ok (.aload_n 0, 1) := by decide +kernel
theorem dX4_take_18 : decode cX4_take 18 = .ok (.getfield 82, 3) := by decide +kernel
theorem dX4_take_21 : decode cX4_take 21 = .ok (.sipush 400, 3) := by decide +kernel
theorem dX4_take_24 : decode cX4_take 24 = .ok (.if_icmp .lt 38, 3) := by decide +kernel
theorem dX4_take_27 : decode cX4_take 27 = .ok (.aload_n 0, 1) := by decide +kernel
theorem dX4_take_28 : decode cX4_take 28 = .ok (.aload_n 0, 1) := by decide +kernel
theorem dX4_take_29 : decode cX4_take 29 = .ok (.getfield 46, 3) := by decide +kernel
theorem dX4_take_32 : decode cX4_take 32 = .ok (.iload_n 1, 1) := by decide +kernel
theorem dX4_take_33 : decode cX4_take 33 = .ok (.if_icmp .eq 7, 3) := by decide +kernel
theorem dX4_take_36 : decode cX4_take 36 = .ok (.iconst 1, 1) := by decide +kernel
theorem dX4_take_37 : decode cX4_take 37 = .ok (.goto 4, 3) := by decide +kernel
theorem dX4_take_40 : decode cX4_take 40 = .ok (.iconst 2, 1) := by decide +kernel
theorem dX4_take_41 : decode cX4_take 41 = .ok (.putfield 43, 3) := by decide +kernel
theorem dX4_take_44 : decode cX4_take 44 = .ok (.aload_n 0, 1) := by decide +kernel
theorem dX4_take_45 : decode cX4_take 45 = .ok (.aload_n 0, 1) := by decide +kernel
theorem dX4_take_46 : decode cX4_take 46 = .ok (.getfield 31, 3) := by decide +kernel
theorem dX4_take_49 : decode cX4_take 49 = .ok (.getfield 106, 3) := by decide +kernel
theorem dX4_take_52 : decode cX4_take 52 = .ok (.aload_n 0, 1) := by decide +kernel
theorem dX4_take_53 : decode cX4_take 53 = .ok (.getfield 82, 3) := by decide +kernel
theorem dX4_take_56 : decode cX4_take 56 = .ok (.iaload, 1) := by decide +kernel
theorem dX4_take_57 : decode cX4_take 57 = .ok (.putfield 9, 3) := by decide +kernel
theorem dX4_take_60 : decode cX4_take 60 = .ok (.iconst 0, 1) := by decide +kernel
theorem dX4_take_61 : decode cX4_take 61 = .ok (.ireturn, 1) := by decide +kernel
theorem dX4_take_62 : decode cX4_take 62 = .ok (.aload_n 0, 1) := by decide +kernel
theorem dX4_take_63 : decode cX4_take 63 = .ok (.dup, 1) := by decide +kernel
theorem dX4_take_64 : decode cX4_take 64 = .ok (.getfield 82, 3) := by decide +kernel
theorem dX4_take_67 : decode cX4_take 67 = .ok (.iconst 1, 1) := by decide +kernel
theorem dX4_take_68 : decode cX4_take 68 = .ok (.iadd, 1) := by decide +kernel
theorem dX4_take_69 : decode cX4_take 69 = .ok (.putfield 82, 3) := by decide +kernel
theorem dX4_take_72 : decode cX4_take 72 = .ok (.aload_n 0, 1) := by decide +kernel
theorem dX4_take_73 : decode cX4_take 73 = .ok (.aload_n 0, 1) := by decide +kernel
theorem dX4_take_74 : decode cX4_take 74 = .ok (.getfield 31, 3) := by decide +kernel
theorem dX4_take_77 : decode cX4_take 77 = .ok (.getfield 85, 3) := by decide +kernel
theorem dX4_take_80 : decode cX4_take 80 = .ok (.aload_n 0, 1) := by decide +kernel
theorem dX4_take_81 : decode cX4_take 81 = .ok (.getfield 82, 3) := by decide +kernel
theorem dX4_take_84 : decode cX4_take 84 = .ok (.iaload, 1) := by decide +kernel
theorem dX4_take_85 : decode cX4_take 85 = .ok (.putfield 46, 3) := by decide +kernel
theorem dX4_take_88 : decode cX4_take 88 = .ok (.iconst 1, 1) := by decide +kernel
theorem dX4_take_89 : decode cX4_take 89 = .ok (.ireturn, 1) := by decide +kernel
set_option maxHeartbeats 4000000 in
set_option maxRecDepth 100000 in
theorem w_X4_take_41 {X : CX} {T : List Dsc} {R : RM} {c e : Nat} {n1 n2 : Nat} {s1 : Int32} {m : M2} {r : (Int32 × M2)} (hX : XR X 1 n1 n2) (hG : Geo T R c e) (hf : f_X4_take_41 e s1 m = some r) (hk : FnZ X cX4_take RX4 2 T n1 n2 (r.1, mk r.2 R)) : Wp X cX4_take RX4 2 T (mk m R) n1 n2 41 [(0, .ref 14)] [.int s1, .ref 14] := by
  unfold f_X4_take_41 at hf
  obtain ⟨m1, h2, hf⟩ := bnd hf
  refine Wp.ptI2 (pc := 41) h2 (hG.t 14 rfl) fk_RX4_43 ff_RX4_3_4 rfl dX4_take_41 ?_
  refine Wp.aload_n (pc := 44) 0 rfl rfl dX4_take_44 ?_
  refine Wp.aload_n (pc := 45) 0 rfl rfl dX4_take_45 ?_
  refine Wp.getR2 (pc := 46) (hG.r 14 0 rfl) (hG.t 14 rfl) fk_RX4_31 rfl dX4_take_46 ?_
  refine Wp.getR2 (pc := 49) (hG.r 18 3 rfl) (hG.t 18 rfl) fk_RX4_106 rfl dX4_take_49 ?_
  refine Wp.aload_n (pc := 52) 0 rfl rfl dX4_take_52 ?_
  refine Wp.getI2 (pc := 53) (hG.t 14 rfl) fk_RX4_82 rfl dX4_take_53 ?_
  obtain ⟨v3, h4, hf⟩ := bnd hf
  refine Wp.iald2 (pc := 56) h4 (hG.a 22 0 rfl) dX4_take_56 ?_
  obtain ⟨m5, h6, hf⟩ := bnd hf
  refine Wp.ptI2 (pc := 57) h6 (hG.t 14 rfl) fk_RX4_9 ff_RX4_3_5 rfl dX4_take_57 ?_
  refine Wp.iconst (pc := 60) (0 : Int32) (by decide) dX4_take_60 ?_
  cases hf
  exact hk _ _ (Or.inl rfl) dX4_take_61
set_option maxHeartbeats 4000000 in
set_option maxRecDepth 100000 in
theorem w_X4_take_27 {X : CX} {T : List Dsc} {R : RM} {c e : Nat} {n1 n2 : Nat} {x1 : Int32} {m : M2} {r : (Int32 × M2)} (hX : XR X 1 n1 n2) (hG : Geo T R c e) (hf : f_X4_take_27 e x1 m = some r) (hk : FnZ X cX4_take RX4 2 T n1 n2 (r.1, mk r.2 R)) : Wp X cX4_take RX4 2 T (mk m R) n1 n2 27 [(0, .ref 14), (1, .int x1)] [] := by
  unfold f_X4_take_27 at hf
  refine Wp.aload_n (pc := 27) 0 rfl rfl dX4_take_27 ?_
  refine Wp.aload_n (pc := 28) 0 rfl rfl dX4_take_28 ?_
  refine Wp.getI2 (pc := 29) (hG.t 14 rfl) fk_RX4_46 rfl dX4_take_29 ?_
  refine Wp.iload_n (pc := 32) 1 rfl rfl dX4_take_32 ?_
  refine Wp.icmp_eq (pc := 33) 40 dX4_take_33 (by decide) (fun hc1 => ?_) (fun hc1 => ?_)
  · rw [if_pos hc1] at hf
    refine Wp.iconst (pc := 40) (2 : Int32) (by decide) dX4_take_40 ?_
    refine Wp.lo' (lo' := [(0, .ref 14)]) [0] rfl ?_
    exact w_X4_take_41 hX hG hf hk
  · rw [if_neg hc1] at hf
    refine Wp.iconst (pc := 36) (1 : Int32) (by decide) dX4_take_36 ?_
    refine Wp.goto (pc := 37) 41 dX4_take_37 (by decide) ?_
    refine Wp.lo' (lo' := [(0, .ref 14)]) [0] rfl ?_
    exact w_X4_take_41 hX hG hf hk
set_option maxHeartbeats 4000000 in
set_option maxRecDepth 100000 in
theorem w_X4_take {X : CX} {T : List Dsc} {R : RM} {c e : Nat} {n1 n2 : Nat} {x1 : Int32} {m : M2} {r : (Int32 × M2)} (hX : XR X 1 n1 n2) (hG : Geo T R c e) (hf : F_X4_take e x1 m = some r) (hk : FnZ X cX4_take RX4 2 T n1 n2 (r.1, mk r.2 R)) : Wp X cX4_take RX4 2 T (mk m R) n1 n2 0 [(0, .ref 14), (1, .int x1)] [] := by
  unfold F_X4_take at hf
  refine Wp.aload_n (pc := 0) 0 rfl rfl dX4_take_0 ?_
  refine Wp.getI2 (pc := 1) (hG.t 14 rfl) fk_RX4_43 rfl dX4_take_1 ?_
  refine Wp.if_eq (pc := 4) 9 dX4_take_4 (by decide) (fun hc1 => ?_) (fun hc1 => ?_)
  · rw [if_pos hc1] at hf
    refine Wp.aload_n (pc := 9) 0 rfl rfl dX4_take_9 ?_
    refine Wp.getI2 (pc := 10) (hG.t 14 rfl) fk_RX4_46 rfl dX4_take_10 ?_
    refine Wp.iload_n (pc := 13) 1 rfl rfl dX4_take_13 ?_
    refine Wp.icmp_ne (pc := 14) 27 dX4_take_14 (by decide) (fun hc2 => ?_) (fun hc2 => ?_)
    · rw [if_neg hc2] at hf
      exact w_X4_take_27 hX hG hf hk
    · rw [if_pos hc2] at hf
      refine Wp.aload_n (pc := 17) 0 rfl rfl dX4_take_17 ?_
      refine Wp.getI2 (pc := 18) (hG.t 14 rfl) fk_RX4_82 rfl dX4_take_18 ?_
      refine Wp.sipush (pc := 21) (400 : Int32) (by decide) dX4_take_21 ?_
      refine Wp.icmp_lt (pc := 24) 62 dX4_take_24 (by decide) (fun hc3 => ?_) (fun hc3 => ?_)
      · rw [if_pos hc3] at hf
        refine Wp.aload_n (pc := 62) 0 rfl rfl dX4_take_62 ?_
        refine Wp.dup (pc := 63) rfl dX4_take_63 ?_
        refine Wp.getI2 (pc := 64) (hG.t 14 rfl) fk_RX4_82 rfl dX4_take_64 ?_
        refine Wp.iconst (pc := 67) (1 : Int32) (by decide) dX4_take_67 ?_
        refine Wp.iadd (pc := 68) dX4_take_68 ?_
        obtain ⟨m4, h5, hf⟩ := bnd hf
        refine Wp.ptI2 (pc := 69) h5 (hG.t 14 rfl) fk_RX4_82 ff_RX4_3_1 rfl dX4_take_69 ?_
        refine Wp.aload_n (pc := 72) 0 rfl rfl dX4_take_72 ?_
        refine Wp.aload_n (pc := 73) 0 rfl rfl dX4_take_73 ?_
        refine Wp.getR2 (pc := 74) (hG.r 14 0 rfl) (hG.t 14 rfl) fk_RX4_31 rfl dX4_take_74 ?_
        refine Wp.getR2 (pc := 77) (hG.r 18 1 rfl) (hG.t 18 rfl) fk_RX4_85 rfl dX4_take_77 ?_
        refine Wp.aload_n (pc := 80) 0 rfl rfl dX4_take_80 ?_
        refine Wp.getI2 (pc := 81) (hG.t 14 rfl) fk_RX4_82 rfl dX4_take_81 ?_
        obtain ⟨v6, h7, hf⟩ := bnd hf
        refine Wp.iald2 (pc := 84) h7 (hG.a 20 0 rfl) dX4_take_84 ?_
        obtain ⟨m8, h9, hf⟩ := bnd hf
        refine Wp.ptI2 (pc := 85) h9 (hG.t 14 rfl) fk_RX4_46 ff_RX4_3_2 rfl dX4_take_85 ?_
        refine Wp.iconst (pc := 88) (1 : Int32) (by decide) dX4_take_88 ?_
        cases hf
        exact hk _ _ (Or.inr rfl) dX4_take_89
      · rw [if_neg hc3] at hf
        exact w_X4_take_27 hX hG hf hk
  · rw [if_neg hc1] at hf
    refine Wp.iconst (pc := 7) (0 : Int32) (by decide) dX4_take_7 ?_
    cases hf
    exact hk _ _ (Or.inl rfl) dX4_take_8
theorem c_X4_take {T : List Dsc} {R : RM} {c e : Nat} {x1 : Int32} {m : M2} {r : (Int32 × M2)} (hG : Geo T R c e) (hf : F_X4_take e x1 m = some r) : Ct 1 yX4_take cX4_take 2 (some .boolean) T (mk m R) [.ref 14, .int x1] (some (.int r.1)) (mk r.2 R) := Ct.ofZ (r := (r.1, mk r.2 R)) (by decide +kernel) (Nat.le_of_ble_eq_true rfl) (fun X hX hk => w_X4_take hX hG hf hk)
theorem dX4_taken_0 : decode cX4_taken 0 = .ok (.aload_n 0, 1) := by decide +kernel
theorem dX4_taken_1 : decode cX4_taken 1 = .ok (.getfield 82, 3) := by decide +kernel
theorem dX4_taken_4 : decode cX4_taken 4 = .ok (.ifCond .le 20, 3) := by decide +kernel
theorem dX4_taken_7 : decode cX4_taken 7 = .ok (.aload_n 0, 1) := by decide +kernel
theorem dX4_taken_8 : decode cX4_taken 8 = .ok (.getfield 31, 3) := by decide +kernel
theorem dX4_taken_11 : decode cX4_taken 11 = .ok (.getfield 109, 3) := by decide +kernel
theorem dX4_taken_14 : decode cX4_taken 14 = .ok (.aload_n 0, 1) := by decide +kernel
theorem dX4_taken_15 : decode cX4_taken 15 = .ok (.getfield 82, 3) := by decide +kernel
theorem dX4_taken_18 : decode cX4_taken 18 = .ok (.iconst 1, 1) := by decide +kernel
theorem dX4_taken_19 : decode cX4_taken 19 = .ok (.isub, 1) := by decide +kernel
theorem dX4_taken_20 : decode cX4_taken 20 = .ok (.laload, 1) := by decide +kernel
theorem dX4_taken_21 : decode cX4_taken 21 = .ok (.goto 4, 3) := by decide +kernel
theorem dX4_taken_24 : decode cX4_taken 24 = .ok (.lconst 0, 1) := by decide +kernel
theorem dX4_taken_25 : decode cX4_taken 25 = .ok (.lreturn, 1) := by decide +kernel
set_option maxHeartbeats 4000000 in
set_option maxRecDepth 100000 in
theorem w_X4_taken_25 {X : CX} {T : List Dsc} {R : RM} {c e : Nat} {n1 n2 : Nat} {s0 : Int64} {m : M2} {r : (Int64 × M2)} (hX : XR X 1 n1 n2) (hG : Geo T R c e) (hf : f_X4_taken_25 e s0 m = some r) (hk : FnJ X cX4_taken RX4 1 T n1 n2 (r.1, mk r.2 R)) : Wp X cX4_taken RX4 1 T (mk m R) n1 n2 25 [] [.long s0] := by
  unfold f_X4_taken_25 at hf
  cases hf
  exact hk _ _ dX4_taken_25
set_option maxHeartbeats 4000000 in
set_option maxRecDepth 100000 in
theorem w_X4_taken {X : CX} {T : List Dsc} {R : RM} {c e : Nat} {n1 n2 : Nat} {m : M2} {r : (Int64 × M2)} (hX : XR X 1 n1 n2) (hG : Geo T R c e) (hf : F_X4_taken e m = some r) (hk : FnJ X cX4_taken RX4 1 T n1 n2 (r.1, mk r.2 R)) : Wp X cX4_taken RX4 1 T (mk m R) n1 n2 0 [(0, .ref 14)] [] := by
  unfold F_X4_taken at hf
  refine Wp.aload_n (pc := 0) 0 rfl rfl dX4_taken_0 ?_
  refine Wp.getI2 (pc := 1) (hG.t 14 rfl) fk_RX4_82 rfl dX4_taken_1 ?_
  refine Wp.if_le (pc := 4) 24 dX4_taken_4 (by decide) (fun hc1 => ?_) (fun hc1 => ?_)
  · rw [if_pos hc1] at hf
    refine Wp.lconst (pc := 24) (0 : Int64) (by decide) dX4_taken_24 ?_
    refine Wp.lo' (lo' := []) [] rfl ?_
    exact w_X4_taken_25 hX hG hf hk
  · rw [if_neg hc1] at hf
    refine Wp.aload_n (pc := 7) 0 rfl rfl dX4_taken_7 ?_
    refine Wp.getR2 (pc := 8) (hG.r 14 0 rfl) (hG.t 14 rfl) fk_RX4_31 rfl dX4_taken_8 ?_
    refine Wp.getR2 (pc := 11) (hG.r 18 2 rfl) (hG.t 18 rfl) fk_RX4_109 rfl dX4_taken_11 ?_
    refine Wp.aload_n (pc := 14) 0 rfl rfl dX4_taken_14 ?_
    refine Wp.getI2 (pc := 15) (hG.t 14 rfl) fk_RX4_82 rfl dX4_taken_15 ?_
    refine Wp.iconst (pc := 18) (1 : Int32) (by decide) dX4_taken_18 ?_
    refine Wp.isub (pc := 19) dX4_taken_19 ?_
    obtain ⟨v2, h3, hf⟩ := bnd hf
    refine Wp.lald2 (pc := 20) h3 (hG.a 21 1 rfl) dX4_taken_20 ?_
    refine Wp.goto (pc := 21) 25 dX4_taken_21 (by decide) ?_
    refine Wp.lo' (lo' := []) [] rfl ?_
    exact w_X4_taken_25 hX hG hf hk
theorem c_X4_taken {T : List Dsc} {R : RM} {c e : Nat} {m : M2} {r : (Int64 × M2)} (hG : Geo T R c e) (hf : F_X4_taken e m = some r) : Ct 1 yX4_taken cX4_taken 1 (some .long) T (mk m R) [.ref 14] (some (.long r.1)) (mk r.2 R) := Ct.ofJ (r := (r.1, mk r.2 R)) (by decide +kernel) (Nat.le_of_ble_eq_true rfl) (fun X hX hk => w_X4_taken hX hG hf hk)
theorem dX4_slipAtTaken_0 : decode cX4_slipAtTaken 0 = .ok (.aload_n 0, 1) := by decide +kernel
theorem dX4_slipAtTaken_1 : decode cX4_slipAtTaken 1 = .ok (.getfield 88, 3) := by decide +kernel
theorem dX4_slipAtTaken_4 : decode cX4_slipAtTaken 4 = .ok (.ifCond .ne 33, 3) := by decide +kernel
theorem dX4_slipAtTaken_7 : decode cX4_slipAtTaken 7 = .ok (.aload_n 0, 1) := by decide +kernel
theorem dX4_slipAtTaken_8 : decode cX4_slipAtTaken 8 = .ok (.getfield 82, 3) := by decide +kernel
theorem dX4_slipAtTaken_11 : decode cX4_slipAtTaken 11 = .ok (.ifCond .le 26, 3) := by decide +kernel
theorem dX4_slipAtTaken_14 : decode cX4_slipAtTaken 14 = .ok (.aload_n 0, 1) := by decide +kernel
theorem dX4_slipAtTaken_15 : decode cX4_slipAtTaken 15 = .ok (.iload_n 1, 1) := by decide +kernel
theorem dX4_slipAtTaken_16 : decode cX4_slipAtTaken 16 = .ok (.putfield 88, 3) := by decide +kernel
theorem dX4_slipAtTaken_19 : decode cX4_slipAtTaken 19 = .ok (.aload_n 0, 1) := by decide +kernel
theorem dX4_slipAtTaken_20 : decode cX4_slipAtTaken 20 = .ok (.aload_n 0, 1) := by decide +kernel
theorem dX4_slipAtTaken_21 : decode cX4_slipAtTaken 21 = .ok (.getfield 31, 3) := by decide +kernel
theorem dX4_slipAtTaken_24 : decode cX4_slipAtTaken 24 = .ok (.getfield 106, 3) := by decide +kernel
theorem dX4_slipAtTaken_27 : decode cX4_slipAtTaken 27 = .ok (.aload_n 0, 1) := by decide +kernel
theorem dX4_slipAtTaken_28 : decode cX4_slipAtTaken 28 = .ok (.getfield 82, 3) := by decide +kernel
theorem dX4_slipAtTaken_31 : decode cX4_slipAtTaken 31 = .ok (.iconst 1, 1) := by decide +kernel
theorem dX4_slipAtTaken_32 : decode cX4_slipAtTaken 32 = .ok (.isub, 1) := by decide +kernel
theorem dX4_slipAtTaken_33 : decode cX4_slipAtTaken 33 = .ok (.iaload, 1) := by decide +kernel
theorem dX4_slipAtTaken_34 : decode cX4_slipAtTaken 34 = .ok (.putfield 100, 3) := by decide +kernel
theorem dX4_slipAtTaken_37 : decode cX4_slipAtTaken 37 = .ok (.return_, 1) := by decide +kernel
set_option maxHeartbeats 4000000 in
set_option maxRecDepth 100000 in
theorem w_X4_slipAtTaken_37 {X : CX} {T : List Dsc} {R : RM} {c e : Nat} {n1 n2 : Nat} {m : M2} {r : M2} (hX : XR X 1 n1 n2) (hG : Geo T R c e) (hf : f_X4_slipAtTaken_37 e m = some r) (hk : FnV X cX4_slipAtTaken RX4 2 T n1 n2 (mk r R)) : Wp X cX4_slipAtTaken RX4 2 T (mk m R) n1 n2 37 [] [] := by
  unfold f_X4_slipAtTaken_37 at hf
  cases hf
  exact hk _ _ dX4_slipAtTaken_37
set_option maxHeartbeats 4000000 in
set_option maxRecDepth 100000 in
theorem w_X4_slipAtTaken {X : CX} {T : List Dsc} {R : RM} {c e : Nat} {n1 n2 : Nat} {x1 : Int32} {m : M2} {r : M2} (hX : XR X 1 n1 n2) (hG : Geo T R c e) (hf : F_X4_slipAtTaken e x1 m = some r) (hk : FnV X cX4_slipAtTaken RX4 2 T n1 n2 (mk r R)) : Wp X cX4_slipAtTaken RX4 2 T (mk m R) n1 n2 0 [(0, .ref 14), (1, .int x1)] [] := by
  unfold F_X4_slipAtTaken at hf
  refine Wp.aload_n (pc := 0) 0 rfl rfl dX4_slipAtTaken_0 ?_
  refine Wp.getI2 (pc := 1) (hG.t 14 rfl) fk_RX4_88 rfl dX4_slipAtTaken_1 ?_
  refine Wp.if_ne (pc := 4) 37 dX4_slipAtTaken_4 (by decide) (fun hc1 => ?_) (fun hc1 => ?_)
  · rw [if_neg hc1] at hf
    refine Wp.lo' (lo' := []) [] rfl ?_
    exact w_X4_slipAtTaken_37 hX hG hf hk
  · rw [if_pos hc1] at hf
    refine Wp.aload_n (pc := 7) 0 rfl rfl dX4_slipAtTaken_7 ?_
    refine Wp.getI2 (pc := 8) (hG.t 14 rfl) fk_RX4_82 rfl dX4_slipAtTaken_8 ?_
    refine Wp.if_le (pc := 11) 37 dX4_slipAtTaken_11 (by decide) (fun hc2 => ?_) (fun hc2 => ?_)
    · rw [if_pos hc2] at hf
      refine Wp.lo' (lo' := []) [] rfl ?_
      exact w_X4_slipAtTaken_37 hX hG hf hk
    · rw [if_neg hc2] at hf
      refine Wp.aload_n (pc := 14) 0 rfl rfl dX4_slipAtTaken_14 ?_
      refine Wp.iload_n (pc := 15) 1 rfl rfl dX4_slipAtTaken_15 ?_
      obtain ⟨m3, h4, hf⟩ := bnd hf
      refine Wp.ptI2 (pc := 16) h4 (hG.t 14 rfl) fk_RX4_88 ff_RX4_3_6 rfl dX4_slipAtTaken_16 ?_
      refine Wp.aload_n (pc := 19) 0 rfl rfl dX4_slipAtTaken_19 ?_
      refine Wp.aload_n (pc := 20) 0 rfl rfl dX4_slipAtTaken_20 ?_
      refine Wp.getR2 (pc := 21) (hG.r 14 0 rfl) (hG.t 14 rfl) fk_RX4_31 rfl dX4_slipAtTaken_21 ?_
      refine Wp.getR2 (pc := 24) (hG.r 18 3 rfl) (hG.t 18 rfl) fk_RX4_106 rfl dX4_slipAtTaken_24 ?_
      refine Wp.aload_n (pc := 27) 0 rfl rfl dX4_slipAtTaken_27 ?_
      refine Wp.getI2 (pc := 28) (hG.t 14 rfl) fk_RX4_82 rfl dX4_slipAtTaken_28 ?_
      refine Wp.iconst (pc := 31) (1 : Int32) (by decide) dX4_slipAtTaken_31 ?_
      refine Wp.isub (pc := 32) dX4_slipAtTaken_32 ?_
      obtain ⟨v5, h6, hf⟩ := bnd hf
      refine Wp.iald2 (pc := 33) h6 (hG.a 22 0 rfl) dX4_slipAtTaken_33 ?_
      obtain ⟨m7, h8, hf⟩ := bnd hf
      refine Wp.ptI2 (pc := 34) h8 (hG.t 14 rfl) fk_RX4_100 ff_RX4_3_7 rfl dX4_slipAtTaken_34 ?_
      refine Wp.lo' (lo' := []) [] rfl ?_
      exact w_X4_slipAtTaken_37 hX hG hf hk
theorem c_X4_slipAtTaken {T : List Dsc} {R : RM} {c e : Nat} {x1 : Int32} {m : M2} {r : M2} (hG : Geo T R c e) (hf : F_X4_slipAtTaken e x1 m = some r) : Ct 1 yX4_slipAtTaken cX4_slipAtTaken 2 none T (mk m R) [.ref 14, .int x1] none (mk r R) := Ct.ofV (r := mk r R) (by decide +kernel) (Nat.le_of_ble_eq_true rfl) (fun X hX hk => w_X4_slipAtTaken hX hG hf hk)
theorem dX4_readParts_0 : decode cX4_readParts 0 = .ok (.aload_n 0, 1) := by decide +kernel
theorem dX4_readParts_1 : decode cX4_readParts 1 = .ok (.bipush 17, 2) := by decide +kernel
theorem dX4_readParts_3 : decode cX4_readParts 3 = .ok (.invokevirtual 114, 3) := by decide +kernel
theorem dX4_readParts_6 : decode cX4_readParts 6 = .ok (.pop, 1) := by decide +kernel
theorem dX4_readParts_7 : decode cX4_readParts 7 = .ok (.aload_n 0, 1) := by decide +kernel
theorem dX4_readParts_8 : decode cX4_readParts 8 = .ok (.iconst 3, 1) := by decide +kernel
theorem dX4_readParts_9 : decode cX4_readParts 9 = .ok (.invokevirtual 114, 3) := by decide +kernel
theorem dX4_readParts_12 : decode cX4_readParts 12 = .ok (.ifCond .eq 45, 3) := by decide +kernel
theorem dX4_readParts_15 : decode cX4_readParts 15 = .ok (.aload_n 0, 1) := by decide +kernel
theorem dX4_readParts_16 : decode cX4_readParts 16 = .ok (.invokevirtual 118, 3) := by decide +kernel
theorem dX4_readParts_19 : decode cX4_readParts 19 = .ok (.ldc2_w 122, 3) := by decide +kernel
theorem dX4_readParts_22 : decode cX4_readParts 22 = .ok (.lcmp, 1) := by decide +kernel
theorem dX4_readParts_23 : decode cX4_readParts 23 = .ok (.ifCond .lt 14, 3) := by decide +kernel
theorem dX4_readParts_26 : decode cX4_readParts 26 = .ok (.aload_n 0, 1) := by decide +kernel
theorem dX4_readParts_27 : decode cX4_readParts 27 = .ok (.invokevirtual 118, 3) := by decide +kernel
theorem dX4_readParts_30 : decode cX4_readParts 30 = .ok (.ldc2_w 124, 3) := by decide +kernel
theorem dX4_readParts_33 : decode cX4_readParts 33 = .ok (.lcmp, 1) := by decide +kernel
theorem dX4_readParts_34 : decode cX4_readParts 34 = .ok (.ifCond .le 11, 3) := by decide +kernel
theorem dX4_readParts_37 : decode cX4_readParts 37 = .ok (.aload_n 0, 1) := by decide +kernel
theorem dX4_readParts_38 : decode cX4_readParts 38 = .ok (.iconst 5, 1) := by decide +kernel
theorem dX4_readParts_39 : decode cX4_readParts 39 = .ok (.invokevirtual 126, 3) := by decide +kernel
theorem dX4_readParts_42 : decode cX4_readParts 42 = .ok (.goto 15, 3) := by decide +kernel
theorem dX4_readParts_45 : decode cX4_readParts 45 = .ok (.aload_n 0, 1) := by decide +kernel
theorem dX4_readParts_46 : decode cX4_readParts 46 = .ok (.getfield 35, 3) := by decide +kernel
theorem dX4_readParts_49 : decode cX4_readParts 49 = .ok (.aload_n 0, 1) := by decide +kernel
theorem dX4_readParts_50 : decode cX4_readParts 50 = .ok (.invokevirtual 118, 3) := by decide +kernel
theorem dX4_readParts_53 : decode cX4_readParts 53 = .ok (.l2i, 1) := by decide +kernel
theorem dX4_readParts_54 : decode cX4_readParts 54 = .ok (.putfield 103, 3) := by decide +kernel
theorem dX4_readParts_57 : decode cX4_readParts 57 = .ok (.aload_n 0, 1) := by decide +kernel
theorem dX4_readParts_58 : decode cX4_readParts 58 = .ok (.iconst 4, 1) := by decide +kernel
theorem dX4_readParts_59 : decode cX4_readParts 59 = .ok (.invokevirtual 114, 3) := by decide +kernel
theorem dX4_readParts_62 : decode cX4_readParts 62 = .ok (.pop, 1) := by decide +kernel
theorem dX4_readParts_63 : decode cX4_readParts 63 = .ok (.return_, 1) := by decide +kernel
set_option maxHeartbeats 4000000 in
set_option maxRecDepth 100000 in
theorem w_X4_readParts_57 {X : CX} {T : List Dsc} {R : RM} {c e : Nat} {n1 n2 : Nat} {m : M2} {r : M2} (hX : XR X 2 n1 n2) (hG : Geo T R c e) (hf : f_X4_readParts_57 e m = some r) (hk : FnV X cX4_readParts RX4 1 T n1 n2 (mk r R)) : Wp X cX4_readParts RX4 1 T (mk m R) n1 n2 57 [(0, .ref 14)] [] := by
  unfold f_X4_readParts_57 at hf
  refine Wp.aload_n (pc := 57) 0 rfl rfl dX4_readParts_57 ?_
  refine Wp.iconst (pc := 58) (4 : Int32) (by decide) dX4_readParts_58 ?_
  obtain ⟨c1, h2, hf⟩ := bnd hf
  refine Wp.callVi (pc := 59) (st := []) (as := [.int (4 : Int32)]) (c_X4_take hG h2) ml_RX4_114 mv_X4_take mb_X4_take hX (Nat.le_of_ble_eq_true rfl) (by decide) rfl (hG.t 14 rfl) rfl (by simp) dX4_readParts_59 rfl ?_
  refine Wp.pop (pc := 62) rfl dX4_readParts_62 ?_
  cases hf
  exact hk _ _ dX4_readParts_63
set_option maxHeartbeats 4000000 in
set_option maxRecDepth 100000 in
theorem w_X4_readParts_37 {X : CX} {T : List Dsc} {R : RM} {c e : Nat} {n1 n2 : Nat} {m : M2} {r : M2} (hX : XR X 2 n1 n2) (hG : Geo T R c e) (hf : f_X4_readParts_37 e m = some r) (hk : FnV X cX4_readParts RX4 1 T n1 n2 (mk r R)) : Wp X cX4_readParts RX4 1 T (mk m R) n1 n2 37 [(0, .ref 14)] [] := by
  unfold f_X4_readParts_37 at hf
  refine Wp.aload_n (pc := 37) 0 rfl rfl dX4_readParts_37 ?_
  refine Wp.iconst (pc := 38) (5 : Int32) (by decide) dX4_readParts_38 ?_
  obtain ⟨c1, h2, hf⟩ := bnd hf
  refine Wp.callVv (pc := 39) (st := []) (as := [.int (5 : Int32)]) (c_X4_slipAtTaken hG h2) ml_RX4_126 mv_X4_slipAtTaken mb_X4_slipAtTaken hX (Nat.le_of_ble_eq_true rfl) (by decide) rfl (hG.t 14 rfl) rfl (by simp) dX4_readParts_39 rfl ?_
  refine Wp.goto (pc := 42) 57 dX4_readParts_42 (by decide) ?_
  exact w_X4_readParts_57 hX hG hf hk
set_option maxHeartbeats 4000000 in
set_option maxRecDepth 100000 in
theorem w_X4_readParts {X : CX} {T : List Dsc} {R : RM} {c e : Nat} {n1 n2 : Nat} {m : M2} {r : M2} (hX : XR X 2 n1 n2) (hG : Geo T R c e) (hf : F_X4_readParts e m = some r) (hk : FnV X cX4_readParts RX4 1 T n1 n2 (mk r R)) : Wp X cX4_readParts RX4 1 T (mk m R) n1 n2 0 [(0, .ref 14)] [] := by
  unfold F_X4_readParts at hf
  refine Wp.aload_n (pc := 0) 0 rfl rfl dX4_readParts_0 ?_
  refine Wp.bipush (pc := 1) (17 : Int32) (by decide) dX4_readParts_1 ?_
  obtain ⟨c1, h2, hf⟩ := bnd hf
  refine Wp.callVi (pc := 3) (st := []) (as := [.int (17 : Int32)]) (c_X4_take hG h2) ml_RX4_114 mv_X4_take mb_X4_take hX (Nat.le_of_ble_eq_true rfl) (by decide) rfl (hG.t 14 rfl) rfl (by simp) dX4_readParts_3 rfl ?_
  refine Wp.pop (pc := 6) rfl dX4_readParts_6 ?_
  refine Wp.aload_n (pc := 7) 0 rfl rfl dX4_readParts_7 ?_
  refine Wp.iconst (pc := 8) (3 : Int32) (by decide) dX4_readParts_8 ?_
  obtain ⟨c3, h4, hf⟩ := bnd hf
  refine Wp.callVi (pc := 9) (st := []) (as := [.int (3 : Int32)]) (c_X4_take hG h4) ml_RX4_114 mv_X4_take mb_X4_take hX (Nat.le_of_ble_eq_true rfl) (by decide) rfl (hG.t 14 rfl) rfl (by simp) dX4_readParts_9 rfl ?_
  refine Wp.if_eq (pc := 12) 57 dX4_readParts_12 (by decide) (fun hc5 => ?_) (fun hc5 => ?_)
  · rw [if_pos hc5] at hf
    exact w_X4_readParts_57 hX hG hf hk
  · rw [if_neg hc5] at hf
    refine Wp.aload_n (pc := 15) 0 rfl rfl dX4_readParts_15 ?_
    obtain ⟨c6, h7, hf⟩ := bnd hf
    refine Wp.callVl (pc := 16) (st := []) (as := []) (c_X4_taken hG h7) ml_RX4_118 mv_X4_taken mb_X4_taken hX (Nat.le_of_ble_eq_true rfl) (by decide) rfl (hG.t 14 rfl) rfl (by simp) dX4_readParts_16 rfl ?_
    refine Wp.ldc2 (pc := 19) (v := (3 : Int64)) (gw_tb 571 (by decide +kernel) rfl) dX4_readParts_19 ?_
    refine Wp.lcmp (pc := 22) dX4_readParts_22 ?_
    refine Wp.if_lt (pc := 23) 37 dX4_readParts_23 (by decide) (fun hc8 => ?_) (fun hc8 => ?_)
    · rw [if_pos hc8] at hf
      exact w_X4_readParts_37 hX hG hf hk
    · rw [if_neg hc8] at hf
      refine Wp.aload_n (pc := 26) 0 rfl rfl dX4_readParts_26 ?_
      obtain ⟨c9, h10, hf⟩ := bnd hf
      refine Wp.callVl (pc := 27) (st := []) (as := []) (c_X4_taken hG h10) ml_RX4_118 mv_X4_taken mb_X4_taken hX (Nat.le_of_ble_eq_true rfl) (by decide) rfl (hG.t 14 rfl) rfl (by simp) dX4_readParts_27 rfl ?_
      refine Wp.ldc2 (pc := 30) (v := (24 : Int64)) (gw_tb 572 (by decide +kernel) rfl) dX4_readParts_30 ?_
      refine Wp.lcmp (pc := 33) dX4_readParts_33 ?_
      refine Wp.if_le (pc := 34) 45 dX4_readParts_34 (by decide) (fun hc11 => ?_) (fun hc11 => ?_)
      · rw [if_pos hc11] at hf
        refine Wp.aload_n (pc := 45) 0 rfl rfl dX4_readParts_45 ?_
        refine Wp.getR2 (pc := 46) hG.r3 (hG.t 14 rfl) fk_RX4_35 rfl dX4_readParts_46 ?_
        refine Wp.aload_n (pc := 49) 0 rfl rfl dX4_readParts_49 ?_
        obtain ⟨c12, h13, hf⟩ := bnd hf
        refine Wp.callVl (pc := 50) (st := [.ref e]) (as := []) (c_X4_taken hG h13) ml_RX4_118 mv_X4_taken mb_X4_taken hX (Nat.le_of_ble_eq_true rfl) (by decide) rfl (hG.t 14 rfl) rfl (by simp [Value.category]) dX4_readParts_50 rfl ?_
        refine Wp.l2i (pc := 53) dX4_readParts_53 ?_
        obtain ⟨m14, h15, hf⟩ := bnd hf
        refine Wp.ptI2 (pc := 54) h15 (hG.tt hG.he) fk_RX4_103 ff_RX4_6_0 rfl dX4_readParts_54 ?_
        exact w_X4_readParts_57 hX hG hf hk
      · rw [if_neg hc11] at hf
        exact w_X4_readParts_37 hX hG hf hk
theorem c_X4_readParts {T : List Dsc} {R : RM} {c e : Nat} {m : M2} {r : M2} (hG : Geo T R c e) (hf : F_X4_readParts e m = some r) : Ct 2 yX4_readParts cX4_readParts 1 none T (mk m R) [.ref 14] none (mk r R) := Ct.ofV (r := mk r R) (by decide +kernel) (Nat.le_of_ble_eq_true rfl) (fun X hX hk => w_X4_readParts hX hG hf hk)
theorem dX4_fail_0 : decode cX4_fail 0 = .ok (.aload_n 0, 1) := by decide +kernel
theorem dX4_fail_1 : decode cX4_fail 1 = .ok (.getfield 43, 3) := by decide +kernel
theorem dX4_fail_4 : decode cX4_fail 4 = .ok (.ifCond .ne 24, 3) := by decide +kernel
theorem dX4_fail_7 : decode cX4_fail 7 = .ok (.aload_n 0, 1) := by decide +kernel
theorem dX4_fail_8 : decode cX4_fail 8 = .ok (.iload_n 1, 1) := by decide +kernel
theorem dX4_fail_9 : decode cX4_fail 9 = .ok (.putfield 43, 3) := by decide +kernel
theorem dX4_fail_12 : decode cX4_fail 12 = .ok (.aload_n 0, 1) := by decide +kernel
theorem dX4_fail_13 : decode cX4_fail 13 = .ok (.aload_n 0, 1) := by decide +kernel
theorem dX4_fail_14 : decode cX4_fail 14 = .ok (.getfield 31, 3) := by decide +kernel
theorem dX4_fail_17 : decode cX4_fail 17 = .ok (.getfield 106, 3) := by decide +kernel
theorem dX4_fail_20 : decode cX4_fail 20 = .ok (.aload_n 0, 1) := by decide +kernel
theorem dX4_fail_21 : decode cX4_fail 21 = .ok (.getfield 82, 3) := by decide +kernel
theorem dX4_fail_24 : decode cX4_fail 24 = .ok (.iaload, 1) := by decide +kernel
theorem dX4_fail_25 : decode cX4_fail 25 = .ok (.putfield 9, 3) := by decide +kernel
theorem dX4_fail_28 : decode cX4_fail 28 = .ok (.return_, 1) := by decide +kernel
set_option maxHeartbeats 4000000 in
set_option maxRecDepth 100000 in
theorem w_X4_fail_28 {X : CX} {T : List Dsc} {R : RM} {c e : Nat} {n1 n2 : Nat} {m : M2} {r : M2} (hX : XR X 1 n1 n2) (hG : Geo T R c e) (hf : f_X4_fail_28 e m = some r) (hk : FnV X cX4_fail RX4 2 T n1 n2 (mk r R)) : Wp X cX4_fail RX4 2 T (mk m R) n1 n2 28 [] [] := by
  unfold f_X4_fail_28 at hf
  cases hf
  exact hk _ _ dX4_fail_28
set_option maxHeartbeats 4000000 in
set_option maxRecDepth 100000 in
theorem w_X4_fail {X : CX} {T : List Dsc} {R : RM} {c e : Nat} {n1 n2 : Nat} {x1 : Int32} {m : M2} {r : M2} (hX : XR X 1 n1 n2) (hG : Geo T R c e) (hf : F_X4_fail e x1 m = some r) (hk : FnV X cX4_fail RX4 2 T n1 n2 (mk r R)) : Wp X cX4_fail RX4 2 T (mk m R) n1 n2 0 [(0, .ref 14), (1, .int x1)] [] := by
  unfold F_X4_fail at hf
  refine Wp.aload_n (pc := 0) 0 rfl rfl dX4_fail_0 ?_
  refine Wp.getI2 (pc := 1) (hG.t 14 rfl) fk_RX4_43 rfl dX4_fail_1 ?_
  refine Wp.if_ne (pc := 4) 28 dX4_fail_4 (by decide) (fun hc1 => ?_) (fun hc1 => ?_)
  · rw [if_neg hc1] at hf
    refine Wp.lo' (lo' := []) [] rfl ?_
    exact w_X4_fail_28 hX hG hf hk
  · rw [if_pos hc1] at hf
    refine Wp.aload_n (pc := 7) 0 rfl rfl dX4_fail_7 ?_
    refine Wp.iload_n (pc := 8) 1 rfl rfl dX4_fail_8 ?_
    obtain ⟨m2, h3, hf⟩ := bnd hf
    refine Wp.ptI2 (pc := 9) h3 (hG.t 14 rfl) fk_RX4_43 ff_RX4_3_4 rfl dX4_fail_9 ?_
    refine Wp.aload_n (pc := 12) 0 rfl rfl dX4_fail_12 ?_
    refine Wp.aload_n (pc := 13) 0 rfl rfl dX4_fail_13 ?_
    refine Wp.getR2 (pc := 14) (hG.r 14 0 rfl) (hG.t 14 rfl) fk_RX4_31 rfl dX4_fail_14 ?_
    refine Wp.getR2 (pc := 17) (hG.r 18 3 rfl) (hG.t 18 rfl) fk_RX4_106 rfl dX4_fail_17 ?_
    refine Wp.aload_n (pc := 20) 0 rfl rfl dX4_fail_20 ?_
    refine Wp.getI2 (pc := 21) (hG.t 14 rfl) fk_RX4_82 rfl dX4_fail_21 ?_
    obtain ⟨v4, h5, hf⟩ := bnd hf
    refine Wp.iald2 (pc := 24) h5 (hG.a 22 0 rfl) dX4_fail_24 ?_
    obtain ⟨m6, h7, hf⟩ := bnd hf
    refine Wp.ptI2 (pc := 25) h7 (hG.t 14 rfl) fk_RX4_9 ff_RX4_3_5 rfl dX4_fail_25 ?_
    refine Wp.lo' (lo' := []) [] rfl ?_
    exact w_X4_fail_28 hX hG hf hk
theorem c_X4_fail {T : List Dsc} {R : RM} {c e : Nat} {x1 : Int32} {m : M2} {r : M2} (hG : Geo T R c e) (hf : F_X4_fail e x1 m = some r) : Ct 1 yX4_fail cX4_fail 2 none T (mk m R) [.ref 14, .int x1] none (mk r R) := Ct.ofV (r := mk r R) (by decide +kernel) (Nat.le_of_ble_eq_true rfl) (fun X hX hk => w_X4_fail hX hG hf hk)
theorem dX4_noteName_0 : decode cX4_noteName 0 = .ok (.iconst 0, 1) := by decide +kernel
theorem dX4_noteName_1 : decode cX4_noteName 1 = .ok (.istore_n 2, 1) := by decide +kernel
theorem dX4_noteName_2 : decode cX4_noteName 2 = .ok (.iload_n 2, 1) := by decide +kernel
theorem dX4_noteName_3 : decode cX4_noteName 3 = .ok (.aload_n 0, 1) := by decide +kernel
theorem dX4_noteName_4 : decode cX4_noteName 4 = .ok (.getfield 91, 3) := by decide +kernel
theorem dX4_noteName_7 : decode cX4_noteName 7 = .ok (.if_icmp .ge 28, 3) := by decide +kernel
theorem dX4_noteName_10 : decode cX4_noteName 10 = .ok (.aload_n 0, 1) := by decide +kernel
theorem dX4_noteName_11 : decode cX4_noteName 11 = .ok (.getfield 19, 3) := by decide +kernel
theorem dX4_noteName_14 : decode cX4_noteName 14 = .ok (.iload_n 2, 1) := by decide +kernel
theorem dX4_noteName_15 : decode cX4_noteName 15 = .ok (.laload, 1) := by decide +kernel
theorem dX4_noteName_16 : decode cX4_noteName 16 = .ok (.aload_n 0, 1) := by decide +kernel
theorem dX4_noteName_17 : decode cX4_noteName 17 = .ok (.invokevirtual 118, 3) := by decide +kernel
theorem dX4_noteName_20 : decode cX4_noteName 20 = .ok (.lcmp, 1) := by decide +kernel
theorem dX4_noteName_21 : decode cX4_noteName 21 = .ok (.ifCond .ne 8, 3) := by decide +kernel
theorem dX4_noteName_24 : decode cX4_noteName 24 = .ok (.aload_n 0, 1) := by decide +kernel
theorem dX4_noteName_25 : decode cX4_noteName 25 = .ok (.iconst 3, 1) := by decide +kernel
theorem dX4_noteName_26 : decode cX4_noteName 26 = .ok (.invokevirtual 126, 3) := by decide +kernel
theorem dX4_noteName_29 : decode cX4_noteName 29 = .ok (.iinc 2 1, 3) := by decide +kernel
theorem dX4_noteName_32 : decode cX4_noteName 32 = .ok (.goto (-30), 3) := by decide +kernel
theorem dX4_noteName_35 : decode cX4_noteName 35 = .ok (.aload_n 0, 1) := by decide +kernel
theorem dX4_noteName_36 : decode cX4_noteName 36 = .ok (.getfield 91, 3) := by decide +kernel
theorem dX4_noteName_39 : decode cX4_noteName 39 = .ok (.aload_n 0, 1) := by decide +kernel
theorem dX4_noteName_40 : decode cX4_noteName 40 = .ok (.getfield 19, 3) := by decide +kernel
theorem dX4_noteName_43 : decode cX4_noteName 43 = .ok (.arraylength, 1) := by decide +kernel
theorem dX4_noteName_44 : decode cX4_noteName 44 = .ok (.if_icmp .ge 36, 3) := by decide +kernel
theorem dX4_noteName_47 : decode cX4_noteName 47 = .ok (.aload_n 0, 1) := by decide +kernel
theorem dX4_noteName_48 : decode cX4_noteName 48 = .ok (.getfield 19, 3) := by decide +kernel
theorem dX4_noteName_51 : decode cX4_noteName 51 = .ok (.aload_n 0, 1) := by decide +kernel
theorem dX4_noteName_52 : decode cX4_noteName 52 = .ok (.getfield 91, 3) := by decide +kernel
theorem dX4_noteName_55 : decode cX4_noteName 55 = .ok (.aload_n 0, 1) := by decide +kernel
theorem dX4_noteName_56 : decode cX4_noteName 56 = .ok (.invokevirtual 118, 3) := by decide +kernel
theorem dX4_noteName_59 : decode cX4_noteName 59 = .ok (.lastore, 1) := by decide +kernel
theorem dX4_noteName_60 : decode cX4_noteName 60 = .ok (.aload_n 0, 1) := by decide +kernel
theorem dX4_noteName_61 : decode cX4_noteName 61 = .ok (.getfield 23, 3) := by decide +kernel
theorem dX4_noteName_64 : decode cX4_noteName 64 = .ok (.aload_n 0, 1) := by decide +kernel
theorem dX4_noteName_65 : decode cX4_noteName 65 = .ok (.getfield 91, 3) := by decide +kernel
theorem dX4_noteName_68 : decode cX4_noteName 68 = .ok (.iload_n 1, 1) := by decide +kernel
theorem dX4_noteName_69 : decode cX4_noteName 69 = .ok (.iastore, 1) := by decide +kernel
theorem dX4_noteName_70 : decode cX4_noteName 70 = .ok (.aload_n 0, 1) := by decide +kernel
theorem dX4_noteName_71 : decode cX4_noteName 71 = .ok (.dup, 1) := by decide +kernel
theorem dX4_noteName_72 : decode cX4_noteName 72 = .ok (.getfield 91, 3) := by decide +kernel
theorem dX4_noteName_75 : decode cX4_noteName 75 = .ok (.iconst 1, 1) := by decide +kernel
theorem dX4_noteName_76 : decode cX4_noteName 76 = .ok (.iadd, 1) := by decide +kernel
theorem dX4_noteName_77 : decode cX4_noteName 77 = .ok (.putfield 91, 3) := by decide +kernel
theorem dX4_noteName_80 : decode cX4_noteName 80 = .ok (.return_, 1) := by decide +kernel
def k_X4_noteName_2 (X : CX) (T : List Dsc) (R : RM) (n1 n2 : Nat) (x1 : Int32) (r : ((Int32 × M2) ⊕ ((M2)))) : Prop := match r with
  | .inl s => Wp X cX4_noteName RX4 3 T (mk s.2 R) n1 n2 2 [(0, .ref 14), (1, .int x1), (2, .int s.1)] []
  | .inr e => Wp X cX4_noteName RX4 3 T (mk e R) n1 n2 35 [(0, .ref 14), (1, .int x1)] []
set_option maxHeartbeats 4000000 in
set_option maxRecDepth 100000 in
theorem w_X4_noteName_29 {X : CX} {T : List Dsc} {R : RM} {c e : Nat} {n1 n2 : Nat} {x1 : Int32} {x2 : Int32} {m : M2} {r : ((Int32 × M2) ⊕ ((M2)))} (hX : XR X 2 n1 n2) (hG : Geo T R c e) (hf : f_X4_noteName_29 e x1 x2 m = some r) (hk : k_X4_noteName_2 X T R n1 n2 x1 r) : Wp X cX4_noteName RX4 3 T (mk m R) n1 n2 29 [(0, .ref 14), (1, .int x1), (2, .int x2)] [] := by
  unfold f_X4_noteName_29 at hf
  obtain ⟨v1, h2, hf⟩ := bnd hf
  refine Wp.iincN (pc := 29) (lo' := [(0, .ref 14), (1, .int x1), (2, .int v1)]) (1 : Int32) (by decide) h2 2 rfl [1, 2, 0] rfl (by decide) dX4_noteName_29 ?_
  refine Wp.goto (pc := 32) 2 dX4_noteName_32 (by decide) ?_
  cases hf
  exact hk
set_option maxHeartbeats 4000000 in
set_option maxRecDepth 100000 in
theorem w_X4_noteName_2 {X : CX} {T : List Dsc} {R : RM} {c e : Nat} {n1 n2 : Nat} {x1 : Int32} {x2 : Int32} {m : M2} {r : ((Int32 × M2) ⊕ ((M2)))} (hX : XR X 2 n1 n2) (hG : Geo T R c e) (hf : f_X4_noteName_2 e x1 x2 m = some r) (hk : k_X4_noteName_2 X T R n1 n2 x1 r) : Wp X cX4_noteName RX4 3 T (mk m R) n1 n2 2 [(0, .ref 14), (1, .int x1), (2, .int x2)] [] := by
  unfold f_X4_noteName_2 at hf
  refine Wp.iload_n (pc := 2) 2 rfl rfl dX4_noteName_2 ?_
  refine Wp.aload_n (pc := 3) 0 rfl rfl dX4_noteName_3 ?_
  refine Wp.getI2 (pc := 4) (hG.t 14 rfl) fk_RX4_91 rfl dX4_noteName_4 ?_
  refine Wp.icmp_ge (pc := 7) 35 dX4_noteName_7 (by decide) (fun hc1 => ?_) (fun hc1 => ?_)
  · rw [if_pos hc1] at hf
    refine Wp.lo' (lo' := [(0, .ref 14), (1, .int x1)]) [0, 1] rfl ?_
    cases hf
    exact hk
  · rw [if_neg hc1] at hf
    refine Wp.aload_n (pc := 10) 0 rfl rfl dX4_noteName_10 ?_
    refine Wp.getR2 (pc := 11) (hG.r 14 9 rfl) (hG.t 14 rfl) fk_RX4_19 rfl dX4_noteName_11 ?_
    refine Wp.iload_n (pc := 14) 2 rfl rfl dX4_noteName_14 ?_
    obtain ⟨v2, h3, hf⟩ := bnd hf
    refine Wp.lald2 (pc := 15) h3 (hG.a 16 1 rfl) dX4_noteName_15 ?_
    refine Wp.aload_n (pc := 16) 0 rfl rfl dX4_noteName_16 ?_
    obtain ⟨c4, h5, hf⟩ := bnd hf
    refine Wp.callVl (pc := 17) (st := [.long v2]) (as := []) (c_X4_taken hG h5) ml_RX4_118 mv_X4_taken mb_X4_taken hX (Nat.le_of_ble_eq_true rfl) (by decide) rfl (hG.t 14 rfl) rfl (by simp [Value.category]) dX4_noteName_17 rfl ?_
    refine Wp.lcmp (pc := 20) dX4_noteName_20 ?_
    refine Wp.if_ne (pc := 21) 29 dX4_noteName_21 (by decide) (fun hc6 => ?_) (fun hc6 => ?_)
    · rw [if_neg hc6] at hf
      exact w_X4_noteName_29 hX hG hf hk
    · rw [if_pos hc6] at hf
      refine Wp.aload_n (pc := 24) 0 rfl rfl dX4_noteName_24 ?_
      refine Wp.iconst (pc := 25) (3 : Int32) (by decide) dX4_noteName_25 ?_
      obtain ⟨c7, h8, hf⟩ := bnd hf
      refine Wp.callVv (pc := 26) (st := []) (as := [.int (3 : Int32)]) (c_X4_slipAtTaken hG h8) ml_RX4_126 mv_X4_slipAtTaken mb_X4_slipAtTaken hX (Nat.le_of_ble_eq_true rfl) (by decide) rfl (hG.t 14 rfl) rfl (by simp) dX4_noteName_26 rfl ?_
      exact w_X4_noteName_29 hX hG hf hk
theorem wl_X4_noteName_2 {X : CX} {T : List Dsc} {R : RM} {c e : Nat} {n1 n2 : Nat} {x1 : Int32} {x2 : Int32} {m : M2} {e1 : ((M2))} (hX : XR X 2 n1 n2) (hG : Geo T R c e) (h : loop (g_X4_noteName_2 e x1) (x2, m) = some e1) (he : Wp X cX4_noteName RX4 3 T (mk e1 R) n1 n2 35 [(0, .ref 14), (1, .int x1)] []) : Wp X cX4_noteName RX4 3 T (mk m R) n1 n2 2 [(0, .ref 14), (1, .int x1), (2, .int x2)] [] :=
  loop_ok (K := k_X4_noteName_2 X T R n1 n2 x1) (fun s r hf hk => w_X4_noteName_2 hX hG hf hk) h he
set_option maxHeartbeats 4000000 in
set_option maxRecDepth 100000 in
theorem w_X4_noteName_80 {X : CX} {T : List Dsc} {R : RM} {c e : Nat} {n1 n2 : Nat} {m : M2} {r : M2} (hX : XR X 2 n1 n2) (hG : Geo T R c e) (hf : f_X4_noteName_80 e m = some r) (hk : FnV X cX4_noteName RX4 3 T n1 n2 (mk r R)) : Wp X cX4_noteName RX4 3 T (mk m R) n1 n2 80 [] [] := by
  unfold f_X4_noteName_80 at hf
  cases hf
  exact hk _ _ dX4_noteName_80
set_option maxHeartbeats 4000000 in
set_option maxRecDepth 100000 in
theorem w_X4_noteName {X : CX} {T : List Dsc} {R : RM} {c e : Nat} {n1 n2 : Nat} {x1 : Int32} {m : M2} {r : M2} (hX : XR X 2 n1 n2) (hG : Geo T R c e) (hf : F_X4_noteName e x1 m = some r) (hk : FnV X cX4_noteName RX4 3 T n1 n2 (mk r R)) : Wp X cX4_noteName RX4 3 T (mk m R) n1 n2 0 [(0, .ref 14), (1, .int x1)] [] := by
  unfold F_X4_noteName at hf
  refine Wp.iconst (pc := 0) (0 : Int32) (by decide) dX4_noteName_0 ?_
  refine Wp.istore_n (pc := 1) (lo' := [(0, .ref 14), (1, .int x1), (2, .int (0 : Int32))]) [1, 2, 0] rfl (by decide) rfl dX4_noteName_1 ?_
  obtain ⟨e1, h2, hf⟩ := bnd hf
  refine wl_X4_noteName_2 hX hG h2 ?_
  refine Wp.aload_n (pc := 35) 0 rfl rfl dX4_noteName_35 ?_
  refine Wp.getI2 (pc := 36) (hG.t 14 rfl) fk_RX4_91 rfl dX4_noteName_36 ?_
  refine Wp.aload_n (pc := 39) 0 rfl rfl dX4_noteName_39 ?_
  refine Wp.getR2 (pc := 40) (hG.r 14 9 rfl) (hG.t 14 rfl) fk_RX4_19 rfl dX4_noteName_40 ?_
  refine Wp.alen (pc := 43) (hG.a 16 1 rfl) dX4_noteName_43 ?_
  refine Wp.icmp_ge (pc := 44) 80 dX4_noteName_44 (by decide) (fun hc3 => ?_) (fun hc3 => ?_)
  · rw [if_pos hc3] at hf
    refine Wp.lo' (lo' := []) [] rfl ?_
    exact w_X4_noteName_80 hX hG hf hk
  · rw [if_neg hc3] at hf
    refine Wp.aload_n (pc := 47) 0 rfl rfl dX4_noteName_47 ?_
    refine Wp.getR2 (pc := 48) (hG.r 14 9 rfl) (hG.t 14 rfl) fk_RX4_19 rfl dX4_noteName_48 ?_
    refine Wp.aload_n (pc := 51) 0 rfl rfl dX4_noteName_51 ?_
    refine Wp.getI2 (pc := 52) (hG.t 14 rfl) fk_RX4_91 rfl dX4_noteName_52 ?_
    refine Wp.aload_n (pc := 55) 0 rfl rfl dX4_noteName_55 ?_
    obtain ⟨c4, h5, hf⟩ := bnd hf
    refine Wp.callVl (pc := 56) (st := [.int (hI e1 14 11), .ref 16]) (as := []) (c_X4_taken hG h5) ml_RX4_118 mv_X4_taken mb_X4_taken hX (Nat.le_of_ble_eq_true rfl) (by decide) rfl (hG.t 14 rfl) rfl (by simp [Value.category]) dX4_noteName_56 rfl ?_
    obtain ⟨m6, h7, hf⟩ := bnd hf
    refine Wp.last2 (pc := 59) h7 (hG.a 16 1 rfl) dX4_noteName_59 ?_
    refine Wp.aload_n (pc := 60) 0 rfl rfl dX4_noteName_60 ?_
    refine Wp.getR2 (pc := 61) (hG.r 14 10 rfl) (hG.t 14 rfl) fk_RX4_23 rfl dX4_noteName_61 ?_
    refine Wp.aload_n (pc := 64) 0 rfl rfl dX4_noteName_64 ?_
    refine Wp.getI2 (pc := 65) (hG.t 14 rfl) fk_RX4_91 rfl dX4_noteName_65 ?_
    refine Wp.iload_n (pc := 68) 1 rfl rfl dX4_noteName_68 ?_
    obtain ⟨m8, h9, hf⟩ := bnd hf
    refine Wp.iast2 (pc := 69) h9 (hG.a 17 0 rfl) dX4_noteName_69 ?_
    refine Wp.aload_n (pc := 70) 0 rfl rfl dX4_noteName_70 ?_
    refine Wp.dup (pc := 71) rfl dX4_noteName_71 ?_
    refine Wp.getI2 (pc := 72) (hG.t 14 rfl) fk_RX4_91 rfl dX4_noteName_72 ?_
    refine Wp.iconst (pc := 75) (1 : Int32) (by decide) dX4_noteName_75 ?_
    refine Wp.iadd (pc := 76) dX4_noteName_76 ?_
    obtain ⟨m10, h11, hf⟩ := bnd hf
    refine Wp.ptI2 (pc := 77) h11 (hG.t 14 rfl) fk_RX4_91 ff_RX4_3_11 rfl dX4_noteName_77 ?_
    refine Wp.lo' (lo' := []) [] rfl ?_
    exact w_X4_noteName_80 hX hG hf hk
theorem c_X4_noteName {T : List Dsc} {R : RM} {c e : Nat} {x1 : Int32} {m : M2} {r : M2} (hG : Geo T R c e) (hf : F_X4_noteName e x1 m = some r) : Ct 2 yX4_noteName cX4_noteName 3 none T (mk m R) [.ref 14, .int x1] none (mk r R) := Ct.ofV (r := mk r R) (by decide +kernel) (Nat.le_of_ble_eq_true rfl) (fun X hX hk => w_X4_noteName hX hG hf hk)
theorem dX4_joinsAt_0 : decode cX4_joinsAt 0 = .ok (.iload_n 0, 1) := by decide +kernel
theorem dX4_joinsAt_1 : decode cX4_joinsAt 1 = .ok (.ifCond .ne 21, 3) := by decide +kernel
theorem dX4_joinsAt_4 : decode cX4_joinsAt 4 = .ok (.iload_n 1, 1) := by decide +kernel
theorem dX4_joinsAt_5 : decode cX4_joinsAt 5 = .ok (.bipush 7, 2) := by decide +kernel
theorem dX4_joinsAt_7 : decode cX4_joinsAt 7 = .ok (.if_icmp .eq 9, 3) := by decide +kernel
theorem dX4_joinsAt_10 : decode cX4_joinsAt 10 = .ok (.iload_n 1, 1) := by decide +kernel
theorem dX4_joinsAt_11 : decode cX4_joinsAt 11 = .ok (.bipush 8, 2) := by decide +kernel
theorem dX4_joinsAt_13 : decode cX4_joinsAt 13 = .ok (.if_icmp .ne 7, 3) := by decide +kernel
theorem dX4_joinsAt_16 : decode cX4_joinsAt 16 = .ok (.iconst 1, 1) := by decide +kernel
theorem dX4_joinsAt_17 : decode cX4_joinsAt 17 = .ok (.goto 4, 3) := by decide +kernel
theorem dX4_joinsAt_20 : decode cX4_joinsAt 20 = .ok (.iconst 0, 1) := by decide +kernel
theorem dX4_joinsAt_21 : decode cX4_joinsAt 21 = .ok (.ireturn, 1) := by decide +kernel
theorem dX4_joinsAt_22 : decode cX4_joinsAt 22 = .ok (.iload_n 1, 1) := by decide +kernel
theorem dX4_joinsAt_23 : decode cX4_joinsAt 23 = .ok (.bipush 9, 2) := by decide +kernel
theorem dX4_joinsAt_25 : decode cX4_joinsAt 25 = .ok (.if_icmp .eq 9, 3) := by decide +kernel
theorem dX4_joinsAt_28 : decode cX4_joinsAt 28 = .ok (.iload_n 1, 1) := by decide +kernel
theorem dX4_joinsAt_29 : decode cX4_joinsAt 29 = .ok (.bipush 10, 2) := by decide +kernel
theorem dX4_joinsAt_31 : decode cX4_joinsAt 31 = .ok (.if_icmp .ne 7, 3) := by decide +kernel
theorem dX4_joinsAt_34 : decode cX4_joinsAt 34 = .ok (.iconst 1, 1) := by decide +kernel
theorem dX4_joinsAt_35 : decode cX4_joinsAt 35 = .ok (.goto 4, 3) := by decide +kernel
theorem dX4_joinsAt_38 : decode cX4_joinsAt 38 = .ok (.iconst 0, 1) := by decide +kernel
theorem dX4_joinsAt_39 : decode cX4_joinsAt 39 = .ok (.ireturn, 1) := by decide +kernel
set_option maxHeartbeats 4000000 in
set_option maxRecDepth 100000 in
theorem w_X4_joinsAt_21 {X : CX} {T : List Dsc} {R : RM} {c e : Nat} {n1 n2 : Nat} {s0 : Int32} {m : M2} {r : (Int32 × M2)} (hX : XR X 1 n1 n2) (hG : Geo T R c e) (hf : f_X4_joinsAt_21 s0 m = some r) (hk : FnZ X cX4_joinsAt RX4 2 T n1 n2 (r.1, mk r.2 R)) : Wp X cX4_joinsAt RX4 2 T (mk m R) n1 n2 21 [] [.int s0] := by
  unfold f_X4_joinsAt_21 at hf
  obtain ⟨v1, h2, hf⟩ := bnd hf
  refine Wp.zb' h2 (fun h2 => ?_)
  cases hf
  exact hk _ _ h2 dX4_joinsAt_21
set_option maxHeartbeats 4000000 in
set_option maxRecDepth 100000 in
theorem w_X4_joinsAt_16 {X : CX} {T : List Dsc} {R : RM} {c e : Nat} {n1 n2 : Nat} {m : M2} {r : (Int32 × M2)} (hX : XR X 1 n1 n2) (hG : Geo T R c e) (hf : f_X4_joinsAt_16 m = some r) (hk : FnZ X cX4_joinsAt RX4 2 T n1 n2 (r.1, mk r.2 R)) : Wp X cX4_joinsAt RX4 2 T (mk m R) n1 n2 16 [] [] := by
  unfold f_X4_joinsAt_16 at hf
  refine Wp.iconst (pc := 16) (1 : Int32) (by decide) dX4_joinsAt_16 ?_
  refine Wp.goto (pc := 17) 21 dX4_joinsAt_17 (by decide) ?_
  exact w_X4_joinsAt_21 hX hG hf hk
set_option maxHeartbeats 4000000 in
set_option maxRecDepth 100000 in
theorem w_X4_joinsAt_39 {X : CX} {T : List Dsc} {R : RM} {c e : Nat} {n1 n2 : Nat} {s0 : Int32} {m : M2} {r : (Int32 × M2)} (hX : XR X 1 n1 n2) (hG : Geo T R c e) (hf : f_X4_joinsAt_39 s0 m = some r) (hk : FnZ X cX4_joinsAt RX4 2 T n1 n2 (r.1, mk r.2 R)) : Wp X cX4_joinsAt RX4 2 T (mk m R) n1 n2 39 [] [.int s0] := by
  unfold f_X4_joinsAt_39 at hf
  obtain ⟨v1, h2, hf⟩ := bnd hf
  refine Wp.zb' h2 (fun h2 => ?_)
  cases hf
  exact hk _ _ h2 dX4_joinsAt_39
set_option maxHeartbeats 4000000 in
set_option maxRecDepth 100000 in
theorem w_X4_joinsAt_34 {X : CX} {T : List Dsc} {R : RM} {c e : Nat} {n1 n2 : Nat} {m : M2} {r : (Int32 × M2)} (hX : XR X 1 n1 n2) (hG : Geo T R c e) (hf : f_X4_joinsAt_34 m = some r) (hk : FnZ X cX4_joinsAt RX4 2 T n1 n2 (r.1, mk r.2 R)) : Wp X cX4_joinsAt RX4 2 T (mk m R) n1 n2 34 [] [] := by
  unfold f_X4_joinsAt_34 at hf
  refine Wp.iconst (pc := 34) (1 : Int32) (by decide) dX4_joinsAt_34 ?_
  refine Wp.goto (pc := 35) 39 dX4_joinsAt_35 (by decide) ?_
  exact w_X4_joinsAt_39 hX hG hf hk
set_option maxHeartbeats 4000000 in
set_option maxRecDepth 100000 in
theorem w_X4_joinsAt {X : CX} {T : List Dsc} {R : RM} {c e : Nat} {n1 n2 : Nat} {x0 : Int32} {x1 : Int32} {m : M2} {r : (Int32 × M2)} (hX : XR X 1 n1 n2) (hG : Geo T R c e) (hf : F_X4_joinsAt x0 x1 m = some r) (hk : FnZ X cX4_joinsAt RX4 2 T n1 n2 (r.1, mk r.2 R)) : Wp X cX4_joinsAt RX4 2 T (mk m R) n1 n2 0 [(0, .int x0), (1, .int x1)] [] := by
  unfold F_X4_joinsAt at hf
  refine Wp.iload_n (pc := 0) 0 rfl rfl dX4_joinsAt_0 ?_
  refine Wp.if_ne (pc := 1) 22 dX4_joinsAt_1 (by decide) (fun hc1 => ?_) (fun hc1 => ?_)
  · rw [if_neg hc1] at hf
    refine Wp.iload_n (pc := 22) 1 rfl rfl dX4_joinsAt_22 ?_
    refine Wp.bipush (pc := 23) (9 : Int32) (by decide) dX4_joinsAt_23 ?_
    refine Wp.icmp_eq (pc := 25) 34 dX4_joinsAt_25 (by decide) (fun hc2 => ?_) (fun hc2 => ?_)
    · rw [if_pos hc2] at hf
      refine Wp.lo' (lo' := []) [] rfl ?_
      exact w_X4_joinsAt_34 hX hG hf hk
    · rw [if_neg hc2] at hf
      refine Wp.iload_n (pc := 28) 1 rfl rfl dX4_joinsAt_28 ?_
      refine Wp.bipush (pc := 29) (10 : Int32) (by decide) dX4_joinsAt_29 ?_
      refine Wp.icmp_ne (pc := 31) 38 dX4_joinsAt_31 (by decide) (fun hc3 => ?_) (fun hc3 => ?_)
      · rw [if_neg hc3] at hf
        refine Wp.iconst (pc := 38) (0 : Int32) (by decide) dX4_joinsAt_38 ?_
        refine Wp.lo' (lo' := []) [] rfl ?_
        exact w_X4_joinsAt_39 hX hG hf hk
      · rw [if_pos hc3] at hf
        refine Wp.lo' (lo' := []) [] rfl ?_
        exact w_X4_joinsAt_34 hX hG hf hk
  · rw [if_pos hc1] at hf
    refine Wp.iload_n (pc := 4) 1 rfl rfl dX4_joinsAt_4 ?_
    refine Wp.bipush (pc := 5) (7 : Int32) (by decide) dX4_joinsAt_5 ?_
    refine Wp.icmp_eq (pc := 7) 16 dX4_joinsAt_7 (by decide) (fun hc4 => ?_) (fun hc4 => ?_)
    · rw [if_pos hc4] at hf
      refine Wp.lo' (lo' := []) [] rfl ?_
      exact w_X4_joinsAt_16 hX hG hf hk
    · rw [if_neg hc4] at hf
      refine Wp.iload_n (pc := 10) 1 rfl rfl dX4_joinsAt_10 ?_
      refine Wp.bipush (pc := 11) (8 : Int32) (by decide) dX4_joinsAt_11 ?_
      refine Wp.icmp_ne (pc := 13) 20 dX4_joinsAt_13 (by decide) (fun hc5 => ?_) (fun hc5 => ?_)
      · rw [if_neg hc5] at hf
        refine Wp.iconst (pc := 20) (0 : Int32) (by decide) dX4_joinsAt_20 ?_
        refine Wp.lo' (lo' := []) [] rfl ?_
        exact w_X4_joinsAt_21 hX hG hf hk
      · rw [if_pos hc5] at hf
        refine Wp.lo' (lo' := []) [] rfl ?_
        exact w_X4_joinsAt_16 hX hG hf hk
theorem c_X4_joinsAt {T : List Dsc} {R : RM} {c e : Nat} {x0 : Int32} {x1 : Int32} {m : M2} {r : (Int32 × M2)} (hG : Geo T R c e) (hf : F_X4_joinsAt x0 x1 m = some r) : Ct 1 yX4_joinsAt cX4_joinsAt 2 (some .boolean) T (mk m R) [.int x0, .int x1] (some (.int r.1)) (mk r.2 R) := Ct.ofZ (r := (r.1, mk r.2 R)) (by decide +kernel) (Nat.le_of_ble_eq_true rfl) (fun X hX hk => w_X4_joinsAt hX hG hf hk)
theorem dX4_emit_0 : decode cX4_emit 0 = .ok (.aload_n 0, 1) := by decide +kernel
theorem dX4_emit_1 : decode cX4_emit 1 = .ok (.getfield 35, 3) := by decide +kernel
theorem dX4_emit_4 : decode cX4_emit 4 = .ok (.getfield 138, 3) := by decide +kernel
theorem dX4_emit_7 : decode cX4_emit 7 = .ok (.istore_n 3, 1) := by decide +kernel
theorem dX4_emit_8 : decode cX4_emit 8 = .ok (.aload_n 0, 1) := by decide +kernel
theorem dX4_emit_9 : decode cX4_emit 9 = .ok (.getfield 43, 3) := by decide +kernel
theorem dX4_emit_12 : decode cX4_emit 12 = .ok (.ifCond .ne 10, 3) := by decide +kernel
theorem dX4_emit_15 : decode cX4_emit 15 = .ok (.iload_n 3, 1) := by decide +kernel
theorem dX4_emit_16 : decode cX4_emit 16 = .ok (.sipush 400, 3) := by decide +kernel
theorem dX4_emit_19 : decode cX4_emit 19 = .ok (.if_icmp .lt 5, 3) := by decide +kernel
theorem dX4_emit_22 : decode cX4_emit 22 = .ok (.iconst (-1), 1) := by decide +kernel
theorem dX4_emit_23 : decode cX4_emit 23 = .ok (.ireturn, 1) := by decide +kernel
theorem dX4_emit_24 : decode cX4_emit 24 = .ok (.aload_n 0, 1) := by decide +kernel
theorem dX4_emit_25 : decode cX4_emit 25 = .ok (.getfield 35, 3) := by decide +kernel
theorem dX4_emit_28 : decode cX4_emit 28 = .ok (.getfield 211, 3) := by decide +kernel
theorem dX4_emit_31 : decode cX4_emit 31 = .ok (.iload_n 3, 1) := by decide +kernel
theorem dX4_emit_32 : decode cX4_emit 32 = .ok (.iload_n 2, 1) := by decide +kernel
theorem dX4_emit_33 : decode cX4_emit 33 = .ok (.bipush 6, 2) := by decide +kernel
theorem dX4_emit_35 : decode cX4_emit 35 = .ok (.ishl, 1) := by decide +kernel
theorem dX4_emit_36 : decode cX4_emit 36 = .ok (.iload_n 1, 1) := by decide +kernel
theorem dX4_emit_37 : decode cX4_emit 37 = .ok (.ior, 1) := by decide +kernel
theorem dX4_emit_38 : decode cX4_emit 38 = .ok (.iastore, 1) := by decide +kernel
theorem dX4_emit_39 : decode cX4_emit 39 = .ok (.aload_n 0, 1) := by decide +kernel
theorem dX4_emit_40 : decode cX4_emit 40 = .ok (.getfield 35, 3) := by decide +kernel
theorem dX4_emit_43 : decode cX4_emit 43 = .ok (.dup, 1) := by decide +kernel
theorem dX4_emit_44 : decode cX4_emit 44 = .ok (.getfield 138, 3) := by decide +kernel
theorem dX4_emit_47 : decode cX4_emit 47 = .ok (.iconst 1, 1) := by decide +kernel
theorem dX4_emit_48 : decode cX4_emit 48 = .ok (.iadd, 1) := by decide +kernel
theorem dX4_emit_49 : decode cX4_emit 49 = .ok (.putfield 138, 3) := by decide +kernel
theorem dX4_emit_52 : decode cX4_emit 52 = .ok (.iload_n 3, 1) := by decide +kernel
theorem dX4_emit_53 : decode cX4_emit 53 = .ok (.ireturn, 1) := by decide +kernel
set_option maxHeartbeats 4000000 in
set_option maxRecDepth 100000 in
theorem w_X4_emit_22 {X : CX} {T : List Dsc} {R : RM} {c e : Nat} {n1 n2 : Nat} {m : M2} {r : (Int32 × M2)} (hX : XR X 1 n1 n2) (hG : Geo T R c e) (hf : f_X4_emit_22 e m = some r) (hk : FnI X cX4_emit RX4 4 T n1 n2 (r.1, mk r.2 R)) : Wp X cX4_emit RX4 4 T (mk m R) n1 n2 22 [] [] := by
  unfold f_X4_emit_22 at hf
  refine Wp.iconst (pc := 22) (-1 : Int32) (by decide) dX4_emit_22 ?_
  cases hf
  exact hk _ _ dX4_emit_23
set_option maxHeartbeats 4000000 in
set_option maxRecDepth 100000 in
theorem w_X4_emit {X : CX} {T : List Dsc} {R : RM} {c e : Nat} {n1 n2 : Nat} {x1 : Int32} {x2 : Int32} {m : M2} {r : (Int32 × M2)} (hX : XR X 1 n1 n2) (hG : Geo T R c e) (hf : F_X4_emit e x1 x2 m = some r) (hk : FnI X cX4_emit RX4 4 T n1 n2 (r.1, mk r.2 R)) : Wp X cX4_emit RX4 4 T (mk m R) n1 n2 0 [(0, .ref 14), (1, .int x1), (2, .int x2)] [] := by
  unfold F_X4_emit at hf
  refine Wp.aload_n (pc := 0) 0 rfl rfl dX4_emit_0 ?_
  refine Wp.getR2 (pc := 1) hG.r3 (hG.t 14 rfl) fk_RX4_35 rfl dX4_emit_1 ?_
  refine Wp.getI2 (pc := 4) (hG.tt hG.he) fk_RX4_138 rfl dX4_emit_4 ?_
  obtain ⟨v1, h2, hf⟩ := bnd hf
  refine Wp.nI' h2 ?_
  refine Wp.istore_n (pc := 7) (lo' := [(0, .ref 14), (1, .int x1), (2, .int x2), (3, .int v1)]) [1, 2, 3, 0] rfl (by decide) rfl dX4_emit_7 ?_
  refine Wp.aload_n (pc := 8) 0 rfl rfl dX4_emit_8 ?_
  refine Wp.getI2 (pc := 9) (hG.t 14 rfl) fk_RX4_43 rfl dX4_emit_9 ?_
  refine Wp.if_ne (pc := 12) 22 dX4_emit_12 (by decide) (fun hc3 => ?_) (fun hc3 => ?_)
  · rw [if_neg hc3] at hf
    refine Wp.lo' (lo' := []) [] rfl ?_
    exact w_X4_emit_22 hX hG hf hk
  · rw [if_pos hc3] at hf
    refine Wp.iload_n (pc := 15) 3 rfl rfl dX4_emit_15 ?_
    refine Wp.sipush (pc := 16) (400 : Int32) (by decide) dX4_emit_16 ?_
    refine Wp.icmp_lt (pc := 19) 24 dX4_emit_19 (by decide) (fun hc4 => ?_) (fun hc4 => ?_)
    · rw [if_pos hc4] at hf
      refine Wp.aload_n (pc := 24) 0 rfl rfl dX4_emit_24 ?_
      refine Wp.getR2 (pc := 25) hG.r3 (hG.t 14 rfl) fk_RX4_35 rfl dX4_emit_25 ?_
      refine Wp.getR2 (pc := 28) (hG.tr hG.he 3 2 rfl rfl) (hG.tt hG.he) fk_RX4_211 rfl dX4_emit_28 ?_
      refine Wp.iload_n (pc := 31) 3 rfl rfl dX4_emit_31 ?_
      refine Wp.iload_n (pc := 32) 2 rfl rfl dX4_emit_32 ?_
      refine Wp.bipush (pc := 33) (6 : Int32) (by decide) dX4_emit_33 ?_
      refine Wp.ishl (pc := 35) dX4_emit_35 ?_
      refine Wp.iload_n (pc := 36) 1 rfl rfl dX4_emit_36 ?_
      refine Wp.ior (pc := 37) dX4_emit_37 ?_
      obtain ⟨m5, h6, hf⟩ := bnd hf
      refine Wp.iast2 (pc := 38) h6 (hG.ta hG.he 2 400 rfl rfl) dX4_emit_38 ?_
      refine Wp.aload_n (pc := 39) 0 rfl rfl dX4_emit_39 ?_
      refine Wp.getR2 (pc := 40) hG.r3 (hG.t 14 rfl) fk_RX4_35 rfl dX4_emit_40 ?_
      refine Wp.dup (pc := 43) rfl dX4_emit_43 ?_
      refine Wp.getI2 (pc := 44) (hG.tt hG.he) fk_RX4_138 rfl dX4_emit_44 ?_
      refine Wp.iconst (pc := 47) (1 : Int32) (by decide) dX4_emit_47 ?_
      refine Wp.iadd (pc := 48) dX4_emit_48 ?_
      obtain ⟨m7, h8, hf⟩ := bnd hf
      refine Wp.ptI2 (pc := 49) h8 (hG.tt hG.he) fk_RX4_138 ff_RX4_6_4 rfl dX4_emit_49 ?_
      refine Wp.iload_n (pc := 52) 3 rfl rfl dX4_emit_52 ?_
      cases hf
      exact hk _ _ dX4_emit_53
    · rw [if_neg hc4] at hf
      refine Wp.lo' (lo' := []) [] rfl ?_
      exact w_X4_emit_22 hX hG hf hk
theorem c_X4_emit {T : List Dsc} {R : RM} {c e : Nat} {x1 : Int32} {x2 : Int32} {m : M2} {r : (Int32 × M2)} (hG : Geo T R c e) (hf : F_X4_emit e x1 x2 m = some r) : Ct 1 yX4_emit cX4_emit 4 (some .int) T (mk m R) [.ref 14, .int x1, .int x2] (some (.int r.1)) (mk r.2 R) := Ct.ofI (r := (r.1, mk r.2 R)) (by decide +kernel) (Nat.le_of_ble_eq_true rfl) (fun X hX hk => w_X4_emit hX hG hf hk)
