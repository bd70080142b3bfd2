/-! static methods that the constructors call, over any cells -/
theorem nmb_X12_appends : MB yX12_appends cX12_appends 3 (some .long) 2 := ⟨gw_tb 16 (by decide +kernel) rfl, gw_tb 1040 (by decide +kernel) rfl, by decide +kernel, by decide +kernel, by decide +kernel⟩
theorem nml_RX12_228 : ML RX12 228 yX12_appends := gw_tb 1038 (by decide +kernel) rfl
theorem nms_X12_appends : Cond.static yX12_appends ∈ gw := gw_tb 1039 (by decide +kernel) rfl
theorem qdX8_withLetter_0 : decode cX8_withLetter 0 = .ok (.lload_n 0, 1) := by decide +kernel
theorem qdX8_withLetter_1 : decode cX8_withLetter 1 = .ok (.iconst 5, 1) := by decide +kernel
theorem qdX8_withLetter_2 : decode cX8_withLetter 2 = .ok (.lshl, 1) := by decide +kernel
theorem qdX8_withLetter_3 : decode cX8_withLetter 3 = .ok (.iload_n 2, 1) := by decide +kernel
theorem qdX8_withLetter_4 : decode cX8_withLetter 4 = .ok (.bipush 97, 2) := by decide +kernel
theorem qdX8_withLetter_6 : decode cX8_withLetter 6 = .ok (.isub, 1) := by decide +kernel
theorem qdX8_withLetter_7 : decode cX8_withLetter 7 = .ok (.iconst 1, 1) := by decide +kernel
theorem qdX8_withLetter_8 : decode cX8_withLetter 8 = .ok (.iadd, 1) := by decide +kernel
theorem qdX8_withLetter_9 : decode cX8_withLetter 9 = .ok (.i2l, 1) := by decide +kernel
theorem qdX8_withLetter_10 : decode cX8_withLetter 10 = .ok (.lor, 1) := by decide +kernel
theorem qdX8_withLetter_11 : decode cX8_withLetter 11 = .ok (.lreturn, 1) := by decide +kernel
set_option maxHeartbeats 4000000 in
set_option maxRecDepth 100000 in
theorem wf_X8_withLetter {X : CX} {T : List Dsc} {R : RM} {n1 n2 : Nat} {x0 : Int64} {x2 : Int32} {m : M2} {r : (Int64 × M2)} (hX : XR X 1 n1 n2) (hf : F_X8_withLetter x0 x2 m = some r) (hk : FnJ X cX8_withLetter RX8 3 T n1 n2 (r.1, mk r.2 R)) : Wp X cX8_withLetter RX8 3 T (mk m R) n1 n2 0 [(0, .long x0), (2, .int x2)] [] := by
  unfold F_X8_withLetter at hf
  refine Wp.lload_n (pc := 0) 0 rfl rfl qdX8_withLetter_0 ?_
  refine Wp.iconst (pc := 1) (5 : Int32) (by decide) qdX8_withLetter_1 ?_
  refine Wp.lshl (pc := 2) qdX8_withLetter_2 ?_
  refine Wp.iload_n (pc := 3) 1 rfl rfl qdX8_withLetter_3 ?_
  refine Wp.bipush (pc := 4) (97 : Int32) (by decide) qdX8_withLetter_4 ?_
  refine Wp.isub (pc := 6) qdX8_withLetter_6 ?_
  refine Wp.iconst (pc := 7) (1 : Int32) (by decide) qdX8_withLetter_7 ?_
  refine Wp.iadd (pc := 8) qdX8_withLetter_8 ?_
  refine Wp.i2l (pc := 9) qdX8_withLetter_9 ?_
  refine Wp.lor (pc := 10) qdX8_withLetter_10 ?_
  cases hf
  exact hk _ _ qdX8_withLetter_11
theorem cf_X8_withLetter {T : List Dsc} {R : RM} {x0 : Int64} {x2 : Int32} {m : M2} {r : (Int64 × M2)} (hf : F_X8_withLetter x0 x2 m = some r) : Ct 1 yX8_withLetter cX8_withLetter 3 (some .long) T (mk m R) [.long x0, .int x2] (some (.long r.1)) (mk r.2 R) := Ct.ofJ (r := (r.1, mk r.2 R)) (by decide +kernel) (Nat.le_of_ble_eq_true rfl) (fun X hX hk => wf_X8_withLetter hX hf hk)
theorem qdX12_appends_0 : decode cX12_appends 0 = .ok (.iload_n 2, 1) := by decide +kernel
theorem qdX12_appends_1 : decode cX12_appends 1 = .ok (.ifCond .ne 7, 3) := by decide +kernel
theorem qdX12_appends_4 : decode cX12_appends 4 = .ok (.lload_n 0, 1) := by decide +kernel
theorem qdX12_appends_5 : decode cX12_appends 5 = .ok (.goto 16, 3) := by decide +kernel
theorem qdX12_appends_8 : decode cX12_appends 8 = .ok (.ldc2_w 226, 3) := by decide +kernel
theorem qdX12_appends_11 : decode cX12_appends 11 = .ok (.lload_n 0, 1) := by decide +kernel
theorem qdX12_appends_12 : decode cX12_appends 12 = .ok (.lmul, 1) := by decide +kernel
theorem qdX12_appends_13 : decode cX12_appends 13 = .ok (.iload_n 2, 1) := by decide +kernel
theorem qdX12_appends_14 : decode cX12_appends 14 = .ok (.bipush 97, 2) := by decide +kernel
theorem qdX12_appends_16 : decode cX12_appends 16 = .ok (.isub, 1) := by decide +kernel
theorem qdX12_appends_17 : decode cX12_appends 17 = .ok (.iconst 1, 1) := by decide +kernel
theorem qdX12_appends_18 : decode cX12_appends 18 = .ok (.iadd, 1) := by decide +kernel
theorem qdX12_appends_19 : decode cX12_appends 19 = .ok (.i2l, 1) := by decide +kernel
theorem qdX12_appends_20 : decode cX12_appends 20 = .ok (.ladd, 1) := by decide +kernel
theorem qdX12_appends_21 : decode cX12_appends 21 = .ok (.lreturn, 1) := by decide +kernel
set_option maxHeartbeats 4000000 in
set_option maxRecDepth 100000 in
theorem wf_X12_appends_21 {X : CX} {T : List Dsc} {R : RM} {n1 n2 : Nat} {s0 : Int64} {m : M2} {r : (Int64 × M2)} (hX : XR X 1 n1 n2) (hf : f_X12_appends_21 s0 m = some r) (hk : FnJ X cX12_appends RX12 3 T n1 n2 (r.1, mk r.2 R)) : Wp X cX12_appends RX12 3 T (mk m R) n1 n2 21 [] [.long s0] := by
  unfold f_X12_appends_21 at hf
  cases hf
  exact hk _ _ qdX12_appends_21
set_option maxHeartbeats 4000000 in
set_option maxRecDepth 100000 in
theorem wf_X12_appends {X : CX} {T : List Dsc} {R : RM} {n1 n2 : Nat} {x0 : Int64} {x2 : Int32} {m : M2} {r : (Int64 × M2)} (hX : XR X 1 n1 n2) (hf : F_X12_appends x0 x2 m = some r) (hk : FnJ X cX12_appends RX12 3 T n1 n2 (r.1, mk r.2 R)) : Wp X cX12_appends RX12 3 T (mk m R) n1 n2 0 [(0, .long x0), (2, .int x2)] [] := by
  unfold F_X12_appends at hf
  refine Wp.iload_n (pc := 0) 1 rfl rfl qdX12_appends_0 ?_
  refine Wp.if_ne (pc := 1) 8 qdX12_appends_1 (by decide) (fun hc1 => ?_) (fun hc1 => ?_)
  · rw [if_neg hc1] at hf
    refine Wp.ldc2 (pc := 8) (v := (27 : Int64)) (gw_tb 1041 (by decide +kernel) rfl) qdX12_appends_8 ?_
    refine Wp.lload_n (pc := 11) 0 rfl rfl qdX12_appends_11 ?_
    refine Wp.lmul (pc := 12) qdX12_appends_12 ?_
    refine Wp.iload_n (pc := 13) 1 rfl rfl qdX12_appends_13 ?_
    refine Wp.bipush (pc := 14) (97 : Int32) (by decide) qdX12_appends_14 ?_
    refine Wp.isub (pc := 16) qdX12_appends_16 ?_
    refine Wp.iconst (pc := 17) (1 : Int32) (by decide) qdX12_appends_17 ?_
    refine Wp.iadd (pc := 18) qdX12_appends_18 ?_
    refine Wp.i2l (pc := 19) qdX12_appends_19 ?_
    refine Wp.ladd (pc := 20) qdX12_appends_20 ?_
    refine Wp.lo' (lo' := []) [] rfl ?_
    exact wf_X12_appends_21 hX hf hk
  · rw [if_pos hc1] at hf
    refine Wp.lload_n (pc := 4) 0 rfl rfl qdX12_appends_4 ?_
    refine Wp.goto (pc := 5) 21 qdX12_appends_5 (by decide) ?_
    refine Wp.lo' (lo' := []) [] rfl ?_
    exact wf_X12_appends_21 hX hf hk
theorem cf_X12_appends {T : List Dsc} {R : RM} {x0 : Int64} {x2 : Int32} {m : M2} {r : (Int64 × M2)} (hf : F_X12_appends x0 x2 m = some r) : Ct 1 yX12_appends cX12_appends 3 (some .long) T (mk m R) [.long x0, .int x2] (some (.long r.1)) (mk r.2 R) := Ct.ofJ (r := (r.1, mk r.2 R)) (by decide +kernel) (Nat.le_of_ble_eq_true rfl) (fun X hX hk => wf_X12_appends hX hf hk)
theorem qdX12_word_0 : decode cX12_word 0 = .ok (.lconst 0, 1) := by decide +kernel
theorem qdX12_word_1 : decode cX12_word 1 = .ok (.iload_n 0, 1) := by decide +kernel
theorem qdX12_word_2 : decode cX12_word 2 = .ok (.invokestatic 228, 3) := by decide +kernel
theorem qdX12_word_5 : decode cX12_word 5 = .ok (.iload_n 1, 1) := by decide +kernel
theorem qdX12_word_6 : decode cX12_word 6 = .ok (.invokestatic 228, 3) := by decide +kernel
theorem qdX12_word_9 : decode cX12_word 9 = .ok (.iload_n 2, 1) := by decide +kernel
theorem qdX12_word_10 : decode cX12_word 10 = .ok (.invokestatic 228, 3) := by decide +kernel
theorem qdX12_word_13 : decode cX12_word 13 = .ok (.iload_n 3, 1) := by decide +kernel
theorem qdX12_word_14 : decode cX12_word 14 = .ok (.invokestatic 228, 3) := by decide +kernel
theorem qdX12_word_17 : decode cX12_word 17 = .ok (.iload 4, 2) := by decide +kernel
theorem qdX12_word_19 : decode cX12_word 19 = .ok (.invokestatic 228, 3) := by decide +kernel
theorem qdX12_word_22 : decode cX12_word 22 = .ok (.iload 5, 2) := by decide +kernel
theorem qdX12_word_24 : decode cX12_word 24 = .ok (.invokestatic 228, 3) := by decide +kernel
theorem qdX12_word_27 : decode cX12_word 27 = .ok (.iload 6, 2) := by decide +kernel
theorem qdX12_word_29 : decode cX12_word 29 = .ok (.invokestatic 228, 3) := by decide +kernel
theorem qdX12_word_32 : decode cX12_word 32 = .ok (.lreturn, 1) := by decide +kernel
set_option maxHeartbeats 4000000 in
set_option maxRecDepth 100000 in
theorem wf_X12_word {X : CX} {T : List Dsc} {R : RM} {n1 n2 : Nat} {x0 : Int32} {x1 : Int32} {x2 : Int32} {x3 : Int32} {x4 : Int32} {x5 : Int32} {x6 : Int32} {m : M2} {r : (Int64 × M2)} (hX : XR X 2 n1 n2) (hf : F_X12_word x0 x1 x2 x3 x4 x5 x6 m = some r) (hk : FnJ X cX12_word RX12 7 T n1 n2 (r.1, mk r.2 R)) : Wp X cX12_word RX12 7 T (mk m R) n1 n2 0 [(0, .int x0), (1, .int x1), (2, .int x2), (3, .int x3), (4, .int x4), (5, .int x5), (6, .int x6)] [] := by
  unfold F_X12_word at hf
  refine Wp.lconst (pc := 0) (0 : Int64) (by decide) qdX12_word_0 ?_
  refine Wp.iload_n (pc := 1) 0 rfl rfl qdX12_word_1 ?_
  obtain ⟨c1, h2, hf⟩ := bnd hf
  refine Wp.callSl (pc := 2) (st := []) (as := [.long (0 : Int64), .int x0]) (cf_X12_appends h2) nml_RX12_228 nms_X12_appends nmb_X12_appends hX (Nat.le_of_ble_eq_true rfl) (by decide) rfl (by simp) qdX12_word_2 rfl ?_
  refine Wp.iload_n (pc := 5) 1 rfl rfl qdX12_word_5 ?_
  obtain ⟨c3, h4, hf⟩ := bnd hf
  refine Wp.callSl (pc := 6) (st := []) (as := [.long c1.1, .int x1]) (cf_X12_appends h4) nml_RX12_228 nms_X12_appends nmb_X12_appends hX (Nat.le_of_ble_eq_true rfl) (by decide) rfl (by simp) qdX12_word_6 rfl ?_
  refine Wp.iload_n (pc := 9) 2 rfl rfl qdX12_word_9 ?_
  obtain ⟨c5, h6, hf⟩ := bnd hf
  refine Wp.callSl (pc := 10) (st := []) (as := [.long c3.1, .int x2]) (cf_X12_appends h6) nml_RX12_228 nms_X12_appends nmb_X12_appends hX (Nat.le_of_ble_eq_true rfl) (by decide) rfl (by simp) qdX12_word_10 rfl ?_
  refine Wp.iload_n (pc := 13) 3 rfl rfl qdX12_word_13 ?_
  obtain ⟨c7, h8, hf⟩ := bnd hf
  refine Wp.callSl (pc := 14) (st := []) (as := [.long c5.1, .int x3]) (cf_X12_appends h8) nml_RX12_228 nms_X12_appends nmb_X12_appends hX (Nat.le_of_ble_eq_true rfl) (by decide) rfl (by simp) qdX12_word_14 rfl ?_
  refine Wp.iload (pc := 17) 4 rfl qdX12_word_17 ?_
  obtain ⟨c9, h10, hf⟩ := bnd hf
  refine Wp.callSl (pc := 19) (st := []) (as := [.long c7.1, .int x4]) (cf_X12_appends h10) nml_RX12_228 nms_X12_appends nmb_X12_appends hX (Nat.le_of_ble_eq_true rfl) (by decide) rfl (by simp) qdX12_word_19 rfl ?_
  refine Wp.iload (pc := 22) 5 rfl qdX12_word_22 ?_
  obtain ⟨c11, h12, hf⟩ := bnd hf
  refine Wp.callSl (pc := 24) (st := []) (as := [.long c9.1, .int x5]) (cf_X12_appends h12) nml_RX12_228 nms_X12_appends nmb_X12_appends hX (Nat.le_of_ble_eq_true rfl) (by decide) rfl (by simp) qdX12_word_24 rfl ?_
  refine Wp.iload (pc := 27) 6 rfl qdX12_word_27 ?_
  obtain ⟨c13, h14, hf⟩ := bnd hf
  refine Wp.callSl (pc := 29) (st := []) (as := [.long c11.1, .int x6]) (cf_X12_appends h14) nml_RX12_228 nms_X12_appends nmb_X12_appends hX (Nat.le_of_ble_eq_true rfl) (by decide) rfl (by simp) qdX12_word_29 rfl ?_
  cases hf
  exact hk _ _ qdX12_word_32
theorem cf_X12_word {T : List Dsc} {R : RM} {x0 : Int32} {x1 : Int32} {x2 : Int32} {x3 : Int32} {x4 : Int32} {x5 : Int32} {x6 : Int32} {m : M2} {r : (Int64 × M2)} (hf : F_X12_word x0 x1 x2 x3 x4 x5 x6 m = some r) : Ct 2 yX12_word cX12_word 7 (some .long) T (mk m R) [.int x0, .int x1, .int x2, .int x3, .int x4, .int x5, .int x6] (some (.long r.1)) (mk r.2 R) := Ct.ofJ (r := (r.1, mk r.2 R)) (by decide +kernel) (Nat.le_of_ble_eq_true rfl) (fun X hX hk => wf_X12_word hX hf hk)
