/-! ===== the string's own methods ===== -/
theorem dJ3_checkIndex_8e157_0 : decode cJ3_checkIndex_8e157 0 = .ok (.iload_n 0, 1) := by decide +kernel
theorem dJ3_checkIndex_8e157_1 : decode cJ3_checkIndex_8e157 1 = .ok (.ifCond .lt 8, 3) := by decide +kernel
theorem dJ3_checkIndex_8e157_4 : decode cJ3_checkIndex_8e157 4 = .ok (.iload_n 0, 1) := by decide +kernel
theorem dJ3_checkIndex_8e157_5 : decode cJ3_checkIndex_8e157 5 = .ok (.iload_n 1, 1) := by decide +kernel
theorem dJ3_checkIndex_8e157_6 : decode cJ3_checkIndex_8e157 6 = .ok (.if_icmp .lt 10, 3) := by decide +kernel
theorem dJ3_checkIndex_8e157_16 : decode cJ3_checkIndex_8e157 16 = .ok (.iload_n 0, 1) := by decide +kernel
theorem dJ3_checkIndex_8e157_17 : decode cJ3_checkIndex_8e157 17 = .ok (.ireturn, 1) := by decide +kernel
theorem dJ0_checkIndex_df160_0 : decode cJ0_checkIndex_df160 0 = .ok (.iload_n 0, 1) := by decide +kernel
theorem dJ0_checkIndex_df160_1 : decode cJ0_checkIndex_df160 1 = .ok (.iload_n 1, 1) := by decide +kernel
theorem dJ0_checkIndex_df160_2 : decode cJ0_checkIndex_df160 2 = .ok (.getstatic 1053, 3) := by decide +kernel
theorem dJ0_checkIndex_df160_5 : decode cJ0_checkIndex_df160 5 = .ok (.invokestatic 1059, 3) := by decide +kernel
theorem dJ0_checkIndex_df160_8 : decode cJ0_checkIndex_df160 8 = .ok (.pop, 1) := by decide +kernel
theorem dJ0_checkIndex_df160_9 : decode cJ0_checkIndex_df160 9 = .ok (.return_, 1) := by decide +kernel
theorem dJ0_coder_7d493_0 : decode cJ0_coder_7d493 0 = .ok (.getstatic 38, 3) := by decide +kernel
theorem dJ0_coder_7d493_3 : decode cJ0_coder_7d493 3 = .ok (.ifCond .eq 10, 3) := by decide +kernel
theorem dJ0_coder_7d493_6 : decode cJ0_coder_7d493 6 = .ok (.aload_n 0, 1) := by decide +kernel
theorem dJ0_coder_7d493_7 : decode cJ0_coder_7d493 7 = .ok (.getfield 15, 3) := by decide +kernel
theorem dJ0_coder_7d493_10 : decode cJ0_coder_7d493 10 = .ok (.goto 4, 3) := by decide +kernel
theorem dJ0_coder_7d493_13 : decode cJ0_coder_7d493 13 = .ok (.iconst 1, 1) := by decide +kernel
theorem dJ0_coder_7d493_14 : decode cJ0_coder_7d493 14 = .ok (.ireturn, 1) := by decide +kernel
theorem dJ0_isLatin1_aae02_0 : decode cJ0_isLatin1_aae02 0 = .ok (.getstatic 38, 3) := by decide +kernel
theorem dJ0_isLatin1_aae02_3 : decode cJ0_isLatin1_aae02 3 = .ok (.ifCond .eq 14, 3) := by decide +kernel
theorem dJ0_isLatin1_aae02_6 : decode cJ0_isLatin1_aae02 6 = .ok (.aload_n 0, 1) := by decide +kernel
theorem dJ0_isLatin1_aae02_7 : decode cJ0_isLatin1_aae02 7 = .ok (.getfield 15, 3) := by decide +kernel
theorem dJ0_isLatin1_aae02_10 : decode cJ0_isLatin1_aae02 10 = .ok (.ifCond .ne 7, 3) := by decide +kernel
theorem dJ0_isLatin1_aae02_13 : decode cJ0_isLatin1_aae02 13 = .ok (.iconst 1, 1) := by decide +kernel
theorem dJ0_isLatin1_aae02_14 : decode cJ0_isLatin1_aae02 14 = .ok (.goto 4, 3) := by decide +kernel
theorem dJ0_isLatin1_aae02_17 : decode cJ0_isLatin1_aae02 17 = .ok (.iconst 0, 1) := by decide +kernel
theorem dJ0_isLatin1_aae02_18 : decode cJ0_isLatin1_aae02 18 = .ok (.ireturn, 1) := by decide +kernel
theorem jmb_J3_checkIndex_8e157 : MB yJ3_checkIndex_8e157 cJ3_checkIndex_8e157 3 (some .int) 3 := ⟨gw_tb 7 (by decide +kernel) rfl, gw_tb 161 (by decide +kernel) rfl, by decide +kernel, by decide +kernel, by decide +kernel⟩
theorem jmb_J0_checkIndex_df160 : MB yJ0_checkIndex_df160 cJ0_checkIndex_df160 2 none 2 := ⟨gw_tb 5 (by decide +kernel) rfl, gw_tb 156 (by decide +kernel) rfl, by decide +kernel, by decide +kernel, by decide +kernel⟩
theorem jmb_J0_coder_7d493 : MB yJ0_coder_7d493 cJ0_coder_7d493 1 (some .byte) 0 := ⟨gw_tb 5 (by decide +kernel) rfl, gw_tb 140 (by decide +kernel) rfl, by decide +kernel, by decide +kernel, by decide +kernel⟩
theorem jmb_J0_isLatin1_aae02 : MB yJ0_isLatin1_aae02 cJ0_isLatin1_aae02 1 (some .boolean) 0 := ⟨gw_tb 5 (by decide +kernel) rfl, gw_tb 150 (by decide +kernel) rfl, by decide +kernel, by decide +kernel, by decide +kernel⟩
theorem ixb_lt {i : Int32} {n : Nat} (hn : n < 2 ^ 31) (h : ixb i n = true) : ¬ i < 0 ∧ i < Int32.ofNat n := by
  have h1 := ixb_in h
  have h0 : ¬ i < 0 := fun q => h1 (Or.inl q)
  refine ⟨h0, ?_⟩
  have hk : i.toNatClampNeg < n := Nat.not_le.mp fun q => h1 (Or.inr q)
  have hz0 : (0 : Int) ≤ i.toInt := by
    have := Int32.not_lt.mp h0
    simpa using Int32.le_iff_toInt_le.mp this
  rw [Int32.lt_iff_toInt_lt, Int32.toInt_ofNat_of_lt hn]
  have : i.toInt.toNat < n := hk
  omega
theorem cj_J3 {i : Int32} {w : Value} (hw : w = .ref 2 ∨ w = .null) (hi : ixb i 76 = true) : CtJ 1 yJ3_checkIndex_8e157 cJ3_checkIndex_8e157 3 (some .int) [.int i, .int 76, w] (some (.int i)) := by
  refine CtJ.ofI rfl (by decide +kernel) (by rcases hw with rfl | rfl <;> exact Nat.le_of_ble_eq_true rfl) (fun X μ a v f hX hS hA hQ => ?_)
  refine Wp.lo' (lo' := [(0, .int i), (1, .int 76)]) [0, 1] (by rcases hw with rfl | rfl <;> rfl) ?_
  obtain ⟨h0, h1⟩ := ixb_lt (by decide) hi
  refine Wp.iload_n (pc := 0) 0 rfl rfl dJ3_checkIndex_8e157_0 ?_
  refine Wp.if_lt (pc := 1) 9 dJ3_checkIndex_8e157_1 (by decide) (fun q => absurd q h0) (fun _ => ?_)
  refine Wp.iload_n (pc := 4) 0 rfl rfl dJ3_checkIndex_8e157_4 ?_
  refine Wp.iload_n (pc := 5) 1 rfl rfl dJ3_checkIndex_8e157_5 ?_
  refine Wp.icmp_lt (pc := 6) 16 dJ3_checkIndex_8e157_6 (by decide) (fun _ => ?_) (fun q => absurd h1 q)
  refine Wp.iload_n (pc := 16) 0 rfl rfl dJ3_checkIndex_8e157_16 ?_
  exact hQ 17 _ dJ3_checkIndex_8e157_17
theorem cj_ci {i : Int32} (hi : ixb i 76 = true) : CtJ 2 yJ0_checkIndex_df160 cJ0_checkIndex_df160 2 none [.int i, .int 76] none := by
  refine CtJ.ofV (by decide +kernel) (Nat.le_of_ble_eq_true rfl) (fun X μ a v f hX hS hA hQ => ?_)
  refine Wp.lo' (lo' := [(0, .int i), (1, .int 76)]) [0, 1] rfl ?_
  refine Wp.iload_n (pc := 0) 0 rfl rfl dJ0_checkIndex_df160_0 ?_
  refine Wp.iload_n (pc := 1) 1 rfl rfl dJ0_checkIndex_df160_1 ?_
  refine Wp.sFor (pc := 2) hS hA (gw_tb 157 (by decide +kernel) rfl) dJ0_checkIndex_df160_2 (fun w hw => ?_)
  refine Wp.jS (pc := 5) (st := []) (as := [.int i, .int 76, w]) (cj_J3 hw hi) rfl hS hA (gw_tb 159 (by decide +kernel) rfl) (gw_tb 160 (by decide +kernel) rfl) jmb_J3_checkIndex_8e157 hX (by decide) (by decide) rfl (by decide) dJ0_checkIndex_df160_5 rfl ?_
  refine Wp.pop (pc := 8) rfl dJ0_checkIndex_df160_8 ?_
  exact hQ 9 _ dJ0_checkIndex_df160_9
theorem cj_co : CtJ 1 yJ0_coder_7d493 cJ0_coder_7d493 1 (some .byte) [.ref 0] (some (.int 0)) := by
  refine CtJ.ofI rfl (by decide +kernel) (Nat.le_of_ble_eq_true rfl) (fun X μ a v f hX hS hA hQ => ?_)
  refine Wp.lo' (lo' := [(0, .ref 0)]) [0] rfl ?_
  refine Wp.sCom (pc := 0) hS (gw_tb 141 (by decide +kernel) rfl) dJ0_coder_7d493_0 ?_
  refine Wp.if_eq (pc := 3) 13 dJ0_coder_7d493_3 (by decide) (fun q => absurd q (by decide)) (fun _ => ?_)
  refine Wp.aload_n (pc := 6) 0 rfl rfl dJ0_coder_7d493_6 ?_
  refine Wp.sCod (pc := 7) hS hA (gw_tb 1715 (by decide +kernel) rfl) dJ0_coder_7d493_7 ?_
  refine Wp.goto (pc := 10) 14 dJ0_coder_7d493_10 (by decide) ?_
  exact hQ 14 _ dJ0_coder_7d493_14
theorem cj_il : CtJ 1 yJ0_isLatin1_aae02 cJ0_isLatin1_aae02 1 (some .boolean) [.ref 0] (some (.int 1)) := by
  refine CtJ.ofI rfl (by decide +kernel) (Nat.le_of_ble_eq_true rfl) (fun X μ a v f hX hS hA hQ => ?_)
  refine Wp.lo' (lo' := [(0, .ref 0)]) [0] rfl ?_
  refine Wp.sCom (pc := 0) hS (gw_tb 141 (by decide +kernel) rfl) dJ0_isLatin1_aae02_0 ?_
  refine Wp.if_eq (pc := 3) 17 dJ0_isLatin1_aae02_3 (by decide) (fun q => absurd q (by decide)) (fun _ => ?_)
  refine Wp.aload_n (pc := 6) 0 rfl rfl dJ0_isLatin1_aae02_6 ?_
  refine Wp.sCod (pc := 7) hS hA (gw_tb 1715 (by decide +kernel) rfl) dJ0_isLatin1_aae02_7 ?_
  refine Wp.if_ne (pc := 10) 17 dJ0_isLatin1_aae02_10 (by decide) (fun q => absurd rfl q) (fun _ => ?_)
  refine Wp.iconst (pc := 13) (1 : Int32) (by decide) dJ0_isLatin1_aae02_13 ?_
  refine Wp.goto (pc := 14) 18 dJ0_isLatin1_aae02_14 (by decide) ?_
  exact hQ 18 _ dJ0_isLatin1_aae02_18
