/-! ===== charAt ===== -/
theorem Wp.i2c {X : CX} {cc : ByteArray} {own : String} {nL : Nat} {T : List Dsc} {μ : Mem} {n1 n2 pc : Nat} {lo : List (Nat × Value)} {st : List Value} {x w : Int32} (hw : (x.toUInt32 % 65536).toInt32 = w) (hd : decode cc pc = .ok (.i2c, 1)) (kk : Wp X cc own nL T μ n1 n2 (pc + 1) lo (.int w :: st)) : Wp X cc own nL T μ n1 n2 pc lo (.int x :: st) := by
  obtain ⟨p, l, e, R, s, m, args, below, meth, c, Q, A, D, n0, α0⟩ := X
  intro hx hb hml hown hts hlk hA H locs ls α cA ha hW hS hl
  exact lv_i2c hx hb hd hw (kk hx hb hml hown hts hlk hA H locs ls α cA ha hW hS hl)
theorem byS_ok : ∀ k, k < 76 → ((byS.getD k 0 &&& 255).toUInt32 % 65536).toInt32 = byS.getD k 0 ∧ narrow .char (.int (byS.getD k 0)) = .int (byS.getD k 0) := by decide +kernel
theorem ixb_nat {i : Int32} {n : Nat} (h : ixb i n = true) : i.toNatClampNeg < n := Nat.not_le.mp fun q => ixb_in h (Or.inr q)
theorem dJ1_charAt_3b067_0 : decode cJ1_charAt_3b067 0 = .ok (.iload_n 1, 1) := by decide +kernel
theorem dJ1_charAt_3b067_1 : decode cJ1_charAt_3b067 1 = .ok (.aload_n 0, 1) := by decide +kernel
theorem dJ1_charAt_3b067_2 : decode cJ1_charAt_3b067 2 = .ok (.arraylength, 1) := by decide +kernel
theorem dJ1_charAt_3b067_3 : decode cJ1_charAt_3b067 3 = .ok (.invokestatic 9, 3) := by decide +kernel
theorem dJ1_charAt_3b067_6 : decode cJ1_charAt_3b067 6 = .ok (.aload_n 0, 1) := by decide +kernel
theorem dJ1_charAt_3b067_7 : decode cJ1_charAt_3b067 7 = .ok (.iload_n 1, 1) := by decide +kernel
theorem dJ1_charAt_3b067_8 : decode cJ1_charAt_3b067 8 = .ok (.baload, 1) := by decide +kernel
theorem dJ1_charAt_3b067_9 : decode cJ1_charAt_3b067 9 = .ok (.sipush 255, 3) := by decide +kernel
theorem dJ1_charAt_3b067_12 : decode cJ1_charAt_3b067 12 = .ok (.iand, 1) := by decide +kernel
theorem dJ1_charAt_3b067_13 : decode cJ1_charAt_3b067 13 = .ok (.i2c, 1) := by decide +kernel
theorem dJ1_charAt_3b067_14 : decode cJ1_charAt_3b067 14 = .ok (.ireturn, 1) := by decide +kernel
theorem dJ0_charAt_5068e_0 : decode cJ0_charAt_5068e 0 = .ok (.aload_n 0, 1) := by decide +kernel
theorem dJ0_charAt_5068e_1 : decode cJ0_charAt_5068e 1 = .ok (.invokevirtual 492, 3) := by decide +kernel
theorem dJ0_charAt_5068e_4 : decode cJ0_charAt_5068e 4 = .ok (.ifCond .eq 12, 3) := by decide +kernel
theorem dJ0_charAt_5068e_7 : decode cJ0_charAt_5068e 7 = .ok (.aload_n 0, 1) := by decide +kernel
theorem dJ0_charAt_5068e_8 : decode cJ0_charAt_5068e 8 = .ok (.getfield 9, 3) := by decide +kernel
theorem dJ0_charAt_5068e_11 : decode cJ0_charAt_5068e 11 = .ok (.iload_n 1, 1) := by decide +kernel
theorem dJ0_charAt_5068e_12 : decode cJ0_charAt_5068e 12 = .ok (.invokestatic 495, 3) := by decide +kernel
theorem dJ0_charAt_5068e_15 : decode cJ0_charAt_5068e 15 = .ok (.ireturn, 1) := by decide +kernel
theorem jmb_J1_charAt_3b067 : MB yJ1_charAt_3b067 cJ1_charAt_3b067 2 (some .char) 2 := ⟨gw_tb 6 (by decide +kernel) rfl, gw_tb 153 (by decide +kernel) rfl, by decide +kernel, by decide +kernel, by decide +kernel⟩
theorem jmv_J0_isLatin1_aae02 : MV yJ0_isLatin1_aae02 := ⟨gw_tb 148 (by decide +kernel) rfl, gw_tb 149 (by decide +kernel) rfl⟩
theorem cj_la {i : Int32} (hi : ixb i 76 = true) : CtJ 3 yJ1_charAt_3b067 cJ1_charAt_3b067 2 (some .char) [.ref 1, .int i] (some (.int (byS.getD i.toNatClampNeg 0))) := by
  obtain ⟨hb1, hb2⟩ := byS_ok _ (ixb_nat hi)
  refine CtJ.ofI hb2 (by decide +kernel) (Nat.le_of_ble_eq_true rfl) (fun X μ a v f hX hS hA hQ => ?_)
  refine Wp.lo' (lo' := [(0, .ref 1), (1, .int i)]) [0, 1] rfl ?_
  refine Wp.iload_n (pc := 0) 1 rfl rfl dJ1_charAt_3b067_0 ?_
  refine Wp.aload_n (pc := 1) 0 rfl rfl dJ1_charAt_3b067_1 ?_
  refine Wp.sAln (pc := 2) hS hA dJ1_charAt_3b067_2 ?_
  refine Wp.jS (pc := 3) (st := []) (as := [.int i, .int 76]) (cj_ci hi) rfl hS hA (gw_tb 154 (by decide +kernel) rfl) (gw_tb 155 (by decide +kernel) rfl) jmb_J0_checkIndex_df160 hX (by decide) (by decide) rfl (by decide) dJ1_charAt_3b067_3 rfl ?_
  refine Wp.aload_n (pc := 6) 0 rfl rfl dJ1_charAt_3b067_6 ?_
  refine Wp.iload_n (pc := 7) 1 rfl rfl dJ1_charAt_3b067_7 ?_
  refine Wp.sBld (pc := 8) hS hA hi dJ1_charAt_3b067_8 ?_
  refine Wp.sipush (pc := 9) (255 : Int32) (by decide) dJ1_charAt_3b067_9 ?_
  refine Wp.iand (pc := 12) dJ1_charAt_3b067_12 ?_
  refine Wp.i2c (pc := 13) hb1 dJ1_charAt_3b067_13 ?_
  exact hQ 14 _ dJ1_charAt_3b067_14
theorem cj_at {i : Int32} (hi : ixb i 76 = true) : CtJ 4 yJ0_charAt_5068e cJ0_charAt_5068e 2 (some .char) [.ref 0, .int i] (some (.int (byS.getD i.toNatClampNeg 0))) := by
  obtain ⟨hb1, hb2⟩ := byS_ok _ (ixb_nat hi)
  refine CtJ.ofI hb2 (by decide +kernel) (Nat.le_of_ble_eq_true rfl) (fun X μ a v f hX hS hA hQ => ?_)
  refine Wp.lo' (lo' := [(0, .ref 0), (1, .int i)]) [0, 1] rfl ?_
  refine Wp.aload_n (pc := 0) 0 rfl rfl dJ0_charAt_5068e_0 ?_
  refine Wp.jV (pc := 1) (st := []) (as := []) rfl cj_il rfl hS hA (gw_tb 147 (by decide +kernel) rfl) jmv_J0_isLatin1_aae02 jmb_J0_isLatin1_aae02 hX (by decide) (by decide) rfl (by decide) dJ0_charAt_5068e_1 rfl ?_
  refine Wp.if_eq (pc := 4) 16 dJ0_charAt_5068e_4 (by decide) (fun q => absurd q (by decide)) (fun _ => ?_)
  refine Wp.aload_n (pc := 7) 0 rfl rfl dJ0_charAt_5068e_7 ?_
  refine Wp.sVal (pc := 8) hS hA (gw_tb 1714 (by decide +kernel) rfl) dJ0_charAt_5068e_8 ?_
  refine Wp.iload_n (pc := 11) 1 rfl rfl dJ0_charAt_5068e_11 ?_
  refine Wp.jS (pc := 12) (st := []) (as := [.ref 1, .int i]) (cj_la hi) rfl hS hA (gw_tb 151 (by decide +kernel) rfl) (gw_tb 152 (by decide +kernel) rfl) jmb_J1_charAt_3b067 hX (by decide) (by decide) rfl (by decide) dJ0_charAt_5068e_12 rfl ?_
  exact hQ 15 _ dJ0_charAt_5068e_15
