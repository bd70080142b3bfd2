theorem dX4_readTape_0 : decode cX4_readTape 0 = .ok (.aload_n 0, 1) := by decide +kernel
theorem dX4_readTape_1 : decode cX4_readTape 1 = .ok (.iload_n 1, 1) := by decide +kernel
theorem dX4_readTape_2 : decode cX4_readTape 2 = .ok (.aload_n 2, 1) := by decide +kernel
theorem dX4_readTape_3 : decode cX4_readTape 3 = .ok (.invokevirtual 39, 3) := by decide +kernel
theorem dX4_readTape_6 : decode cX4_readTape 6 = .ok (.iconst 0, 1) := by decide +kernel
theorem dX4_readTape_7 : decode cX4_readTape 7 = .ok (.istore_n 3, 1) := by decide +kernel
theorem dX4_readTape_8 : decode cX4_readTape 8 = .ok (.iload_n 3, 1) := by decide +kernel
theorem dX4_readTape_9 : decode cX4_readTape 9 = .ok (.sipush 400, 3) := by decide +kernel
theorem dX4_readTape_12 : decode cX4_readTape 12 = .ok (.if_icmp .gt 157, 3) := by decide +kernel
theorem dX4_readTape_15 : decode cX4_readTape 15 = .ok (.aload_n 0, 1) := by decide +kernel
theorem dX4_readTape_16 : decode cX4_readTape 16 = .ok (.getfield 43, 3) := by decide +kernel
theorem dX4_readTape_19 : decode cX4_readTape 19 = .ok (.ifCond .ne 150, 3) := by decide +kernel
theorem dX4_readTape_22 : decode cX4_readTape 22 = .ok (.aload_n 0, 1) := by decide +kernel
theorem dX4_readTape_23 : decode cX4_readTape 23 = .ok (.getfield 46, 3) := by decide +kernel
theorem dX4_readTape_26 : decode cX4_readTape 26 = .ok (.ifCond .eq 143, 3) := by decide +kernel
theorem dX4_readTape_29 : decode cX4_readTape 29 = .ok (.aload_n 0, 1) := by decide +kernel
theorem dX4_readTape_30 : decode cX4_readTape 30 = .ok (.getfield 46, 3) := by decide +kernel
theorem dX4_readTape_33 : decode cX4_readTape 33 = .ok (.tableswitch 125 17 33 #[83, 90, 97, 118, 125, 125, 125, 125, 125, 125, 125, 125, 125, 125, 104, 125, 111], 83) := by decide +kernel
theorem dX4_readTape_116 : decode cX4_readTape 116 = .ok (.aload_n 0, 1) := by decide +kernel
theorem dX4_readTape_117 : decode cX4_readTape 117 = .ok (.invokevirtual 49, 3) := by decide +kernel
theorem dX4_readTape_120 : decode cX4_readTape 120 = .ok (.goto 43, 3) := by decide +kernel
theorem dX4_readTape_123 : decode cX4_readTape 123 = .ok (.aload_n 0, 1) := by decide +kernel
theorem dX4_readTape_124 : decode cX4_readTape 124 = .ok (.invokevirtual 52, 3) := by decide +kernel
theorem dX4_readTape_127 : decode cX4_readTape 127 = .ok (.goto 36, 3) := by decide +kernel
theorem dX4_readTape_130 : decode cX4_readTape 130 = .ok (.aload_n 0, 1) := by decide +kernel
theorem dX4_readTape_131 : decode cX4_readTape 131 = .ok (.invokevirtual 55, 3) := by decide +kernel
theorem dX4_readTape_134 : decode cX4_readTape 134 = .ok (.goto 29, 3) := by decide +kernel
theorem dX4_readTape_137 : decode cX4_readTape 137 = .ok (.aload_n 0, 1) := by decide +kernel
theorem dX4_readTape_138 : decode cX4_readTape 138 = .ok (.invokevirtual 58, 3) := by decide +kernel
theorem dX4_readTape_141 : decode cX4_readTape 141 = .ok (.goto 22, 3) := by decide +kernel
theorem dX4_readTape_144 : decode cX4_readTape 144 = .ok (.aload_n 0, 1) := by decide +kernel
theorem dX4_readTape_145 : decode cX4_readTape 145 = .ok (.invokevirtual 61, 3) := by decide +kernel
theorem dX4_readTape_148 : decode cX4_readTape 148 = .ok (.goto 15, 3) := by decide +kernel
theorem dX4_readTape_151 : decode cX4_readTape 151 = .ok (.aload_n 0, 1) := by decide +kernel
theorem dX4_readTape_152 : decode cX4_readTape 152 = .ok (.invokevirtual 64, 3) := by decide +kernel
theorem dX4_readTape_155 : decode cX4_readTape 155 = .ok (.goto 8, 3) := by decide +kernel
theorem dX4_readTape_158 : decode cX4_readTape 158 = .ok (.aload_n 0, 1) := by decide +kernel
theorem dX4_readTape_159 : decode cX4_readTape 159 = .ok (.iconst 1, 1) := by decide +kernel
theorem dX4_readTape_160 : decode cX4_readTape 160 = .ok (.invokevirtual 67, 3) := by decide +kernel
theorem dX4_readTape_163 : decode cX4_readTape 163 = .ok (.iinc 3 1, 3) := by decide +kernel
theorem dX4_readTape_166 : decode cX4_readTape 166 = .ok (.goto (-158), 3) := by decide +kernel
theorem dX4_readTape_169 : decode cX4_readTape 169 = .ok (.aload_n 0, 1) := by decide +kernel
theorem dX4_readTape_170 : decode cX4_readTape 170 = .ok (.getfield 43, 3) := by decide +kernel
theorem dX4_readTape_173 : decode cX4_readTape 173 = .ok (.ifCond .ne 7, 3) := by decide +kernel
theorem dX4_readTape_176 : decode cX4_readTape 176 = .ok (.aload_n 0, 1) := by decide +kernel
theorem dX4_readTape_177 : decode cX4_readTape 177 = .ok (.invokevirtual 71, 3) := by decide +kernel
theorem dX4_readTape_180 : decode cX4_readTape 180 = .ok (.aload_n 0, 1) := by decide +kernel
theorem dX4_readTape_181 : decode cX4_readTape 181 = .ok (.getfield 43, 3) := by decide +kernel
theorem dX4_readTape_184 : decode cX4_readTape 184 = .ok (.ireturn, 1) := by decide +kernel
def k_X4_readTape_8 (X : CX) (T : List Dsc) (R : RM) (n1 n2 : Nat) (r : ((Int32 × M2) ⊕ ((M2)))) : Prop := match r with
  | .inl s => Wp X cX4_readTape RX4 4 T (mk s.2 R) n1 n2 8 [(0, .ref 14), (3, .int s.1)] []
  | .inr e => Wp X cX4_readTape RX4 4 T (mk e R) n1 n2 169 [(0, .ref 14)] []
set_option maxHeartbeats 4000000 in
set_option maxRecDepth 100000 in
theorem w_X4_readTape_163 {X : CX} {T : List Dsc} {R : RM} {c e : Nat} {n1 n2 : Nat} {x3 : Int32} {m : M2} {r : ((Int32 × M2) ⊕ ((M2)))} (hX : XR X 74 n1 n2) (hG : Geo T R c e) (hf : f_X4_readTape_163 e x3 m = some r) (hk : k_X4_readTape_8 X T R n1 n2 r) : Wp X cX4_readTape RX4 4 T (mk m R) n1 n2 163 [(0, .ref 14), (3, .int x3)] [] := by
  unfold f_X4_readTape_163 at hf
  obtain ⟨v1, h2, hf⟩ := bnd hf
  refine Wp.iincN (pc := 163) (lo' := [(0, .ref 14), (3, .int v1)]) (1 : Int32) (by decide) h2 1 rfl [1, 0] rfl (by decide) dX4_readTape_163 ?_
  refine Wp.goto (pc := 166) 8 dX4_readTape_166 (by decide) ?_
  cases hf
  exact hk
set_option maxHeartbeats 4000000 in
set_option maxRecDepth 100000 in
theorem w_X4_readTape_8 {X : CX} {T : List Dsc} {R : RM} {c e : Nat} {n1 n2 : Nat} {x3 : Int32} {m : M2} {r : ((Int32 × M2) ⊕ ((M2)))} (hX : XR X 74 n1 n2) (hG : Geo T R c e) (hf : f_X4_readTape_8 e x3 m = some r) (hk : k_X4_readTape_8 X T R n1 n2 r) : Wp X cX4_readTape RX4 4 T (mk m R) n1 n2 8 [(0, .ref 14), (3, .int x3)] [] := by
  unfold f_X4_readTape_8 at hf
  refine Wp.iload_n (pc := 8) 1 rfl rfl dX4_readTape_8 ?_
  refine Wp.sipush (pc := 9) (400 : Int32) (by decide) dX4_readTape_9 ?_
  refine Wp.icmp_gt (pc := 12) 169 dX4_readTape_12 (by decide) (fun hc1 => ?_) (fun hc1 => ?_)
  · rw [if_pos hc1] at hf
    refine Wp.lo' (lo' := [(0, .ref 14)]) [0] rfl ?_
    cases hf
    exact hk
  · rw [if_neg hc1] at hf
    refine Wp.aload_n (pc := 15) 0 rfl rfl dX4_readTape_15 ?_
    refine Wp.getI2 (pc := 16) (hG.t 14 rfl) fk_RX4_43 rfl dX4_readTape_16 ?_
    refine Wp.if_ne (pc := 19) 169 dX4_readTape_19 (by decide) (fun hc2 => ?_) (fun hc2 => ?_)
    · rw [if_neg hc2] at hf
      refine Wp.lo' (lo' := [(0, .ref 14)]) [0] rfl ?_
      cases hf
      exact hk
    · rw [if_pos hc2] at hf
      refine Wp.aload_n (pc := 22) 0 rfl rfl dX4_readTape_22 ?_
      refine Wp.getI2 (pc := 23) (hG.t 14 rfl) fk_RX4_46 rfl dX4_readTape_23 ?_
      refine Wp.if_eq (pc := 26) 169 dX4_readTape_26 (by decide) (fun hc3 => ?_) (fun hc3 => ?_)
      · rw [if_pos hc3] at hf
        refine Wp.lo' (lo' := [(0, .ref 14)]) [0] rfl ?_
        cases hf
        exact hk
      · rw [if_neg hc3] at hf
        refine Wp.aload_n (pc := 29) 0 rfl rfl dX4_readTape_29 ?_
        refine Wp.getI2 (pc := 30) (hG.t 14 rfl) fk_RX4_46 rfl dX4_readTape_30 ?_
        by_cases hc4 : (hI m 14 2) = (17 : Int32)
        · rw [if_pos hc4] at hf
          refine Wp.swIn (pc := 33) 116 dX4_readTape_33 hc4 (by decide) (by decide) rfl (by decide) ?_
          refine Wp.aload_n (pc := 116) 0 rfl rfl dX4_readTape_116 ?_
          obtain ⟨c5, h6, hf⟩ := bnd hf
          refine Wp.callVv (pc := 117) (st := []) (as := []) (c_X4_readParts hG h6) ml_RX4_49 mv_X4_readParts mb_X4_readParts hX (Nat.le_of_ble_eq_true rfl) (by decide) rfl (hG.t 14 rfl) rfl (by simp) dX4_readTape_117 rfl ?_
          refine Wp.goto (pc := 120) 163 dX4_readTape_120 (by decide) ?_
          exact w_X4_readTape_163 hX hG hf hk
        · rw [if_neg hc4] at hf
          by_cases hc7 : (hI m 14 2) = (18 : Int32)
          · rw [if_pos hc7] at hf
            refine Wp.swIn (pc := 33) 123 dX4_readTape_33 hc7 (by decide) (by decide) rfl (by decide) ?_
            refine Wp.aload_n (pc := 123) 0 rfl rfl dX4_readTape_123 ?_
            obtain ⟨c8, h9, hf⟩ := bnd hf
            refine Wp.callVv (pc := 124) (st := []) (as := []) (c_X4_readLaw hG h9) ml_RX4_52 mv_X4_readLaw mb_X4_readLaw hX (Nat.le_of_ble_eq_true rfl) (by decide) rfl (hG.t 14 rfl) rfl (by simp) dX4_readTape_124 rfl ?_
            refine Wp.goto (pc := 127) 163 dX4_readTape_127 (by decide) ?_
            exact w_X4_readTape_163 hX hG hf hk
          · rw [if_neg hc7] at hf
            by_cases hc10 : (hI m 14 2) = (19 : Int32)
            · rw [if_pos hc10] at hf
              refine Wp.swIn (pc := 33) 130 dX4_readTape_33 hc10 (by decide) (by decide) rfl (by decide) ?_
              refine Wp.aload_n (pc := 130) 0 rfl rfl dX4_readTape_130 ?_
              obtain ⟨c11, h12, hf⟩ := bnd hf
              refine Wp.callVv (pc := 131) (st := []) (as := []) (c_X4_readMan hG h12) ml_RX4_55 mv_X4_readMan mb_X4_readMan hX (Nat.le_of_ble_eq_true rfl) (by decide) rfl (hG.t 14 rfl) rfl (by simp) dX4_readTape_131 rfl ?_
              refine Wp.goto (pc := 134) 163 dX4_readTape_134 (by decide) ?_
              exact w_X4_readTape_163 hX hG hf hk
            · rw [if_neg hc10] at hf
              by_cases hc13 : (hI m 14 2) = (20 : Int32)
              · rw [if_pos hc13] at hf
                refine Wp.swIn (pc := 33) 151 dX4_readTape_33 hc13 (by decide) (by decide) rfl (by decide) ?_
                refine Wp.aload_n (pc := 151) 0 rfl rfl dX4_readTape_151 ?_
                obtain ⟨c14, h15, hf⟩ := bnd hf
                refine Wp.callVv (pc := 152) (st := []) (as := []) (c_X4_readFog hG h15) ml_RX4_64 mv_X4_readFog mb_X4_readFog hX (Nat.le_of_ble_eq_true rfl) (by decide) rfl (hG.t 14 rfl) rfl (by simp) dX4_readTape_152 rfl ?_
                refine Wp.goto (pc := 155) 163 dX4_readTape_155 (by decide) ?_
                exact w_X4_readTape_163 hX hG hf hk
              · rw [if_neg hc13] at hf
                by_cases hc16 : (hI m 14 2) = (21 : Int32)
                · rw [if_pos hc16] at hf
                  refine Wp.swIn (pc := 33) 158 dX4_readTape_33 hc16 (by decide) (by decide) rfl (by decide) ?_
                  refine Wp.aload_n (pc := 158) 0 rfl rfl dX4_readTape_158 ?_
                  refine Wp.iconst (pc := 159) (1 : Int32) (by decide) dX4_readTape_159 ?_
                  obtain ⟨c17, h18, hf⟩ := bnd hf
                  refine Wp.callVv (pc := 160) (st := []) (as := [.int (1 : Int32)]) (c_X4_fail hG h18) ml_RX4_67 mv_X4_fail mb_X4_fail hX (Nat.le_of_ble_eq_true rfl) (by decide) rfl (hG.t 14 rfl) rfl (by simp) dX4_readTape_160 rfl ?_
                  exact w_X4_readTape_163 hX hG hf hk
                · rw [if_neg hc16] at hf
                  by_cases hc19 : (hI m 14 2) = (22 : Int32)
                  · rw [if_pos hc19] at hf
                    refine Wp.swIn (pc := 33) 158 dX4_readTape_33 hc19 (by decide) (by decide) rfl (by decide) ?_
                    refine Wp.aload_n (pc := 158) 0 rfl rfl dX4_readTape_158 ?_
                    refine Wp.iconst (pc := 159) (1 : Int32) (by decide) dX4_readTape_159 ?_
                    obtain ⟨c20, h21, hf⟩ := bnd hf
                    refine Wp.callVv (pc := 160) (st := []) (as := [.int (1 : Int32)]) (c_X4_fail hG h21) ml_RX4_67 mv_X4_fail mb_X4_fail hX (Nat.le_of_ble_eq_true rfl) (by decide) rfl (hG.t 14 rfl) rfl (by simp) dX4_readTape_160 rfl ?_
                    exact w_X4_readTape_163 hX hG hf hk
                  · rw [if_neg hc19] at hf
                    by_cases hc22 : (hI m 14 2) = (23 : Int32)
                    · rw [if_pos hc22] at hf
                      refine Wp.swIn (pc := 33) 158 dX4_readTape_33 hc22 (by decide) (by decide) rfl (by decide) ?_
                      refine Wp.aload_n (pc := 158) 0 rfl rfl dX4_readTape_158 ?_
                      refine Wp.iconst (pc := 159) (1 : Int32) (by decide) dX4_readTape_159 ?_
                      obtain ⟨c23, h24, hf⟩ := bnd hf
                      refine Wp.callVv (pc := 160) (st := []) (as := [.int (1 : Int32)]) (c_X4_fail hG h24) ml_RX4_67 mv_X4_fail mb_X4_fail hX (Nat.le_of_ble_eq_true rfl) (by decide) rfl (hG.t 14 rfl) rfl (by simp) dX4_readTape_160 rfl ?_
                      exact w_X4_readTape_163 hX hG hf hk
                    · rw [if_neg hc22] at hf
                      by_cases hc25 : (hI m 14 2) = (24 : Int32)
                      · rw [if_pos hc25] at hf
                        refine Wp.swIn (pc := 33) 158 dX4_readTape_33 hc25 (by decide) (by decide) rfl (by decide) ?_
                        refine Wp.aload_n (pc := 158) 0 rfl rfl dX4_readTape_158 ?_
                        refine Wp.iconst (pc := 159) (1 : Int32) (by decide) dX4_readTape_159 ?_
                        obtain ⟨c26, h27, hf⟩ := bnd hf
                        refine Wp.callVv (pc := 160) (st := []) (as := [.int (1 : Int32)]) (c_X4_fail hG h27) ml_RX4_67 mv_X4_fail mb_X4_fail hX (Nat.le_of_ble_eq_true rfl) (by decide) rfl (hG.t 14 rfl) rfl (by simp) dX4_readTape_160 rfl ?_
                        exact w_X4_readTape_163 hX hG hf hk
                      · rw [if_neg hc25] at hf
                        by_cases hc28 : (hI m 14 2) = (25 : Int32)
                        · rw [if_pos hc28] at hf
                          refine Wp.swIn (pc := 33) 158 dX4_readTape_33 hc28 (by decide) (by decide) rfl (by decide) ?_
                          refine Wp.aload_n (pc := 158) 0 rfl rfl dX4_readTape_158 ?_
                          refine Wp.iconst (pc := 159) (1 : Int32) (by decide) dX4_readTape_159 ?_
                          obtain ⟨c29, h30, hf⟩ := bnd hf
                          refine Wp.callVv (pc := 160) (st := []) (as := [.int (1 : Int32)]) (c_X4_fail hG h30) ml_RX4_67 mv_X4_fail mb_X4_fail hX (Nat.le_of_ble_eq_true rfl) (by decide) rfl (hG.t 14 rfl) rfl (by simp) dX4_readTape_160 rfl ?_
                          exact w_X4_readTape_163 hX hG hf hk
                        · rw [if_neg hc28] at hf
                          by_cases hc31 : (hI m 14 2) = (26 : Int32)
                          · rw [if_pos hc31] at hf
                            refine Wp.swIn (pc := 33) 158 dX4_readTape_33 hc31 (by decide) (by decide) rfl (by decide) ?_
                            refine Wp.aload_n (pc := 158) 0 rfl rfl dX4_readTape_158 ?_
                            refine Wp.iconst (pc := 159) (1 : Int32) (by decide) dX4_readTape_159 ?_
                            obtain ⟨c32, h33, hf⟩ := bnd hf
                            refine Wp.callVv (pc := 160) (st := []) (as := [.int (1 : Int32)]) (c_X4_fail hG h33) ml_RX4_67 mv_X4_fail mb_X4_fail hX (Nat.le_of_ble_eq_true rfl) (by decide) rfl (hG.t 14 rfl) rfl (by simp) dX4_readTape_160 rfl ?_
                            exact w_X4_readTape_163 hX hG hf hk
                          · rw [if_neg hc31] at hf
                            by_cases hc34 : (hI m 14 2) = (27 : Int32)
                            · rw [if_pos hc34] at hf
                              refine Wp.swIn (pc := 33) 158 dX4_readTape_33 hc34 (by decide) (by decide) rfl (by decide) ?_
                              refine Wp.aload_n (pc := 158) 0 rfl rfl dX4_readTape_158 ?_
                              refine Wp.iconst (pc := 159) (1 : Int32) (by decide) dX4_readTape_159 ?_
                              obtain ⟨c35, h36, hf⟩ := bnd hf
                              refine Wp.callVv (pc := 160) (st := []) (as := [.int (1 : Int32)]) (c_X4_fail hG h36) ml_RX4_67 mv_X4_fail mb_X4_fail hX (Nat.le_of_ble_eq_true rfl) (by decide) rfl (hG.t 14 rfl) rfl (by simp) dX4_readTape_160 rfl ?_
                              exact w_X4_readTape_163 hX hG hf hk
                            · rw [if_neg hc34] at hf
                              by_cases hc37 : (hI m 14 2) = (28 : Int32)
                              · rw [if_pos hc37] at hf
                                refine Wp.swIn (pc := 33) 158 dX4_readTape_33 hc37 (by decide) (by decide) rfl (by decide) ?_
                                refine Wp.aload_n (pc := 158) 0 rfl rfl dX4_readTape_158 ?_
                                refine Wp.iconst (pc := 159) (1 : Int32) (by decide) dX4_readTape_159 ?_
                                obtain ⟨c38, h39, hf⟩ := bnd hf
                                refine Wp.callVv (pc := 160) (st := []) (as := [.int (1 : Int32)]) (c_X4_fail hG h39) ml_RX4_67 mv_X4_fail mb_X4_fail hX (Nat.le_of_ble_eq_true rfl) (by decide) rfl (hG.t 14 rfl) rfl (by simp) dX4_readTape_160 rfl ?_
                                exact w_X4_readTape_163 hX hG hf hk
                              · rw [if_neg hc37] at hf
                                by_cases hc40 : (hI m 14 2) = (29 : Int32)
                                · rw [if_pos hc40] at hf
                                  refine Wp.swIn (pc := 33) 158 dX4_readTape_33 hc40 (by decide) (by decide) rfl (by decide) ?_
                                  refine Wp.aload_n (pc := 158) 0 rfl rfl dX4_readTape_158 ?_
                                  refine Wp.iconst (pc := 159) (1 : Int32) (by decide) dX4_readTape_159 ?_
                                  obtain ⟨c41, h42, hf⟩ := bnd hf
                                  refine Wp.callVv (pc := 160) (st := []) (as := [.int (1 : Int32)]) (c_X4_fail hG h42) ml_RX4_67 mv_X4_fail mb_X4_fail hX (Nat.le_of_ble_eq_true rfl) (by decide) rfl (hG.t 14 rfl) rfl (by simp) dX4_readTape_160 rfl ?_
                                  exact w_X4_readTape_163 hX hG hf hk
                                · rw [if_neg hc40] at hf
                                  by_cases hc43 : (hI m 14 2) = (30 : Int32)
                                  · rw [if_pos hc43] at hf
                                    refine Wp.swIn (pc := 33) 158 dX4_readTape_33 hc43 (by decide) (by decide) rfl (by decide) ?_
                                    refine Wp.aload_n (pc := 158) 0 rfl rfl dX4_readTape_158 ?_
                                    refine Wp.iconst (pc := 159) (1 : Int32) (by decide) dX4_readTape_159 ?_
                                    obtain ⟨c44, h45, hf⟩ := bnd hf
                                    refine Wp.callVv (pc := 160) (st := []) (as := [.int (1 : Int32)]) (c_X4_fail hG h45) ml_RX4_67 mv_X4_fail mb_X4_fail hX (Nat.le_of_ble_eq_true rfl) (by decide) rfl (hG.t 14 rfl) rfl (by simp) dX4_readTape_160 rfl ?_
                                    exact w_X4_readTape_163 hX hG hf hk
                                  · rw [if_neg hc43] at hf
                                    by_cases hc46 : (hI m 14 2) = (31 : Int32)
                                    · rw [if_pos hc46] at hf
                                      refine Wp.swIn (pc := 33) 137 dX4_readTape_33 hc46 (by decide) (by decide) rfl (by decide) ?_
                                      refine Wp.aload_n (pc := 137) 0 rfl rfl dX4_readTape_137 ?_
                                      obtain ⟨c47, h48, hf⟩ := bnd hf
                                      refine Wp.callVv (pc := 138) (st := []) (as := []) (c_X4_readDrum hG h48) ml_RX4_58 mv_X4_readDrum mb_X4_readDrum hX (Nat.le_of_ble_eq_true rfl) (by decide) rfl (hG.t 14 rfl) rfl (by simp) dX4_readTape_138 rfl ?_
                                      refine Wp.goto (pc := 141) 163 dX4_readTape_141 (by decide) ?_
                                      exact w_X4_readTape_163 hX hG hf hk
                                    · rw [if_neg hc46] at hf
                                      by_cases hc49 : (hI m 14 2) = (32 : Int32)
                                      · rw [if_pos hc49] at hf
                                        refine Wp.swIn (pc := 33) 158 dX4_readTape_33 hc49 (by decide) (by decide) rfl (by decide) ?_
                                        refine Wp.aload_n (pc := 158) 0 rfl rfl dX4_readTape_158 ?_
                                        refine Wp.iconst (pc := 159) (1 : Int32) (by decide) dX4_readTape_159 ?_
                                        obtain ⟨c50, h51, hf⟩ := bnd hf
                                        refine Wp.callVv (pc := 160) (st := []) (as := [.int (1 : Int32)]) (c_X4_fail hG h51) ml_RX4_67 mv_X4_fail mb_X4_fail hX (Nat.le_of_ble_eq_true rfl) (by decide) rfl (hG.t 14 rfl) rfl (by simp) dX4_readTape_160 rfl ?_
                                        exact w_X4_readTape_163 hX hG hf hk
                                      · rw [if_neg hc49] at hf
                                        by_cases hc52 : (hI m 14 2) = (33 : Int32)
                                        · rw [if_pos hc52] at hf
                                          refine Wp.swIn (pc := 33) 144 dX4_readTape_33 hc52 (by decide) (by decide) rfl (by decide) ?_
                                          refine Wp.aload_n (pc := 144) 0 rfl rfl dX4_readTape_144 ?_
                                          obtain ⟨c53, h54, hf⟩ := bnd hf
                                          refine Wp.callVv (pc := 145) (st := []) (as := []) (c_X4_readSong hG h54) ml_RX4_61 mv_X4_readSong mb_X4_readSong hX (Nat.le_of_ble_eq_true rfl) (by decide) rfl (hG.t 14 rfl) rfl (by simp) dX4_readTape_145 rfl ?_
                                          refine Wp.goto (pc := 148) 163 dX4_readTape_148 (by decide) ?_
                                          exact w_X4_readTape_163 hX hG hf hk
                                        · rw [if_neg hc52] at hf
                                          refine Wp.swOut (pc := 33) 158 dX4_readTape_33 (swx (fun k h1 h2 => ?_)) (by decide) ?_
                                          · have z0 := lv_neT hc4 (a := 17) (by decide); have z1 := lv_neT hc7 (a := 18) (by decide); have z2 := lv_neT hc10 (a := 19) (by decide); have z3 := lv_neT hc13 (a := 20) (by decide); have z4 := lv_neT hc16 (a := 21) (by decide); have z5 := lv_neT hc19 (a := 22) (by decide); have z6 := lv_neT hc22 (a := 23) (by decide); have z7 := lv_neT hc25 (a := 24) (by decide); have z8 := lv_neT hc28 (a := 25) (by decide); have z9 := lv_neT hc31 (a := 26) (by decide); have z10 := lv_neT hc34 (a := 27) (by decide); have z11 := lv_neT hc37 (a := 28) (by decide); have z12 := lv_neT hc40 (a := 29) (by decide); have z13 := lv_neT hc43 (a := 30) (by decide); have z14 := lv_neT hc46 (a := 31) (by decide); have z15 := lv_neT hc49 (a := 32) (by decide); have z16 := lv_neT hc52 (a := 33) (by decide); omega
                                          · skip
                                            refine Wp.aload_n (pc := 158) 0 rfl rfl dX4_readTape_158 ?_
                                            refine Wp.iconst (pc := 159) (1 : Int32) (by decide) dX4_readTape_159 ?_
                                            obtain ⟨c55, h56, hf⟩ := bnd hf
                                            refine Wp.callVv (pc := 160) (st := []) (as := [.int (1 : Int32)]) (c_X4_fail hG h56) ml_RX4_67 mv_X4_fail mb_X4_fail hX (Nat.le_of_ble_eq_true rfl) (by decide) rfl (hG.t 14 rfl) rfl (by simp) dX4_readTape_160 rfl ?_
                                            exact w_X4_readTape_163 hX hG hf hk
theorem wl_X4_readTape_8 {X : CX} {T : List Dsc} {R : RM} {c e : Nat} {n1 n2 : Nat} {x3 : Int32} {m : M2} {e1 : ((M2))} (hX : XR X 74 n1 n2) (hG : Geo T R c e) (h : loop (g_X4_readTape_8 e) (x3, m) = some e1) (he : Wp X cX4_readTape RX4 4 T (mk e1 R) n1 n2 169 [(0, .ref 14)] []) : Wp X cX4_readTape RX4 4 T (mk m R) n1 n2 8 [(0, .ref 14), (3, .int x3)] [] :=
  loop_ok (K := k_X4_readTape_8 X T R n1 n2) (fun s r hf hk => w_X4_readTape_8 hX hG hf hk) h he
set_option maxHeartbeats 4000000 in
set_option maxRecDepth 100000 in
theorem w_X4_readTape_180 {X : CX} {T : List Dsc} {R : RM} {c e : Nat} {n1 n2 : Nat} {m : M2} {r : (Int32 × M2)} (hX : XR X 74 n1 n2) (hG : Geo T R c e) (hf : f_X4_readTape_180 e m = some r) (hk : FnI X cX4_readTape RX4 4 T n1 n2 (r.1, mk r.2 R)) : Wp X cX4_readTape RX4 4 T (mk m R) n1 n2 180 [(0, .ref 14)] [] := by
  unfold f_X4_readTape_180 at hf
  refine Wp.aload_n (pc := 180) 0 rfl rfl dX4_readTape_180 ?_
  refine Wp.getI2 (pc := 181) (hG.t 14 rfl) fk_RX4_43 rfl dX4_readTape_181 ?_
  cases hf
  exact hk _ _ dX4_readTape_184
set_option maxHeartbeats 4000000 in
set_option maxRecDepth 100000 in
theorem w_X4_readTape_169 {X : CX} {T : List Dsc} {R : RM} {c e : Nat} {n1 n2 : Nat} {m : M2} {r : (Int32 × M2)} (hX : XR X 74 n1 n2) (hG : Geo T R c e) (hf : f_X4_readTape_169 e m = some r) (hk : FnI X cX4_readTape RX4 4 T n1 n2 (r.1, mk r.2 R)) : Wp X cX4_readTape RX4 4 T (mk m R) n1 n2 169 [(0, .ref 14)] [] := by
  unfold f_X4_readTape_169 at hf
  refine Wp.aload_n (pc := 169) 0 rfl rfl dX4_readTape_169 ?_
  refine Wp.getI2 (pc := 170) (hG.t 14 rfl) fk_RX4_43 rfl dX4_readTape_170 ?_
  refine Wp.if_ne (pc := 173) 180 dX4_readTape_173 (by decide) (fun hc1 => ?_) (fun hc1 => ?_)
  · rw [if_neg hc1] at hf
    exact w_X4_readTape_180 hX hG hf hk
  · rw [if_pos hc1] at hf
    refine Wp.aload_n (pc := 176) 0 rfl rfl dX4_readTape_176 ?_
    obtain ⟨c2, h3, hf⟩ := bnd hf
    refine Wp.callVv (pc := 177) (st := []) (as := []) (c_X4_takeLaterFault hG h3) ml_RX4_71 mv_X4_takeLaterFault mb_X4_takeLaterFault hX (Nat.le_of_ble_eq_true rfl) (by decide) rfl (hG.t 14 rfl) rfl (by simp) dX4_readTape_177 rfl ?_
    exact w_X4_readTape_180 hX hG hf hk
set_option maxHeartbeats 4000000 in
set_option maxRecDepth 100000 in
theorem w_X4_readTape {X : CX} {T : List Dsc} {R : RM} {c e : Nat} {n1 n2 : Nat} {x1 : Int32} {x2 : Nat} {m : M2} {r : (Int32 × M2)} (hX : XR X 74 n1 n2) (hG : Geo T R c e) (hx2 : tx x2) (hf : F_X4_readTape e x1 x2 m = some r) (hk : FnI X cX4_readTape RX4 4 T n1 n2 (r.1, mk r.2 (u2 R 14 3 (some x2)))) : Wp X cX4_readTape RX4 4 T (mk m R) n1 n2 0 [(0, .ref 14), (1, .int x1), (2, .ref x2)] [] := by
  unfold F_X4_readTape at hf
  refine Wp.aload_n (pc := 0) 0 rfl rfl dX4_readTape_0 ?_
  refine Wp.iload_n (pc := 1) 1 rfl rfl dX4_readTape_1 ?_
  refine Wp.aload_n (pc := 2) 2 rfl rfl dX4_readTape_2 ?_
  obtain ⟨c1, h2, hf⟩ := bnd hf
  refine Wp.callVv (pc := 3) (st := []) (as := [.int x1, .ref x2]) (c_X4_begin hG hx2 h2) ml_RX4_39 mv_X4_begin mb_X4_begin hX (Nat.le_of_ble_eq_true rfl) (by decide) rfl (hG.t 14 rfl) rfl (by simp) dX4_readTape_3 rfl ?_
  refine Wp.iconst (pc := 6) (0 : Int32) (by decide) dX4_readTape_6 ?_
  refine Wp.istore_n (pc := 7) (lo' := [(0, .ref 14), (3, .int (0 : Int32))]) [1, 0] rfl (by decide) rfl dX4_readTape_7 ?_
  obtain ⟨e3, h4, hf⟩ := bnd hf
  refine wl_X4_readTape_8 hX (hG.set3 hx2) h4 ?_
  exact w_X4_readTape_169 hX (hG.set3 hx2) hf hk
theorem c_X4_readTape {T : List Dsc} {R : RM} {c e : Nat} {x1 : Int32} {x2 : Nat} {m : M2} {r : (Int32 × M2)} (hG : Geo T R c e) (hx2 : tx x2) (hf : F_X4_readTape e x1 x2 m = some r) : Ct 74 yX4_readTape cX4_readTape 4 (some .int) T (mk m R) [.ref 14, .int x1, .ref x2] (some (.int r.1)) (mk r.2 (u2 R 14 3 (some x2))) := Ct.ofI (r := (r.1, mk r.2 (u2 R 14 3 (some x2)))) (by decide +kernel) (Nat.le_of_ble_eq_true rfl) (fun X hX hk => w_X4_readTape hX hG hx2 hf hk)
theorem dX5_stroke_0 : decode cX5_stroke 0 = .ok (.lconst 0, 1) := by decide +kernel
theorem dX5_stroke_1 : decode cX5_stroke 1 = .ok (.lstore 6, 2) := by decide +kernel
theorem dX5_stroke_3 : decode cX5_stroke 3 = .ok (.lload_n 1, 1) := by decide +kernel
theorem dX5_stroke_4 : decode cX5_stroke 4 = .ok (.iconst 0, 1) := by decide +kernel
theorem dX5_stroke_5 : decode cX5_stroke 5 = .ok (.invokestatic 39, 3) := by decide +kernel
theorem dX5_stroke_8 : decode cX5_stroke 8 = .ok (.istore 8, 2) := by decide +kernel
theorem dX5_stroke_10 : decode cX5_stroke 10 = .ok (.iload 8, 2) := by decide +kernel
theorem dX5_stroke_12 : decode cX5_stroke 12 = .ok (.istore 9, 2) := by decide +kernel
theorem dX5_stroke_14 : decode cX5_stroke 14 = .ok (.iconst 0, 1) := by decide +kernel
theorem dX5_stroke_15 : decode cX5_stroke 15 = .ok (.istore 10, 2) := by decide +kernel
theorem dX5_stroke_17 : decode cX5_stroke 17 = .ok (.iload 10, 2) := by decide +kernel
theorem dX5_stroke_19 : decode cX5_stroke 19 = .ok (.aload_n 0, 1) := by decide +kernel
theorem dX5_stroke_20 : decode cX5_stroke 20 = .ok (.getfield 26, 3) := by decide +kernel
theorem dX5_stroke_23 : decode cX5_stroke 23 = .ok (.getfield 43, 3) := by decide +kernel
theorem dX5_stroke_26 : decode cX5_stroke 26 = .ok (.if_icmp .ge 61, 3) := by decide +kernel
theorem dX5_stroke_29 : decode cX5_stroke 29 = .ok (.iload 10, 2) := by decide +kernel
theorem dX5_stroke_31 : decode cX5_stroke 31 = .ok (.aload_n 3, 1) := by decide +kernel
theorem dX5_stroke_32 : decode cX5_stroke 32 = .ok (.arraylength, 1) := by decide +kernel
theorem dX5_stroke_33 : decode cX5_stroke 33 = .ok (.if_icmp .ge 54, 3) := by decide +kernel
theorem dX5_stroke_36 : decode cX5_stroke 36 = .ok (.lload_n 1, 1) := by decide +kernel
theorem dX5_stroke_37 : decode cX5_stroke 37 = .ok (.iload 10, 2) := by decide +kernel
theorem dX5_stroke_39 : decode cX5_stroke 39 = .ok (.invokestatic 39, 3) := by decide +kernel
theorem dX5_stroke_42 : decode cX5_stroke 42 = .ok (.istore 11, 2) := by decide +kernel
theorem dX5_stroke_44 : decode cX5_stroke 44 = .ok (.lload 6, 2) := by decide +kernel
theorem dX5_stroke_46 : decode cX5_stroke 46 = .ok (.iload 10, 2) := by decide +kernel
theorem dX5_stroke_48 : decode cX5_stroke 48 = .ok (.aload_n 0, 1) := by decide +kernel
theorem dX5_stroke_49 : decode cX5_stroke 49 = .ok (.aload_n 3, 1) := by decide +kernel
theorem dX5_stroke_50 : decode cX5_stroke 50 = .ok (.iload 10, 2) := by decide +kernel
theorem dX5_stroke_52 : decode cX5_stroke 52 = .ok (.iaload, 1) := by decide +kernel
theorem dX5_stroke_53 : decode cX5_stroke 53 = .ok (.iload 10, 2) := by decide +kernel
theorem dX5_stroke_55 : decode cX5_stroke 55 = .ok (.iload 11, 2) := by decide +kernel
theorem dX5_stroke_57 : decode cX5_stroke 57 = .ok (.iload 8, 2) := by decide +kernel
theorem dX5_stroke_59 : decode cX5_stroke 59 = .ok (.iload 9, 2) := by decide +kernel
theorem dX5_stroke_61 : decode cX5_stroke 61 = .ok (.iload 4, 2) := by decide +kernel
theorem dX5_stroke_63 : decode cX5_stroke 63 = .ok (.iload 5, 2) := by decide +kernel
theorem dX5_stroke_65 : decode cX5_stroke 65 = .ok (.invokevirtual 46, 3) := by decide +kernel
theorem dX5_stroke_68 : decode cX5_stroke 68 = .ok (.invokestatic 50, 3) := by decide +kernel
theorem dX5_stroke_71 : decode cX5_stroke 71 = .ok (.lstore 6, 2) := by decide +kernel
theorem dX5_stroke_73 : decode cX5_stroke 73 = .ok (.iload 8, 2) := by decide +kernel
theorem dX5_stroke_75 : decode cX5_stroke 75 = .ok (.istore 9, 2) := by decide +kernel
theorem dX5_stroke_77 : decode cX5_stroke 77 = .ok (.iload 11, 2) := by decide +kernel
theorem dX5_stroke_79 : decode cX5_stroke 79 = .ok (.istore 8, 2) := by decide +kernel
theorem dX5_stroke_81 : decode cX5_stroke 81 = .ok (.iinc 10 1, 3) := by decide +kernel
theorem dX5_stroke_84 : decode cX5_stroke 84 = .ok (.goto (-67), 3) := by decide +kernel
theorem dX5_stroke_87 : decode cX5_stroke 87 = .ok (.lload 6, 2) := by decide +kernel
theorem dX5_stroke_89 : decode cX5_stroke 89 = .ok (.lreturn, 1) := by decide +kernel
def k_X5_stroke_17 (X : CX) (T : List Dsc) (R : RM) (n1 n2 : Nat) (x1 : Int64) (x3 : Nat) (x4 : Int32) (x5 : Int32) (r : ((Int64 × Int32 × Int32 × Int32 × M2) ⊕ ((Int64 × M2)))) : Prop := match r with
  | .inl s => Wp X cX5_stroke RX5 12 T (mk s.2.2.2.2 R) n1 n2 17 [(0, .ref 23), (1, .long x1), (3, .ref x3), (4, .int x4), (5, .int x5), (6, .long s.1), (8, .int s.2.1), (9, .int s.2.2.1), (10, .int s.2.2.2.1)] []
  | .inr e => Wp X cX5_stroke RX5 12 T (mk e.2 R) n1 n2 87 [(6, .long e.1)] []
set_option maxHeartbeats 4000000 in
set_option maxRecDepth 100000 in
theorem w_X5_stroke_17 {X : CX} {T : List Dsc} {R : RM} {c e : Nat} {n1 n2 : Nat} {x1 : Int64} {x3 : Nat} {x4 : Int32} {x5 : Int32} {x6 : Int64} {x8 : Int32} {x9 : Int32} {x10 : Int32} {m : M2} {r : ((Int64 × Int32 × Int32 × Int32 × M2) ⊕ ((Int64 × M2)))} (hX : XR X 5 n1 n2) (hG : Geo T R c e) (hx3 : aLen T x3 0 = some 12) (hf : f_X5_stroke_17 c x1 x3 x4 x5 x6 x8 x9 x10 m = some r) (hk : k_X5_stroke_17 X T R n1 n2 x1 x3 x4 x5 r) : Wp X cX5_stroke RX5 12 T (mk m R) n1 n2 17 [(0, .ref 23), (1, .long x1), (3, .ref x3), (4, .int x4), (5, .int x5), (6, .long x6), (8, .int x8), (9, .int x9), (10, .int x10)] [] := by
  unfold f_X5_stroke_17 at hf
  refine Wp.iload (pc := 17) 8 rfl dX5_stroke_17 ?_
  refine Wp.aload_n (pc := 19) 0 rfl rfl dX5_stroke_19 ?_
  refine Wp.getR2 (pc := 20) hG.r2 (hG.t 23 rfl) fk_RX5_26 rfl dX5_stroke_20 ?_
  refine Wp.getI2 (pc := 23) (hG.tt hG.hc) fk_RX5_43 rfl dX5_stroke_23 ?_
  refine Wp.icmp_ge (pc := 26) 87 dX5_stroke_26 (by decide) (fun hc1 => ?_) (fun hc1 => ?_)
  · rw [if_pos hc1] at hf
    refine Wp.lo' (lo' := [(6, .long x6)]) [5] rfl ?_
    cases hf
    exact hk
  · rw [if_neg hc1] at hf
    refine Wp.iload (pc := 29) 8 rfl dX5_stroke_29 ?_
    refine Wp.aload_n (pc := 31) 2 rfl rfl dX5_stroke_31 ?_
    refine Wp.alen (pc := 32) hx3 dX5_stroke_32 ?_
    refine Wp.icmp_ge (pc := 33) 87 dX5_stroke_33 (by decide) (fun hc2 => ?_) (fun hc2 => ?_)
    · rw [if_pos hc2] at hf
      refine Wp.lo' (lo' := [(6, .long x6)]) [5] rfl ?_
      cases hf
      exact hk
    · rw [if_neg hc2] at hf
      refine Wp.lload_n (pc := 36) 1 rfl rfl dX5_stroke_36 ?_
      refine Wp.iload (pc := 37) 8 rfl dX5_stroke_37 ?_
      obtain ⟨c3, h4, hf⟩ := bnd hf
      refine Wp.callSNi (pc := 39) (st := []) (as := [.long x1, .int x10]) (c_X11_timeAt hG h4) ml_RX5_39 ms_X11_timeAt mb_X11_timeAt hX (Nat.le_of_ble_eq_true rfl) (by decide) rfl (by simp) dX5_stroke_39 rfl ?_
      refine Wp.istore (pc := 42) (lo' := [(0, .ref 23), (1, .long x1), (3, .ref x3), (4, .int x4), (5, .int x5), (6, .long x6), (8, .int x8), (9, .int x9), (10, .int x10), (11, .int c3.1)]) [1, 2, 3, 4, 5, 6, 7, 8, 9, 0] rfl (by decide) dX5_stroke_42 ?_
      refine Wp.lload (pc := 44) 5 rfl dX5_stroke_44 ?_
      refine Wp.iload (pc := 46) 8 rfl dX5_stroke_46 ?_
      refine Wp.aload_n (pc := 48) 0 rfl rfl dX5_stroke_48 ?_
      refine Wp.aload_n (pc := 49) 2 rfl rfl dX5_stroke_49 ?_
      refine Wp.iload (pc := 50) 8 rfl dX5_stroke_50 ?_
      obtain ⟨v5, h6, hf⟩ := bnd hf
      refine Wp.iald2 (pc := 52) h6 hx3 dX5_stroke_52 ?_
      refine Wp.iload (pc := 53) 8 rfl dX5_stroke_53 ?_
      refine Wp.iload (pc := 55) 9 rfl dX5_stroke_55 ?_
      refine Wp.iload (pc := 57) 6 rfl dX5_stroke_57 ?_
      refine Wp.iload (pc := 59) 7 rfl dX5_stroke_59 ?_
      refine Wp.iload (pc := 61) 3 rfl dX5_stroke_61 ?_
      refine Wp.iload (pc := 63) 4 rfl dX5_stroke_63 ?_
      obtain ⟨c7, h8, hf⟩ := bnd hf
      refine Wp.callVi (pc := 65) (st := [.int x10, .long x6]) (as := [.int v5, .int x10, .int c3.1, .int x8, .int x9, .int x4, .int x5]) (c_X5_turned hG h8) ml_RX5_46 mv_X5_turned mb_X5_turned hX (Nat.le_of_ble_eq_true rfl) (by decide) rfl (hG.t 23 rfl) rfl (by simp [Value.category]) dX5_stroke_65 rfl ?_
      obtain ⟨c9, h10, hf⟩ := bnd hf
      refine Wp.callSNl (pc := 68) (st := []) (as := [.long x6, .int x10, .int c7.1]) (c_X11_withTime hG h10) ml_RX5_50 ms_X11_withTime mb_X11_withTime hX (Nat.le_of_ble_eq_true rfl) (by decide) rfl (by simp) dX5_stroke_68 rfl ?_
      refine Wp.lstore (pc := 71) (lo' := [(0, .ref 23), (1, .long x1), (3, .ref x3), (4, .int x4), (5, .int x5), (6, .long c9.1), (8, .int x8), (10, .int x10), (11, .int c3.1)]) [1, 2, 3, 4, 5, 0, 6, 8, 9] rfl (by decide) dX5_stroke_71 ?_
      refine Wp.iload (pc := 73) 6 rfl dX5_stroke_73 ?_
      refine Wp.istore (pc := 75) (lo' := [(0, .ref 23), (1, .long x1), (3, .ref x3), (4, .int x4), (5, .int x5), (6, .long c9.1), (9, .int x8), (10, .int x10), (11, .int c3.1)]) [1, 2, 3, 4, 5, 6, 0, 8, 9] rfl (by decide) dX5_stroke_75 ?_
      refine Wp.iload (pc := 77) 8 rfl dX5_stroke_77 ?_
      refine Wp.istore (pc := 79) (lo' := [(0, .ref 23), (1, .long x1), (3, .ref x3), (4, .int x4), (5, .int x5), (6, .long c9.1), (8, .int c3.1), (9, .int x8), (10, .int x10)]) [1, 2, 3, 4, 5, 6, 0, 7, 8] rfl (by decide) dX5_stroke_79 ?_
      obtain ⟨v11, h12, hf⟩ := bnd hf
      refine Wp.iincN (pc := 81) (lo' := [(0, .ref 23), (1, .long x1), (3, .ref x3), (4, .int x4), (5, .int x5), (6, .long c9.1), (8, .int c3.1), (9, .int x8), (10, .int v11)]) (1 : Int32) (by decide) h12 8 rfl [1, 2, 3, 4, 5, 6, 7, 8, 0] rfl (by decide) dX5_stroke_81 ?_
      refine Wp.goto (pc := 84) 17 dX5_stroke_84 (by decide) ?_
      cases hf
      exact hk
theorem wl_X5_stroke_17 {X : CX} {T : List Dsc} {R : RM} {c e : Nat} {n1 n2 : Nat} {x1 : Int64} {x3 : Nat} {x4 : Int32} {x5 : Int32} {x6 : Int64} {x8 : Int32} {x9 : Int32} {x10 : Int32} {m : M2} {e1 : ((Int64 × M2))} (hX : XR X 5 n1 n2) (hG : Geo T R c e) (hx3 : aLen T x3 0 = some 12) (h : loop (g_X5_stroke_17 c x1 x3 x4 x5) (x6, x8, x9, x10, m) = some e1) (he : Wp X cX5_stroke RX5 12 T (mk e1.2 R) n1 n2 87 [(6, .long e1.1)] []) : Wp X cX5_stroke RX5 12 T (mk m R) n1 n2 17 [(0, .ref 23), (1, .long x1), (3, .ref x3), (4, .int x4), (5, .int x5), (6, .long x6), (8, .int x8), (9, .int x9), (10, .int x10)] [] :=
  loop_ok (K := k_X5_stroke_17 X T R n1 n2 x1 x3 x4 x5) (fun s r hf hk => w_X5_stroke_17 hX hG hx3 hf hk) h he
set_option maxHeartbeats 4000000 in
set_option maxRecDepth 100000 in
theorem w_X5_stroke_87 {X : CX} {T : List Dsc} {R : RM} {c e : Nat} {n1 n2 : Nat} {x6 : Int64} {m : M2} {r : (Int64 × M2)} (hX : XR X 5 n1 n2) (hG : Geo T R c e) (hf : f_X5_stroke_87 c x6 m = some r) (hk : FnJ X cX5_stroke RX5 12 T n1 n2 (r.1, mk r.2 R)) : Wp X cX5_stroke RX5 12 T (mk m R) n1 n2 87 [(6, .long x6)] [] := by
  unfold f_X5_stroke_87 at hf
  refine Wp.lload (pc := 87) 0 rfl dX5_stroke_87 ?_
  cases hf
  exact hk _ _ dX5_stroke_89
set_option maxHeartbeats 4000000 in
set_option maxRecDepth 100000 in
theorem w_X5_stroke {X : CX} {T : List Dsc} {R : RM} {c e : Nat} {n1 n2 : Nat} {x1 : Int64} {x3 : Nat} {x4 : Int32} {x5 : Int32} {m : M2} {r : (Int64 × M2)} (hX : XR X 5 n1 n2) (hG : Geo T R c e) (hx3 : aLen T x3 0 = some 12) (hf : F_X5_stroke c x1 x3 x4 x5 m = some r) (hk : FnJ X cX5_stroke RX5 12 T n1 n2 (r.1, mk r.2 R)) : Wp X cX5_stroke RX5 12 T (mk m R) n1 n2 0 [(0, .ref 23), (1, .long x1), (3, .ref x3), (4, .int x4), (5, .int x5)] [] := by
  unfold F_X5_stroke at hf
  refine Wp.lconst (pc := 0) (0 : Int64) (by decide) dX5_stroke_0 ?_
  refine Wp.lstore (pc := 1) (lo' := [(0, .ref 23), (1, .long x1), (3, .ref x3), (4, .int x4), (5, .int x5), (6, .long (0 : Int64))]) [1, 2, 3, 4, 5, 0] rfl (by decide) dX5_stroke_1 ?_
  refine Wp.lload_n (pc := 3) 1 rfl rfl dX5_stroke_3 ?_
  refine Wp.iconst (pc := 4) (0 : Int32) (by decide) dX5_stroke_4 ?_
  obtain ⟨c1, h2, hf⟩ := bnd hf
  refine Wp.callSNi (pc := 5) (st := []) (as := [.long x1, .int (0 : Int32)]) (c_X11_timeAt hG h2) ml_RX5_39 ms_X11_timeAt mb_X11_timeAt hX (Nat.le_of_ble_eq_true rfl) (by decide) rfl (by simp) dX5_stroke_5 rfl ?_
  refine Wp.istore (pc := 8) (lo' := [(0, .ref 23), (1, .long x1), (3, .ref x3), (4, .int x4), (5, .int x5), (6, .long (0 : Int64)), (8, .int c1.1)]) [1, 2, 3, 4, 5, 6, 0] rfl (by decide) dX5_stroke_8 ?_
  refine Wp.iload (pc := 10) 6 rfl dX5_stroke_10 ?_
  refine Wp.istore (pc := 12) (lo' := [(0, .ref 23), (1, .long x1), (3, .ref x3), (4, .int x4), (5, .int x5), (6, .long (0 : Int64)), (8, .int c1.1), (9, .int c1.1)]) [1, 2, 3, 4, 5, 6, 7, 0] rfl (by decide) dX5_stroke_12 ?_
  refine Wp.iconst (pc := 14) (0 : Int32) (by decide) dX5_stroke_14 ?_
  refine Wp.istore (pc := 15) (lo' := [(0, .ref 23), (1, .long x1), (3, .ref x3), (4, .int x4), (5, .int x5), (6, .long (0 : Int64)), (8, .int c1.1), (9, .int c1.1), (10, .int (0 : Int32))]) [1, 2, 3, 4, 5, 6, 7, 8, 0] rfl (by decide) dX5_stroke_15 ?_
  obtain ⟨e3, h4, hf⟩ := bnd hf
  refine wl_X5_stroke_17 hX hG hx3 h4 ?_
  exact w_X5_stroke_87 hX hG hf hk
theorem c_X5_stroke {T : List Dsc} {R : RM} {c e : Nat} {x1 : Int64} {x3 : Nat} {x4 : Int32} {x5 : Int32} {m : M2} {r : (Int64 × M2)} (hG : Geo T R c e) (hx3 : aLen T x3 0 = some 12) (hf : F_X5_stroke c x1 x3 x4 x5 m = some r) : Ct 5 yX5_stroke cX5_stroke 12 (some .long) T (mk m R) [.ref 23, .long x1, .ref x3, .int x4, .int x5] (some (.long r.1)) (mk r.2 R) := Ct.ofJ (r := (r.1, mk r.2 R)) (by decide +kernel) (Nat.le_of_ble_eq_true rfl) (fun X hX hk => w_X5_stroke hX hG hx3 hf hk)
theorem dX5_gapAhead_0 : decode cX5_gapAhead 0 = .ok (.aload_n 0, 1) := by decide +kernel
theorem dX5_gapAhead_1 : decode cX5_gapAhead 1 = .ok (.lload_n 1, 1) := by decide +kernel
theorem dX5_gapAhead_2 : decode cX5_gapAhead 2 = .ok (.iload_n 3, 1) := by decide +kernel
theorem dX5_gapAhead_3 : decode cX5_gapAhead 3 = .ok (.invokestatic 39, 3) := by decide +kernel
theorem dX5_gapAhead_6 : decode cX5_gapAhead 6 = .ok (.lload_n 1, 1) := by decide +kernel
theorem dX5_gapAhead_7 : decode cX5_gapAhead 7 = .ok (.iload_n 3, 1) := by decide +kernel
theorem dX5_gapAhead_8 : decode cX5_gapAhead 8 = .ok (.iconst 1, 1) := by decide +kernel
theorem dX5_gapAhead_9 : decode cX5_gapAhead 9 = .ok (.isub, 1) := by decide +kernel
theorem dX5_gapAhead_10 : decode cX5_gapAhead 10 = .ok (.invokestatic 39, 3) := by decide +kernel
theorem dX5_gapAhead_13 : decode cX5_gapAhead 13 = .ok (.invokevirtual 87, 3) := by decide +kernel
theorem dX5_gapAhead_16 : decode cX5_gapAhead 16 = .ok (.ireturn, 1) := by decide +kernel
set_option maxHeartbeats 4000000 in
set_option maxRecDepth 100000 in
theorem w_X5_gapAhead {X : CX} {T : List Dsc} {R : RM} {c e : Nat} {n1 n2 : Nat} {x1 : Int64} {x3 : Int32} {m : M2} {r : (Int32 × M2)} (hX : XR X 2 n1 n2) (hG : Geo T R c e) (hf : F_X5_gapAhead c x1 x3 m = some r) (hk : FnI X cX5_gapAhead RX5 4 T n1 n2 (r.1, mk r.2 R)) : Wp X cX5_gapAhead RX5 4 T (mk m R) n1 n2 0 [(0, .ref 23), (1, .long x1), (3, .int x3)] [] := by
  unfold F_X5_gapAhead at hf
  refine Wp.aload_n (pc := 0) 0 rfl rfl dX5_gapAhead_0 ?_
  refine Wp.lload_n (pc := 1) 1 rfl rfl dX5_gapAhead_1 ?_
  refine Wp.iload_n (pc := 2) 2 rfl rfl dX5_gapAhead_2 ?_
  obtain ⟨c1, h2, hf⟩ := bnd hf
  refine Wp.callSNi (pc := 3) (st := [.ref 23]) (as := [.long x1, .int x3]) (c_X11_timeAt hG h2) ml_RX5_39 ms_X11_timeAt mb_X11_timeAt hX (Nat.le_of_ble_eq_true rfl) (by decide) rfl (by simp [Value.category]) dX5_gapAhead_3 rfl ?_
  refine Wp.lload_n (pc := 6) 1 rfl rfl dX5_gapAhead_6 ?_
  refine Wp.iload_n (pc := 7) 2 rfl rfl dX5_gapAhead_7 ?_
  refine Wp.iconst (pc := 8) (1 : Int32) (by decide) dX5_gapAhead_8 ?_
  refine Wp.isub (pc := 9) dX5_gapAhead_9 ?_
  obtain ⟨c3, h4, hf⟩ := bnd hf
  refine Wp.callSNi (pc := 10) (st := [.int c1.1, .ref 23]) (as := [.long x1, .int (x3 - (1 : Int32))]) (c_X11_timeAt hG h4) ml_RX5_39 ms_X11_timeAt mb_X11_timeAt hX (Nat.le_of_ble_eq_true rfl) (by decide) rfl (by simp [Value.category]) dX5_gapAhead_10 rfl ?_
  obtain ⟨c5, h6, hf⟩ := bnd hf
  refine Wp.callVi (pc := 13) (st := []) (as := [.int c1.1, .int c3.1]) (c_X5_gap hG h6) ml_RX5_87 mv_X5_gap mb_X5_gap hX (Nat.le_of_ble_eq_true rfl) (by decide) rfl (hG.t 23 rfl) rfl (by simp) dX5_gapAhead_13 rfl ?_
  cases hf
  exact hk _ _ dX5_gapAhead_16
theorem c_X5_gapAhead {T : List Dsc} {R : RM} {c e : Nat} {x1 : Int64} {x3 : Int32} {m : M2} {r : (Int32 × M2)} (hG : Geo T R c e) (hf : F_X5_gapAhead c x1 x3 m = some r) : Ct 2 yX5_gapAhead cX5_gapAhead 4 (some .int) T (mk m R) [.ref 23, .long x1, .int x3] (some (.int r.1)) (mk r.2 R) := Ct.ofI (r := (r.1, mk r.2 R)) (by decide +kernel) (Nat.le_of_ble_eq_true rfl) (fun X hX hk => w_X5_gapAhead hX hG hf hk)
theorem dX5_clashBits_0 : decode cX5_clashBits 0 = .ok (.aload_n 0, 1) := by decide +kernel
theorem dX5_clashBits_1 : decode cX5_clashBits 1 = .ok (.getfield 26, 3) := by decide +kernel
theorem dX5_clashBits_4 : decode cX5_clashBits 4 = .ok (.getfield 36, 3) := by decide +kernel
theorem dX5_clashBits_7 : decode cX5_clashBits 7 = .ok (.iconst 2, 1) := by decide +kernel
theorem dX5_clashBits_8 : decode cX5_clashBits 8 = .ok (.iadd, 1) := by decide +kernel
theorem dX5_clashBits_9 : decode cX5_clashBits 9 = .ok (.iconst 3, 1) := by decide +kernel
theorem dX5_clashBits_10 : decode cX5_clashBits 10 = .ok (.idiv, 1) := by decide +kernel
theorem dX5_clashBits_11 : decode cX5_clashBits 11 = .ok (.istore_n 3, 1) := by decide +kernel
theorem dX5_clashBits_12 : decode cX5_clashBits 12 = .ok (.iconst 0, 1) := by decide +kernel
theorem dX5_clashBits_13 : decode cX5_clashBits 13 = .ok (.istore 4, 2) := by decide +kernel
theorem dX5_clashBits_15 : decode cX5_clashBits 15 = .ok (.iconst 1, 1) := by decide +kernel
theorem dX5_clashBits_16 : decode cX5_clashBits 16 = .ok (.istore 5, 2) := by decide +kernel
theorem dX5_clashBits_18 : decode cX5_clashBits 18 = .ok (.iload 5, 2) := by decide +kernel
theorem dX5_clashBits_20 : decode cX5_clashBits 20 = .ok (.aload_n 0, 1) := by decide +kernel
theorem dX5_clashBits_21 : decode cX5_clashBits 21 = .ok (.getfield 26, 3) := by decide +kernel
theorem dX5_clashBits_24 : decode cX5_clashBits 24 = .ok (.getfield 43, 3) := by decide +kernel
theorem dX5_clashBits_27 : decode cX5_clashBits 27 = .ok (.if_icmp .ge 32, 3) := by decide +kernel
theorem dX5_clashBits_30 : decode cX5_clashBits 30 = .ok (.aload_n 0, 1) := by decide +kernel
theorem dX5_clashBits_31 : decode cX5_clashBits 31 = .ok (.lload_n 1, 1) := by decide +kernel
theorem dX5_clashBits_32 : decode cX5_clashBits 32 = .ok (.iload 5, 2) := by decide +kernel
theorem dX5_clashBits_34 : decode cX5_clashBits 34 = .ok (.invokevirtual 90, 3) := by decide +kernel
theorem dX5_clashBits_37 : decode cX5_clashBits 37 = .ok (.invokestatic 93, 3) := by decide +kernel
theorem dX5_clashBits_40 : decode cX5_clashBits 40 = .ok (.iload_n 3, 1) := by decide +kernel
theorem dX5_clashBits_41 : decode cX5_clashBits 41 = .ok (.if_icmp .lt 12, 3) := by decide +kernel
theorem dX5_clashBits_44 : decode cX5_clashBits 44 = .ok (.iload 4, 2) := by decide +kernel
theorem dX5_clashBits_46 : decode cX5_clashBits 46 = .ok (.iconst 1, 1) := by decide +kernel
theorem dX5_clashBits_47 : decode cX5_clashBits 47 = .ok (.iload 5, 2) := by decide +kernel
theorem dX5_clashBits_49 : decode cX5_clashBits 49 = .ok (.ishl, 1) := by decide +kernel
theorem dX5_clashBits_50 : decode cX5_clashBits 50 = .ok (.ior, 1) := by decide +kernel
theorem dX5_clashBits_51 : decode cX5_clashBits 51 = .ok (.istore 4, 2) := by decide +kernel
theorem dX5_clashBits_53 : decode cX5_clashBits 53 = .ok (.iinc 5 1, 3) := by decide +kernel
theorem dX5_clashBits_56 : decode cX5_clashBits 56 = .ok (.goto (-38), 3) := by decide +kernel
theorem dX5_clashBits_59 : decode cX5_clashBits 59 = .ok (.iload 4, 2) := by decide +kernel
theorem dX5_clashBits_61 : decode cX5_clashBits 61 = .ok (.ireturn, 1) := by decide +kernel
def k_X5_clashBits_18 (X : CX) (T : List Dsc) (R : RM) (n1 n2 : Nat) (x1 : Int64) (x3 : Int32) (r : ((Int32 × Int32 × M2) ⊕ ((Int32 × M2)))) : Prop := match r with
  | .inl s => Wp X cX5_clashBits RX5 6 T (mk s.2.2 R) n1 n2 18 [(0, .ref 23), (1, .long x1), (3, .int x3), (4, .int s.1), (5, .int s.2.1)] []
  | .inr e => Wp X cX5_clashBits RX5 6 T (mk e.2 R) n1 n2 59 [(4, .int e.1)] []
set_option maxHeartbeats 4000000 in
set_option maxRecDepth 100000 in
theorem w_X5_clashBits_53 {X : CX} {T : List Dsc} {R : RM} {c e : Nat} {n1 n2 : Nat} {x1 : Int64} {x3 : Int32} {x4 : Int32} {x5 : Int32} {m : M2} {r : ((Int32 × Int32 × M2) ⊕ ((Int32 × M2)))} (hX : XR X 3 n1 n2) (hG : Geo T R c e) (hf : f_X5_clashBits_53 c x1 x3 x4 x5 m = some r) (hk : k_X5_clashBits_18 X T R n1 n2 x1 x3 r) : Wp X cX5_clashBits RX5 6 T (mk m R) n1 n2 53 [(0, .ref 23), (1, .long x1), (3, .int x3), (4, .int x4), (5, .int x5)] [] := by
  unfold f_X5_clashBits_53 at hf
  obtain ⟨v1, h2, hf⟩ := bnd hf
  refine Wp.iincN (pc := 53) (lo' := [(0, .ref 23), (1, .long x1), (3, .int x3), (4, .int x4), (5, .int v1)]) (1 : Int32) (by decide) h2 4 rfl [1, 2, 3, 4, 0] rfl (by decide) dX5_clashBits_53 ?_
  refine Wp.goto (pc := 56) 18 dX5_clashBits_56 (by decide) ?_
  cases hf
  exact hk
set_option maxHeartbeats 4000000 in
set_option maxRecDepth 100000 in
theorem w_X5_clashBits_18 {X : CX} {T : List Dsc} {R : RM} {c e : Nat} {n1 n2 : Nat} {x1 : Int64} {x3 : Int32} {x4 : Int32} {x5 : Int32} {m : M2} {r : ((Int32 × Int32 × M2) ⊕ ((Int32 × M2)))} (hX : XR X 3 n1 n2) (hG : Geo T R c e) (hf : f_X5_clashBits_18 c x1 x3 x4 x5 m = some r) (hk : k_X5_clashBits_18 X T R n1 n2 x1 x3 r) : Wp X cX5_clashBits RX5 6 T (mk m R) n1 n2 18 [(0, .ref 23), (1, .long x1), (3, .int x3), (4, .int x4), (5, .int x5)] [] := by
  unfold f_X5_clashBits_18 at hf
  refine Wp.iload (pc := 18) 4 rfl dX5_clashBits_18 ?_
  refine Wp.aload_n (pc := 20) 0 rfl rfl dX5_clashBits_20 ?_
  refine Wp.getR2 (pc := 21) hG.r2 (hG.t 23 rfl) fk_RX5_26 rfl dX5_clashBits_21 ?_
  refine Wp.getI2 (pc := 24) (hG.tt hG.hc) fk_RX5_43 rfl dX5_clashBits_24 ?_
  refine Wp.icmp_ge (pc := 27) 59 dX5_clashBits_27 (by decide) (fun hc1 => ?_) (fun hc1 => ?_)
  · rw [if_pos hc1] at hf
    refine Wp.lo' (lo' := [(4, .int x4)]) [3] rfl ?_
    cases hf
    exact hk
  · rw [if_neg hc1] at hf
    refine Wp.aload_n (pc := 30) 0 rfl rfl dX5_clashBits_30 ?_
    refine Wp.lload_n (pc := 31) 1 rfl rfl dX5_clashBits_31 ?_
    refine Wp.iload (pc := 32) 4 rfl dX5_clashBits_32 ?_
    obtain ⟨c2, h3, hf⟩ := bnd hf
    refine Wp.callVi (pc := 34) (st := []) (as := [.long x1, .int x5]) (c_X5_gapAhead hG h3) ml_RX5_90 mv_X5_gapAhead mb_X5_gapAhead hX (Nat.le_of_ble_eq_true rfl) (by decide) rfl (hG.t 23 rfl) rfl (by simp) dX5_clashBits_34 rfl ?_
    refine Wp.mabs (pc := 37) mm_RX5_93 hX (Nat.le_of_ble_eq_true rfl) (by simp) dX5_clashBits_37 ?_
    refine Wp.iload_n (pc := 40) 2 rfl rfl dX5_clashBits_40 ?_
    refine Wp.icmp_lt (pc := 41) 53 dX5_clashBits_41 (by decide) (fun hc4 => ?_) (fun hc4 => ?_)
    · rw [if_pos hc4] at hf
      exact w_X5_clashBits_53 hX hG hf hk
    · rw [if_neg hc4] at hf
      refine Wp.iload (pc := 44) 3 rfl dX5_clashBits_44 ?_
      refine Wp.iconst (pc := 46) (1 : Int32) (by decide) dX5_clashBits_46 ?_
      refine Wp.iload (pc := 47) 4 rfl dX5_clashBits_47 ?_
      refine Wp.ishl (pc := 49) dX5_clashBits_49 ?_
      refine Wp.ior (pc := 50) dX5_clashBits_50 ?_
      obtain ⟨v5, h6, hf⟩ := bnd hf
      refine Wp.nI' h6 ?_
      refine Wp.istore (pc := 51) (lo' := [(0, .ref 23), (1, .long x1), (3, .int x3), (4, .int v5), (5, .int x5)]) [1, 2, 3, 0, 4] rfl (by decide) dX5_clashBits_51 ?_
      exact w_X5_clashBits_53 hX hG hf hk
theorem wl_X5_clashBits_18 {X : CX} {T : List Dsc} {R : RM} {c e : Nat} {n1 n2 : Nat} {x1 : Int64} {x3 : Int32} {x4 : Int32} {x5 : Int32} {m : M2} {e1 : ((Int32 × M2))} (hX : XR X 3 n1 n2) (hG : Geo T R c e) (h : loop (g_X5_clashBits_18 c x1 x3) (x4, x5, m) = some e1) (he : Wp X cX5_clashBits RX5 6 T (mk e1.2 R) n1 n2 59 [(4, .int e1.1)] []) : Wp X cX5_clashBits RX5 6 T (mk m R) n1 n2 18 [(0, .ref 23), (1, .long x1), (3, .int x3), (4, .int x4), (5, .int x5)] [] :=
  loop_ok (K := k_X5_clashBits_18 X T R n1 n2 x1 x3) (fun s r hf hk => w_X5_clashBits_18 hX hG hf hk) h he
set_option maxHeartbeats 4000000 in
set_option maxRecDepth 100000 in
theorem w_X5_clashBits {X : CX} {T : List Dsc} {R : RM} {c e : Nat} {n1 n2 : Nat} {x1 : Int64} {m : M2} {r : (Int32 × M2)} (hX : XR X 3 n1 n2) (hG : Geo T R c e) (hf : F_X5_clashBits c x1 m = some r) (hk : FnI X cX5_clashBits RX5 6 T n1 n2 (r.1, mk r.2 R)) : Wp X cX5_clashBits RX5 6 T (mk m R) n1 n2 0 [(0, .ref 23), (1, .long x1)] [] := by
  unfold F_X5_clashBits at hf
  refine Wp.aload_n (pc := 0) 0 rfl rfl dX5_clashBits_0 ?_
  refine Wp.getR2 (pc := 1) hG.r2 (hG.t 23 rfl) fk_RX5_26 rfl dX5_clashBits_1 ?_
  refine Wp.getI2 (pc := 4) (hG.tt hG.hc) fk_RX5_36 rfl dX5_clashBits_4 ?_
  refine Wp.iconst (pc := 7) (2 : Int32) (by decide) dX5_clashBits_7 ?_
  refine Wp.iadd (pc := 8) dX5_clashBits_8 ?_
  refine Wp.iconst (pc := 9) (3 : Int32) (by decide) dX5_clashBits_9 ?_
  obtain ⟨v1, h2, hf⟩ := bnd hf
  refine Wp.dv (pc := 10) h2 dX5_clashBits_10 ?_
  refine Wp.istore_n (pc := 11) (lo' := [(0, .ref 23), (1, .long x1), (3, .int v1)]) [1, 2, 0] rfl (by decide) rfl dX5_clashBits_11 ?_
  refine Wp.iconst (pc := 12) (0 : Int32) (by decide) dX5_clashBits_12 ?_
  refine Wp.istore (pc := 13) (lo' := [(0, .ref 23), (1, .long x1), (3, .int v1), (4, .int (0 : Int32))]) [1, 2, 3, 0] rfl (by decide) dX5_clashBits_13 ?_
  refine Wp.iconst (pc := 15) (1 : Int32) (by decide) dX5_clashBits_15 ?_
  refine Wp.istore (pc := 16) (lo' := [(0, .ref 23), (1, .long x1), (3, .int v1), (4, .int (0 : Int32)), (5, .int (1 : Int32))]) [1, 2, 3, 4, 0] rfl (by decide) dX5_clashBits_16 ?_
  obtain ⟨e3, h4, hf⟩ := bnd hf
  refine wl_X5_clashBits_18 hX hG h4 ?_
  refine Wp.iload (pc := 59) 0 rfl dX5_clashBits_59 ?_
  cases hf
  exact hk _ _ dX5_clashBits_61
theorem c_X5_clashBits {T : List Dsc} {R : RM} {c e : Nat} {x1 : Int64} {m : M2} {r : (Int32 × M2)} (hG : Geo T R c e) (hf : F_X5_clashBits c x1 m = some r) : Ct 3 yX5_clashBits cX5_clashBits 6 (some .int) T (mk m R) [.ref 23, .long x1] (some (.int r.1)) (mk r.2 R) := Ct.ofI (r := (r.1, mk r.2 R)) (by decide +kernel) (Nat.le_of_ble_eq_true rfl) (fun X hX hk => w_X5_clashBits hX hG hf hk)
theorem dX5_menNear_0 : decode cX5_menNear 0 = .ok (.iload_n 1, 1) := by decide +kernel
theorem dX5_menNear_1 : decode cX5_menNear 1 = .ok (.ifCond .lt 14, 3) := by decide +kernel
theorem dX5_menNear_4 : decode cX5_menNear 4 = .ok (.iload_n 1, 1) := by decide +kernel
theorem dX5_menNear_5 : decode cX5_menNear 5 = .ok (.aload_n 0, 1) := by decide +kernel
theorem dX5_menNear_6 : decode cX5_menNear 6 = .ok (.getfield 26, 3) := by decide +kernel
theorem dX5_menNear_9 : decode cX5_menNear 9 = .ok (.getfield 36, 3) := by decide +kernel
theorem dX5_menNear_12 : decode cX5_menNear 12 = .ok (.if_icmp .lt 5, 3) := by decide +kernel
theorem dX5_menNear_15 : decode cX5_menNear 15 = .ok (.iconst 0, 1) := by decide +kernel
theorem dX5_menNear_16 : decode cX5_menNear 16 = .ok (.ireturn, 1) := by decide +kernel
theorem dX5_menNear_17 : decode cX5_menNear 17 = .ok (.iload_n 1, 1) := by decide +kernel
theorem dX5_menNear_18 : decode cX5_menNear 18 = .ok (.ifCond .ne 15, 3) := by decide +kernel
theorem dX5_menNear_21 : decode cX5_menNear 21 = .ok (.aload_n 0, 1) := by decide +kernel
theorem dX5_menNear_22 : decode cX5_menNear 22 = .ok (.getfield 26, 3) := by decide +kernel
theorem dX5_menNear_25 : decode cX5_menNear 25 = .ok (.getfield 36, 3) := by decide +kernel
theorem dX5_menNear_28 : decode cX5_menNear 28 = .ok (.iconst 1, 1) := by decide +kernel
theorem dX5_menNear_29 : decode cX5_menNear 29 = .ok (.isub, 1) := by decide +kernel
theorem dX5_menNear_30 : decode cX5_menNear 30 = .ok (.goto 6, 3) := by decide +kernel
theorem dX5_menNear_33 : decode cX5_menNear 33 = .ok (.iload_n 1, 1) := by decide +kernel
theorem dX5_menNear_34 : decode cX5_menNear 34 = .ok (.iconst 1, 1) := by decide +kernel
theorem dX5_menNear_35 : decode cX5_menNear 35 = .ok (.isub, 1) := by decide +kernel
theorem dX5_menNear_36 : decode cX5_menNear 36 = .ok (.istore_n 2, 1) := by decide +kernel
theorem dX5_menNear_37 : decode cX5_menNear 37 = .ok (.iload_n 1, 1) := by decide +kernel
theorem dX5_menNear_38 : decode cX5_menNear 38 = .ok (.aload_n 0, 1) := by decide +kernel
theorem dX5_menNear_39 : decode cX5_menNear 39 = .ok (.getfield 26, 3) := by decide +kernel
theorem dX5_menNear_42 : decode cX5_menNear 42 = .ok (.getfield 36, 3) := by decide +kernel
theorem dX5_menNear_45 : decode cX5_menNear 45 = .ok (.iconst 1, 1) := by decide +kernel
theorem dX5_menNear_46 : decode cX5_menNear 46 = .ok (.isub, 1) := by decide +kernel
theorem dX5_menNear_47 : decode cX5_menNear 47 = .ok (.if_icmp .ne 7, 3) := by decide +kernel
theorem dX5_menNear_50 : decode cX5_menNear 50 = .ok (.iconst 0, 1) := by decide +kernel
theorem dX5_menNear_51 : decode cX5_menNear 51 = .ok (.goto 6, 3) := by decide +kernel
theorem dX5_menNear_54 : decode cX5_menNear 54 = .ok (.iload_n 1, 1) := by decide +kernel
theorem dX5_menNear_55 : decode cX5_menNear 55 = .ok (.iconst 1, 1) := by decide +kernel
theorem dX5_menNear_56 : decode cX5_menNear 56 = .ok (.iadd, 1) := by decide +kernel
theorem dX5_menNear_57 : decode cX5_menNear 57 = .ok (.istore_n 3, 1) := by decide +kernel
theorem dX5_menNear_58 : decode cX5_menNear 58 = .ok (.aload_n 0, 1) := by decide +kernel
theorem dX5_menNear_59 : decode cX5_menNear 59 = .ok (.getfield 20, 3) := by decide +kernel
theorem dX5_menNear_62 : decode cX5_menNear 62 = .ok (.iload_n 2, 1) := by decide +kernel
theorem dX5_menNear_63 : decode cX5_menNear 63 = .ok (.iaload, 1) := by decide +kernel
theorem dX5_menNear_64 : decode cX5_menNear 64 = .ok (.aload_n 0, 1) := by decide +kernel
theorem dX5_menNear_65 : decode cX5_menNear 65 = .ok (.getfield 20, 3) := by decide +kernel
theorem dX5_menNear_68 : decode cX5_menNear 68 = .ok (.iload_n 1, 1) := by decide +kernel
theorem dX5_menNear_69 : decode cX5_menNear 69 = .ok (.iaload, 1) := by decide +kernel
theorem dX5_menNear_70 : decode cX5_menNear 70 = .ok (.iadd, 1) := by decide +kernel
theorem dX5_menNear_71 : decode cX5_menNear 71 = .ok (.aload_n 0, 1) := by decide +kernel
theorem dX5_menNear_72 : decode cX5_menNear 72 = .ok (.getfield 20, 3) := by decide +kernel
theorem dX5_menNear_75 : decode cX5_menNear 75 = .ok (.iload_n 3, 1) := by decide +kernel
theorem dX5_menNear_76 : decode cX5_menNear 76 = .ok (.iaload, 1) := by decide +kernel
theorem dX5_menNear_77 : decode cX5_menNear 77 = .ok (.iadd, 1) := by decide +kernel
theorem dX5_menNear_78 : decode cX5_menNear 78 = .ok (.ireturn, 1) := by decide +kernel
set_option maxHeartbeats 4000000 in
set_option maxRecDepth 100000 in
theorem w_X5_menNear_15 {X : CX} {T : List Dsc} {R : RM} {c e : Nat} {n1 n2 : Nat} {m : M2} {r : (Int32 × M2)} (hX : XR X 1 n1 n2) (hG : Geo T R c e) (hf : f_X5_menNear_15 c m = some r) (hk : FnI X cX5_menNear RX5 4 T n1 n2 (r.1, mk r.2 R)) : Wp X cX5_menNear RX5 4 T (mk m R) n1 n2 15 [] [] := by
  unfold f_X5_menNear_15 at hf
  refine Wp.iconst (pc := 15) (0 : Int32) (by decide) dX5_menNear_15 ?_
  cases hf
  exact hk _ _ dX5_menNear_16
set_option maxHeartbeats 4000000 in
set_option maxRecDepth 100000 in
theorem w_X5_menNear_57 {X : CX} {T : List Dsc} {R : RM} {c e : Nat} {n1 n2 : Nat} {x1 : Int32} {x2 : Int32} {s0 : Int32} {m : M2} {r : (Int32 × M2)} (hX : XR X 1 n1 n2) (hG : Geo T R c e) (hf : f_X5_menNear_57 c x1 x2 s0 m = some r) (hk : FnI X cX5_menNear RX5 4 T n1 n2 (r.1, mk r.2 R)) : Wp X cX5_menNear RX5 4 T (mk m R) n1 n2 57 [(0, .ref 23), (1, .int x1), (2, .int x2)] [.int s0] := by
  unfold f_X5_menNear_57 at hf
  refine Wp.istore_n (pc := 57) (lo' := [(0, .ref 23), (1, .int x1), (2, .int x2), (3, .int s0)]) [1, 2, 3, 0] rfl (by decide) rfl dX5_menNear_57 ?_
  refine Wp.aload_n (pc := 58) 0 rfl rfl dX5_menNear_58 ?_
  refine Wp.getR2 (pc := 59) (hG.r 23 3 rfl) (hG.t 23 rfl) fk_RX5_20 rfl dX5_menNear_59 ?_
  refine Wp.iload_n (pc := 62) 2 rfl rfl dX5_menNear_62 ?_
  obtain ⟨v1, h2, hf⟩ := bnd hf
  refine Wp.iald2 (pc := 63) h2 (hG.a 26 0 rfl) dX5_menNear_63 ?_
  refine Wp.aload_n (pc := 64) 0 rfl rfl dX5_menNear_64 ?_
  refine Wp.getR2 (pc := 65) (hG.r 23 3 rfl) (hG.t 23 rfl) fk_RX5_20 rfl dX5_menNear_65 ?_
  refine Wp.iload_n (pc := 68) 1 rfl rfl dX5_menNear_68 ?_
  obtain ⟨v3, h4, hf⟩ := bnd hf
  refine Wp.iald2 (pc := 69) h4 (hG.a 26 0 rfl) dX5_menNear_69 ?_
  refine Wp.iadd (pc := 70) dX5_menNear_70 ?_
  refine Wp.aload_n (pc := 71) 0 rfl rfl dX5_menNear_71 ?_
  refine Wp.getR2 (pc := 72) (hG.r 23 3 rfl) (hG.t 23 rfl) fk_RX5_20 rfl dX5_menNear_72 ?_
  refine Wp.iload_n (pc := 75) 3 rfl rfl dX5_menNear_75 ?_
  obtain ⟨v5, h6, hf⟩ := bnd hf
  refine Wp.iald2 (pc := 76) h6 (hG.a 26 0 rfl) dX5_menNear_76 ?_
  refine Wp.iadd (pc := 77) dX5_menNear_77 ?_
  cases hf
  exact hk _ _ dX5_menNear_78
set_option maxHeartbeats 4000000 in
set_option maxRecDepth 100000 in
theorem w_X5_menNear_36 {X : CX} {T : List Dsc} {R : RM} {c e : Nat} {n1 n2 : Nat} {x1 : Int32} {s0 : Int32} {m : M2} {r : (Int32 × M2)} (hX : XR X 1 n1 n2) (hG : Geo T R c e) (hf : f_X5_menNear_36 c x1 s0 m = some r) (hk : FnI X cX5_menNear RX5 4 T n1 n2 (r.1, mk r.2 R)) : Wp X cX5_menNear RX5 4 T (mk m R) n1 n2 36 [(0, .ref 23), (1, .int x1)] [.int s0] := by
  unfold f_X5_menNear_36 at hf
  refine Wp.istore_n (pc := 36) (lo' := [(0, .ref 23), (1, .int x1), (2, .int s0)]) [1, 2, 0] rfl (by decide) rfl dX5_menNear_36 ?_
  refine Wp.iload_n (pc := 37) 1 rfl rfl dX5_menNear_37 ?_
  refine Wp.aload_n (pc := 38) 0 rfl rfl dX5_menNear_38 ?_
  refine Wp.getR2 (pc := 39) hG.r2 (hG.t 23 rfl) fk_RX5_26 rfl dX5_menNear_39 ?_
  refine Wp.getI2 (pc := 42) (hG.tt hG.hc) fk_RX5_36 rfl dX5_menNear_42 ?_
  refine Wp.iconst (pc := 45) (1 : Int32) (by decide) dX5_menNear_45 ?_
  refine Wp.isub (pc := 46) dX5_menNear_46 ?_
  refine Wp.icmp_ne (pc := 47) 54 dX5_menNear_47 (by decide) (fun hc1 => ?_) (fun hc1 => ?_)
  · rw [if_neg hc1] at hf
    refine Wp.iload_n (pc := 54) 1 rfl rfl dX5_menNear_54 ?_
    refine Wp.iconst (pc := 55) (1 : Int32) (by decide) dX5_menNear_55 ?_
    refine Wp.iadd (pc := 56) dX5_menNear_56 ?_
    exact w_X5_menNear_57 hX hG hf hk
  · rw [if_pos hc1] at hf
    refine Wp.iconst (pc := 50) (0 : Int32) (by decide) dX5_menNear_50 ?_
    refine Wp.goto (pc := 51) 57 dX5_menNear_51 (by decide) ?_
    exact w_X5_menNear_57 hX hG hf hk
set_option maxHeartbeats 4000000 in
set_option maxRecDepth 100000 in
theorem w_X5_menNear {X : CX} {T : List Dsc} {R : RM} {c e : Nat} {n1 n2 : Nat} {x1 : Int32} {m : M2} {r : (Int32 × M2)} (hX : XR X 1 n1 n2) (hG : Geo T R c e) (hf : F_X5_menNear c x1 m = some r) (hk : FnI X cX5_menNear RX5 4 T n1 n2 (r.1, mk r.2 R)) : Wp X cX5_menNear RX5 4 T (mk m R) n1 n2 0 [(0, .ref 23), (1, .int x1)] [] := by
  unfold F_X5_menNear at hf
  refine Wp.iload_n (pc := 0) 1 rfl rfl dX5_menNear_0 ?_
  refine Wp.if_lt (pc := 1) 15 dX5_menNear_1 (by decide) (fun hc1 => ?_) (fun hc1 => ?_)
  · rw [if_pos hc1] at hf
    refine Wp.lo' (lo' := []) [] rfl ?_
    exact w_X5_menNear_15 hX hG hf hk
  · rw [if_neg hc1] at hf
    refine Wp.iload_n (pc := 4) 1 rfl rfl dX5_menNear_4 ?_
    refine Wp.aload_n (pc := 5) 0 rfl rfl dX5_menNear_5 ?_
    refine Wp.getR2 (pc := 6) hG.r2 (hG.t 23 rfl) fk_RX5_26 rfl dX5_menNear_6 ?_
    refine Wp.getI2 (pc := 9) (hG.tt hG.hc) fk_RX5_36 rfl dX5_menNear_9 ?_
    refine Wp.icmp_lt (pc := 12) 17 dX5_menNear_12 (by decide) (fun hc2 => ?_) (fun hc2 => ?_)
    · rw [if_pos hc2] at hf
      refine Wp.iload_n (pc := 17) 1 rfl rfl dX5_menNear_17 ?_
      refine Wp.if_ne (pc := 18) 33 dX5_menNear_18 (by decide) (fun hc3 => ?_) (fun hc3 => ?_)
      · rw [if_neg hc3] at hf
        refine Wp.iload_n (pc := 33) 1 rfl rfl dX5_menNear_33 ?_
        refine Wp.iconst (pc := 34) (1 : Int32) (by decide) dX5_menNear_34 ?_
        refine Wp.isub (pc := 35) dX5_menNear_35 ?_
        exact w_X5_menNear_36 hX hG hf hk
      · rw [if_pos hc3] at hf
        refine Wp.aload_n (pc := 21) 0 rfl rfl dX5_menNear_21 ?_
        refine Wp.getR2 (pc := 22) hG.r2 (hG.t 23 rfl) fk_RX5_26 rfl dX5_menNear_22 ?_
        refine Wp.getI2 (pc := 25) (hG.tt hG.hc) fk_RX5_36 rfl dX5_menNear_25 ?_
        refine Wp.iconst (pc := 28) (1 : Int32) (by decide) dX5_menNear_28 ?_
        refine Wp.isub (pc := 29) dX5_menNear_29 ?_
        refine Wp.goto (pc := 30) 36 dX5_menNear_30 (by decide) ?_
        exact w_X5_menNear_36 hX hG hf hk
    · rw [if_neg hc2] at hf
      refine Wp.lo' (lo' := []) [] rfl ?_
      exact w_X5_menNear_15 hX hG hf hk
theorem c_X5_menNear {T : List Dsc} {R : RM} {c e : Nat} {x1 : Int32} {m : M2} {r : (Int32 × M2)} (hG : Geo T R c e) (hf : F_X5_menNear c x1 m = some r) : Ct 1 yX5_menNear cX5_menNear 4 (some .int) T (mk m R) [.ref 23, .int x1] (some (.int r.1)) (mk r.2 R) := Ct.ofI (r := (r.1, mk r.2 R)) (by decide +kernel) (Nat.le_of_ble_eq_true rfl) (fun X hX hk => w_X5_menNear hX hG hf hk)
theorem dX5_wayPart_0 : decode cX5_wayPart 0 = .ok (.aload_n 0, 1) := by decide +kernel
theorem dX5_wayPart_1 : decode cX5_wayPart 1 = .ok (.getfield 20, 3) := by decide +kernel
theorem dX5_wayPart_4 : decode cX5_wayPart 4 = .ok (.iconst 0, 1) := by decide +kernel
theorem dX5_wayPart_5 : decode cX5_wayPart 5 = .ok (.invokestatic 105, 3) := by decide +kernel
theorem dX5_wayPart_8 : decode cX5_wayPart 8 = .ok (.iconst 0, 1) := by decide +kernel
theorem dX5_wayPart_9 : decode cX5_wayPart 9 = .ok (.istore_n 3, 1) := by decide +kernel
theorem dX5_wayPart_10 : decode cX5_wayPart 10 = .ok (.iload_n 3, 1) := by decide +kernel
theorem dX5_wayPart_11 : decode cX5_wayPart 11 = .ok (.aload_n 0, 1) := by decide +kernel
theorem dX5_wayPart_12 : decode cX5_wayPart 12 = .ok (.getfield 26, 3) := by decide +kernel
theorem dX5_wayPart_15 : decode cX5_wayPart 15 = .ok (.getfield 43, 3) := by decide +kernel
theorem dX5_wayPart_18 : decode cX5_wayPart 18 = .ok (.if_icmp .ge 39, 3) := by decide +kernel
theorem dX5_wayPart_21 : decode cX5_wayPart 21 = .ok (.lload_n 1, 1) := by decide +kernel
theorem dX5_wayPart_22 : decode cX5_wayPart 22 = .ok (.iload_n 3, 1) := by decide +kernel
theorem dX5_wayPart_23 : decode cX5_wayPart 23 = .ok (.invokestatic 39, 3) := by decide +kernel
theorem dX5_wayPart_26 : decode cX5_wayPart 26 = .ok (.istore 4, 2) := by decide +kernel
theorem dX5_wayPart_28 : decode cX5_wayPart 28 = .ok (.iload 4, 2) := by decide +kernel
theorem dX5_wayPart_30 : decode cX5_wayPart 30 = .ok (.aload_n 0, 1) := by decide +kernel
theorem dX5_wayPart_31 : decode cX5_wayPart 31 = .ok (.getfield 26, 3) := by decide +kernel
theorem dX5_wayPart_34 : decode cX5_wayPart 34 = .ok (.getfield 36, 3) := by decide +kernel
theorem dX5_wayPart_37 : decode cX5_wayPart 37 = .ok (.if_icmp .ge 14, 3) := by decide +kernel
theorem dX5_wayPart_40 : decode cX5_wayPart 40 = .ok (.aload_n 0, 1) := by decide +kernel
theorem dX5_wayPart_41 : decode cX5_wayPart 41 = .ok (.getfield 20, 3) := by decide +kernel
theorem dX5_wayPart_44 : decode cX5_wayPart 44 = .ok (.iload 4, 2) := by decide +kernel
theorem dX5_wayPart_46 : decode cX5_wayPart 46 = .ok (.dup2, 1) := by decide +kernel
theorem dX5_wayPart_47 : decode cX5_wayPart 47 = .ok (.iaload, 1) := by decide +kernel
theorem dX5_wayPart_48 : decode cX5_wayPart 48 = .ok (.iconst 1, 1) := by decide +kernel
theorem dX5_wayPart_49 : decode cX5_wayPart 49 = .ok (.iadd, 1) := by decide +kernel
theorem dX5_wayPart_50 : decode cX5_wayPart 50 = .ok (.iastore, 1) := by decide +kernel
theorem dX5_wayPart_51 : decode cX5_wayPart 51 = .ok (.iinc 3 1, 3) := by decide +kernel
theorem dX5_wayPart_54 : decode cX5_wayPart 54 = .ok (.goto (-44), 3) := by decide +kernel
theorem dX5_wayPart_57 : decode cX5_wayPart 57 = .ok (.iconst 0, 1) := by decide +kernel
theorem dX5_wayPart_58 : decode cX5_wayPart 58 = .ok (.istore_n 3, 1) := by decide +kernel
theorem dX5_wayPart_59 : decode cX5_wayPart 59 = .ok (.aload_n 0, 1) := by decide +kernel
theorem dX5_wayPart_60 : decode cX5_wayPart 60 = .ok (.iconst 0, 1) := by decide +kernel
theorem dX5_wayPart_61 : decode cX5_wayPart 61 = .ok (.invokevirtual 102, 3) := by decide +kernel
theorem dX5_wayPart_64 : decode cX5_wayPart 64 = .ok (.istore 4, 2) := by decide +kernel
theorem dX5_wayPart_66 : decode cX5_wayPart 66 = .ok (.iconst 1, 1) := by decide +kernel
theorem dX5_wayPart_67 : decode cX5_wayPart 67 = .ok (.istore 5, 2) := by decide +kernel
theorem dX5_wayPart_69 : decode cX5_wayPart 69 = .ok (.iload 5, 2) := by decide +kernel
theorem dX5_wayPart_71 : decode cX5_wayPart 71 = .ok (.aload_n 0, 1) := by decide +kernel
theorem dX5_wayPart_72 : decode cX5_wayPart 72 = .ok (.getfield 26, 3) := by decide +kernel
theorem dX5_wayPart_75 : decode cX5_wayPart 75 = .ok (.getfield 36, 3) := by decide +kernel
theorem dX5_wayPart_78 : decode cX5_wayPart 78 = .ok (.if_icmp .ge 43, 3) := by decide +kernel
theorem dX5_wayPart_81 : decode cX5_wayPart 81 = .ok (.iload 4, 2) := by decide +kernel
theorem dX5_wayPart_83 : decode cX5_wayPart 83 = .ok (.aload_n 0, 1) := by decide +kernel
theorem dX5_wayPart_84 : decode cX5_wayPart 84 = .ok (.getfield 26, 3) := by decide +kernel
theorem dX5_wayPart_87 : decode cX5_wayPart 87 = .ok (.getfield 43, 3) := by decide +kernel
theorem dX5_wayPart_90 : decode cX5_wayPart 90 = .ok (.if_icmp .ge 31, 3) := by decide +kernel
theorem dX5_wayPart_93 : decode cX5_wayPart 93 = .ok (.aload_n 0, 1) := by decide +kernel
theorem dX5_wayPart_94 : decode cX5_wayPart 94 = .ok (.iload 5, 2) := by decide +kernel
theorem dX5_wayPart_96 : decode cX5_wayPart 96 = .ok (.invokevirtual 102, 3) := by decide +kernel
theorem dX5_wayPart_99 : decode cX5_wayPart 99 = .ok (.istore 6, 2) := by decide +kernel
theorem dX5_wayPart_101 : decode cX5_wayPart 101 = .ok (.iload 6, 2) := by decide +kernel
theorem dX5_wayPart_103 : decode cX5_wayPart 103 = .ok (.iload 4, 2) := by decide +kernel
theorem dX5_wayPart_105 : decode cX5_wayPart 105 = .ok (.if_icmp .le 10, 3) := by decide +kernel
theorem dX5_wayPart_108 : decode cX5_wayPart 108 = .ok (.iload 6, 2) := by decide +kernel
theorem dX5_wayPart_110 : decode cX5_wayPart 110 = .ok (.istore 4, 2) := by decide +kernel
theorem dX5_wayPart_112 : decode cX5_wayPart 112 = .ok (.iload 5, 2) := by decide +kernel
theorem dX5_wayPart_114 : decode cX5_wayPart 114 = .ok (.istore_n 3, 1) := by decide +kernel
theorem dX5_wayPart_115 : decode cX5_wayPart 115 = .ok (.iinc 5 1, 3) := by decide +kernel
theorem dX5_wayPart_118 : decode cX5_wayPart 118 = .ok (.goto (-49), 3) := by decide +kernel
theorem dX5_wayPart_121 : decode cX5_wayPart 121 = .ok (.iload_n 3, 1) := by decide +kernel
theorem dX5_wayPart_122 : decode cX5_wayPart 122 = .ok (.ireturn, 1) := by decide +kernel
def k_X5_wayPart_10 (X : CX) (T : List Dsc) (R : RM) (n1 n2 : Nat) (x1 : Int64) (r : ((Int32 × M2) ⊕ ((M2)))) : Prop := match r with
  | .inl s => Wp X cX5_wayPart RX5 7 T (mk s.2 R) n1 n2 10 [(0, .ref 23), (1, .long x1), (3, .int s.1)] []
  | .inr e => Wp X cX5_wayPart RX5 7 T (mk e R) n1 n2 57 [(0, .ref 23)] []
def k_X5_wayPart_69 (X : CX) (T : List Dsc) (R : RM) (n1 n2 : Nat) (r : ((Int32 × Int32 × Int32 × M2) ⊕ ((Int32 × M2)))) : Prop := match r with
  | .inl s => Wp X cX5_wayPart RX5 7 T (mk s.2.2.2 R) n1 n2 69 [(0, .ref 23), (3, .int s.1), (4, .int s.2.1), (5, .int s.2.2.1)] []
  | .inr e => Wp X cX5_wayPart RX5 7 T (mk e.2 R) n1 n2 121 [(3, .int e.1)] []
set_option maxHeartbeats 4000000 in
set_option maxRecDepth 100000 in
theorem w_X5_wayPart_51 {X : CX} {T : List Dsc} {R : RM} {c e : Nat} {n1 n2 : Nat} {x1 : Int64} {x3 : Int32} {m : M2} {r : ((Int32 × M2) ⊕ ((M2)))} (hX : XR X 2 n1 n2) (hG : Geo T R c e) (hf : f_X5_wayPart_51 c x1 x3 m = some r) (hk : k_X5_wayPart_10 X T R n1 n2 x1 r) : Wp X cX5_wayPart RX5 7 T (mk m R) n1 n2 51 [(0, .ref 23), (1, .long x1), (3, .int x3)] [] := by
  unfold f_X5_wayPart_51 at hf
  obtain ⟨v1, h2, hf⟩ := bnd hf
  refine Wp.iincN (pc := 51) (lo' := [(0, .ref 23), (1, .long x1), (3, .int v1)]) (1 : Int32) (by decide) h2 2 rfl [1, 2, 0] rfl (by decide) dX5_wayPart_51 ?_
  refine Wp.goto (pc := 54) 10 dX5_wayPart_54 (by decide) ?_
  cases hf
  exact hk
set_option maxHeartbeats 4000000 in
set_option maxRecDepth 100000 in
theorem w_X5_wayPart_10 {X : CX} {T : List Dsc} {R : RM} {c e : Nat} {n1 n2 : Nat} {x1 : Int64} {x3 : Int32} {m : M2} {r : ((Int32 × M2) ⊕ ((M2)))} (hX : XR X 2 n1 n2) (hG : Geo T R c e) (hf : f_X5_wayPart_10 c x1 x3 m = some r) (hk : k_X5_wayPart_10 X T R n1 n2 x1 r) : Wp X cX5_wayPart RX5 7 T (mk m R) n1 n2 10 [(0, .ref 23), (1, .long x1), (3, .int x3)] [] := by
  unfold f_X5_wayPart_10 at hf
  refine Wp.iload_n (pc := 10) 2 rfl rfl dX5_wayPart_10 ?_
  refine Wp.aload_n (pc := 11) 0 rfl rfl dX5_wayPart_11 ?_
  refine Wp.getR2 (pc := 12) hG.r2 (hG.t 23 rfl) fk_RX5_26 rfl dX5_wayPart_12 ?_
  refine Wp.getI2 (pc := 15) (hG.tt hG.hc) fk_RX5_43 rfl dX5_wayPart_15 ?_
  refine Wp.icmp_ge (pc := 18) 57 dX5_wayPart_18 (by decide) (fun hc1 => ?_) (fun hc1 => ?_)
  · rw [if_pos hc1] at hf
    refine Wp.lo' (lo' := [(0, .ref 23)]) [0] rfl ?_
    cases hf
    exact hk
  · rw [if_neg hc1] at hf
    refine Wp.lload_n (pc := 21) 1 rfl rfl dX5_wayPart_21 ?_
    refine Wp.iload_n (pc := 22) 2 rfl rfl dX5_wayPart_22 ?_
    obtain ⟨c2, h3, hf⟩ := bnd hf
    refine Wp.callSNi (pc := 23) (st := []) (as := [.long x1, .int x3]) (c_X11_timeAt hG h3) ml_RX5_39 ms_X11_timeAt mb_X11_timeAt hX (Nat.le_of_ble_eq_true rfl) (by decide) rfl (by simp) dX5_wayPart_23 rfl ?_
    refine Wp.istore (pc := 26) (lo' := [(0, .ref 23), (1, .long x1), (3, .int x3), (4, .int c2.1)]) [1, 2, 3, 0] rfl (by decide) dX5_wayPart_26 ?_
    refine Wp.iload (pc := 28) 3 rfl dX5_wayPart_28 ?_
    refine Wp.aload_n (pc := 30) 0 rfl rfl dX5_wayPart_30 ?_
    refine Wp.getR2 (pc := 31) hG.r2 (hG.t 23 rfl) fk_RX5_26 rfl dX5_wayPart_31 ?_
    refine Wp.getI2 (pc := 34) (hG.tt hG.hc) fk_RX5_36 rfl dX5_wayPart_34 ?_
    refine Wp.icmp_ge (pc := 37) 51 dX5_wayPart_37 (by decide) (fun hc4 => ?_) (fun hc4 => ?_)
    · rw [if_pos hc4] at hf
      refine Wp.lo' (lo' := [(0, .ref 23), (1, .long x1), (3, .int x3)]) [0, 1, 2] rfl ?_
      exact w_X5_wayPart_51 hX hG hf hk
    · rw [if_neg hc4] at hf
      refine Wp.aload_n (pc := 40) 0 rfl rfl dX5_wayPart_40 ?_
      refine Wp.getR2 (pc := 41) (hG.r 23 3 rfl) (hG.t 23 rfl) fk_RX5_20 rfl dX5_wayPart_41 ?_
      refine Wp.iload (pc := 44) 3 rfl dX5_wayPart_44 ?_
      refine Wp.dup2 (pc := 46) rfl rfl dX5_wayPart_46 ?_
      obtain ⟨v5, h6, hf⟩ := bnd hf
      refine Wp.iald2 (pc := 47) h6 (hG.a 26 0 rfl) dX5_wayPart_47 ?_
      refine Wp.iconst (pc := 48) (1 : Int32) (by decide) dX5_wayPart_48 ?_
      refine Wp.iadd (pc := 49) dX5_wayPart_49 ?_
      obtain ⟨m7, h8, hf⟩ := bnd hf
      refine Wp.iast2 (pc := 50) h8 (hG.a 26 0 rfl) dX5_wayPart_50 ?_
      refine Wp.lo' (lo' := [(0, .ref 23), (1, .long x1), (3, .int x3)]) [0, 1, 2] rfl ?_
      exact w_X5_wayPart_51 hX hG hf hk
theorem wl_X5_wayPart_10 {X : CX} {T : List Dsc} {R : RM} {c e : Nat} {n1 n2 : Nat} {x1 : Int64} {x3 : Int32} {m : M2} {e1 : ((M2))} (hX : XR X 2 n1 n2) (hG : Geo T R c e) (h : loop (g_X5_wayPart_10 c x1) (x3, m) = some e1) (he : Wp X cX5_wayPart RX5 7 T (mk e1 R) n1 n2 57 [(0, .ref 23)] []) : Wp X cX5_wayPart RX5 7 T (mk m R) n1 n2 10 [(0, .ref 23), (1, .long x1), (3, .int x3)] [] :=
  loop_ok (K := k_X5_wayPart_10 X T R n1 n2 x1) (fun s r hf hk => w_X5_wayPart_10 hX hG hf hk) h he
set_option maxHeartbeats 4000000 in
set_option maxRecDepth 100000 in
theorem w_X5_wayPart_115 {X : CX} {T : List Dsc} {R : RM} {c e : Nat} {n1 n2 : Nat} {x3 : Int32} {x4 : Int32} {x5 : Int32} {m : M2} {r : ((Int32 × Int32 × Int32 × M2) ⊕ ((Int32 × M2)))} (hX : XR X 2 n1 n2) (hG : Geo T R c e) (hf : f_X5_wayPart_115 c x3 x4 x5 m = some r) (hk : k_X5_wayPart_69 X T R n1 n2 r) : Wp X cX5_wayPart RX5 7 T (mk m R) n1 n2 115 [(0, .ref 23), (3, .int x3), (4, .int x4), (5, .int x5)] [] := by
  unfold f_X5_wayPart_115 at hf
  obtain ⟨v1, h2, hf⟩ := bnd hf
  refine Wp.iincN (pc := 115) (lo' := [(0, .ref 23), (3, .int x3), (4, .int x4), (5, .int v1)]) (1 : Int32) (by decide) h2 3 rfl [1, 2, 3, 0] rfl (by decide) dX5_wayPart_115 ?_
  refine Wp.goto (pc := 118) 69 dX5_wayPart_118 (by decide) ?_
  cases hf
  exact hk
set_option maxHeartbeats 4000000 in
set_option maxRecDepth 100000 in
theorem w_X5_wayPart_69 {X : CX} {T : List Dsc} {R : RM} {c e : Nat} {n1 n2 : Nat} {x3 : Int32} {x4 : Int32} {x5 : Int32} {m : M2} {r : ((Int32 × Int32 × Int32 × M2) ⊕ ((Int32 × M2)))} (hX : XR X 2 n1 n2) (hG : Geo T R c e) (hf : f_X5_wayPart_69 c x3 x4 x5 m = some r) (hk : k_X5_wayPart_69 X T R n1 n2 r) : Wp X cX5_wayPart RX5 7 T (mk m R) n1 n2 69 [(0, .ref 23), (3, .int x3), (4, .int x4), (5, .int x5)] [] := by
  unfold f_X5_wayPart_69 at hf
  refine Wp.iload (pc := 69) 3 rfl dX5_wayPart_69 ?_
  refine Wp.aload_n (pc := 71) 0 rfl rfl dX5_wayPart_71 ?_
  refine Wp.getR2 (pc := 72) hG.r2 (hG.t 23 rfl) fk_RX5_26 rfl dX5_wayPart_72 ?_
  refine Wp.getI2 (pc := 75) (hG.tt hG.hc) fk_RX5_36 rfl dX5_wayPart_75 ?_
  refine Wp.icmp_ge (pc := 78) 121 dX5_wayPart_78 (by decide) (fun hc1 => ?_) (fun hc1 => ?_)
  · rw [if_pos hc1] at hf
    refine Wp.lo' (lo' := [(3, .int x3)]) [1] rfl ?_
    cases hf
    exact hk
  · rw [if_neg hc1] at hf
    refine Wp.iload (pc := 81) 2 rfl dX5_wayPart_81 ?_
    refine Wp.aload_n (pc := 83) 0 rfl rfl dX5_wayPart_83 ?_
    refine Wp.getR2 (pc := 84) hG.r2 (hG.t 23 rfl) fk_RX5_26 rfl dX5_wayPart_84 ?_
    refine Wp.getI2 (pc := 87) (hG.tt hG.hc) fk_RX5_43 rfl dX5_wayPart_87 ?_
    refine Wp.icmp_ge (pc := 90) 121 dX5_wayPart_90 (by decide) (fun hc2 => ?_) (fun hc2 => ?_)
    · rw [if_pos hc2] at hf
      refine Wp.lo' (lo' := [(3, .int x3)]) [1] rfl ?_
      cases hf
      exact hk
    · rw [if_neg hc2] at hf
      refine Wp.aload_n (pc := 93) 0 rfl rfl dX5_wayPart_93 ?_
      refine Wp.iload (pc := 94) 3 rfl dX5_wayPart_94 ?_
      obtain ⟨c3, h4, hf⟩ := bnd hf
      refine Wp.callVi (pc := 96) (st := []) (as := [.int x5]) (c_X5_menNear hG h4) ml_RX5_102 mv_X5_menNear mb_X5_menNear hX (Nat.le_of_ble_eq_true rfl) (by decide) rfl (hG.t 23 rfl) rfl (by simp) dX5_wayPart_96 rfl ?_
      refine Wp.istore (pc := 99) (lo' := [(0, .ref 23), (3, .int x3), (4, .int x4), (5, .int x5), (6, .int c3.1)]) [1, 2, 3, 4, 0] rfl (by decide) dX5_wayPart_99 ?_
      refine Wp.iload (pc := 101) 4 rfl dX5_wayPart_101 ?_
      refine Wp.iload (pc := 103) 2 rfl dX5_wayPart_103 ?_
      refine Wp.icmp_le (pc := 105) 115 dX5_wayPart_105 (by decide) (fun hc5 => ?_) (fun hc5 => ?_)
      · rw [if_pos hc5] at hf
        refine Wp.lo' (lo' := [(0, .ref 23), (3, .int x3), (4, .int x4), (5, .int x5)]) [0, 1, 2, 3] rfl ?_
        exact w_X5_wayPart_115 hX hG hf hk
      · rw [if_neg hc5] at hf
        refine Wp.iload (pc := 108) 4 rfl dX5_wayPart_108 ?_
        refine Wp.istore (pc := 110) (lo' := [(0, .ref 23), (4, .int c3.1), (5, .int x5)]) [1, 0, 3] rfl (by decide) dX5_wayPart_110 ?_
        refine Wp.iload (pc := 112) 2 rfl dX5_wayPart_112 ?_
        refine Wp.istore_n (pc := 114) (lo' := [(0, .ref 23), (3, .int x5), (4, .int c3.1), (5, .int x5)]) [1, 0, 2, 3] rfl (by decide) rfl dX5_wayPart_114 ?_
        exact w_X5_wayPart_115 hX hG hf hk
theorem wl_X5_wayPart_69 {X : CX} {T : List Dsc} {R : RM} {c e : Nat} {n1 n2 : Nat} {x3 : Int32} {x4 : Int32} {x5 : Int32} {m : M2} {e1 : ((Int32 × M2))} (hX : XR X 2 n1 n2) (hG : Geo T R c e) (h : loop (g_X5_wayPart_69 c) (x3, x4, x5, m) = some e1) (he : Wp X cX5_wayPart RX5 7 T (mk e1.2 R) n1 n2 121 [(3, .int e1.1)] []) : Wp X cX5_wayPart RX5 7 T (mk m R) n1 n2 69 [(0, .ref 23), (3, .int x3), (4, .int x4), (5, .int x5)] [] :=
  loop_ok (K := k_X5_wayPart_69 X T R n1 n2) (fun s r hf hk => w_X5_wayPart_69 hX hG hf hk) h he
set_option maxHeartbeats 4000000 in
set_option maxRecDepth 100000 in
theorem w_X5_wayPart_121 {X : CX} {T : List Dsc} {R : RM} {c e : Nat} {n1 n2 : Nat} {x3 : Int32} {m : M2} {r : (Int32 × M2)} (hX : XR X 2 n1 n2) (hG : Geo T R c e) (hf : f_X5_wayPart_121 c x3 m = some r) (hk : FnI X cX5_wayPart RX5 7 T n1 n2 (r.1, mk r.2 R)) : Wp X cX5_wayPart RX5 7 T (mk m R) n1 n2 121 [(3, .int x3)] [] := by
  unfold f_X5_wayPart_121 at hf
  refine Wp.iload_n (pc := 121) 0 rfl rfl dX5_wayPart_121 ?_
  cases hf
  exact hk _ _ dX5_wayPart_122
set_option maxHeartbeats 4000000 in
set_option maxRecDepth 100000 in
theorem w_X5_wayPart {X : CX} {T : List Dsc} {R : RM} {c e : Nat} {n1 n2 : Nat} {x1 : Int64} {m : M2} {r : (Int32 × M2)} (hX : XR X 2 n1 n2) (hG : Geo T R c e) (hf : F_X5_wayPart c x1 m = some r) (hk : FnI X cX5_wayPart RX5 7 T n1 n2 (r.1, mk r.2 R)) : Wp X cX5_wayPart RX5 7 T (mk m R) n1 n2 0 [(0, .ref 23), (1, .long x1)] [] := by
  unfold F_X5_wayPart at hf
  refine Wp.aload_n (pc := 0) 0 rfl rfl dX5_wayPart_0 ?_
  refine Wp.getR2 (pc := 1) (hG.r 23 3 rfl) (hG.t 23 rfl) fk_RX5_20 rfl dX5_wayPart_1 ?_
  refine Wp.iconst (pc := 4) (0 : Int32) (by decide) dX5_wayPart_4 ?_
  obtain ⟨c1, h2, hf⟩ := bnd hf
  refine Wp.callSv (pc := 5) (st := []) (as := [.ref 26, .int (0 : Int32)]) (c_J7_fill_53178 hG (hG.a 26 0 rfl) h2) ml_RX5_105 ms_J7_fill_53178 mb_J7_fill_53178 hX (Nat.le_of_ble_eq_true rfl) (by decide) rfl (by simp) dX5_wayPart_5 rfl ?_
  refine Wp.iconst (pc := 8) (0 : Int32) (by decide) dX5_wayPart_8 ?_
  refine Wp.istore_n (pc := 9) (lo' := [(0, .ref 23), (1, .long x1), (3, .int (0 : Int32))]) [1, 2, 0] rfl (by decide) rfl dX5_wayPart_9 ?_
  obtain ⟨e3, h4, hf⟩ := bnd hf
  refine wl_X5_wayPart_10 hX hG h4 ?_
  refine Wp.iconst (pc := 57) (0 : Int32) (by decide) dX5_wayPart_57 ?_
  refine Wp.istore_n (pc := 58) (lo' := [(0, .ref 23), (3, .int (0 : Int32))]) [1, 0] rfl (by decide) rfl dX5_wayPart_58 ?_
  refine Wp.aload_n (pc := 59) 0 rfl rfl dX5_wayPart_59 ?_
  refine Wp.iconst (pc := 60) (0 : Int32) (by decide) dX5_wayPart_60 ?_
  obtain ⟨c5, h6, hf⟩ := bnd hf
  refine Wp.callVi (pc := 61) (st := []) (as := [.int (0 : Int32)]) (c_X5_menNear hG h6) ml_RX5_102 mv_X5_menNear mb_X5_menNear hX (Nat.le_of_ble_eq_true rfl) (by decide) rfl (hG.t 23 rfl) rfl (by simp) dX5_wayPart_61 rfl ?_
  refine Wp.istore (pc := 64) (lo' := [(0, .ref 23), (3, .int (0 : Int32)), (4, .int c5.1)]) [1, 2, 0] rfl (by decide) dX5_wayPart_64 ?_
  refine Wp.iconst (pc := 66) (1 : Int32) (by decide) dX5_wayPart_66 ?_
  refine Wp.istore (pc := 67) (lo' := [(0, .ref 23), (3, .int (0 : Int32)), (4, .int c5.1), (5, .int (1 : Int32))]) [1, 2, 3, 0] rfl (by decide) dX5_wayPart_67 ?_
  obtain ⟨e7, h8, hf⟩ := bnd hf
  refine wl_X5_wayPart_69 hX hG h8 ?_
  exact w_X5_wayPart_121 hX hG hf hk
theorem c_X5_wayPart {T : List Dsc} {R : RM} {c e : Nat} {x1 : Int64} {m : M2} {r : (Int32 × M2)} (hG : Geo T R c e) (hf : F_X5_wayPart c x1 m = some r) : Ct 2 yX5_wayPart cX5_wayPart 7 (some .int) T (mk m R) [.ref 23, .long x1] (some (.int r.1)) (mk r.2 R) := Ct.ofI (r := (r.1, mk r.2 R)) (by decide +kernel) (Nat.le_of_ble_eq_true rfl) (fun X hX hk => w_X5_wayPart hX hG hf hk)
theorem dX5_wayOf_0 : decode cX5_wayOf 0 = .ok (.aload_n 0, 1) := by decide +kernel
theorem dX5_wayOf_1 : decode cX5_wayOf 1 = .ok (.aload_n 0, 1) := by decide +kernel
theorem dX5_wayOf_2 : decode cX5_wayOf 2 = .ok (.lload_n 1, 1) := by decide +kernel
theorem dX5_wayOf_3 : decode cX5_wayOf 3 = .ok (.invokevirtual 98, 3) := by decide +kernel
theorem dX5_wayOf_6 : decode cX5_wayOf 6 = .ok (.invokevirtual 102, 3) := by decide +kernel
theorem dX5_wayOf_9 : decode cX5_wayOf 9 = .ok (.ireturn, 1) := by decide +kernel
set_option maxHeartbeats 4000000 in
set_option maxRecDepth 100000 in
theorem w_X5_wayOf {X : CX} {T : List Dsc} {R : RM} {c e : Nat} {n1 n2 : Nat} {x1 : Int64} {m : M2} {r : (Int32 × M2)} (hX : XR X 3 n1 n2) (hG : Geo T R c e) (hf : F_X5_wayOf c x1 m = some r) (hk : FnI X cX5_wayOf RX5 3 T n1 n2 (r.1, mk r.2 R)) : Wp X cX5_wayOf RX5 3 T (mk m R) n1 n2 0 [(0, .ref 23), (1, .long x1)] [] := by
  unfold F_X5_wayOf at hf
  refine Wp.aload_n (pc := 0) 0 rfl rfl dX5_wayOf_0 ?_
  refine Wp.aload_n (pc := 1) 0 rfl rfl dX5_wayOf_1 ?_
  refine Wp.lload_n (pc := 2) 1 rfl rfl dX5_wayOf_2 ?_
  obtain ⟨c1, h2, hf⟩ := bnd hf
  refine Wp.callVi (pc := 3) (st := [.ref 23]) (as := [.long x1]) (c_X5_wayPart hG h2) ml_RX5_98 mv_X5_wayPart mb_X5_wayPart hX (Nat.le_of_ble_eq_true rfl) (by decide) rfl (hG.t 23 rfl) rfl (by simp [Value.category]) dX5_wayOf_3 rfl ?_
  obtain ⟨c3, h4, hf⟩ := bnd hf
  refine Wp.callVi (pc := 6) (st := []) (as := [.int c1.1]) (c_X5_menNear hG h4) ml_RX5_102 mv_X5_menNear mb_X5_menNear hX (Nat.le_of_ble_eq_true rfl) (by decide) rfl (hG.t 23 rfl) rfl (by simp) dX5_wayOf_6 rfl ?_
  cases hf
  exact hk _ _ dX5_wayOf_9
theorem c_X5_wayOf {T : List Dsc} {R : RM} {c e : Nat} {x1 : Int64} {m : M2} {r : (Int32 × M2)} (hG : Geo T R c e) (hf : F_X5_wayOf c x1 m = some r) : Ct 3 yX5_wayOf cX5_wayOf 3 (some .int) T (mk m R) [.ref 23, .long x1] (some (.int r.1)) (mk r.2 R) := Ct.ofI (r := (r.1, mk r.2 R)) (by decide +kernel) (Nat.le_of_ble_eq_true rfl) (fun X hX hk => w_X5_wayOf hX hG hf hk)
theorem dX5_waveOf_0 : decode cX5_waveOf 0 = .ok (.iconst 0, 1) := by decide +kernel
theorem dX5_waveOf_1 : decode cX5_waveOf 1 = .ok (.istore 4, 2) := by decide +kernel
theorem dX5_waveOf_3 : decode cX5_waveOf 3 = .ok (.iconst 0, 1) := by decide +kernel
theorem dX5_waveOf_4 : decode cX5_waveOf 4 = .ok (.istore 5, 2) := by decide +kernel
theorem dX5_waveOf_6 : decode cX5_waveOf 6 = .ok (.iconst 0, 1) := by decide +kernel
theorem dX5_waveOf_7 : decode cX5_waveOf 7 = .ok (.istore 6, 2) := by decide +kernel
theorem dX5_waveOf_9 : decode cX5_waveOf 9 = .ok (.iconst 0, 1) := by decide +kernel
theorem dX5_waveOf_10 : decode cX5_waveOf 10 = .ok (.istore 7, 2) := by decide +kernel
theorem dX5_waveOf_12 : decode cX5_waveOf 12 = .ok (.iconst 0, 1) := by decide +kernel
theorem dX5_waveOf_13 : decode cX5_waveOf 13 = .ok (.istore 8, 2) := by decide +kernel
theorem dX5_waveOf_15 : decode cX5_waveOf 15 = .ok (.iconst 1, 1) := by decide +kernel
theorem dX5_waveOf_16 : decode cX5_waveOf 16 = .ok (.istore 9, 2) := by decide +kernel
theorem dX5_waveOf_18 : decode cX5_waveOf 18 = .ok (.iload 9, 2) := by decide +kernel
theorem dX5_waveOf_20 : decode cX5_waveOf 20 = .ok (.aload_n 0, 1) := by decide +kernel
theorem dX5_waveOf_21 : decode cX5_waveOf 21 = .ok (.getfield 26, 3) := by decide +kernel
theorem dX5_waveOf_24 : decode cX5_waveOf 24 = .ok (.getfield 43, 3) := by decide +kernel
theorem dX5_waveOf_27 : decode cX5_waveOf 27 = .ok (.if_icmp .ge 69, 3) := by decide +kernel
theorem dX5_waveOf_30 : decode cX5_waveOf 30 = .ok (.aload_n 0, 1) := by decide +kernel
theorem dX5_waveOf_31 : decode cX5_waveOf 31 = .ok (.lload_n 1, 1) := by decide +kernel
theorem dX5_waveOf_32 : decode cX5_waveOf 32 = .ok (.iload 9, 2) := by decide +kernel
theorem dX5_waveOf_34 : decode cX5_waveOf 34 = .ok (.invokevirtual 90, 3) := by decide +kernel
theorem dX5_waveOf_37 : decode cX5_waveOf 37 = .ok (.istore 10, 2) := by decide +kernel
theorem dX5_waveOf_39 : decode cX5_waveOf 39 = .ok (.iload 10, 2) := by decide +kernel
theorem dX5_waveOf_41 : decode cX5_waveOf 41 = .ok (.iload 8, 2) := by decide +kernel
theorem dX5_waveOf_43 : decode cX5_waveOf 43 = .ok (.if_icmp .eq 13, 3) := by decide +kernel
theorem dX5_waveOf_46 : decode cX5_waveOf 46 = .ok (.iload 9, 2) := by decide +kernel
theorem dX5_waveOf_48 : decode cX5_waveOf 48 = .ok (.iconst 1, 1) := by decide +kernel
theorem dX5_waveOf_49 : decode cX5_waveOf 49 = .ok (.isub, 1) := by decide +kernel
theorem dX5_waveOf_50 : decode cX5_waveOf 50 = .ok (.istore 7, 2) := by decide +kernel
theorem dX5_waveOf_52 : decode cX5_waveOf 52 = .ok (.iload 10, 2) := by decide +kernel
theorem dX5_waveOf_54 : decode cX5_waveOf 54 = .ok (.istore 8, 2) := by decide +kernel
theorem dX5_waveOf_56 : decode cX5_waveOf 56 = .ok (.iload 10, 2) := by decide +kernel
theorem dX5_waveOf_58 : decode cX5_waveOf 58 = .ok (.ifCond .eq 32, 3) := by decide +kernel
theorem dX5_waveOf_61 : decode cX5_waveOf 61 = .ok (.iload 9, 2) := by decide +kernel
theorem dX5_waveOf_63 : decode cX5_waveOf 63 = .ok (.iload 7, 2) := by decide +kernel
theorem dX5_waveOf_65 : decode cX5_waveOf 65 = .ok (.isub, 1) := by decide +kernel
theorem dX5_waveOf_66 : decode cX5_waveOf 66 = .ok (.iconst 1, 1) := by decide +kernel
theorem dX5_waveOf_67 : decode cX5_waveOf 67 = .ok (.iadd, 1) := by decide +kernel
theorem dX5_waveOf_68 : decode cX5_waveOf 68 = .ok (.iload 4, 2) := by decide +kernel
theorem dX5_waveOf_70 : decode cX5_waveOf 70 = .ok (.if_icmp .le 20, 3) := by decide +kernel
theorem dX5_waveOf_73 : decode cX5_waveOf 73 = .ok (.iload 9, 2) := by decide +kernel
theorem dX5_waveOf_75 : decode cX5_waveOf 75 = .ok (.iload 7, 2) := by decide +kernel
theorem dX5_waveOf_77 : decode cX5_waveOf 77 = .ok (.isub, 1) := by decide +kernel
theorem dX5_waveOf_78 : decode cX5_waveOf 78 = .ok (.iconst 1, 1) := by decide +kernel
theorem dX5_waveOf_79 : decode cX5_waveOf 79 = .ok (.iadd, 1) := by decide +kernel
theorem dX5_waveOf_80 : decode cX5_waveOf 80 = .ok (.istore 4, 2) := by decide +kernel
theorem dX5_waveOf_82 : decode cX5_waveOf 82 = .ok (.iload 7, 2) := by decide +kernel
theorem dX5_waveOf_84 : decode cX5_waveOf 84 = .ok (.istore 5, 2) := by decide +kernel
theorem dX5_waveOf_86 : decode cX5_waveOf 86 = .ok (.iload 10, 2) := by decide +kernel
theorem dX5_waveOf_88 : decode cX5_waveOf 88 = .ok (.istore 6, 2) := by decide +kernel
theorem dX5_waveOf_90 : decode cX5_waveOf 90 = .ok (.iinc 9 1, 3) := by decide +kernel
theorem dX5_waveOf_93 : decode cX5_waveOf 93 = .ok (.goto (-75), 3) := by decide +kernel
theorem dX5_waveOf_96 : decode cX5_waveOf 96 = .ok (.iload 4, 2) := by decide +kernel
theorem dX5_waveOf_98 : decode cX5_waveOf 98 = .ok (.iconst 2, 1) := by decide +kernel
theorem dX5_waveOf_99 : decode cX5_waveOf 99 = .ok (.if_icmp .ge 6, 3) := by decide +kernel
theorem dX5_waveOf_102 : decode cX5_waveOf 102 = .ok (.bipush (-2), 2) := by decide +kernel
theorem dX5_waveOf_104 : decode cX5_waveOf 104 = .ok (.ireturn, 1) := by decide +kernel
theorem dX5_waveOf_105 : decode cX5_waveOf 105 = .ok (.iload_n 3, 1) := by decide +kernel
theorem dX5_waveOf_106 : decode cX5_waveOf 106 = .ok (.ifCond .ne 6, 3) := by decide +kernel
theorem dX5_waveOf_109 : decode cX5_waveOf 109 = .ok (.iload 4, 2) := by decide +kernel
theorem dX5_waveOf_111 : decode cX5_waveOf 111 = .ok (.ireturn, 1) := by decide +kernel
theorem dX5_waveOf_112 : decode cX5_waveOf 112 = .ok (.iload_n 3, 1) := by decide +kernel
theorem dX5_waveOf_113 : decode cX5_waveOf 113 = .ok (.iconst 1, 1) := by decide +kernel
theorem dX5_waveOf_114 : decode cX5_waveOf 114 = .ok (.if_icmp .ne 8, 3) := by decide +kernel
theorem dX5_waveOf_117 : decode cX5_waveOf 117 = .ok (.iload 5, 2) := by decide +kernel
theorem dX5_waveOf_119 : decode cX5_waveOf 119 = .ok (.goto 5, 3) := by decide +kernel
theorem dX5_waveOf_122 : decode cX5_waveOf 122 = .ok (.iload 6, 2) := by decide +kernel
theorem dX5_waveOf_124 : decode cX5_waveOf 124 = .ok (.ireturn, 1) := by decide +kernel
def k_X5_waveOf_18 (X : CX) (T : List Dsc) (R : RM) (n1 n2 : Nat) (x1 : Int64) (x3 : Int32) (r : ((Int32 × Int32 × Int32 × Int32 × Int32 × Int32 × M2) ⊕ ((Int32 × Int32 × Int32 × M2)))) : Prop := match r with
  | .inl s => Wp X cX5_waveOf RX5 11 T (mk s.2.2.2.2.2.2 R) n1 n2 18 [(0, .ref 23), (1, .long x1), (3, .int x3), (4, .int s.1), (5, .int s.2.1), (6, .int s.2.2.1), (7, .int s.2.2.2.1), (8, .int s.2.2.2.2.1), (9, .int s.2.2.2.2.2.1)] []
  | .inr e => Wp X cX5_waveOf RX5 11 T (mk e.2.2.2 R) n1 n2 96 [(3, .int x3), (4, .int e.1), (5, .int e.2.1), (6, .int e.2.2.1)] []
set_option maxHeartbeats 4000000 in
set_option maxRecDepth 100000 in
theorem w_X5_waveOf_90 {X : CX} {T : List Dsc} {R : RM} {c e : Nat} {n1 n2 : Nat} {x1 : Int64} {x3 : Int32} {x4 : Int32} {x5 : Int32} {x6 : Int32} {x7 : Int32} {x8 : Int32} {x9 : Int32} {m : M2} {r : ((Int32 × Int32 × Int32 × Int32 × Int32 × Int32 × M2) ⊕ ((Int32 × Int32 × Int32 × M2)))} (hX : XR X 3 n1 n2) (hG : Geo T R c e) (hf : f_X5_waveOf_90 c x1 x3 x4 x5 x6 x7 x8 x9 m = some r) (hk : k_X5_waveOf_18 X T R n1 n2 x1 x3 r) : Wp X cX5_waveOf RX5 11 T (mk m R) n1 n2 90 [(0, .ref 23), (1, .long x1), (3, .int x3), (4, .int x4), (5, .int x5), (6, .int x6), (7, .int x7), (8, .int x8), (9, .int x9)] [] := by
  unfold f_X5_waveOf_90 at hf
  obtain ⟨v1, h2, hf⟩ := bnd hf
  refine Wp.iincN (pc := 90) (lo' := [(0, .ref 23), (1, .long x1), (3, .int x3), (4, .int x4), (5, .int x5), (6, .int x6), (7, .int x7), (8, .int x8), (9, .int v1)]) (1 : Int32) (by decide) h2 8 rfl [1, 2, 3, 4, 5, 6, 7, 8, 0] rfl (by decide) dX5_waveOf_90 ?_
  refine Wp.goto (pc := 93) 18 dX5_waveOf_93 (by decide) ?_
  cases hf
  exact hk
set_option maxHeartbeats 4000000 in
set_option maxRecDepth 100000 in
theorem w_X5_waveOf_56 {X : CX} {T : List Dsc} {R : RM} {c e : Nat} {n1 n2 : Nat} {x1 : Int64} {x3 : Int32} {x4 : Int32} {x5 : Int32} {x6 : Int32} {x7 : Int32} {x8 : Int32} {x9 : Int32} {x10 : Int32} {m : M2} {r : ((Int32 × Int32 × Int32 × Int32 × Int32 × Int32 × M2) ⊕ ((Int32 × Int32 × Int32 × M2)))} (hX : XR X 3 n1 n2) (hG : Geo T R c e) (hf : f_X5_waveOf_56 c x1 x3 x4 x5 x6 x7 x8 x9 x10 m = some r) (hk : k_X5_waveOf_18 X T R n1 n2 x1 x3 r) : Wp X cX5_waveOf RX5 11 T (mk m R) n1 n2 56 [(0, .ref 23), (1, .long x1), (3, .int x3), (4, .int x4), (5, .int x5), (6, .int x6), (7, .int x7), (8, .int x8), (9, .int x9), (10, .int x10)] [] := by
  unfold f_X5_waveOf_56 at hf
  refine Wp.iload (pc := 56) 9 rfl dX5_waveOf_56 ?_
  refine Wp.if_eq (pc := 58) 90 dX5_waveOf_58 (by decide) (fun hc1 => ?_) (fun hc1 => ?_)
  · rw [if_pos hc1] at hf
    refine Wp.lo' (lo' := [(0, .ref 23), (1, .long x1), (3, .int x3), (4, .int x4), (5, .int x5), (6, .int x6), (7, .int x7), (8, .int x8), (9, .int x9)]) [0, 1, 2, 3, 4, 5, 6, 7, 8] rfl ?_
    exact w_X5_waveOf_90 hX hG hf hk
  · rw [if_neg hc1] at hf
    refine Wp.iload (pc := 61) 8 rfl dX5_waveOf_61 ?_
    refine Wp.iload (pc := 63) 6 rfl dX5_waveOf_63 ?_
    refine Wp.isub (pc := 65) dX5_waveOf_65 ?_
    refine Wp.iconst (pc := 66) (1 : Int32) (by decide) dX5_waveOf_66 ?_
    refine Wp.iadd (pc := 67) dX5_waveOf_67 ?_
    refine Wp.iload (pc := 68) 3 rfl dX5_waveOf_68 ?_
    refine Wp.icmp_le (pc := 70) 90 dX5_waveOf_70 (by decide) (fun hc2 => ?_) (fun hc2 => ?_)
    · rw [if_pos hc2] at hf
      refine Wp.lo' (lo' := [(0, .ref 23), (1, .long x1), (3, .int x3), (4, .int x4), (5, .int x5), (6, .int x6), (7, .int x7), (8, .int x8), (9, .int x9)]) [0, 1, 2, 3, 4, 5, 6, 7, 8] rfl ?_
      exact w_X5_waveOf_90 hX hG hf hk
    · rw [if_neg hc2] at hf
      refine Wp.iload (pc := 73) 8 rfl dX5_waveOf_73 ?_
      refine Wp.iload (pc := 75) 6 rfl dX5_waveOf_75 ?_
      refine Wp.isub (pc := 77) dX5_waveOf_77 ?_
      refine Wp.iconst (pc := 78) (1 : Int32) (by decide) dX5_waveOf_78 ?_
      refine Wp.iadd (pc := 79) dX5_waveOf_79 ?_
      obtain ⟨v3, h4, hf⟩ := bnd hf
      refine Wp.nI' h4 ?_
      refine Wp.istore (pc := 80) (lo' := [(0, .ref 23), (1, .long x1), (3, .int x3), (4, .int v3), (7, .int x7), (8, .int x8), (9, .int x9), (10, .int x10)]) [1, 2, 3, 0, 6, 7, 8, 9] rfl (by decide) dX5_waveOf_80 ?_
      refine Wp.iload (pc := 82) 4 rfl dX5_waveOf_82 ?_
      refine Wp.istore (pc := 84) (lo' := [(0, .ref 23), (1, .long x1), (3, .int x3), (4, .int v3), (5, .int x7), (7, .int x7), (8, .int x8), (9, .int x9), (10, .int x10)]) [1, 2, 3, 4, 0, 5, 6, 7, 8] rfl (by decide) dX5_waveOf_84 ?_
      refine Wp.iload (pc := 86) 8 rfl dX5_waveOf_86 ?_
      refine Wp.istore (pc := 88) (lo' := [(0, .ref 23), (1, .long x1), (3, .int x3), (4, .int v3), (5, .int x7), (6, .int x10), (7, .int x7), (8, .int x8), (9, .int x9)]) [1, 2, 3, 4, 5, 0, 6, 7, 8] rfl (by decide) dX5_waveOf_88 ?_
      exact w_X5_waveOf_90 hX hG hf hk
set_option maxHeartbeats 4000000 in
set_option maxRecDepth 100000 in
theorem w_X5_waveOf_18 {X : CX} {T : List Dsc} {R : RM} {c e : Nat} {n1 n2 : Nat} {x1 : Int64} {x3 : Int32} {x4 : Int32} {x5 : Int32} {x6 : Int32} {x7 : Int32} {x8 : Int32} {x9 : Int32} {m : M2} {r : ((Int32 × Int32 × Int32 × Int32 × Int32 × Int32 × M2) ⊕ ((Int32 × Int32 × Int32 × M2)))} (hX : XR X 3 n1 n2) (hG : Geo T R c e) (hf : f_X5_waveOf_18 c x1 x3 x4 x5 x6 x7 x8 x9 m = some r) (hk : k_X5_waveOf_18 X T R n1 n2 x1 x3 r) : Wp X cX5_waveOf RX5 11 T (mk m R) n1 n2 18 [(0, .ref 23), (1, .long x1), (3, .int x3), (4, .int x4), (5, .int x5), (6, .int x6), (7, .int x7), (8, .int x8), (9, .int x9)] [] := by
  unfold f_X5_waveOf_18 at hf
  refine Wp.iload (pc := 18) 8 rfl dX5_waveOf_18 ?_
  refine Wp.aload_n (pc := 20) 0 rfl rfl dX5_waveOf_20 ?_
  refine Wp.getR2 (pc := 21) hG.r2 (hG.t 23 rfl) fk_RX5_26 rfl dX5_waveOf_21 ?_
  refine Wp.getI2 (pc := 24) (hG.tt hG.hc) fk_RX5_43 rfl dX5_waveOf_24 ?_
  refine Wp.icmp_ge (pc := 27) 96 dX5_waveOf_27 (by decide) (fun hc1 => ?_) (fun hc1 => ?_)
  · rw [if_pos hc1] at hf
    refine Wp.lo' (lo' := [(3, .int x3), (4, .int x4), (5, .int x5), (6, .int x6)]) [2, 3, 4, 5] rfl ?_
    cases hf
    exact hk
  · rw [if_neg hc1] at hf
    refine Wp.aload_n (pc := 30) 0 rfl rfl dX5_waveOf_30 ?_
    refine Wp.lload_n (pc := 31) 1 rfl rfl dX5_waveOf_31 ?_
    refine Wp.iload (pc := 32) 8 rfl dX5_waveOf_32 ?_
    obtain ⟨c2, h3, hf⟩ := bnd hf
    refine Wp.callVi (pc := 34) (st := []) (as := [.long x1, .int x9]) (c_X5_gapAhead hG h3) ml_RX5_90 mv_X5_gapAhead mb_X5_gapAhead hX (Nat.le_of_ble_eq_true rfl) (by decide) rfl (hG.t 23 rfl) rfl (by simp) dX5_waveOf_34 rfl ?_
    refine Wp.istore (pc := 37) (lo' := [(0, .ref 23), (1, .long x1), (3, .int x3), (4, .int x4), (5, .int x5), (6, .int x6), (7, .int x7), (8, .int x8), (9, .int x9), (10, .int c2.1)]) [1, 2, 3, 4, 5, 6, 7, 8, 9, 0] rfl (by decide) dX5_waveOf_37 ?_
    refine Wp.iload (pc := 39) 9 rfl dX5_waveOf_39 ?_
    refine Wp.iload (pc := 41) 7 rfl dX5_waveOf_41 ?_
    refine Wp.icmp_eq (pc := 43) 56 dX5_waveOf_43 (by decide) (fun hc4 => ?_) (fun hc4 => ?_)
    · rw [if_pos hc4] at hf
      exact w_X5_waveOf_56 hX hG hf hk
    · rw [if_neg hc4] at hf
      refine Wp.iload (pc := 46) 8 rfl dX5_waveOf_46 ?_
      refine Wp.iconst (pc := 48) (1 : Int32) (by decide) dX5_waveOf_48 ?_
      refine Wp.isub (pc := 49) dX5_waveOf_49 ?_
      obtain ⟨v5, h6, hf⟩ := bnd hf
      refine Wp.nI' h6 ?_
      refine Wp.istore (pc := 50) (lo' := [(0, .ref 23), (1, .long x1), (3, .int x3), (4, .int x4), (5, .int x5), (6, .int x6), (7, .int v5), (9, .int x9), (10, .int c2.1)]) [1, 2, 3, 4, 5, 6, 0, 8, 9] rfl (by decide) dX5_waveOf_50 ?_
      refine Wp.iload (pc := 52) 8 rfl dX5_waveOf_52 ?_
      refine Wp.istore (pc := 54) (lo' := [(0, .ref 23), (1, .long x1), (3, .int x3), (4, .int x4), (5, .int x5), (6, .int x6), (7, .int v5), (8, .int c2.1), (9, .int x9), (10, .int c2.1)]) [1, 2, 3, 4, 5, 6, 7, 0, 8, 9] rfl (by decide) dX5_waveOf_54 ?_
      exact w_X5_waveOf_56 hX hG hf hk
theorem wl_X5_waveOf_18 {X : CX} {T : List Dsc} {R : RM} {c e : Nat} {n1 n2 : Nat} {x1 : Int64} {x3 : Int32} {x4 : Int32} {x5 : Int32} {x6 : Int32} {x7 : Int32} {x8 : Int32} {x9 : Int32} {m : M2} {e1 : ((Int32 × Int32 × Int32 × M2))} (hX : XR X 3 n1 n2) (hG : Geo T R c e) (h : loop (g_X5_waveOf_18 c x1 x3) (x4, x5, x6, x7, x8, x9, m) = some e1) (he : Wp X cX5_waveOf RX5 11 T (mk e1.2.2.2 R) n1 n2 96 [(3, .int x3), (4, .int e1.1), (5, .int e1.2.1), (6, .int e1.2.2.1)] []) : Wp X cX5_waveOf RX5 11 T (mk m R) n1 n2 18 [(0, .ref 23), (1, .long x1), (3, .int x3), (4, .int x4), (5, .int x5), (6, .int x6), (7, .int x7), (8, .int x8), (9, .int x9)] [] :=
  loop_ok (K := k_X5_waveOf_18 X T R n1 n2 x1 x3) (fun s r hf hk => w_X5_waveOf_18 hX hG hf hk) h he
set_option maxHeartbeats 4000000 in
set_option maxRecDepth 100000 in
theorem w_X5_waveOf_124 {X : CX} {T : List Dsc} {R : RM} {c e : Nat} {n1 n2 : Nat} {s0 : Int32} {m : M2} {r : (Int32 × M2)} (hX : XR X 3 n1 n2) (hG : Geo T R c e) (hf : f_X5_waveOf_124 c s0 m = some r) (hk : FnI X cX5_waveOf RX5 11 T n1 n2 (r.1, mk r.2 R)) : Wp X cX5_waveOf RX5 11 T (mk m R) n1 n2 124 [] [.int s0] := by
  unfold f_X5_waveOf_124 at hf
  cases hf
  exact hk _ _ dX5_waveOf_124
set_option maxHeartbeats 4000000 in
set_option maxRecDepth 100000 in
theorem w_X5_waveOf {X : CX} {T : List Dsc} {R : RM} {c e : Nat} {n1 n2 : Nat} {x1 : Int64} {x3 : Int32} {m : M2} {r : (Int32 × M2)} (hX : XR X 3 n1 n2) (hG : Geo T R c e) (hf : F_X5_waveOf c x1 x3 m = some r) (hk : FnI X cX5_waveOf RX5 11 T n1 n2 (r.1, mk r.2 R)) : Wp X cX5_waveOf RX5 11 T (mk m R) n1 n2 0 [(0, .ref 23), (1, .long x1), (3, .int x3)] [] := by
  unfold F_X5_waveOf at hf
  refine Wp.iconst (pc := 0) (0 : Int32) (by decide) dX5_waveOf_0 ?_
  refine Wp.istore (pc := 1) (lo' := [(0, .ref 23), (1, .long x1), (3, .int x3), (4, .int (0 : Int32))]) [1, 2, 3, 0] rfl (by decide) dX5_waveOf_1 ?_
  refine Wp.iconst (pc := 3) (0 : Int32) (by decide) dX5_waveOf_3 ?_
  refine Wp.istore (pc := 4) (lo' := [(0, .ref 23), (1, .long x1), (3, .int x3), (4, .int (0 : Int32)), (5, .int (0 : Int32))]) [1, 2, 3, 4, 0] rfl (by decide) dX5_waveOf_4 ?_
  refine Wp.iconst (pc := 6) (0 : Int32) (by decide) dX5_waveOf_6 ?_
  refine Wp.istore (pc := 7) (lo' := [(0, .ref 23), (1, .long x1), (3, .int x3), (4, .int (0 : Int32)), (5, .int (0 : Int32)), (6, .int (0 : Int32))]) [1, 2, 3, 4, 5, 0] rfl (by decide) dX5_waveOf_7 ?_
  refine Wp.iconst (pc := 9) (0 : Int32) (by decide) dX5_waveOf_9 ?_
  refine Wp.istore (pc := 10) (lo' := [(0, .ref 23), (1, .long x1), (3, .int x3), (4, .int (0 : Int32)), (5, .int (0 : Int32)), (6, .int (0 : Int32)), (7, .int (0 : Int32))]) [1, 2, 3, 4, 5, 6, 0] rfl (by decide) dX5_waveOf_10 ?_
  refine Wp.iconst (pc := 12) (0 : Int32) (by decide) dX5_waveOf_12 ?_
  refine Wp.istore (pc := 13) (lo' := [(0, .ref 23), (1, .long x1), (3, .int x3), (4, .int (0 : Int32)), (5, .int (0 : Int32)), (6, .int (0 : Int32)), (7, .int (0 : Int32)), (8, .int (0 : Int32))]) [1, 2, 3, 4, 5, 6, 7, 0] rfl (by decide) dX5_waveOf_13 ?_
  refine Wp.iconst (pc := 15) (1 : Int32) (by decide) dX5_waveOf_15 ?_
  refine Wp.istore (pc := 16) (lo' := [(0, .ref 23), (1, .long x1), (3, .int x3), (4, .int (0 : Int32)), (5, .int (0 : Int32)), (6, .int (0 : Int32)), (7, .int (0 : Int32)), (8, .int (0 : Int32)), (9, .int (1 : Int32))]) [1, 2, 3, 4, 5, 6, 7, 8, 0] rfl (by decide) dX5_waveOf_16 ?_
  obtain ⟨e1, h2, hf⟩ := bnd hf
  refine wl_X5_waveOf_18 hX hG h2 ?_
  refine Wp.iload (pc := 96) 1 rfl dX5_waveOf_96 ?_
  refine Wp.iconst (pc := 98) (2 : Int32) (by decide) dX5_waveOf_98 ?_
  refine Wp.icmp_ge (pc := 99) 105 dX5_waveOf_99 (by decide) (fun hc3 => ?_) (fun hc3 => ?_)
  · rw [if_pos hc3] at hf
    refine Wp.iload_n (pc := 105) 0 rfl rfl dX5_waveOf_105 ?_
    refine Wp.if_ne (pc := 106) 112 dX5_waveOf_106 (by decide) (fun hc4 => ?_) (fun hc4 => ?_)
    · rw [if_neg hc4] at hf
      refine Wp.iload_n (pc := 112) 0 rfl rfl dX5_waveOf_112 ?_
      refine Wp.iconst (pc := 113) (1 : Int32) (by decide) dX5_waveOf_113 ?_
      refine Wp.icmp_ne (pc := 114) 122 dX5_waveOf_114 (by decide) (fun hc5 => ?_) (fun hc5 => ?_)
      · rw [if_neg hc5] at hf
        refine Wp.iload (pc := 122) 3 rfl dX5_waveOf_122 ?_
        refine Wp.lo' (lo' := []) [] rfl ?_
        exact w_X5_waveOf_124 hX hG hf hk
      · rw [if_pos hc5] at hf
        refine Wp.iload (pc := 117) 2 rfl dX5_waveOf_117 ?_
        refine Wp.goto (pc := 119) 124 dX5_waveOf_119 (by decide) ?_
        refine Wp.lo' (lo' := []) [] rfl ?_
        exact w_X5_waveOf_124 hX hG hf hk
    · rw [if_pos hc4] at hf
      refine Wp.iload (pc := 109) 1 rfl dX5_waveOf_109 ?_
      cases hf
      exact hk _ _ dX5_waveOf_111
  · rw [if_neg hc3] at hf
    refine Wp.bipush (pc := 102) (-2 : Int32) (by decide) dX5_waveOf_102 ?_
    cases hf
    exact hk _ _ dX5_waveOf_104
theorem c_X5_waveOf {T : List Dsc} {R : RM} {c e : Nat} {x1 : Int64} {x3 : Int32} {m : M2} {r : (Int32 × M2)} (hG : Geo T R c e) (hf : F_X5_waveOf c x1 x3 m = some r) : Ct 3 yX5_waveOf cX5_waveOf 11 (some .int) T (mk m R) [.ref 23, .long x1, .int x3] (some (.int r.1)) (mk r.2 R) := Ct.ofI (r := (r.1, mk r.2 R)) (by decide +kernel) (Nat.le_of_ble_eq_true rfl) (fun X hX hk => w_X5_waveOf hX hG hf hk)
theorem dX7_isFog_0 : decode cX7_isFog 0 = .ok (.iconst 0, 1) := by decide +kernel
theorem dX7_isFog_1 : decode cX7_isFog 1 = .ok (.istore_n 2, 1) := by decide +kernel
theorem dX7_isFog_2 : decode cX7_isFog 2 = .ok (.iload_n 2, 1) := by decide +kernel
theorem dX7_isFog_3 : decode cX7_isFog 3 = .ok (.aload_n 0, 1) := by decide +kernel
theorem dX7_isFog_4 : decode cX7_isFog 4 = .ok (.getfield 53, 3) := by decide +kernel
theorem dX7_isFog_7 : decode cX7_isFog 7 = .ok (.if_icmp .ge 31, 3) := by decide +kernel
theorem dX7_isFog_10 : decode cX7_isFog 10 = .ok (.aload_n 0, 1) := by decide +kernel
theorem dX7_isFog_11 : decode cX7_isFog 11 = .ok (.getfield 31, 3) := by decide +kernel
theorem dX7_isFog_14 : decode cX7_isFog 14 = .ok (.iload_n 2, 1) := by decide +kernel
theorem dX7_isFog_15 : decode cX7_isFog 15 = .ok (.iaload, 1) := by decide +kernel
theorem dX7_isFog_16 : decode cX7_isFog 16 = .ok (.iload_n 1, 1) := by decide +kernel
theorem dX7_isFog_17 : decode cX7_isFog 17 = .ok (.if_icmp .gt 15, 3) := by decide +kernel
theorem dX7_isFog_20 : decode cX7_isFog 20 = .ok (.iload_n 1, 1) := by decide +kernel
theorem dX7_isFog_21 : decode cX7_isFog 21 = .ok (.aload_n 0, 1) := by decide +kernel
theorem dX7_isFog_22 : decode cX7_isFog 22 = .ok (.getfield 34, 3) := by decide +kernel
theorem dX7_isFog_25 : decode cX7_isFog 25 = .ok (.iload_n 2, 1) := by decide +kernel
theorem dX7_isFog_26 : decode cX7_isFog 26 = .ok (.iaload, 1) := by decide +kernel
theorem dX7_isFog_27 : decode cX7_isFog 27 = .ok (.if_icmp .gt 5, 3) := by decide +kernel
theorem dX7_isFog_30 : decode cX7_isFog 30 = .ok (.iconst 1, 1) := by decide +kernel
theorem dX7_isFog_31 : decode cX7_isFog 31 = .ok (.ireturn, 1) := by decide +kernel
theorem dX7_isFog_32 : decode cX7_isFog 32 = .ok (.iinc 2 1, 3) := by decide +kernel
theorem dX7_isFog_35 : decode cX7_isFog 35 = .ok (.goto (-33), 3) := by decide +kernel
theorem dX7_isFog_38 : decode cX7_isFog 38 = .ok (.iconst 0, 1) := by decide +kernel
theorem dX7_isFog_39 : decode cX7_isFog 39 = .ok (.ireturn, 1) := by decide +kernel
def k_X7_isFog_2 (X : CX) (T : List Dsc) (R : RM) (n1 n2 : Nat) (x0 : Nat) (x1 : Int32) (r : ((Int32 × M2) ⊕ ((M2) ⊕ (M2)))) : Prop := match r with
  | .inl s => Wp X cX7_isFog RX7 3 T (mk s.2 R) n1 n2 2 [(0, .ref x0), (1, .int x1), (2, .int s.1)] []
  | .inr (.inl e) => Wp X cX7_isFog RX7 3 T (mk e R) n1 n2 30 [] []
  | .inr (.inr e) => Wp X cX7_isFog RX7 3 T (mk e R) n1 n2 38 [] []
set_option maxHeartbeats 4000000 in
set_option maxRecDepth 100000 in
theorem w_X7_isFog_32 {X : CX} {T : List Dsc} {R : RM} {c e : Nat} {n1 n2 : Nat} {x0 : Nat} {x1 : Int32} {x2 : Int32} {m : M2} {r : ((Int32 × M2) ⊕ ((M2) ⊕ (M2)))} (hX : XR X 1 n1 n2) (hG : Geo T R c e) (hx0 : tx x0) (hf : f_X7_isFog_32 x0 x1 x2 m = some r) (hk : k_X7_isFog_2 X T R n1 n2 x0 x1 r) : Wp X cX7_isFog RX7 3 T (mk m R) n1 n2 32 [(0, .ref x0), (1, .int x1), (2, .int x2)] [] := by
  unfold f_X7_isFog_32 at hf
  obtain ⟨v1, h2, hf⟩ := bnd hf
  refine Wp.iincN (pc := 32) (lo' := [(0, .ref x0), (1, .int x1), (2, .int v1)]) (1 : Int32) (by decide) h2 2 rfl [1, 2, 0] rfl (by decide) dX7_isFog_32 ?_
  refine Wp.goto (pc := 35) 2 dX7_isFog_35 (by decide) ?_
  cases hf
  exact hk
set_option maxHeartbeats 4000000 in
set_option maxRecDepth 100000 in
theorem w_X7_isFog_2 {X : CX} {T : List Dsc} {R : RM} {c e : Nat} {n1 n2 : Nat} {x0 : Nat} {x1 : Int32} {x2 : Int32} {m : M2} {r : ((Int32 × M2) ⊕ ((M2) ⊕ (M2)))} (hX : XR X 1 n1 n2) (hG : Geo T R c e) (hx0 : tx x0) (hf : f_X7_isFog_2 x0 x1 x2 m = some r) (hk : k_X7_isFog_2 X T R n1 n2 x0 x1 r) : Wp X cX7_isFog RX7 3 T (mk m R) n1 n2 2 [(0, .ref x0), (1, .int x1), (2, .int x2)] [] := by
  unfold f_X7_isFog_2 at hf
  refine Wp.iload_n (pc := 2) 2 rfl rfl dX7_isFog_2 ?_
  refine Wp.aload_n (pc := 3) 0 rfl rfl dX7_isFog_3 ?_
  refine Wp.getI2 (pc := 4) (hG.tt hx0) fk_RX7_53 rfl dX7_isFog_4 ?_
  refine Wp.icmp_ge (pc := 7) 38 dX7_isFog_7 (by decide) (fun hc1 => ?_) (fun hc1 => ?_)
  · rw [if_pos hc1] at hf
    refine Wp.lo' (lo' := []) [] rfl ?_
    cases hf
    exact hk
  · rw [if_neg hc1] at hf
    refine Wp.aload_n (pc := 10) 0 rfl rfl dX7_isFog_10 ?_
    refine Wp.getR2 (pc := 11) (hG.tr hx0 12 4 rfl rfl) (hG.tt hx0) fk_RX7_31 rfl dX7_isFog_11 ?_
    refine Wp.iload_n (pc := 14) 2 rfl rfl dX7_isFog_14 ?_
    obtain ⟨v2, h3, hf⟩ := bnd hf
    refine Wp.iald2 (pc := 15) h3 (hG.ta hx0 4 4 rfl rfl) dX7_isFog_15 ?_
    refine Wp.iload_n (pc := 16) 1 rfl rfl dX7_isFog_16 ?_
    refine Wp.icmp_gt (pc := 17) 32 dX7_isFog_17 (by decide) (fun hc4 => ?_) (fun hc4 => ?_)
    · rw [if_pos hc4] at hf
      exact w_X7_isFog_32 hX hG hx0 hf hk
    · rw [if_neg hc4] at hf
      refine Wp.iload_n (pc := 20) 1 rfl rfl dX7_isFog_20 ?_
      refine Wp.aload_n (pc := 21) 0 rfl rfl dX7_isFog_21 ?_
      refine Wp.getR2 (pc := 22) (hG.tr hx0 13 5 rfl rfl) (hG.tt hx0) fk_RX7_34 rfl dX7_isFog_22 ?_
      refine Wp.iload_n (pc := 25) 2 rfl rfl dX7_isFog_25 ?_
      obtain ⟨v5, h6, hf⟩ := bnd hf
      refine Wp.iald2 (pc := 26) h6 (hG.ta hx0 5 4 rfl rfl) dX7_isFog_26 ?_
      refine Wp.icmp_gt (pc := 27) 32 dX7_isFog_27 (by decide) (fun hc7 => ?_) (fun hc7 => ?_)
      · rw [if_pos hc7] at hf
        exact w_X7_isFog_32 hX hG hx0 hf hk
      · rw [if_neg hc7] at hf
        refine Wp.lo' (lo' := []) [] rfl ?_
        cases hf
        exact hk
theorem wl_X7_isFog_2 {X : CX} {T : List Dsc} {R : RM} {c e : Nat} {n1 n2 : Nat} {x0 : Nat} {x1 : Int32} {x2 : Int32} {m : M2} {e1 : ((M2) ⊕ (M2))} (hX : XR X 1 n1 n2) (hG : Geo T R c e) (hx0 : tx x0) (h : loop (g_X7_isFog_2 x0 x1) (x2, m) = some e1) (he0 : ∀ e_, e1 = (Sum.inl e_) → Wp X cX7_isFog RX7 3 T (mk e_ R) n1 n2 30 [] []) (he1 : ∀ e_, e1 = (Sum.inr e_) → Wp X cX7_isFog RX7 3 T (mk e_ R) n1 n2 38 [] []) : Wp X cX7_isFog RX7 3 T (mk m R) n1 n2 2 [(0, .ref x0), (1, .int x1), (2, .int x2)] [] :=
  loop_ok (K := k_X7_isFog_2 X T R n1 n2 x0 x1) (fun s r hf hk => w_X7_isFog_2 hX hG hx0 hf hk) h (by rcases e1 with e_ | e_ <;> first | exact he0 _ rfl | exact he1 _ rfl)
set_option maxHeartbeats 4000000 in
set_option maxRecDepth 100000 in
theorem w_X7_isFog {X : CX} {T : List Dsc} {R : RM} {c e : Nat} {n1 n2 : Nat} {x0 : Nat} {x1 : Int32} {m : M2} {r : (Int32 × M2)} (hX : XR X 1 n1 n2) (hG : Geo T R c e) (hx0 : tx x0) (hf : F_X7_isFog x0 x1 m = some r) (hk : FnZ X cX7_isFog RX7 3 T n1 n2 (r.1, mk r.2 R)) : Wp X cX7_isFog RX7 3 T (mk m R) n1 n2 0 [(0, .ref x0), (1, .int x1)] [] := by
  unfold F_X7_isFog at hf
  refine Wp.iconst (pc := 0) (0 : Int32) (by decide) dX7_isFog_0 ?_
  refine Wp.istore_n (pc := 1) (lo' := [(0, .ref x0), (1, .int x1), (2, .int (0 : Int32))]) [1, 2, 0] rfl (by decide) rfl dX7_isFog_1 ?_
  obtain ⟨e1, h2, hf⟩ := bnd hf
  refine wl_X7_isFog_2 hX hG hx0 h2 (fun e1_0 hq => ?_) (fun e1_1 hq => ?_)
  · rw [hq, Sum.elim_inl] at hf
    refine Wp.iconst (pc := 30) (1 : Int32) (by decide) dX7_isFog_30 ?_
    cases hf
    exact hk _ _ (Or.inr rfl) dX7_isFog_31
  · rw [hq, Sum.elim_inr] at hf
    refine Wp.iconst (pc := 38) (0 : Int32) (by decide) dX7_isFog_38 ?_
    cases hf
    exact hk _ _ (Or.inl rfl) dX7_isFog_39
theorem c_X7_isFog {T : List Dsc} {R : RM} {c e : Nat} {x0 : Nat} {x1 : Int32} {m : M2} {r : (Int32 × M2)} (hG : Geo T R c e) (hx0 : tx x0) (hf : F_X7_isFog x0 x1 m = some r) : Ct 1 yX7_isFog cX7_isFog 3 (some .boolean) T (mk m R) [.ref x0, .int x1] (some (.int r.1)) (mk r.2 R) := Ct.ofZ (r := (r.1, mk r.2 R)) (by decide +kernel) (Nat.le_of_ble_eq_true rfl) (fun X hX hk => w_X7_isFog hX hG hx0 hf hk)
theorem dX5_mostClashing_0 : decode cX5_mostClashing 0 = .ok (.aload_n 0, 1) := by decide +kernel
theorem dX5_mostClashing_1 : decode cX5_mostClashing 1 = .ok (.getfield 23, 3) := by decide +kernel
theorem dX5_mostClashing_4 : decode cX5_mostClashing 4 = .ok (.iconst 0, 1) := by decide +kernel
theorem dX5_mostClashing_5 : decode cX5_mostClashing 5 = .ok (.invokestatic 105, 3) := by decide +kernel
theorem dX5_mostClashing_8 : decode cX5_mostClashing 8 = .ok (.aload_n 1, 1) := by decide +kernel
theorem dX5_mostClashing_9 : decode cX5_mostClashing 9 = .ok (.getfield 111, 3) := by decide +kernel
theorem dX5_mostClashing_12 : decode cX5_mostClashing 12 = .ok (.lstore_n 3, 1) := by decide +kernel
theorem dX5_mostClashing_13 : decode cX5_mostClashing 13 = .ok (.iconst 0, 1) := by decide +kernel
theorem dX5_mostClashing_14 : decode cX5_mostClashing 14 = .ok (.istore 5, 2) := by decide +kernel
theorem dX5_mostClashing_16 : decode cX5_mostClashing 16 = .ok (.iload 5, 2) := by decide +kernel
theorem dX5_mostClashing_18 : decode cX5_mostClashing 18 = .ok (.iload_n 2, 1) := by decide +kernel
theorem dX5_mostClashing_19 : decode cX5_mostClashing 19 = .ok (.if_icmp .ge 82, 3) := by decide +kernel
theorem dX5_mostClashing_22 : decode cX5_mostClashing 22 = .ok (.aload_n 0, 1) := by decide +kernel
theorem dX5_mostClashing_23 : decode cX5_mostClashing 23 = .ok (.lload_n 3, 1) := by decide +kernel
theorem dX5_mostClashing_24 : decode cX5_mostClashing 24 = .ok (.aload_n 1, 1) := by decide +kernel
theorem dX5_mostClashing_25 : decode cX5_mostClashing 25 = .ok (.getfield 117, 3) := by decide +kernel
theorem dX5_mostClashing_28 : decode cX5_mostClashing 28 = .ok (.aload_n 1, 1) := by decide +kernel
theorem dX5_mostClashing_29 : decode cX5_mostClashing 29 = .ok (.getfield 119, 3) := by decide +kernel
theorem dX5_mostClashing_32 : decode cX5_mostClashing 32 = .ok (.aload_n 0, 1) := by decide +kernel
theorem dX5_mostClashing_33 : decode cX5_mostClashing 33 = .ok (.getfield 26, 3) := by decide +kernel
theorem dX5_mostClashing_36 : decode cX5_mostClashing 36 = .ok (.aload_n 1, 1) := by decide +kernel
theorem dX5_mostClashing_37 : decode cX5_mostClashing 37 = .ok (.getfield 122, 3) := by decide +kernel
theorem dX5_mostClashing_40 : decode cX5_mostClashing 40 = .ok (.iload 5, 2) := by decide +kernel
theorem dX5_mostClashing_42 : decode cX5_mostClashing 42 = .ok (.iadd, 1) := by decide +kernel
theorem dX5_mostClashing_43 : decode cX5_mostClashing 43 = .ok (.invokevirtual 125, 3) := by decide +kernel
theorem dX5_mostClashing_46 : decode cX5_mostClashing 46 = .ok (.invokevirtual 129, 3) := by decide +kernel
theorem dX5_mostClashing_49 : decode cX5_mostClashing 49 = .ok (.lstore_n 3, 1) := by decide +kernel
theorem dX5_mostClashing_50 : decode cX5_mostClashing 50 = .ok (.aload_n 0, 1) := by decide +kernel
theorem dX5_mostClashing_51 : decode cX5_mostClashing 51 = .ok (.lload_n 3, 1) := by decide +kernel
theorem dX5_mostClashing_52 : decode cX5_mostClashing 52 = .ok (.invokevirtual 132, 3) := by decide +kernel
theorem dX5_mostClashing_55 : decode cX5_mostClashing 55 = .ok (.istore 6, 2) := by decide +kernel
theorem dX5_mostClashing_57 : decode cX5_mostClashing 57 = .ok (.iconst 1, 1) := by decide +kernel
theorem dX5_mostClashing_58 : decode cX5_mostClashing 58 = .ok (.istore 7, 2) := by decide +kernel
theorem dX5_mostClashing_60 : decode cX5_mostClashing 60 = .ok (.iload 7, 2) := by decide +kernel
theorem dX5_mostClashing_62 : decode cX5_mostClashing 62 = .ok (.aload_n 0, 1) := by decide +kernel
theorem dX5_mostClashing_63 : decode cX5_mostClashing 63 = .ok (.getfield 26, 3) := by decide +kernel
theorem dX5_mostClashing_66 : decode cX5_mostClashing 66 = .ok (.getfield 43, 3) := by decide +kernel
theorem dX5_mostClashing_69 : decode cX5_mostClashing 69 = .ok (.if_icmp .ge 26, 3) := by decide +kernel
theorem dX5_mostClashing_72 : decode cX5_mostClashing 72 = .ok (.aload_n 0, 1) := by decide +kernel
theorem dX5_mostClashing_73 : decode cX5_mostClashing 73 = .ok (.getfield 23, 3) := by decide +kernel
theorem dX5_mostClashing_76 : decode cX5_mostClashing 76 = .ok (.iload 7, 2) := by decide +kernel
theorem dX5_mostClashing_78 : decode cX5_mostClashing 78 = .ok (.dup2, 1) := by decide +kernel
theorem dX5_mostClashing_79 : decode cX5_mostClashing 79 = .ok (.iaload, 1) := by decide +kernel
theorem dX5_mostClashing_80 : decode cX5_mostClashing 80 = .ok (.iload 6, 2) := by decide +kernel
theorem dX5_mostClashing_82 : decode cX5_mostClashing 82 = .ok (.iload 7, 2) := by decide +kernel
theorem dX5_mostClashing_84 : decode cX5_mostClashing 84 = .ok (.ishr, 1) := by decide +kernel
theorem dX5_mostClashing_85 : decode cX5_mostClashing 85 = .ok (.iconst 1, 1) := by decide +kernel
theorem dX5_mostClashing_86 : decode cX5_mostClashing 86 = .ok (.iand, 1) := by decide +kernel
theorem dX5_mostClashing_87 : decode cX5_mostClashing 87 = .ok (.iadd, 1) := by decide +kernel
theorem dX5_mostClashing_88 : decode cX5_mostClashing 88 = .ok (.iastore, 1) := by decide +kernel
theorem dX5_mostClashing_89 : decode cX5_mostClashing 89 = .ok (.iinc 7 1, 3) := by decide +kernel
theorem dX5_mostClashing_92 : decode cX5_mostClashing 92 = .ok (.goto (-32), 3) := by decide +kernel
theorem dX5_mostClashing_95 : decode cX5_mostClashing 95 = .ok (.iinc 5 1, 3) := by decide +kernel
theorem dX5_mostClashing_98 : decode cX5_mostClashing 98 = .ok (.goto (-82), 3) := by decide +kernel
theorem dX5_mostClashing_101 : decode cX5_mostClashing 101 = .ok (.iconst 0, 1) := by decide +kernel
theorem dX5_mostClashing_102 : decode cX5_mostClashing 102 = .ok (.istore 5, 2) := by decide +kernel
theorem dX5_mostClashing_104 : decode cX5_mostClashing 104 = .ok (.iconst 1, 1) := by decide +kernel
theorem dX5_mostClashing_105 : decode cX5_mostClashing 105 = .ok (.istore 6, 2) := by decide +kernel
theorem dX5_mostClashing_107 : decode cX5_mostClashing 107 = .ok (.iload 6, 2) := by decide +kernel
theorem dX5_mostClashing_109 : decode cX5_mostClashing 109 = .ok (.aload_n 0, 1) := by decide +kernel
theorem dX5_mostClashing_110 : decode cX5_mostClashing 110 = .ok (.getfield 26, 3) := by decide +kernel
theorem dX5_mostClashing_113 : decode cX5_mostClashing 113 = .ok (.getfield 43, 3) := by decide +kernel
theorem dX5_mostClashing_116 : decode cX5_mostClashing 116 = .ok (.if_icmp .ge 30, 3) := by decide +kernel
theorem dX5_mostClashing_119 : decode cX5_mostClashing 119 = .ok (.aload_n 0, 1) := by decide +kernel
theorem dX5_mostClashing_120 : decode cX5_mostClashing 120 = .ok (.getfield 23, 3) := by decide +kernel
theorem dX5_mostClashing_123 : decode cX5_mostClashing 123 = .ok (.iload 6, 2) := by decide +kernel
theorem dX5_mostClashing_125 : decode cX5_mostClashing 125 = .ok (.iaload, 1) := by decide +kernel
theorem dX5_mostClashing_126 : decode cX5_mostClashing 126 = .ok (.aload_n 0, 1) := by decide +kernel
theorem dX5_mostClashing_127 : decode cX5_mostClashing 127 = .ok (.getfield 23, 3) := by decide +kernel
theorem dX5_mostClashing_130 : decode cX5_mostClashing 130 = .ok (.iload 5, 2) := by decide +kernel
theorem dX5_mostClashing_132 : decode cX5_mostClashing 132 = .ok (.iaload, 1) := by decide +kernel
theorem dX5_mostClashing_133 : decode cX5_mostClashing 133 = .ok (.if_icmp .le 7, 3) := by decide +kernel
theorem dX5_mostClashing_136 : decode cX5_mostClashing 136 = .ok (.iload 6, 2) := by decide +kernel
theorem dX5_mostClashing_138 : decode cX5_mostClashing 138 = .ok (.istore 5, 2) := by decide +kernel
theorem dX5_mostClashing_140 : decode cX5_mostClashing 140 = .ok (.iinc 6 1, 3) := by decide +kernel
theorem dX5_mostClashing_143 : decode cX5_mostClashing 143 = .ok (.goto (-36), 3) := by decide +kernel
theorem dX5_mostClashing_146 : decode cX5_mostClashing 146 = .ok (.iload 5, 2) := by decide +kernel
theorem dX5_mostClashing_148 : decode cX5_mostClashing 148 = .ok (.ifCond .ne 8, 3) := by decide +kernel
theorem dX5_mostClashing_151 : decode cX5_mostClashing 151 = .ok (.bipush (-2), 2) := by decide +kernel
theorem dX5_mostClashing_153 : decode cX5_mostClashing 153 = .ok (.goto 5, 3) := by decide +kernel
theorem dX5_mostClashing_156 : decode cX5_mostClashing 156 = .ok (.iload 5, 2) := by decide +kernel
theorem dX5_mostClashing_158 : decode cX5_mostClashing 158 = .ok (.ireturn, 1) := by decide +kernel
def k_X5_mostClashing_60 (X : CX) (T : List Dsc) (R : RM) (n1 n2 : Nat) (x1 : Nat) (x2 : Int32) (x3 : Int64) (x5 : Int32) (x6 : Int32) (r : ((Int32 × M2) ⊕ ((M2)))) : Prop := match r with
  | .inl s => Wp X cX5_mostClashing RX5 8 T (mk s.2 R) n1 n2 60 [(0, .ref 23), (1, .ref x1), (2, .int x2), (3, .long x3), (5, .int x5), (6, .int x6), (7, .int s.1)] []
  | .inr e => Wp X cX5_mostClashing RX5 8 T (mk e R) n1 n2 95 [(0, .ref 23), (1, .ref x1), (2, .int x2), (3, .long x3), (5, .int x5)] []
def k_X5_mostClashing_16 (X : CX) (T : List Dsc) (R : RM) (n1 n2 : Nat) (x1 : Nat) (x2 : Int32) (r : ((Int64 × Int32 × M2) ⊕ ((M2)))) : Prop := match r with
  | .inl s => Wp X cX5_mostClashing RX5 8 T (mk s.2.2 R) n1 n2 16 [(0, .ref 23), (1, .ref x1), (2, .int x2), (3, .long s.1), (5, .int s.2.1)] []
  | .inr e => Wp X cX5_mostClashing RX5 8 T (mk e R) n1 n2 101 [(0, .ref 23)] []
def k_X5_mostClashing_107 (X : CX) (T : List Dsc) (R : RM) (n1 n2 : Nat) (r : ((Int32 × Int32 × M2) ⊕ ((Int32 × M2)))) : Prop := match r with
  | .inl s => Wp X cX5_mostClashing RX5 8 T (mk s.2.2 R) n1 n2 107 [(0, .ref 23), (5, .int s.1), (6, .int s.2.1)] []
  | .inr e => Wp X cX5_mostClashing RX5 8 T (mk e.2 R) n1 n2 146 [(5, .int e.1)] []
set_option maxHeartbeats 4000000 in
set_option maxRecDepth 100000 in
theorem w_X5_mostClashing_60 {X : CX} {T : List Dsc} {R : RM} {c e : Nat} {n1 n2 : Nat} {x1 : Nat} {x2 : Int32} {x3 : Int64} {x5 : Int32} {x6 : Int32} {x7 : Int32} {m : M2} {r : ((Int32 × M2) ⊕ ((M2)))} (hX : XR X 6 n1 n2) (hG : Geo T R c e) (hx1 : cw x1) (hf : f_X5_mostClashing_60 c x1 x2 x3 x5 x6 x7 m = some r) (hk : k_X5_mostClashing_60 X T R n1 n2 x1 x2 x3 x5 x6 r) : Wp X cX5_mostClashing RX5 8 T (mk m R) n1 n2 60 [(0, .ref 23), (1, .ref x1), (2, .int x2), (3, .long x3), (5, .int x5), (6, .int x6), (7, .int x7)] [] := by
  unfold f_X5_mostClashing_60 at hf
  refine Wp.iload (pc := 60) 6 rfl dX5_mostClashing_60 ?_
  refine Wp.aload_n (pc := 62) 0 rfl rfl dX5_mostClashing_62 ?_
  refine Wp.getR2 (pc := 63) hG.r2 (hG.t 23 rfl) fk_RX5_26 rfl dX5_mostClashing_63 ?_
  refine Wp.getI2 (pc := 66) (hG.tt hG.hc) fk_RX5_43 rfl dX5_mostClashing_66 ?_
  refine Wp.icmp_ge (pc := 69) 95 dX5_mostClashing_69 (by decide) (fun hc1 => ?_) (fun hc1 => ?_)
  · rw [if_pos hc1] at hf
    refine Wp.lo' (lo' := [(0, .ref 23), (1, .ref x1), (2, .int x2), (3, .long x3), (5, .int x5)]) [0, 1, 2, 3, 4] rfl ?_
    cases hf
    exact hk
  · rw [if_neg hc1] at hf
    refine Wp.aload_n (pc := 72) 0 rfl rfl dX5_mostClashing_72 ?_
    refine Wp.getR2 (pc := 73) (hG.r 23 4 rfl) (hG.t 23 rfl) fk_RX5_23 rfl dX5_mostClashing_73 ?_
    refine Wp.iload (pc := 76) 6 rfl dX5_mostClashing_76 ?_
    refine Wp.dup2 (pc := 78) rfl rfl dX5_mostClashing_78 ?_
    obtain ⟨v2, h3, hf⟩ := bnd hf
    refine Wp.iald2 (pc := 79) h3 (hG.a 27 0 rfl) dX5_mostClashing_79 ?_
    refine Wp.iload (pc := 80) 5 rfl dX5_mostClashing_80 ?_
    refine Wp.iload (pc := 82) 6 rfl dX5_mostClashing_82 ?_
    refine Wp.ishr (pc := 84) dX5_mostClashing_84 ?_
    refine Wp.iconst (pc := 85) (1 : Int32) (by decide) dX5_mostClashing_85 ?_
    refine Wp.iand (pc := 86) dX5_mostClashing_86 ?_
    refine Wp.iadd (pc := 87) dX5_mostClashing_87 ?_
    obtain ⟨m4, h5, hf⟩ := bnd hf
    refine Wp.iast2 (pc := 88) h5 (hG.a 27 0 rfl) dX5_mostClashing_88 ?_
    obtain ⟨v6, h7, hf⟩ := bnd hf
    refine Wp.iincN (pc := 89) (lo' := [(0, .ref 23), (1, .ref x1), (2, .int x2), (3, .long x3), (5, .int x5), (6, .int x6), (7, .int v6)]) (1 : Int32) (by decide) h7 6 rfl [1, 2, 3, 4, 5, 6, 0] rfl (by decide) dX5_mostClashing_89 ?_
    refine Wp.goto (pc := 92) 60 dX5_mostClashing_92 (by decide) ?_
    cases hf
    exact hk
theorem wl_X5_mostClashing_60 {X : CX} {T : List Dsc} {R : RM} {c e : Nat} {n1 n2 : Nat} {x1 : Nat} {x2 : Int32} {x3 : Int64} {x5 : Int32} {x6 : Int32} {x7 : Int32} {m : M2} {e1 : ((M2))} (hX : XR X 6 n1 n2) (hG : Geo T R c e) (hx1 : cw x1) (h : loop (g_X5_mostClashing_60 c x1 x2 x3 x5 x6) (x7, m) = some e1) (he : Wp X cX5_mostClashing RX5 8 T (mk e1 R) n1 n2 95 [(0, .ref 23), (1, .ref x1), (2, .int x2), (3, .long x3), (5, .int x5)] []) : Wp X cX5_mostClashing RX5 8 T (mk m R) n1 n2 60 [(0, .ref 23), (1, .ref x1), (2, .int x2), (3, .long x3), (5, .int x5), (6, .int x6), (7, .int x7)] [] :=
  loop_ok (K := k_X5_mostClashing_60 X T R n1 n2 x1 x2 x3 x5 x6) (fun s r hf hk => w_X5_mostClashing_60 hX hG hx1 hf hk) h he
set_option maxHeartbeats 4000000 in
set_option maxRecDepth 100000 in
theorem w_X5_mostClashing_16 {X : CX} {T : List Dsc} {R : RM} {c e : Nat} {n1 n2 : Nat} {x1 : Nat} {x2 : Int32} {x3 : Int64} {x5 : Int32} {m : M2} {r : ((Int64 × Int32 × M2) ⊕ ((M2)))} (hX : XR X 6 n1 n2) (hG : Geo T R c e) (hx1 : cw x1) (hf : f_X5_mostClashing_16 c x1 x2 x3 x5 m = some r) (hk : k_X5_mostClashing_16 X T R n1 n2 x1 x2 r) : Wp X cX5_mostClashing RX5 8 T (mk m R) n1 n2 16 [(0, .ref 23), (1, .ref x1), (2, .int x2), (3, .long x3), (5, .int x5)] [] := by
  unfold f_X5_mostClashing_16 at hf
  refine Wp.iload (pc := 16) 4 rfl dX5_mostClashing_16 ?_
  refine Wp.iload_n (pc := 18) 2 rfl rfl dX5_mostClashing_18 ?_
  refine Wp.icmp_ge (pc := 19) 101 dX5_mostClashing_19 (by decide) (fun hc1 => ?_) (fun hc1 => ?_)
  · rw [if_pos hc1] at hf
    refine Wp.lo' (lo' := [(0, .ref 23)]) [0] rfl ?_
    cases hf
    exact hk
  · rw [if_neg hc1] at hf
    refine Wp.aload_n (pc := 22) 0 rfl rfl dX5_mostClashing_22 ?_
    refine Wp.lload_n (pc := 23) 3 rfl rfl dX5_mostClashing_23 ?_
    refine Wp.aload_n (pc := 24) 1 rfl rfl dX5_mostClashing_24 ?_
    refine Wp.getR2 (pc := 25) (hG.wr hx1 2 (Or.inr rfl)) (hG.wt hx1) fk_RX5_117 rfl dX5_mostClashing_25 ?_
    refine Wp.aload_n (pc := 28) 1 rfl rfl dX5_mostClashing_28 ?_
    refine Wp.getI2 (pc := 29) (hG.wt hx1) fk_RX5_119 rfl dX5_mostClashing_29 ?_
    refine Wp.aload_n (pc := 32) 0 rfl rfl dX5_mostClashing_32 ?_
    refine Wp.getR2 (pc := 33) hG.r2 (hG.t 23 rfl) fk_RX5_26 rfl dX5_mostClashing_33 ?_
    refine Wp.aload_n (pc := 36) 1 rfl rfl dX5_mostClashing_36 ?_
    refine Wp.getI2 (pc := 37) (hG.wt hx1) fk_RX5_122 rfl dX5_mostClashing_37 ?_
    refine Wp.iload (pc := 40) 4 rfl dX5_mostClashing_40 ?_
    refine Wp.iadd (pc := 42) dX5_mostClashing_42 ?_
    obtain ⟨c2, h3, hf⟩ := bnd hf
    refine Wp.callVi (pc := 43) (st := [.int (hI m x1 3), .ref (x1 + 2), .long x3, .ref 23]) (as := [.int ((hI m x1 4) + x5)]) (c_X7_isFog hG hG.hc h3) ml_RX5_125 mv_X7_isFog mb_X7_isFog hX (Nat.le_of_ble_eq_true rfl) (by decide) rfl (hG.tt hG.hc) rfl (by simp [Value.category]) dX5_mostClashing_43 rfl ?_
    obtain ⟨c4, h5, hf⟩ := bnd hf
    refine Wp.callVl (pc := 46) (st := []) (as := [.long x3, .ref (x1 + 2), .int (hI m x1 3), .int c2.1]) (c_X5_stroke hG (hG.wa hx1 2 (Or.inr rfl)) h5) ml_RX5_129 mv_X5_stroke mb_X5_stroke hX (Nat.le_of_ble_eq_true rfl) (by decide) rfl (hG.t 23 rfl) rfl (by simp) dX5_mostClashing_46 rfl ?_
    refine Wp.lstore_n (pc := 49) (lo' := [(0, .ref 23), (1, .ref x1), (2, .int x2), (3, .long c4.1), (5, .int x5)]) [1, 2, 3, 0, 4] rfl (by decide) rfl dX5_mostClashing_49 ?_
    refine Wp.aload_n (pc := 50) 0 rfl rfl dX5_mostClashing_50 ?_
    refine Wp.lload_n (pc := 51) 3 rfl rfl dX5_mostClashing_51 ?_
    obtain ⟨c6, h7, hf⟩ := bnd hf
    refine Wp.callVi (pc := 52) (st := []) (as := [.long c4.1]) (c_X5_clashBits hG h7) ml_RX5_132 mv_X5_clashBits mb_X5_clashBits hX (Nat.le_of_ble_eq_true rfl) (by decide) rfl (hG.t 23 rfl) rfl (by simp) dX5_mostClashing_52 rfl ?_
    refine Wp.istore (pc := 55) (lo' := [(0, .ref 23), (1, .ref x1), (2, .int x2), (3, .long c4.1), (5, .int x5), (6, .int c6.1)]) [1, 2, 3, 4, 5, 0] rfl (by decide) dX5_mostClashing_55 ?_
    refine Wp.iconst (pc := 57) (1 : Int32) (by decide) dX5_mostClashing_57 ?_
    refine Wp.istore (pc := 58) (lo' := [(0, .ref 23), (1, .ref x1), (2, .int x2), (3, .long c4.1), (5, .int x5), (6, .int c6.1), (7, .int (1 : Int32))]) [1, 2, 3, 4, 5, 6, 0] rfl (by decide) dX5_mostClashing_58 ?_
    obtain ⟨e8, h9, hf⟩ := bnd hf
    refine wl_X5_mostClashing_60 hX hG hx1 h9 ?_
    obtain ⟨v10, h11, hf⟩ := bnd hf
    refine Wp.iincN (pc := 95) (lo' := [(0, .ref 23), (1, .ref x1), (2, .int x2), (3, .long c4.1), (5, .int v10)]) (1 : Int32) (by decide) h11 4 rfl [1, 2, 3, 4, 0] rfl (by decide) dX5_mostClashing_95 ?_
    refine Wp.goto (pc := 98) 16 dX5_mostClashing_98 (by decide) ?_
    cases hf
    exact hk
theorem wl_X5_mostClashing_16 {X : CX} {T : List Dsc} {R : RM} {c e : Nat} {n1 n2 : Nat} {x1 : Nat} {x2 : Int32} {x3 : Int64} {x5 : Int32} {m : M2} {e1 : ((M2))} (hX : XR X 6 n1 n2) (hG : Geo T R c e) (hx1 : cw x1) (h : loop (g_X5_mostClashing_16 c x1 x2) (x3, x5, m) = some e1) (he : Wp X cX5_mostClashing RX5 8 T (mk e1 R) n1 n2 101 [(0, .ref 23)] []) : Wp X cX5_mostClashing RX5 8 T (mk m R) n1 n2 16 [(0, .ref 23), (1, .ref x1), (2, .int x2), (3, .long x3), (5, .int x5)] [] :=
  loop_ok (K := k_X5_mostClashing_16 X T R n1 n2 x1 x2) (fun s r hf hk => w_X5_mostClashing_16 hX hG hx1 hf hk) h he
set_option maxHeartbeats 4000000 in
set_option maxRecDepth 100000 in
theorem w_X5_mostClashing_140 {X : CX} {T : List Dsc} {R : RM} {c e : Nat} {n1 n2 : Nat} {x5 : Int32} {x6 : Int32} {m : M2} {r : ((Int32 × Int32 × M2) ⊕ ((Int32 × M2)))} (hX : XR X 6 n1 n2) (hG : Geo T R c e) (hf : f_X5_mostClashing_140 c x5 x6 m = some r) (hk : k_X5_mostClashing_107 X T R n1 n2 r) : Wp X cX5_mostClashing RX5 8 T (mk m R) n1 n2 140 [(0, .ref 23), (5, .int x5), (6, .int x6)] [] := by
  unfold f_X5_mostClashing_140 at hf
  obtain ⟨v1, h2, hf⟩ := bnd hf
  refine Wp.iincN (pc := 140) (lo' := [(0, .ref 23), (5, .int x5), (6, .int v1)]) (1 : Int32) (by decide) h2 2 rfl [1, 2, 0] rfl (by decide) dX5_mostClashing_140 ?_
  refine Wp.goto (pc := 143) 107 dX5_mostClashing_143 (by decide) ?_
  cases hf
  exact hk
set_option maxHeartbeats 4000000 in
set_option maxRecDepth 100000 in
theorem w_X5_mostClashing_107 {X : CX} {T : List Dsc} {R : RM} {c e : Nat} {n1 n2 : Nat} {x5 : Int32} {x6 : Int32} {m : M2} {r : ((Int32 × Int32 × M2) ⊕ ((Int32 × M2)))} (hX : XR X 6 n1 n2) (hG : Geo T R c e) (hf : f_X5_mostClashing_107 c x5 x6 m = some r) (hk : k_X5_mostClashing_107 X T R n1 n2 r) : Wp X cX5_mostClashing RX5 8 T (mk m R) n1 n2 107 [(0, .ref 23), (5, .int x5), (6, .int x6)] [] := by
  unfold f_X5_mostClashing_107 at hf
  refine Wp.iload (pc := 107) 2 rfl dX5_mostClashing_107 ?_
  refine Wp.aload_n (pc := 109) 0 rfl rfl dX5_mostClashing_109 ?_
  refine Wp.getR2 (pc := 110) hG.r2 (hG.t 23 rfl) fk_RX5_26 rfl dX5_mostClashing_110 ?_
  refine Wp.getI2 (pc := 113) (hG.tt hG.hc) fk_RX5_43 rfl dX5_mostClashing_113 ?_
  refine Wp.icmp_ge (pc := 116) 146 dX5_mostClashing_116 (by decide) (fun hc1 => ?_) (fun hc1 => ?_)
  · rw [if_pos hc1] at hf
    refine Wp.lo' (lo' := [(5, .int x5)]) [1] rfl ?_
    cases hf
    exact hk
  · rw [if_neg hc1] at hf
    refine Wp.aload_n (pc := 119) 0 rfl rfl dX5_mostClashing_119 ?_
    refine Wp.getR2 (pc := 120) (hG.r 23 4 rfl) (hG.t 23 rfl) fk_RX5_23 rfl dX5_mostClashing_120 ?_
    refine Wp.iload (pc := 123) 2 rfl dX5_mostClashing_123 ?_
    obtain ⟨v2, h3, hf⟩ := bnd hf
    refine Wp.iald2 (pc := 125) h3 (hG.a 27 0 rfl) dX5_mostClashing_125 ?_
    refine Wp.aload_n (pc := 126) 0 rfl rfl dX5_mostClashing_126 ?_
    refine Wp.getR2 (pc := 127) (hG.r 23 4 rfl) (hG.t 23 rfl) fk_RX5_23 rfl dX5_mostClashing_127 ?_
    refine Wp.iload (pc := 130) 1 rfl dX5_mostClashing_130 ?_
    obtain ⟨v4, h5, hf⟩ := bnd hf
    refine Wp.iald2 (pc := 132) h5 (hG.a 27 0 rfl) dX5_mostClashing_132 ?_
    refine Wp.icmp_le (pc := 133) 140 dX5_mostClashing_133 (by decide) (fun hc6 => ?_) (fun hc6 => ?_)
    · rw [if_pos hc6] at hf
      exact w_X5_mostClashing_140 hX hG hf hk
    · rw [if_neg hc6] at hf
      refine Wp.iload (pc := 136) 2 rfl dX5_mostClashing_136 ?_
      refine Wp.istore (pc := 138) (lo' := [(0, .ref 23), (5, .int x6), (6, .int x6)]) [1, 0, 2] rfl (by decide) dX5_mostClashing_138 ?_
      exact w_X5_mostClashing_140 hX hG hf hk
theorem wl_X5_mostClashing_107 {X : CX} {T : List Dsc} {R : RM} {c e : Nat} {n1 n2 : Nat} {x5 : Int32} {x6 : Int32} {m : M2} {e1 : ((Int32 × M2))} (hX : XR X 6 n1 n2) (hG : Geo T R c e) (h : loop (g_X5_mostClashing_107 c) (x5, x6, m) = some e1) (he : Wp X cX5_mostClashing RX5 8 T (mk e1.2 R) n1 n2 146 [(5, .int e1.1)] []) : Wp X cX5_mostClashing RX5 8 T (mk m R) n1 n2 107 [(0, .ref 23), (5, .int x5), (6, .int x6)] [] :=
  loop_ok (K := k_X5_mostClashing_107 X T R n1 n2) (fun s r hf hk => w_X5_mostClashing_107 hX hG hf hk) h he
set_option maxHeartbeats 4000000 in
set_option maxRecDepth 100000 in
theorem w_X5_mostClashing_158 {X : CX} {T : List Dsc} {R : RM} {c e : Nat} {n1 n2 : Nat} {s0 : Int32} {m : M2} {r : (Int32 × M2)} (hX : XR X 6 n1 n2) (hG : Geo T R c e) (hf : f_X5_mostClashing_158 c s0 m = some r) (hk : FnI X cX5_mostClashing RX5 8 T n1 n2 (r.1, mk r.2 R)) : Wp X cX5_mostClashing RX5 8 T (mk m R) n1 n2 158 [] [.int s0] := by
  unfold f_X5_mostClashing_158 at hf
  cases hf
  exact hk _ _ dX5_mostClashing_158
set_option maxHeartbeats 4000000 in
set_option maxRecDepth 100000 in
theorem w_X5_mostClashing {X : CX} {T : List Dsc} {R : RM} {c e : Nat} {n1 n2 : Nat} {x1 : Nat} {x2 : Int32} {m : M2} {r : (Int32 × M2)} (hX : XR X 6 n1 n2) (hG : Geo T R c e) (hx1 : cw x1) (hf : F_X5_mostClashing c x1 x2 m = some r) (hk : FnI X cX5_mostClashing RX5 8 T n1 n2 (r.1, mk r.2 R)) : Wp X cX5_mostClashing RX5 8 T (mk m R) n1 n2 0 [(0, .ref 23), (1, .ref x1), (2, .int x2)] [] := by
  unfold F_X5_mostClashing at hf
  refine Wp.aload_n (pc := 0) 0 rfl rfl dX5_mostClashing_0 ?_
  refine Wp.getR2 (pc := 1) (hG.r 23 4 rfl) (hG.t 23 rfl) fk_RX5_23 rfl dX5_mostClashing_1 ?_
  refine Wp.iconst (pc := 4) (0 : Int32) (by decide) dX5_mostClashing_4 ?_
  obtain ⟨c1, h2, hf⟩ := bnd hf
  refine Wp.callSv (pc := 5) (st := []) (as := [.ref 27, .int (0 : Int32)]) (c_J7_fill_53178 hG (hG.a 27 0 rfl) h2) ml_RX5_105 ms_J7_fill_53178 mb_J7_fill_53178 hX (Nat.le_of_ble_eq_true rfl) (by decide) rfl (by simp) dX5_mostClashing_5 rfl ?_
  refine Wp.aload_n (pc := 8) 1 rfl rfl dX5_mostClashing_8 ?_
  refine Wp.getJ2 (pc := 9) (hG.wt hx1) fk_RX5_111 rfl dX5_mostClashing_9 ?_
  obtain ⟨v3, h4, hf⟩ := bnd hf
  refine Wp.nJ' h4 ?_
  refine Wp.lstore_n (pc := 12) (lo' := [(0, .ref 23), (1, .ref x1), (2, .int x2), (3, .long v3)]) [1, 2, 3, 0] rfl (by decide) rfl dX5_mostClashing_12 ?_
  refine Wp.iconst (pc := 13) (0 : Int32) (by decide) dX5_mostClashing_13 ?_
  refine Wp.istore (pc := 14) (lo' := [(0, .ref 23), (1, .ref x1), (2, .int x2), (3, .long v3), (5, .int (0 : Int32))]) [1, 2, 3, 4, 0] rfl (by decide) dX5_mostClashing_14 ?_
  obtain ⟨e5, h6, hf⟩ := bnd hf
  refine wl_X5_mostClashing_16 hX hG hx1 h6 ?_
  refine Wp.iconst (pc := 101) (0 : Int32) (by decide) dX5_mostClashing_101 ?_
  refine Wp.istore (pc := 102) (lo' := [(0, .ref 23), (5, .int (0 : Int32))]) [1, 0] rfl (by decide) dX5_mostClashing_102 ?_
  refine Wp.iconst (pc := 104) (1 : Int32) (by decide) dX5_mostClashing_104 ?_
  refine Wp.istore (pc := 105) (lo' := [(0, .ref 23), (5, .int (0 : Int32)), (6, .int (1 : Int32))]) [1, 2, 0] rfl (by decide) dX5_mostClashing_105 ?_
  obtain ⟨e7, h8, hf⟩ := bnd hf
  refine wl_X5_mostClashing_107 hX hG h8 ?_
  refine Wp.iload (pc := 146) 0 rfl dX5_mostClashing_146 ?_
  refine Wp.if_ne (pc := 148) 156 dX5_mostClashing_148 (by decide) (fun hc9 => ?_) (fun hc9 => ?_)
  · rw [if_neg hc9] at hf
    refine Wp.iload (pc := 156) 0 rfl dX5_mostClashing_156 ?_
    refine Wp.lo' (lo' := []) [] rfl ?_
    exact w_X5_mostClashing_158 hX hG hf hk
  · rw [if_pos hc9] at hf
    refine Wp.bipush (pc := 151) (-2 : Int32) (by decide) dX5_mostClashing_151 ?_
    refine Wp.goto (pc := 153) 158 dX5_mostClashing_153 (by decide) ?_
    refine Wp.lo' (lo' := []) [] rfl ?_
    exact w_X5_mostClashing_158 hX hG hf hk
theorem c_X5_mostClashing {T : List Dsc} {R : RM} {c e : Nat} {x1 : Nat} {x2 : Int32} {m : M2} {r : (Int32 × M2)} (hG : Geo T R c e) (hx1 : cw x1) (hf : F_X5_mostClashing c x1 x2 m = some r) : Ct 6 yX5_mostClashing cX5_mostClashing 8 (some .int) T (mk m R) [.ref 23, .ref x1, .int x2] (some (.int r.1)) (mk r.2 R) := Ct.ofI (r := (r.1, mk r.2 R)) (by decide +kernel) (Nat.le_of_ble_eq_true rfl) (fun X hX hk => w_X5_mostClashing hX hG hx1 hf hk)
theorem dX6_isAim_0 : decode cX6_isAim 0 = .ok (.iload_n 0, 1) := by decide +kernel
theorem dX6_isAim_1 : decode cX6_isAim 1 = .ok (.ifCond .lt 23, 3) := by decide +kernel
theorem dX6_isAim_4 : decode cX6_isAim 4 = .ok (.iload_n 0, 1) := by decide +kernel
theorem dX6_isAim_5 : decode cX6_isAim 5 = .ok (.iconst 2, 1) := by decide +kernel
theorem dX6_isAim_6 : decode cX6_isAim 6 = .ok (.if_icmp .gt 18, 3) := by decide +kernel
theorem dX6_isAim_9 : decode cX6_isAim 9 = .ok (.iload_n 1, 1) := by decide +kernel
theorem dX6_isAim_10 : decode cX6_isAim 10 = .ok (.iconst 1, 1) := by decide +kernel
theorem dX6_isAim_11 : decode cX6_isAim 11 = .ok (.if_icmp .lt 13, 3) := by decide +kernel
theorem dX6_isAim_14 : decode cX6_isAim 14 = .ok (.iload_n 1, 1) := by decide +kernel
theorem dX6_isAim_15 : decode cX6_isAim 15 = .ok (.bipush 30, 2) := by decide +kernel
theorem dX6_isAim_17 : decode cX6_isAim 17 = .ok (.if_icmp .gt 7, 3) := by decide +kernel
theorem dX6_isAim_20 : decode cX6_isAim 20 = .ok (.iconst 1, 1) := by decide +kernel
theorem dX6_isAim_21 : decode cX6_isAim 21 = .ok (.goto 4, 3) := by decide +kernel
theorem dX6_isAim_24 : decode cX6_isAim 24 = .ok (.iconst 0, 1) := by decide +kernel
theorem dX6_isAim_25 : decode cX6_isAim 25 = .ok (.ireturn, 1) := by decide +kernel
set_option maxHeartbeats 4000000 in
set_option maxRecDepth 100000 in
theorem w_X6_isAim_25 {X : CX} {T : List Dsc} {R : RM} {c e : Nat} {n1 n2 : Nat} {s0 : Int32} {m : M2} {r : (Int32 × M2)} (hX : XR X 1 n1 n2) (hG : Geo T R c e) (hf : f_X6_isAim_25 s0 m = some r) (hk : FnZ X cX6_isAim RX6 2 T n1 n2 (r.1, mk r.2 R)) : Wp X cX6_isAim RX6 2 T (mk m R) n1 n2 25 [] [.int s0] := by
  unfold f_X6_isAim_25 at hf
  obtain ⟨v1, h2, hf⟩ := bnd hf
  refine Wp.zb' h2 (fun h2 => ?_)
  cases hf
  exact hk _ _ h2 dX6_isAim_25
set_option maxHeartbeats 4000000 in
set_option maxRecDepth 100000 in
theorem w_X6_isAim_24 {X : CX} {T : List Dsc} {R : RM} {c e : Nat} {n1 n2 : Nat} {m : M2} {r : (Int32 × M2)} (hX : XR X 1 n1 n2) (hG : Geo T R c e) (hf : f_X6_isAim_24 m = some r) (hk : FnZ X cX6_isAim RX6 2 T n1 n2 (r.1, mk r.2 R)) : Wp X cX6_isAim RX6 2 T (mk m R) n1 n2 24 [] [] := by
  unfold f_X6_isAim_24 at hf
  refine Wp.iconst (pc := 24) (0 : Int32) (by decide) dX6_isAim_24 ?_
  exact w_X6_isAim_25 hX hG hf hk
set_option maxHeartbeats 4000000 in
set_option maxRecDepth 100000 in
theorem w_X6_isAim {X : CX} {T : List Dsc} {R : RM} {c e : Nat} {n1 n2 : Nat} {x0 : Int32} {x1 : Int32} {m : M2} {r : (Int32 × M2)} (hX : XR X 1 n1 n2) (hG : Geo T R c e) (hf : F_X6_isAim x0 x1 m = some r) (hk : FnZ X cX6_isAim RX6 2 T n1 n2 (r.1, mk r.2 R)) : Wp X cX6_isAim RX6 2 T (mk m R) n1 n2 0 [(0, .int x0), (1, .int x1)] [] := by
  unfold F_X6_isAim at hf
  refine Wp.iload_n (pc := 0) 0 rfl rfl dX6_isAim_0 ?_
  refine Wp.if_lt (pc := 1) 24 dX6_isAim_1 (by decide) (fun hc1 => ?_) (fun hc1 => ?_)
  · rw [if_pos hc1] at hf
    refine Wp.lo' (lo' := []) [] rfl ?_
    exact w_X6_isAim_24 hX hG hf hk
  · rw [if_neg hc1] at hf
    refine Wp.iload_n (pc := 4) 0 rfl rfl dX6_isAim_4 ?_
    refine Wp.iconst (pc := 5) (2 : Int32) (by decide) dX6_isAim_5 ?_
    refine Wp.icmp_gt (pc := 6) 24 dX6_isAim_6 (by decide) (fun hc2 => ?_) (fun hc2 => ?_)
    · rw [if_pos hc2] at hf
      refine Wp.lo' (lo' := []) [] rfl ?_
      exact w_X6_isAim_24 hX hG hf hk
    · rw [if_neg hc2] at hf
      refine Wp.iload_n (pc := 9) 1 rfl rfl dX6_isAim_9 ?_
      refine Wp.iconst (pc := 10) (1 : Int32) (by decide) dX6_isAim_10 ?_
      refine Wp.icmp_lt (pc := 11) 24 dX6_isAim_11 (by decide) (fun hc3 => ?_) (fun hc3 => ?_)
      · rw [if_pos hc3] at hf
        refine Wp.lo' (lo' := []) [] rfl ?_
        exact w_X6_isAim_24 hX hG hf hk
      · rw [if_neg hc3] at hf
        refine Wp.iload_n (pc := 14) 1 rfl rfl dX6_isAim_14 ?_
        refine Wp.bipush (pc := 15) (30 : Int32) (by decide) dX6_isAim_15 ?_
        refine Wp.icmp_gt (pc := 17) 24 dX6_isAim_17 (by decide) (fun hc4 => ?_) (fun hc4 => ?_)
        · rw [if_pos hc4] at hf
          refine Wp.lo' (lo' := []) [] rfl ?_
          exact w_X6_isAim_24 hX hG hf hk
        · rw [if_neg hc4] at hf
          refine Wp.iconst (pc := 20) (1 : Int32) (by decide) dX6_isAim_20 ?_
          refine Wp.goto (pc := 21) 25 dX6_isAim_21 (by decide) ?_
          refine Wp.lo' (lo' := []) [] rfl ?_
          exact w_X6_isAim_25 hX hG hf hk
theorem c_X6_isAim {T : List Dsc} {R : RM} {c e : Nat} {x0 : Int32} {x1 : Int32} {m : M2} {r : (Int32 × M2)} (hG : Geo T R c e) (hf : F_X6_isAim x0 x1 m = some r) : Ct 1 yX6_isAim cX6_isAim 2 (some .boolean) T (mk m R) [.int x0, .int x1] (some (.int r.1)) (mk r.2 R) := Ct.ofZ (r := (r.1, mk r.2 R)) (by decide +kernel) (Nat.le_of_ble_eq_true rfl) (fun X hX hk => w_X6_isAim hX hG hf hk)
theorem dX6_sitAsNow_0 : decode cX6_sitAsNow 0 = .ok (.iconst 0, 1) := by decide +kernel
theorem dX6_sitAsNow_1 : decode cX6_sitAsNow 1 = .ok (.istore_n 1, 1) := by decide +kernel
theorem dX6_sitAsNow_2 : decode cX6_sitAsNow 2 = .ok (.iload_n 1, 1) := by decide +kernel
theorem dX6_sitAsNow_3 : decode cX6_sitAsNow 3 = .ok (.bipush 12, 2) := by decide +kernel
theorem dX6_sitAsNow_5 : decode cX6_sitAsNow 5 = .ok (.if_icmp .ge 16, 3) := by decide +kernel
theorem dX6_sitAsNow_8 : decode cX6_sitAsNow 8 = .ok (.aload_n 0, 1) := by decide +kernel
theorem dX6_sitAsNow_9 : decode cX6_sitAsNow 9 = .ok (.getfield 9, 3) := by decide +kernel
theorem dX6_sitAsNow_12 : decode cX6_sitAsNow 12 = .ok (.iload_n 1, 1) := by decide +kernel
theorem dX6_sitAsNow_13 : decode cX6_sitAsNow 13 = .ok (.iload_n 1, 1) := by decide +kernel
theorem dX6_sitAsNow_14 : decode cX6_sitAsNow 14 = .ok (.iastore, 1) := by decide +kernel
theorem dX6_sitAsNow_15 : decode cX6_sitAsNow 15 = .ok (.iinc 1 1, 3) := by decide +kernel
theorem dX6_sitAsNow_18 : decode cX6_sitAsNow 18 = .ok (.goto (-16), 3) := by decide +kernel
theorem dX6_sitAsNow_21 : decode cX6_sitAsNow 21 = .ok (.return_, 1) := by decide +kernel
def k_X6_sitAsNow_2 (X : CX) (T : List Dsc) (R : RM) (n1 n2 : Nat) (r : ((Int32 × M2) ⊕ ((M2)))) : Prop := match r with
  | .inl s => Wp X cX6_sitAsNow RX6 2 T (mk s.2 R) n1 n2 2 [(0, .ref 34), (1, .int s.1)] []
  | .inr e => Wp X cX6_sitAsNow RX6 2 T (mk e R) n1 n2 21 [] []
set_option maxHeartbeats 4000000 in
set_option maxRecDepth 100000 in
theorem w_X6_sitAsNow_2 {X : CX} {T : List Dsc} {R : RM} {c e : Nat} {n1 n2 : Nat} {x1 : Int32} {m : M2} {r : ((Int32 × M2) ⊕ ((M2)))} (hX : XR X 1 n1 n2) (hG : Geo T R c e) (hf : f_X6_sitAsNow_2 c x1 m = some r) (hk : k_X6_sitAsNow_2 X T R n1 n2 r) : Wp X cX6_sitAsNow RX6 2 T (mk m R) n1 n2 2 [(0, .ref 34), (1, .int x1)] [] := by
  unfold f_X6_sitAsNow_2 at hf
  refine Wp.iload_n (pc := 2) 1 rfl rfl dX6_sitAsNow_2 ?_
  refine Wp.bipush (pc := 3) (12 : Int32) (by decide) dX6_sitAsNow_3 ?_
  refine Wp.icmp_ge (pc := 5) 21 dX6_sitAsNow_5 (by decide) (fun hc1 => ?_) (fun hc1 => ?_)
  · rw [if_pos hc1] at hf
    refine Wp.lo' (lo' := []) [] rfl ?_
    cases hf
    exact hk
  · rw [if_neg hc1] at hf
    refine Wp.aload_n (pc := 8) 0 rfl rfl dX6_sitAsNow_8 ?_
    refine Wp.getR2 (pc := 9) (hG.r 34 1 rfl) (hG.t 34 rfl) fk_RX6_9 rfl dX6_sitAsNow_9 ?_
    refine Wp.iload_n (pc := 12) 1 rfl rfl dX6_sitAsNow_12 ?_
    refine Wp.iload_n (pc := 13) 1 rfl rfl dX6_sitAsNow_13 ?_
    obtain ⟨m2, h3, hf⟩ := bnd hf
    refine Wp.iast2 (pc := 14) h3 (hG.a 35 0 rfl) dX6_sitAsNow_14 ?_
    obtain ⟨v4, h5, hf⟩ := bnd hf
    refine Wp.iincN (pc := 15) (lo' := [(0, .ref 34), (1, .int v4)]) (1 : Int32) (by decide) h5 1 rfl [1, 0] rfl (by decide) dX6_sitAsNow_15 ?_
    refine Wp.goto (pc := 18) 2 dX6_sitAsNow_18 (by decide) ?_
    cases hf
    exact hk
theorem wl_X6_sitAsNow_2 {X : CX} {T : List Dsc} {R : RM} {c e : Nat} {n1 n2 : Nat} {x1 : Int32} {m : M2} {e1 : ((M2))} (hX : XR X 1 n1 n2) (hG : Geo T R c e) (h : loop (g_X6_sitAsNow_2 c) (x1, m) = some e1) (he : Wp X cX6_sitAsNow RX6 2 T (mk e1 R) n1 n2 21 [] []) : Wp X cX6_sitAsNow RX6 2 T (mk m R) n1 n2 2 [(0, .ref 34), (1, .int x1)] [] :=
  loop_ok (K := k_X6_sitAsNow_2 X T R n1 n2) (fun s r hf hk => w_X6_sitAsNow_2 hX hG hf hk) h he
set_option maxHeartbeats 4000000 in
set_option maxRecDepth 100000 in
theorem w_X6_sitAsNow {X : CX} {T : List Dsc} {R : RM} {c e : Nat} {n1 n2 : Nat} {m : M2} {r : M2} (hX : XR X 1 n1 n2) (hG : Geo T R c e) (hf : F_X6_sitAsNow c m = some r) (hk : FnV X cX6_sitAsNow RX6 2 T n1 n2 (mk r R)) : Wp X cX6_sitAsNow RX6 2 T (mk m R) n1 n2 0 [(0, .ref 34)] [] := by
  unfold F_X6_sitAsNow at hf
  refine Wp.iconst (pc := 0) (0 : Int32) (by decide) dX6_sitAsNow_0 ?_
  refine Wp.istore_n (pc := 1) (lo' := [(0, .ref 34), (1, .int (0 : Int32))]) [1, 0] rfl (by decide) rfl dX6_sitAsNow_1 ?_
  obtain ⟨e1, h2, hf⟩ := bnd hf
  refine wl_X6_sitAsNow_2 hX hG h2 ?_
  cases hf
  exact hk _ _ dX6_sitAsNow_21
theorem c_X6_sitAsNow {T : List Dsc} {R : RM} {c e : Nat} {m : M2} {r : M2} (hG : Geo T R c e) (hf : F_X6_sitAsNow c m = some r) : Ct 1 yX6_sitAsNow cX6_sitAsNow 2 none T (mk m R) [.ref 34] none (mk r R) := Ct.ofV (r := mk r R) (by decide +kernel) (Nat.le_of_ble_eq_true rfl) (fun X hX hk => w_X6_sitAsNow hX hG hf hk)
theorem dJ6_bitCount_0f7a4_0 : decode cJ6_bitCount_0f7a4 0 = .ok (.iload_n 0, 1) := by decide +kernel
theorem dJ6_bitCount_0f7a4_1 : decode cJ6_bitCount_0f7a4 1 = .ok (.iload_n 0, 1) := by decide +kernel
theorem dJ6_bitCount_0f7a4_2 : decode cJ6_bitCount_0f7a4 2 = .ok (.iconst 1, 1) := by decide +kernel
theorem dJ6_bitCount_0f7a4_3 : decode cJ6_bitCount_0f7a4 3 = .ok (.iushr, 1) := by decide +kernel
theorem dJ6_bitCount_0f7a4_4 : decode cJ6_bitCount_0f7a4 4 = .ok (.ldc_w 265, 3) := by decide +kernel
theorem dJ6_bitCount_0f7a4_7 : decode cJ6_bitCount_0f7a4 7 = .ok (.iand, 1) := by decide +kernel
theorem dJ6_bitCount_0f7a4_8 : decode cJ6_bitCount_0f7a4 8 = .ok (.isub, 1) := by decide +kernel
theorem dJ6_bitCount_0f7a4_9 : decode cJ6_bitCount_0f7a4 9 = .ok (.istore_n 0, 1) := by decide +kernel
theorem dJ6_bitCount_0f7a4_10 : decode cJ6_bitCount_0f7a4 10 = .ok (.iload_n 0, 1) := by decide +kernel
theorem dJ6_bitCount_0f7a4_11 : decode cJ6_bitCount_0f7a4 11 = .ok (.ldc_w 266, 3) := by decide +kernel
theorem dJ6_bitCount_0f7a4_14 : decode cJ6_bitCount_0f7a4 14 = .ok (.iand, 1) := by decide +kernel
theorem dJ6_bitCount_0f7a4_15 : decode cJ6_bitCount_0f7a4 15 = .ok (.iload_n 0, 1) := by decide +kernel
theorem dJ6_bitCount_0f7a4_16 : decode cJ6_bitCount_0f7a4 16 = .ok (.iconst 2, 1) := by decide +kernel
theorem dJ6_bitCount_0f7a4_17 : decode cJ6_bitCount_0f7a4 17 = .ok (.iushr, 1) := by decide +kernel
theorem dJ6_bitCount_0f7a4_18 : decode cJ6_bitCount_0f7a4 18 = .ok (.ldc_w 266, 3) := by decide +kernel
theorem dJ6_bitCount_0f7a4_21 : decode cJ6_bitCount_0f7a4 21 = .ok (.iand, 1) := by decide +kernel
theorem dJ6_bitCount_0f7a4_22 : decode cJ6_bitCount_0f7a4 22 = .ok (.iadd, 1) := by decide +kernel
theorem dJ6_bitCount_0f7a4_23 : decode cJ6_bitCount_0f7a4 23 = .ok (.istore_n 0, 1) := by decide +kernel
theorem dJ6_bitCount_0f7a4_24 : decode cJ6_bitCount_0f7a4 24 = .ok (.iload_n 0, 1) := by decide +kernel
theorem dJ6_bitCount_0f7a4_25 : decode cJ6_bitCount_0f7a4 25 = .ok (.iload_n 0, 1) := by decide +kernel
theorem dJ6_bitCount_0f7a4_26 : decode cJ6_bitCount_0f7a4 26 = .ok (.iconst 4, 1) := by decide +kernel
theorem dJ6_bitCount_0f7a4_27 : decode cJ6_bitCount_0f7a4 27 = .ok (.iushr, 1) := by decide +kernel
theorem dJ6_bitCount_0f7a4_28 : decode cJ6_bitCount_0f7a4 28 = .ok (.iadd, 1) := by decide +kernel
theorem dJ6_bitCount_0f7a4_29 : decode cJ6_bitCount_0f7a4 29 = .ok (.ldc_w 267, 3) := by decide +kernel
theorem dJ6_bitCount_0f7a4_32 : decode cJ6_bitCount_0f7a4 32 = .ok (.iand, 1) := by decide +kernel
theorem dJ6_bitCount_0f7a4_33 : decode cJ6_bitCount_0f7a4 33 = .ok (.istore_n 0, 1) := by decide +kernel
theorem dJ6_bitCount_0f7a4_34 : decode cJ6_bitCount_0f7a4 34 = .ok (.iload_n 0, 1) := by decide +kernel
theorem dJ6_bitCount_0f7a4_35 : decode cJ6_bitCount_0f7a4 35 = .ok (.iload_n 0, 1) := by decide +kernel
theorem dJ6_bitCount_0f7a4_36 : decode cJ6_bitCount_0f7a4 36 = .ok (.bipush 8, 2) := by decide +kernel
theorem dJ6_bitCount_0f7a4_38 : decode cJ6_bitCount_0f7a4 38 = .ok (.iushr, 1) := by decide +kernel
theorem dJ6_bitCount_0f7a4_39 : decode cJ6_bitCount_0f7a4 39 = .ok (.iadd, 1) := by decide +kernel
theorem dJ6_bitCount_0f7a4_40 : decode cJ6_bitCount_0f7a4 40 = .ok (.istore_n 0, 1) := by decide +kernel
theorem dJ6_bitCount_0f7a4_41 : decode cJ6_bitCount_0f7a4 41 = .ok (.iload_n 0, 1) := by decide +kernel
theorem dJ6_bitCount_0f7a4_42 : decode cJ6_bitCount_0f7a4 42 = .ok (.iload_n 0, 1) := by decide +kernel
theorem dJ6_bitCount_0f7a4_43 : decode cJ6_bitCount_0f7a4 43 = .ok (.bipush 16, 2) := by decide +kernel
theorem dJ6_bitCount_0f7a4_45 : decode cJ6_bitCount_0f7a4 45 = .ok (.iushr, 1) := by decide +kernel
theorem dJ6_bitCount_0f7a4_46 : decode cJ6_bitCount_0f7a4 46 = .ok (.iadd, 1) := by decide +kernel
theorem dJ6_bitCount_0f7a4_47 : decode cJ6_bitCount_0f7a4 47 = .ok (.istore_n 0, 1) := by decide +kernel
theorem dJ6_bitCount_0f7a4_48 : decode cJ6_bitCount_0f7a4 48 = .ok (.iload_n 0, 1) := by decide +kernel
theorem dJ6_bitCount_0f7a4_49 : decode cJ6_bitCount_0f7a4 49 = .ok (.bipush 63, 2) := by decide +kernel
theorem dJ6_bitCount_0f7a4_51 : decode cJ6_bitCount_0f7a4 51 = .ok (.iand, 1) := by decide +kernel
theorem dJ6_bitCount_0f7a4_52 : decode cJ6_bitCount_0f7a4 52 = .ok (.ireturn, 1) := by decide +kernel
set_option maxHeartbeats 4000000 in
set_option maxRecDepth 100000 in
theorem w_J6_bitCount_0f7a4 {X : CX} {T : List Dsc} {R : RM} {c e : Nat} {n1 n2 : Nat} {x0 : Int32} {m : M2} {r : (Int32 × M2)} (hX : XR X 1 n1 n2) (hG : Geo T R c e) (hf : F_J6_bitCount_0f7a4 x0 m = some r) (hk : FnI X cJ6_bitCount_0f7a4 RJ6 1 T n1 n2 (r.1, mk r.2 R)) : Wp X cJ6_bitCount_0f7a4 RJ6 1 T (mk m R) n1 n2 0 [(0, .int x0)] [] := by
  unfold F_J6_bitCount_0f7a4 at hf
  refine Wp.iload_n (pc := 0) 0 rfl rfl dJ6_bitCount_0f7a4_0 ?_
  refine Wp.iload_n (pc := 1) 0 rfl rfl dJ6_bitCount_0f7a4_1 ?_
  refine Wp.iconst (pc := 2) (1 : Int32) (by decide) dJ6_bitCount_0f7a4_2 ?_
  refine Wp.iushr (pc := 3) dJ6_bitCount_0f7a4_3 ?_
  refine Wp.ldcw (pc := 4) (v := (1431655765 : Int32)) (gw_tb 859 (by decide +kernel) rfl) dJ6_bitCount_0f7a4_4 ?_
  refine Wp.iand (pc := 7) dJ6_bitCount_0f7a4_7 ?_
  refine Wp.isub (pc := 8) dJ6_bitCount_0f7a4_8 ?_
  obtain ⟨v1, h2, hf⟩ := bnd hf
  refine Wp.nI' h2 ?_
  refine Wp.istore_n (pc := 9) (lo' := [(0, .int v1)]) [0] rfl (by decide) rfl dJ6_bitCount_0f7a4_9 ?_
  refine Wp.iload_n (pc := 10) 0 rfl rfl dJ6_bitCount_0f7a4_10 ?_
  refine Wp.ldcw (pc := 11) (v := (858993459 : Int32)) (gw_tb 860 (by decide +kernel) rfl) dJ6_bitCount_0f7a4_11 ?_
  refine Wp.iand (pc := 14) dJ6_bitCount_0f7a4_14 ?_
  refine Wp.iload_n (pc := 15) 0 rfl rfl dJ6_bitCount_0f7a4_15 ?_
  refine Wp.iconst (pc := 16) (2 : Int32) (by decide) dJ6_bitCount_0f7a4_16 ?_
  refine Wp.iushr (pc := 17) dJ6_bitCount_0f7a4_17 ?_
  refine Wp.ldcw (pc := 18) (v := (858993459 : Int32)) (gw_tb 860 (by decide +kernel) rfl) dJ6_bitCount_0f7a4_18 ?_
  refine Wp.iand (pc := 21) dJ6_bitCount_0f7a4_21 ?_
  refine Wp.iadd (pc := 22) dJ6_bitCount_0f7a4_22 ?_
  obtain ⟨v3, h4, hf⟩ := bnd hf
  refine Wp.nI' h4 ?_
  refine Wp.istore_n (pc := 23) (lo' := [(0, .int v3)]) [0] rfl (by decide) rfl dJ6_bitCount_0f7a4_23 ?_
  refine Wp.iload_n (pc := 24) 0 rfl rfl dJ6_bitCount_0f7a4_24 ?_
  refine Wp.iload_n (pc := 25) 0 rfl rfl dJ6_bitCount_0f7a4_25 ?_
  refine Wp.iconst (pc := 26) (4 : Int32) (by decide) dJ6_bitCount_0f7a4_26 ?_
  refine Wp.iushr (pc := 27) dJ6_bitCount_0f7a4_27 ?_
  refine Wp.iadd (pc := 28) dJ6_bitCount_0f7a4_28 ?_
  refine Wp.ldcw (pc := 29) (v := (252645135 : Int32)) (gw_tb 861 (by decide +kernel) rfl) dJ6_bitCount_0f7a4_29 ?_
  refine Wp.iand (pc := 32) dJ6_bitCount_0f7a4_32 ?_
  obtain ⟨v5, h6, hf⟩ := bnd hf
  refine Wp.nI' h6 ?_
  refine Wp.istore_n (pc := 33) (lo' := [(0, .int v5)]) [0] rfl (by decide) rfl dJ6_bitCount_0f7a4_33 ?_
  refine Wp.iload_n (pc := 34) 0 rfl rfl dJ6_bitCount_0f7a4_34 ?_
  refine Wp.iload_n (pc := 35) 0 rfl rfl dJ6_bitCount_0f7a4_35 ?_
  refine Wp.bipush (pc := 36) (8 : Int32) (by decide) dJ6_bitCount_0f7a4_36 ?_
  refine Wp.iushr (pc := 38) dJ6_bitCount_0f7a4_38 ?_
  refine Wp.iadd (pc := 39) dJ6_bitCount_0f7a4_39 ?_
  obtain ⟨v7, h8, hf⟩ := bnd hf
  refine Wp.nI' h8 ?_
  refine Wp.istore_n (pc := 40) (lo' := [(0, .int v7)]) [0] rfl (by decide) rfl dJ6_bitCount_0f7a4_40 ?_
  refine Wp.iload_n (pc := 41) 0 rfl rfl dJ6_bitCount_0f7a4_41 ?_
  refine Wp.iload_n (pc := 42) 0 rfl rfl dJ6_bitCount_0f7a4_42 ?_
  refine Wp.bipush (pc := 43) (16 : Int32) (by decide) dJ6_bitCount_0f7a4_43 ?_
  refine Wp.iushr (pc := 45) dJ6_bitCount_0f7a4_45 ?_
  refine Wp.iadd (pc := 46) dJ6_bitCount_0f7a4_46 ?_
  obtain ⟨v9, h10, hf⟩ := bnd hf
  refine Wp.nI' h10 ?_
  refine Wp.istore_n (pc := 47) (lo' := [(0, .int v9)]) [0] rfl (by decide) rfl dJ6_bitCount_0f7a4_47 ?_
  refine Wp.iload_n (pc := 48) 0 rfl rfl dJ6_bitCount_0f7a4_48 ?_
  refine Wp.bipush (pc := 49) (63 : Int32) (by decide) dJ6_bitCount_0f7a4_49 ?_
  refine Wp.iand (pc := 51) dJ6_bitCount_0f7a4_51 ?_
  cases hf
  exact hk _ _ dJ6_bitCount_0f7a4_52
theorem c_J6_bitCount_0f7a4 {T : List Dsc} {R : RM} {c e : Nat} {x0 : Int32} {m : M2} {r : (Int32 × M2)} (hG : Geo T R c e) (hf : F_J6_bitCount_0f7a4 x0 m = some r) : Ct 1 yJ6_bitCount_0f7a4 cJ6_bitCount_0f7a4 1 (some .int) T (mk m R) [.int x0] (some (.int r.1)) (mk r.2 R) := Ct.ofI (r := (r.1, mk r.2 R)) (by decide +kernel) (Nat.le_of_ble_eq_true rfl) (fun X hX hk => w_J6_bitCount_0f7a4 hX hG hf hk)
theorem dX6_costOf_0 : decode cX6_costOf 0 = .ok (.iload_n 1, 1) := by decide +kernel
theorem dX6_costOf_1 : decode cX6_costOf 1 = .ok (.ifCond .ne 5, 3) := by decide +kernel
theorem dX6_costOf_4 : decode cX6_costOf 4 = .ok (.iconst 0, 1) := by decide +kernel
theorem dX6_costOf_5 : decode cX6_costOf 5 = .ok (.ireturn, 1) := by decide +kernel
theorem dX6_costOf_6 : decode cX6_costOf 6 = .ok (.iload_n 1, 1) := by decide +kernel
theorem dX6_costOf_7 : decode cX6_costOf 7 = .ok (.iconst 1, 1) := by decide +kernel
theorem dX6_costOf_8 : decode cX6_costOf 8 = .ok (.if_icmp .ne 17, 3) := by decide +kernel
theorem dX6_costOf_11 : decode cX6_costOf 11 = .ok (.aload_n 0, 1) := by decide +kernel
theorem dX6_costOf_12 : decode cX6_costOf 12 = .ok (.getfield 21, 3) := by decide +kernel
theorem dX6_costOf_15 : decode cX6_costOf 15 = .ok (.lload_n 2, 1) := by decide +kernel
theorem dX6_costOf_16 : decode cX6_costOf 16 = .ok (.invokevirtual 84, 3) := by decide +kernel
theorem dX6_costOf_19 : decode cX6_costOf 19 = .ok (.invokestatic 88, 3) := by decide +kernel
theorem dX6_costOf_22 : decode cX6_costOf 22 = .ok (.goto 12, 3) := by decide +kernel
theorem dX6_costOf_25 : decode cX6_costOf 25 = .ok (.aload_n 0, 1) := by decide +kernel
theorem dX6_costOf_26 : decode cX6_costOf 26 = .ok (.getfield 21, 3) := by decide +kernel
theorem dX6_costOf_29 : decode cX6_costOf 29 = .ok (.lload_n 2, 1) := by decide +kernel
theorem dX6_costOf_30 : decode cX6_costOf 30 = .ok (.invokevirtual 94, 3) := by decide +kernel
theorem dX6_costOf_33 : decode cX6_costOf 33 = .ok (.ineg, 1) := by decide +kernel
theorem dX6_costOf_34 : decode cX6_costOf 34 = .ok (.ireturn, 1) := by decide +kernel
set_option maxHeartbeats 4000000 in
set_option maxRecDepth 100000 in
theorem w_X6_costOf_34 {X : CX} {T : List Dsc} {R : RM} {c e : Nat} {n1 n2 : Nat} {s0 : Int32} {m : M2} {r : (Int32 × M2)} (hX : XR X 4 n1 n2) (hG : Geo T R c e) (hf : f_X6_costOf_34 c s0 m = some r) (hk : FnI X cX6_costOf RX6 4 T n1 n2 (r.1, mk r.2 R)) : Wp X cX6_costOf RX6 4 T (mk m R) n1 n2 34 [] [.int s0] := by
  unfold f_X6_costOf_34 at hf
  cases hf
  exact hk _ _ dX6_costOf_34
set_option maxHeartbeats 4000000 in
set_option maxRecDepth 100000 in
theorem w_X6_costOf {X : CX} {T : List Dsc} {R : RM} {c e : Nat} {n1 n2 : Nat} {x1 : Int32} {x2 : Int64} {m : M2} {r : (Int32 × M2)} (hX : XR X 4 n1 n2) (hG : Geo T R c e) (hf : F_X6_costOf c x1 x2 m = some r) (hk : FnI X cX6_costOf RX6 4 T n1 n2 (r.1, mk r.2 R)) : Wp X cX6_costOf RX6 4 T (mk m R) n1 n2 0 [(0, .ref 34), (1, .int x1), (2, .long x2)] [] := by
  unfold F_X6_costOf at hf
  refine Wp.iload_n (pc := 0) 1 rfl rfl dX6_costOf_0 ?_
  refine Wp.if_ne (pc := 1) 6 dX6_costOf_1 (by decide) (fun hc1 => ?_) (fun hc1 => ?_)
  · rw [if_neg hc1] at hf
    refine Wp.iload_n (pc := 6) 1 rfl rfl dX6_costOf_6 ?_
    refine Wp.iconst (pc := 7) (1 : Int32) (by decide) dX6_costOf_7 ?_
    refine Wp.icmp_ne (pc := 8) 25 dX6_costOf_8 (by decide) (fun hc2 => ?_) (fun hc2 => ?_)
    · rw [if_neg hc2] at hf
      refine Wp.aload_n (pc := 25) 0 rfl rfl dX6_costOf_25 ?_
      refine Wp.getR2 (pc := 26) (hG.r 34 0 rfl) (hG.t 34 rfl) fk_RX6_21 rfl dX6_costOf_26 ?_
      refine Wp.lload_n (pc := 29) 2 rfl rfl dX6_costOf_29 ?_
      obtain ⟨c3, h4, hf⟩ := bnd hf
      refine Wp.callVi (pc := 30) (st := []) (as := [.long x2]) (c_X5_wayOf hG h4) ml_RX6_94 mv_X5_wayOf mb_X5_wayOf hX (Nat.le_of_ble_eq_true rfl) (by decide) rfl (hG.t 23 rfl) rfl (by simp) dX6_costOf_30 rfl ?_
      refine Wp.ineg (pc := 33) dX6_costOf_33 ?_
      refine Wp.lo' (lo' := []) [] rfl ?_
      exact w_X6_costOf_34 hX hG hf hk
    · rw [if_pos hc2] at hf
      refine Wp.aload_n (pc := 11) 0 rfl rfl dX6_costOf_11 ?_
      refine Wp.getR2 (pc := 12) (hG.r 34 0 rfl) (hG.t 34 rfl) fk_RX6_21 rfl dX6_costOf_12 ?_
      refine Wp.lload_n (pc := 15) 2 rfl rfl dX6_costOf_15 ?_
      obtain ⟨c5, h6, hf⟩ := bnd hf
      refine Wp.callVi (pc := 16) (st := []) (as := [.long x2]) (c_X5_clashBits hG h6) ml_RX6_84 mv_X5_clashBits mb_X5_clashBits hX (Nat.le_of_ble_eq_true rfl) (by decide) rfl (hG.t 23 rfl) rfl (by simp) dX6_costOf_16 rfl ?_
      obtain ⟨c7, h8, hf⟩ := bnd hf
      refine Wp.callSi (pc := 19) (st := []) (as := [.int c5.1]) (c_J6_bitCount_0f7a4 hG h8) ml_RX6_88 ms_J6_bitCount_0f7a4 mb_J6_bitCount_0f7a4 hX (Nat.le_of_ble_eq_true rfl) (by decide) rfl (by simp) dX6_costOf_19 rfl ?_
      refine Wp.goto (pc := 22) 34 dX6_costOf_22 (by decide) ?_
      refine Wp.lo' (lo' := []) [] rfl ?_
      exact w_X6_costOf_34 hX hG hf hk
  · rw [if_pos hc1] at hf
    refine Wp.iconst (pc := 4) (0 : Int32) (by decide) dX6_costOf_4 ?_
    cases hf
    exact hk _ _ dX6_costOf_5
theorem c_X6_costOf {T : List Dsc} {R : RM} {c e : Nat} {x1 : Int32} {x2 : Int64} {m : M2} {r : (Int32 × M2)} (hG : Geo T R c e) (hf : F_X6_costOf c x1 x2 m = some r) : Ct 4 yX6_costOf cX6_costOf 4 (some .int) T (mk m R) [.ref 34, .int x1, .long x2] (some (.int r.1)) (mk r.2 R) := Ct.ofI (r := (r.1, mk r.2 R)) (by decide +kernel) (Nat.le_of_ble_eq_true rfl) (fun X hX hk => w_X6_costOf hX hG hf hk)
theorem dX6_cost_0 : decode cX6_cost 0 = .ok (.lconst 0, 1) := by decide +kernel
theorem dX6_cost_1 : decode cX6_cost 1 = .ok (.lstore 4, 2) := by decide +kernel
theorem dX6_cost_3 : decode cX6_cost 3 = .ok (.iconst 0, 1) := by decide +kernel
theorem dX6_cost_4 : decode cX6_cost 4 = .ok (.istore 6, 2) := by decide +kernel
theorem dX6_cost_6 : decode cX6_cost 6 = .ok (.iload 6, 2) := by decide +kernel
theorem dX6_cost_8 : decode cX6_cost 8 = .ok (.aload_n 0, 1) := by decide +kernel
theorem dX6_cost_9 : decode cX6_cost 9 = .ok (.getfield 21, 3) := by decide +kernel
theorem dX6_cost_12 : decode cX6_cost 12 = .ok (.getfield 25, 3) := by decide +kernel
theorem dX6_cost_15 : decode cX6_cost 15 = .ok (.getfield 31, 3) := by decide +kernel
theorem dX6_cost_18 : decode cX6_cost 18 = .ok (.if_icmp .ge 51, 3) := by decide +kernel
theorem dX6_cost_21 : decode cX6_cost 21 = .ok (.lload 4, 2) := by decide +kernel
theorem dX6_cost_23 : decode cX6_cost 23 = .ok (.iload 6, 2) := by decide +kernel
theorem dX6_cost_25 : decode cX6_cost 25 = .ok (.aload_n 1, 1) := by decide +kernel
theorem dX6_cost_26 : decode cX6_cost 26 = .ok (.getfield 58, 3) := by decide +kernel
theorem dX6_cost_29 : decode cX6_cost 29 = .ok (.aload_n 0, 1) := by decide +kernel
theorem dX6_cost_30 : decode cX6_cost 30 = .ok (.getfield 9, 3) := by decide +kernel
theorem dX6_cost_33 : decode cX6_cost 33 = .ok (.iload 6, 2) := by decide +kernel
theorem dX6_cost_35 : decode cX6_cost 35 = .ok (.iaload, 1) := by decide +kernel
theorem dX6_cost_36 : decode cX6_cost 36 = .ok (.invokestatic 64, 3) := by decide +kernel
theorem dX6_cost_39 : decode cX6_cost 39 = .ok (.invokestatic 68, 3) := by decide +kernel
theorem dX6_cost_42 : decode cX6_cost 42 = .ok (.lstore 4, 2) := by decide +kernel
theorem dX6_cost_44 : decode cX6_cost 44 = .ok (.aload_n 0, 1) := by decide +kernel
theorem dX6_cost_45 : decode cX6_cost 45 = .ok (.getfield 18, 3) := by decide +kernel
theorem dX6_cost_48 : decode cX6_cost 48 = .ok (.iload 6, 2) := by decide +kernel
theorem dX6_cost_50 : decode cX6_cost 50 = .ok (.aload_n 1, 1) := by decide +kernel
theorem dX6_cost_51 : decode cX6_cost 51 = .ok (.getfield 72, 3) := by decide +kernel
theorem dX6_cost_54 : decode cX6_cost 54 = .ok (.aload_n 0, 1) := by decide +kernel
theorem dX6_cost_55 : decode cX6_cost 55 = .ok (.getfield 9, 3) := by decide +kernel
theorem dX6_cost_58 : decode cX6_cost 58 = .ok (.iload 6, 2) := by decide +kernel
theorem dX6_cost_60 : decode cX6_cost 60 = .ok (.iaload, 1) := by decide +kernel
theorem dX6_cost_61 : decode cX6_cost 61 = .ok (.iaload, 1) := by decide +kernel
theorem dX6_cost_62 : decode cX6_cost 62 = .ok (.iastore, 1) := by decide +kernel
theorem dX6_cost_63 : decode cX6_cost 63 = .ok (.iinc 6 1, 3) := by decide +kernel
theorem dX6_cost_66 : decode cX6_cost 66 = .ok (.goto (-60), 3) := by decide +kernel
theorem dX6_cost_69 : decode cX6_cost 69 = .ok (.iconst 0, 1) := by decide +kernel
theorem dX6_cost_70 : decode cX6_cost 70 = .ok (.istore 6, 2) := by decide +kernel
theorem dX6_cost_72 : decode cX6_cost 72 = .ok (.iconst 0, 1) := by decide +kernel
theorem dX6_cost_73 : decode cX6_cost 73 = .ok (.istore 7, 2) := by decide +kernel
theorem dX6_cost_75 : decode cX6_cost 75 = .ok (.iload 7, 2) := by decide +kernel
theorem dX6_cost_77 : decode cX6_cost 77 = .ok (.iload_n 3, 1) := by decide +kernel
theorem dX6_cost_78 : decode cX6_cost 78 = .ok (.if_icmp .gt 83, 3) := by decide +kernel
theorem dX6_cost_81 : decode cX6_cost 81 = .ok (.aload_n 0, 1) := by decide +kernel
theorem dX6_cost_82 : decode cX6_cost 82 = .ok (.getfield 21, 3) := by decide +kernel
theorem dX6_cost_85 : decode cX6_cost 85 = .ok (.lload 4, 2) := by decide +kernel
theorem dX6_cost_87 : decode cX6_cost 87 = .ok (.aload_n 0, 1) := by decide +kernel
theorem dX6_cost_88 : decode cX6_cost 88 = .ok (.getfield 18, 3) := by decide +kernel
theorem dX6_cost_91 : decode cX6_cost 91 = .ok (.aload_n 1, 1) := by decide +kernel
theorem dX6_cost_92 : decode cX6_cost 92 = .ok (.getfield 73, 3) := by decide +kernel
theorem dX6_cost_95 : decode cX6_cost 95 = .ok (.iconst 0, 1) := by decide +kernel
theorem dX6_cost_96 : decode cX6_cost 96 = .ok (.invokevirtual 76, 3) := by decide +kernel
theorem dX6_cost_99 : decode cX6_cost 99 = .ok (.lstore 8, 2) := by decide +kernel
theorem dX6_cost_101 : decode cX6_cost 101 = .ok (.aload_n 0, 1) := by decide +kernel
theorem dX6_cost_102 : decode cX6_cost 102 = .ok (.iload_n 2, 1) := by decide +kernel
theorem dX6_cost_103 : decode cX6_cost 103 = .ok (.lload 8, 2) := by decide +kernel
theorem dX6_cost_105 : decode cX6_cost 105 = .ok (.invokevirtual 80, 3) := by decide +kernel
theorem dX6_cost_108 : decode cX6_cost 108 = .ok (.istore 10, 2) := by decide +kernel
theorem dX6_cost_110 : decode cX6_cost 110 = .ok (.lload 8, 2) := by decide +kernel
theorem dX6_cost_112 : decode cX6_cost 112 = .ok (.lload 4, 2) := by decide +kernel
theorem dX6_cost_114 : decode cX6_cost 114 = .ok (.lcmp, 1) := by decide +kernel
theorem dX6_cost_115 : decode cX6_cost 115 = .ok (.ifCond .ne 23, 3) := by decide +kernel
theorem dX6_cost_118 : decode cX6_cost 118 = .ok (.iload_n 2, 1) := by decide +kernel
theorem dX6_cost_119 : decode cX6_cost 119 = .ok (.ifCond .ne 8, 3) := by decide +kernel
theorem dX6_cost_122 : decode cX6_cost 122 = .ok (.iload 7, 2) := by decide +kernel
theorem dX6_cost_124 : decode cX6_cost 124 = .ok (.goto 13, 3) := by decide +kernel
theorem dX6_cost_127 : decode cX6_cost 127 = .ok (.iload 6, 2) := by decide +kernel
theorem dX6_cost_129 : decode cX6_cost 129 = .ok (.iload 10, 2) := by decide +kernel
theorem dX6_cost_131 : decode cX6_cost 131 = .ok (.iload_n 3, 1) := by decide +kernel
theorem dX6_cost_132 : decode cX6_cost 132 = .ok (.iload 7, 2) := by decide +kernel
theorem dX6_cost_134 : decode cX6_cost 134 = .ok (.isub, 1) := by decide +kernel
theorem dX6_cost_135 : decode cX6_cost 135 = .ok (.imul, 1) := by decide +kernel
theorem dX6_cost_136 : decode cX6_cost 136 = .ok (.iadd, 1) := by decide +kernel
theorem dX6_cost_137 : decode cX6_cost 137 = .ok (.ireturn, 1) := by decide +kernel
theorem dX6_cost_138 : decode cX6_cost 138 = .ok (.iload 7, 2) := by decide +kernel
theorem dX6_cost_140 : decode cX6_cost 140 = .ok (.iload_n 3, 1) := by decide +kernel
theorem dX6_cost_141 : decode cX6_cost 141 = .ok (.if_icmp .ge 10, 3) := by decide +kernel
theorem dX6_cost_144 : decode cX6_cost 144 = .ok (.iload 6, 2) := by decide +kernel
theorem dX6_cost_146 : decode cX6_cost 146 = .ok (.iload 10, 2) := by decide +kernel
theorem dX6_cost_148 : decode cX6_cost 148 = .ok (.iadd, 1) := by decide +kernel
theorem dX6_cost_149 : decode cX6_cost 149 = .ok (.istore 6, 2) := by decide +kernel
theorem dX6_cost_151 : decode cX6_cost 151 = .ok (.lload 8, 2) := by decide +kernel
theorem dX6_cost_153 : decode cX6_cost 153 = .ok (.lstore 4, 2) := by decide +kernel
theorem dX6_cost_155 : decode cX6_cost 155 = .ok (.iinc 7 1, 3) := by decide +kernel
theorem dX6_cost_158 : decode cX6_cost 158 = .ok (.goto (-83), 3) := by decide +kernel
theorem dX6_cost_161 : decode cX6_cost 161 = .ok (.iload_n 2, 1) := by decide +kernel
theorem dX6_cost_162 : decode cX6_cost 162 = .ok (.ifCond .ne 9, 3) := by decide +kernel
theorem dX6_cost_165 : decode cX6_cost 165 = .ok (.iload_n 3, 1) := by decide +kernel
theorem dX6_cost_166 : decode cX6_cost 166 = .ok (.iconst 1, 1) := by decide +kernel
theorem dX6_cost_167 : decode cX6_cost 167 = .ok (.iadd, 1) := by decide +kernel
theorem dX6_cost_168 : decode cX6_cost 168 = .ok (.goto 5, 3) := by decide +kernel
theorem dX6_cost_171 : decode cX6_cost 171 = .ok (.iload 6, 2) := by decide +kernel
theorem dX6_cost_173 : decode cX6_cost 173 = .ok (.ireturn, 1) := by decide +kernel
def k_X6_cost_6 (X : CX) (T : List Dsc) (R : RM) (n1 n2 : Nat) (x1 : Nat) (x2 : Int32) (x3 : Int32) (r : ((Int64 × Int32 × M2) ⊕ ((Int64 × M2)))) : Prop := match r with
  | .inl s => Wp X cX6_cost RX6 11 T (mk s.2.2 R) n1 n2 6 [(0, .ref 34), (1, .ref x1), (2, .int x2), (3, .int x3), (4, .long s.1), (6, .int s.2.1)] []
  | .inr e => Wp X cX6_cost RX6 11 T (mk e.2 R) n1 n2 69 [(0, .ref 34), (1, .ref x1), (2, .int x2), (3, .int x3), (4, .long e.1)] []
def k_X6_cost_75 (X : CX) (T : List Dsc) (R : RM) (n1 n2 : Nat) (x1 : Nat) (x2 : Int32) (x3 : Int32) (r : ((Int64 × Int32 × Int32 × M2) ⊕ ((Int32 × Int32 × Int32 × M2) ⊕ (Int32 × M2)))) : Prop := match r with
  | .inl s => Wp X cX6_cost RX6 11 T (mk s.2.2.2 R) n1 n2 75 [(0, .ref 34), (1, .ref x1), (2, .int x2), (3, .int x3), (4, .long s.1), (6, .int s.2.1), (7, .int s.2.2.1)] []
  | .inr (.inl e) => Wp X cX6_cost RX6 11 T (mk e.2.2.2 R) n1 n2 118 [(2, .int x2), (3, .int x3), (6, .int e.1), (7, .int e.2.1), (10, .int e.2.2.1)] []
  | .inr (.inr e) => Wp X cX6_cost RX6 11 T (mk e.2 R) n1 n2 161 [(2, .int x2), (3, .int x3), (6, .int e.1)] []
set_option maxHeartbeats 4000000 in
set_option maxRecDepth 100000 in
theorem w_X6_cost_6 {X : CX} {T : List Dsc} {R : RM} {c e : Nat} {n1 n2 : Nat} {x1 : Nat} {x2 : Int32} {x3 : Int32} {x4 : Int64} {x6 : Int32} {m : M2} {r : ((Int64 × Int32 × M2) ⊕ ((Int64 × M2)))} (hX : XR X 6 n1 n2) (hG : Geo T R c e) (hx1 : cw x1) (hf : f_X6_cost_6 c x1 x2 x3 x4 x6 m = some r) (hk : k_X6_cost_6 X T R n1 n2 x1 x2 x3 r) : Wp X cX6_cost RX6 11 T (mk m R) n1 n2 6 [(0, .ref 34), (1, .ref x1), (2, .int x2), (3, .int x3), (4, .long x4), (6, .int x6)] [] := by
  unfold f_X6_cost_6 at hf
  refine Wp.iload (pc := 6) 5 rfl dX6_cost_6 ?_
  refine Wp.aload_n (pc := 8) 0 rfl rfl dX6_cost_8 ?_
  refine Wp.getR2 (pc := 9) (hG.r 34 0 rfl) (hG.t 34 rfl) fk_RX6_21 rfl dX6_cost_9 ?_
  refine Wp.getR2 (pc := 12) hG.r2 (hG.t 23 rfl) fk_RX6_25 rfl dX6_cost_12 ?_
  refine Wp.getI2 (pc := 15) (hG.tt hG.hc) fk_RX6_31 rfl dX6_cost_15 ?_
  refine Wp.icmp_ge (pc := 18) 69 dX6_cost_18 (by decide) (fun hc1 => ?_) (fun hc1 => ?_)
  · rw [if_pos hc1] at hf
    refine Wp.lo' (lo' := [(0, .ref 34), (1, .ref x1), (2, .int x2), (3, .int x3), (4, .long x4)]) [0, 1, 2, 3, 4] rfl ?_
    cases hf
    exact hk
  · rw [if_neg hc1] at hf
    refine Wp.lload (pc := 21) 4 rfl dX6_cost_21 ?_
    refine Wp.iload (pc := 23) 5 rfl dX6_cost_23 ?_
    refine Wp.aload_n (pc := 25) 1 rfl rfl dX6_cost_25 ?_
    refine Wp.getJ2 (pc := 26) (hG.wt hx1) fk_RX6_58 rfl dX6_cost_26 ?_
    refine Wp.aload_n (pc := 29) 0 rfl rfl dX6_cost_29 ?_
    refine Wp.getR2 (pc := 30) (hG.r 34 1 rfl) (hG.t 34 rfl) fk_RX6_9 rfl dX6_cost_30 ?_
    refine Wp.iload (pc := 33) 5 rfl dX6_cost_33 ?_
    obtain ⟨v2, h3, hf⟩ := bnd hf
    refine Wp.iald2 (pc := 35) h3 (hG.a 35 0 rfl) dX6_cost_35 ?_
    obtain ⟨c4, h5, hf⟩ := bnd hf
    refine Wp.callSNi (pc := 36) (st := [.int x6, .long x4]) (as := [.long (hJ m x1 0), .int v2]) (c_X11_timeAt hG h5) ml_RX6_64 ms_X11_timeAt mb_X11_timeAt hX (Nat.le_of_ble_eq_true rfl) (by decide) rfl (by simp [Value.category]) dX6_cost_36 rfl ?_
    obtain ⟨c6, h7, hf⟩ := bnd hf
    refine Wp.callSNl (pc := 39) (st := []) (as := [.long x4, .int x6, .int c4.1]) (c_X11_withTime hG h7) ml_RX6_68 ms_X11_withTime mb_X11_withTime hX (Nat.le_of_ble_eq_true rfl) (by decide) rfl (by simp) dX6_cost_39 rfl ?_
    refine Wp.lstore (pc := 42) (lo' := [(0, .ref 34), (1, .ref x1), (2, .int x2), (3, .int x3), (4, .long c6.1), (6, .int x6)]) [1, 2, 3, 4, 0, 5] rfl (by decide) dX6_cost_42 ?_
    refine Wp.aload_n (pc := 44) 0 rfl rfl dX6_cost_44 ?_
    refine Wp.getR2 (pc := 45) (hG.r 34 3 rfl) (hG.t 34 rfl) fk_RX6_18 rfl dX6_cost_45 ?_
    refine Wp.iload (pc := 48) 5 rfl dX6_cost_48 ?_
    refine Wp.aload_n (pc := 50) 1 rfl rfl dX6_cost_50 ?_
    refine Wp.getR2 (pc := 51) (hG.wr hx1 2 (Or.inr rfl)) (hG.wt hx1) fk_RX6_72 rfl dX6_cost_51 ?_
    refine Wp.aload_n (pc := 54) 0 rfl rfl dX6_cost_54 ?_
    refine Wp.getR2 (pc := 55) (hG.r 34 1 rfl) (hG.t 34 rfl) fk_RX6_9 rfl dX6_cost_55 ?_
    refine Wp.iload (pc := 58) 5 rfl dX6_cost_58 ?_
    obtain ⟨v8, h9, hf⟩ := bnd hf
    refine Wp.iald2 (pc := 60) h9 (hG.a 35 0 rfl) dX6_cost_60 ?_
    obtain ⟨v10, h11, hf⟩ := bnd hf
    refine Wp.iald2 (pc := 61) h11 (hG.wa hx1 2 (Or.inr rfl)) dX6_cost_61 ?_
    obtain ⟨m12, h13, hf⟩ := bnd hf
    refine Wp.iast2 (pc := 62) h13 (hG.a 37 0 rfl) dX6_cost_62 ?_
    obtain ⟨v14, h15, hf⟩ := bnd hf
    refine Wp.iincN (pc := 63) (lo' := [(0, .ref 34), (1, .ref x1), (2, .int x2), (3, .int x3), (4, .long c6.1), (6, .int v14)]) (1 : Int32) (by decide) h15 5 rfl [1, 2, 3, 4, 5, 0] rfl (by decide) dX6_cost_63 ?_
    refine Wp.goto (pc := 66) 6 dX6_cost_66 (by decide) ?_
    cases hf
    exact hk
theorem wl_X6_cost_6 {X : CX} {T : List Dsc} {R : RM} {c e : Nat} {n1 n2 : Nat} {x1 : Nat} {x2 : Int32} {x3 : Int32} {x4 : Int64} {x6 : Int32} {m : M2} {e1 : ((Int64 × M2))} (hX : XR X 6 n1 n2) (hG : Geo T R c e) (hx1 : cw x1) (h : loop (g_X6_cost_6 c x1 x2 x3) (x4, x6, m) = some e1) (he : Wp X cX6_cost RX6 11 T (mk e1.2 R) n1 n2 69 [(0, .ref 34), (1, .ref x1), (2, .int x2), (3, .int x3), (4, .long e1.1)] []) : Wp X cX6_cost RX6 11 T (mk m R) n1 n2 6 [(0, .ref 34), (1, .ref x1), (2, .int x2), (3, .int x3), (4, .long x4), (6, .int x6)] [] :=
  loop_ok (K := k_X6_cost_6 X T R n1 n2 x1 x2 x3) (fun s r hf hk => w_X6_cost_6 hX hG hx1 hf hk) h he
set_option maxHeartbeats 4000000 in
set_option maxRecDepth 100000 in
theorem w_X6_cost_151 {X : CX} {T : List Dsc} {R : RM} {c e : Nat} {n1 n2 : Nat} {x1 : Nat} {x2 : Int32} {x3 : Int32} {x6 : Int32} {x7 : Int32} {x8 : Int64} {m : M2} {r : ((Int64 × Int32 × Int32 × M2) ⊕ ((Int32 × Int32 × Int32 × M2) ⊕ (Int32 × M2)))} (hX : XR X 6 n1 n2) (hG : Geo T R c e) (hx1 : cw x1) (hf : f_X6_cost_151 c x1 x2 x3 x6 x7 x8 m = some r) (hk : k_X6_cost_75 X T R n1 n2 x1 x2 x3 r) : Wp X cX6_cost RX6 11 T (mk m R) n1 n2 151 [(0, .ref 34), (1, .ref x1), (2, .int x2), (3, .int x3), (6, .int x6), (7, .int x7), (8, .long x8)] [] := by
  unfold f_X6_cost_151 at hf
  refine Wp.lload (pc := 151) 6 rfl dX6_cost_151 ?_
  refine Wp.lstore (pc := 153) (lo' := [(0, .ref 34), (1, .ref x1), (2, .int x2), (3, .int x3), (4, .long x8), (6, .int x6), (7, .int x7)]) [1, 2, 3, 4, 0, 5, 6] rfl (by decide) dX6_cost_153 ?_
  obtain ⟨v1, h2, hf⟩ := bnd hf
  refine Wp.iincN (pc := 155) (lo' := [(0, .ref 34), (1, .ref x1), (2, .int x2), (3, .int x3), (4, .long x8), (6, .int x6), (7, .int v1)]) (1 : Int32) (by decide) h2 6 rfl [1, 2, 3, 4, 5, 6, 0] rfl (by decide) dX6_cost_155 ?_
  refine Wp.goto (pc := 158) 75 dX6_cost_158 (by decide) ?_
  cases hf
  exact hk
set_option maxHeartbeats 4000000 in
set_option maxRecDepth 100000 in
theorem w_X6_cost_75 {X : CX} {T : List Dsc} {R : RM} {c e : Nat} {n1 n2 : Nat} {x1 : Nat} {x2 : Int32} {x3 : Int32} {x4 : Int64} {x6 : Int32} {x7 : Int32} {m : M2} {r : ((Int64 × Int32 × Int32 × M2) ⊕ ((Int32 × Int32 × Int32 × M2) ⊕ (Int32 × M2)))} (hX : XR X 6 n1 n2) (hG : Geo T R c e) (hx1 : cw x1) (hf : f_X6_cost_75 c x1 x2 x3 x4 x6 x7 m = some r) (hk : k_X6_cost_75 X T R n1 n2 x1 x2 x3 r) : Wp X cX6_cost RX6 11 T (mk m R) n1 n2 75 [(0, .ref 34), (1, .ref x1), (2, .int x2), (3, .int x3), (4, .long x4), (6, .int x6), (7, .int x7)] [] := by
  unfold f_X6_cost_75 at hf
  refine Wp.iload (pc := 75) 6 rfl dX6_cost_75 ?_
  refine Wp.iload_n (pc := 77) 3 rfl rfl dX6_cost_77 ?_
  refine Wp.icmp_gt (pc := 78) 161 dX6_cost_78 (by decide) (fun hc1 => ?_) (fun hc1 => ?_)
  · rw [if_pos hc1] at hf
    refine Wp.lo' (lo' := [(2, .int x2), (3, .int x3), (6, .int x6)]) [2, 3, 5] rfl ?_
    cases hf
    exact hk
  · rw [if_neg hc1] at hf
    refine Wp.aload_n (pc := 81) 0 rfl rfl dX6_cost_81 ?_
    refine Wp.getR2 (pc := 82) (hG.r 34 0 rfl) (hG.t 34 rfl) fk_RX6_21 rfl dX6_cost_82 ?_
    refine Wp.lload (pc := 85) 4 rfl dX6_cost_85 ?_
    refine Wp.aload_n (pc := 87) 0 rfl rfl dX6_cost_87 ?_
    refine Wp.getR2 (pc := 88) (hG.r 34 3 rfl) (hG.t 34 rfl) fk_RX6_18 rfl dX6_cost_88 ?_
    refine Wp.aload_n (pc := 91) 1 rfl rfl dX6_cost_91 ?_
    refine Wp.getI2 (pc := 92) (hG.wt hx1) fk_RX6_73 rfl dX6_cost_92 ?_
    refine Wp.iconst (pc := 95) (0 : Int32) (by decide) dX6_cost_95 ?_
    obtain ⟨c2, h3, hf⟩ := bnd hf
    refine Wp.callVl (pc := 96) (st := []) (as := [.long x4, .ref 37, .int (hI m x1 3), .int (0 : Int32)]) (c_X5_stroke hG (hG.a 37 0 rfl) h3) ml_RX6_76 mv_X5_stroke mb_X5_stroke hX (Nat.le_of_ble_eq_true rfl) (by decide) rfl (hG.t 23 rfl) rfl (by simp) dX6_cost_96 rfl ?_
    refine Wp.lstore (pc := 99) (lo' := [(0, .ref 34), (1, .ref x1), (2, .int x2), (3, .int x3), (4, .long x4), (6, .int x6), (7, .int x7), (8, .long c2.1)]) [1, 2, 3, 4, 5, 6, 7, 0] rfl (by decide) dX6_cost_99 ?_
    refine Wp.aload_n (pc := 101) 0 rfl rfl dX6_cost_101 ?_
    refine Wp.iload_n (pc := 102) 2 rfl rfl dX6_cost_102 ?_
    refine Wp.lload (pc := 103) 7 rfl dX6_cost_103 ?_
    obtain ⟨c4, h5, hf⟩ := bnd hf
    refine Wp.callVi (pc := 105) (st := []) (as := [.int x2, .long c2.1]) (c_X6_costOf hG h5) ml_RX6_80 mv_X6_costOf mb_X6_costOf hX (Nat.le_of_ble_eq_true rfl) (by decide) rfl (hG.t 34 rfl) rfl (by simp) dX6_cost_105 rfl ?_
    refine Wp.istore (pc := 108) (lo' := [(0, .ref 34), (1, .ref x1), (2, .int x2), (3, .int x3), (4, .long x4), (6, .int x6), (7, .int x7), (8, .long c2.1), (10, .int c4.1)]) [1, 2, 3, 4, 5, 6, 7, 8, 0] rfl (by decide) dX6_cost_108 ?_
    refine Wp.lload (pc := 110) 7 rfl dX6_cost_110 ?_
    refine Wp.lload (pc := 112) 4 rfl dX6_cost_112 ?_
    refine Wp.lcmp (pc := 114) dX6_cost_114 ?_
    refine Wp.if_ne (pc := 115) 138 dX6_cost_115 (by decide) (fun hc6 => ?_) (fun hc6 => ?_)
    · rw [if_neg hc6] at hf
      refine Wp.iload (pc := 138) 6 rfl dX6_cost_138 ?_
      refine Wp.iload_n (pc := 140) 3 rfl rfl dX6_cost_140 ?_
      refine Wp.icmp_ge (pc := 141) 151 dX6_cost_141 (by decide) (fun hc7 => ?_) (fun hc7 => ?_)
      · rw [if_pos hc7] at hf
        refine Wp.lo' (lo' := [(0, .ref 34), (1, .ref x1), (2, .int x2), (3, .int x3), (6, .int x6), (7, .int x7), (8, .long c2.1)]) [0, 1, 2, 3, 5, 6, 7] rfl ?_
        exact w_X6_cost_151 hX hG hx1 hf hk
      · rw [if_neg hc7] at hf
        refine Wp.iload (pc := 144) 5 rfl dX6_cost_144 ?_
        refine Wp.iload (pc := 146) 8 rfl dX6_cost_146 ?_
        refine Wp.iadd (pc := 148) dX6_cost_148 ?_
        obtain ⟨v8, h9, hf⟩ := bnd hf
        refine Wp.nI' h9 ?_
        refine Wp.istore (pc := 149) (lo' := [(0, .ref 34), (1, .ref x1), (2, .int x2), (3, .int x3), (6, .int v8), (7, .int x7), (8, .long c2.1)]) [1, 2, 3, 4, 0, 6, 7] rfl (by decide) dX6_cost_149 ?_
        exact w_X6_cost_151 hX hG hx1 hf hk
    · rw [if_pos hc6] at hf
      refine Wp.lo' (lo' := [(2, .int x2), (3, .int x3), (6, .int x6), (7, .int x7), (10, .int c4.1)]) [2, 3, 5, 6, 8] rfl ?_
      cases hf
      exact hk
theorem wl_X6_cost_75 {X : CX} {T : List Dsc} {R : RM} {c e : Nat} {n1 n2 : Nat} {x1 : Nat} {x2 : Int32} {x3 : Int32} {x4 : Int64} {x6 : Int32} {x7 : Int32} {m : M2} {e1 : ((Int32 × Int32 × Int32 × M2) ⊕ (Int32 × M2))} (hX : XR X 6 n1 n2) (hG : Geo T R c e) (hx1 : cw x1) (h : loop (g_X6_cost_75 c x1 x2 x3) (x4, x6, x7, m) = some e1) (he0 : ∀ e_, e1 = (Sum.inl e_) → Wp X cX6_cost RX6 11 T (mk e_.2.2.2 R) n1 n2 118 [(2, .int x2), (3, .int x3), (6, .int e_.1), (7, .int e_.2.1), (10, .int e_.2.2.1)] []) (he1 : ∀ e_, e1 = (Sum.inr e_) → Wp X cX6_cost RX6 11 T (mk e_.2 R) n1 n2 161 [(2, .int x2), (3, .int x3), (6, .int e_.1)] []) : Wp X cX6_cost RX6 11 T (mk m R) n1 n2 75 [(0, .ref 34), (1, .ref x1), (2, .int x2), (3, .int x3), (4, .long x4), (6, .int x6), (7, .int x7)] [] :=
  loop_ok (K := k_X6_cost_75 X T R n1 n2 x1 x2 x3) (fun s r hf hk => w_X6_cost_75 hX hG hx1 hf hk) h (by rcases e1 with e_ | e_ <;> first | exact he0 _ rfl | exact he1 _ rfl)
set_option maxHeartbeats 4000000 in
set_option maxRecDepth 100000 in
theorem w_X6_cost_137 {X : CX} {T : List Dsc} {R : RM} {c e : Nat} {n1 n2 : Nat} {s0 : Int32} {m : M2} {r : (Int32 × M2)} (hX : XR X 6 n1 n2) (hG : Geo T R c e) (hf : f_X6_cost_137 c s0 m = some r) (hk : FnI X cX6_cost RX6 11 T n1 n2 (r.1, mk r.2 R)) : Wp X cX6_cost RX6 11 T (mk m R) n1 n2 137 [] [.int s0] := by
  unfold f_X6_cost_137 at hf
  cases hf
  exact hk _ _ dX6_cost_137
set_option maxHeartbeats 4000000 in
set_option maxRecDepth 100000 in
theorem w_X6_cost_173 {X : CX} {T : List Dsc} {R : RM} {c e : Nat} {n1 n2 : Nat} {s0 : Int32} {m : M2} {r : (Int32 × M2)} (hX : XR X 6 n1 n2) (hG : Geo T R c e) (hf : f_X6_cost_173 c s0 m = some r) (hk : FnI X cX6_cost RX6 11 T n1 n2 (r.1, mk r.2 R)) : Wp X cX6_cost RX6 11 T (mk m R) n1 n2 173 [] [.int s0] := by
  unfold f_X6_cost_173 at hf
  cases hf
  exact hk _ _ dX6_cost_173
set_option maxHeartbeats 4000000 in
set_option maxRecDepth 100000 in
theorem w_X6_cost {X : CX} {T : List Dsc} {R : RM} {c e : Nat} {n1 n2 : Nat} {x1 : Nat} {x2 : Int32} {x3 : Int32} {m : M2} {r : (Int32 × M2)} (hX : XR X 6 n1 n2) (hG : Geo T R c e) (hx1 : cw x1) (hf : F_X6_cost c x1 x2 x3 m = some r) (hk : FnI X cX6_cost RX6 11 T n1 n2 (r.1, mk r.2 R)) : Wp X cX6_cost RX6 11 T (mk m R) n1 n2 0 [(0, .ref 34), (1, .ref x1), (2, .int x2), (3, .int x3)] [] := by
  unfold F_X6_cost at hf
  refine Wp.lconst (pc := 0) (0 : Int64) (by decide) dX6_cost_0 ?_
  refine Wp.lstore (pc := 1) (lo' := [(0, .ref 34), (1, .ref x1), (2, .int x2), (3, .int x3), (4, .long (0 : Int64))]) [1, 2, 3, 4, 0] rfl (by decide) dX6_cost_1 ?_
  refine Wp.iconst (pc := 3) (0 : Int32) (by decide) dX6_cost_3 ?_
  refine Wp.istore (pc := 4) (lo' := [(0, .ref 34), (1, .ref x1), (2, .int x2), (3, .int x3), (4, .long (0 : Int64)), (6, .int (0 : Int32))]) [1, 2, 3, 4, 5, 0] rfl (by decide) dX6_cost_4 ?_
  obtain ⟨e1, h2, hf⟩ := bnd hf
  refine wl_X6_cost_6 hX hG hx1 h2 ?_
  refine Wp.iconst (pc := 69) (0 : Int32) (by decide) dX6_cost_69 ?_
  refine Wp.istore (pc := 70) (lo' := [(0, .ref 34), (1, .ref x1), (2, .int x2), (3, .int x3), (4, .long e1.1), (6, .int (0 : Int32))]) [1, 2, 3, 4, 5, 0] rfl (by decide) dX6_cost_70 ?_
  refine Wp.iconst (pc := 72) (0 : Int32) (by decide) dX6_cost_72 ?_
  refine Wp.istore (pc := 73) (lo' := [(0, .ref 34), (1, .ref x1), (2, .int x2), (3, .int x3), (4, .long e1.1), (6, .int (0 : Int32)), (7, .int (0 : Int32))]) [1, 2, 3, 4, 5, 6, 0] rfl (by decide) dX6_cost_73 ?_
  obtain ⟨e3, h4, hf⟩ := bnd hf
  refine wl_X6_cost_75 hX hG hx1 h4 (fun e3_0 hq => ?_) (fun e3_1 hq => ?_)
  · rw [hq, Sum.elim_inl] at hf
    refine Wp.iload_n (pc := 118) 0 rfl rfl dX6_cost_118 ?_
    refine Wp.if_ne (pc := 119) 127 dX6_cost_119 (by decide) (fun hc5 => ?_) (fun hc5 => ?_)
    · rw [if_neg hc5] at hf
      refine Wp.iload (pc := 127) 2 rfl dX6_cost_127 ?_
      refine Wp.iload (pc := 129) 4 rfl dX6_cost_129 ?_
      refine Wp.iload_n (pc := 131) 1 rfl rfl dX6_cost_131 ?_
      refine Wp.iload (pc := 132) 3 rfl dX6_cost_132 ?_
      refine Wp.isub (pc := 134) dX6_cost_134 ?_
      refine Wp.imul (pc := 135) dX6_cost_135 ?_
      refine Wp.iadd (pc := 136) dX6_cost_136 ?_
      refine Wp.lo' (lo' := []) [] rfl ?_
      exact w_X6_cost_137 hX hG hf hk
    · rw [if_pos hc5] at hf
      refine Wp.iload (pc := 122) 3 rfl dX6_cost_122 ?_
      refine Wp.goto (pc := 124) 137 dX6_cost_124 (by decide) ?_
      refine Wp.lo' (lo' := []) [] rfl ?_
      exact w_X6_cost_137 hX hG hf hk
  · rw [hq, Sum.elim_inr] at hf
    refine Wp.iload_n (pc := 161) 0 rfl rfl dX6_cost_161 ?_
    refine Wp.if_ne (pc := 162) 171 dX6_cost_162 (by decide) (fun hc6 => ?_) (fun hc6 => ?_)
    · rw [if_neg hc6] at hf
      refine Wp.iload (pc := 171) 2 rfl dX6_cost_171 ?_
      refine Wp.lo' (lo' := []) [] rfl ?_
      exact w_X6_cost_173 hX hG hf hk
    · rw [if_pos hc6] at hf
      refine Wp.iload_n (pc := 165) 1 rfl rfl dX6_cost_165 ?_
      refine Wp.iconst (pc := 166) (1 : Int32) (by decide) dX6_cost_166 ?_
      refine Wp.iadd (pc := 167) dX6_cost_167 ?_
      refine Wp.goto (pc := 168) 173 dX6_cost_168 (by decide) ?_
      refine Wp.lo' (lo' := []) [] rfl ?_
      exact w_X6_cost_173 hX hG hf hk
theorem c_X6_cost {T : List Dsc} {R : RM} {c e : Nat} {x1 : Nat} {x2 : Int32} {x3 : Int32} {m : M2} {r : (Int32 × M2)} (hG : Geo T R c e) (hx1 : cw x1) (hf : F_X6_cost c x1 x2 x3 m = some r) : Ct 6 yX6_cost cX6_cost 11 (some .int) T (mk m R) [.ref 34, .ref x1, .int x2, .int x3] (some (.int r.1)) (mk r.2 R) := Ct.ofI (r := (r.1, mk r.2 R)) (by decide +kernel) (Nat.le_of_ble_eq_true rfl) (fun X hX hk => w_X6_cost hX hG hx1 hf hk)
theorem dX6_swap_0 : decode cX6_swap 0 = .ok (.aload_n 0, 1) := by decide +kernel
theorem dX6_swap_1 : decode cX6_swap 1 = .ok (.getfield 9, 3) := by decide +kernel
theorem dX6_swap_4 : decode cX6_swap 4 = .ok (.iload_n 1, 1) := by decide +kernel
theorem dX6_swap_5 : decode cX6_swap 5 = .ok (.iaload, 1) := by decide +kernel
theorem dX6_swap_6 : decode cX6_swap 6 = .ok (.istore_n 3, 1) := by decide +kernel
theorem dX6_swap_7 : decode cX6_swap 7 = .ok (.aload_n 0, 1) := by decide +kernel
theorem dX6_swap_8 : decode cX6_swap 8 = .ok (.getfield 9, 3) := by decide +kernel
theorem dX6_swap_11 : decode cX6_swap 11 = .ok (.iload_n 1, 1) := by decide +kernel
theorem dX6_swap_12 : decode cX6_swap 12 = .ok (.aload_n 0, 1) := by decide +kernel
theorem dX6_swap_13 : decode cX6_swap 13 = .ok (.getfield 9, 3) := by decide +kernel
theorem dX6_swap_16 : decode cX6_swap 16 = .ok (.iload_n 2, 1) := by decide +kernel
theorem dX6_swap_17 : decode cX6_swap 17 = .ok (.iaload, 1) := by decide +kernel
theorem dX6_swap_18 : decode cX6_swap 18 = .ok (.iastore, 1) := by decide +kernel
theorem dX6_swap_19 : decode cX6_swap 19 = .ok (.aload_n 0, 1) := by decide +kernel
theorem dX6_swap_20 : decode cX6_swap 20 = .ok (.getfield 9, 3) := by decide +kernel
theorem dX6_swap_23 : decode cX6_swap 23 = .ok (.iload_n 2, 1) := by decide +kernel
theorem dX6_swap_24 : decode cX6_swap 24 = .ok (.iload_n 3, 1) := by decide +kernel
theorem dX6_swap_25 : decode cX6_swap 25 = .ok (.iastore, 1) := by decide +kernel
theorem dX6_swap_26 : decode cX6_swap 26 = .ok (.return_, 1) := by decide +kernel
set_option maxHeartbeats 4000000 in
set_option maxRecDepth 100000 in
theorem w_X6_swap {X : CX} {T : List Dsc} {R : RM} {c e : Nat} {n1 n2 : Nat} {x1 : Int32} {x2 : Int32} {m : M2} {r : M2} (hX : XR X 1 n1 n2) (hG : Geo T R c e) (hf : F_X6_swap c x1 x2 m = some r) (hk : FnV X cX6_swap RX6 4 T n1 n2 (mk r R)) : Wp X cX6_swap RX6 4 T (mk m R) n1 n2 0 [(0, .ref 34), (1, .int x1), (2, .int x2)] [] := by
  unfold F_X6_swap at hf
  refine Wp.aload_n (pc := 0) 0 rfl rfl dX6_swap_0 ?_
  refine Wp.getR2 (pc := 1) (hG.r 34 1 rfl) (hG.t 34 rfl) fk_RX6_9 rfl dX6_swap_1 ?_
  refine Wp.iload_n (pc := 4) 1 rfl rfl dX6_swap_4 ?_
  obtain ⟨v1, h2, hf⟩ := bnd hf
  refine Wp.iald2 (pc := 5) h2 (hG.a 35 0 rfl) dX6_swap_5 ?_
  refine Wp.istore_n (pc := 6) (lo' := [(0, .ref 34), (1, .int x1), (2, .int x2), (3, .int v1)]) [1, 2, 3, 0] rfl (by decide) rfl dX6_swap_6 ?_
  refine Wp.aload_n (pc := 7) 0 rfl rfl dX6_swap_7 ?_
  refine Wp.getR2 (pc := 8) (hG.r 34 1 rfl) (hG.t 34 rfl) fk_RX6_9 rfl dX6_swap_8 ?_
  refine Wp.iload_n (pc := 11) 1 rfl rfl dX6_swap_11 ?_
  refine Wp.aload_n (pc := 12) 0 rfl rfl dX6_swap_12 ?_
  refine Wp.getR2 (pc := 13) (hG.r 34 1 rfl) (hG.t 34 rfl) fk_RX6_9 rfl dX6_swap_13 ?_
  refine Wp.iload_n (pc := 16) 2 rfl rfl dX6_swap_16 ?_
  obtain ⟨v3, h4, hf⟩ := bnd hf
  refine Wp.iald2 (pc := 17) h4 (hG.a 35 0 rfl) dX6_swap_17 ?_
  obtain ⟨m5, h6, hf⟩ := bnd hf
  refine Wp.iast2 (pc := 18) h6 (hG.a 35 0 rfl) dX6_swap_18 ?_
  refine Wp.aload_n (pc := 19) 0 rfl rfl dX6_swap_19 ?_
  refine Wp.getR2 (pc := 20) (hG.r 34 1 rfl) (hG.t 34 rfl) fk_RX6_9 rfl dX6_swap_20 ?_
  refine Wp.iload_n (pc := 23) 2 rfl rfl dX6_swap_23 ?_
  refine Wp.iload_n (pc := 24) 3 rfl rfl dX6_swap_24 ?_
  obtain ⟨m7, h8, hf⟩ := bnd hf
  refine Wp.iast2 (pc := 25) h8 (hG.a 35 0 rfl) dX6_swap_25 ?_
  cases hf
  exact hk _ _ dX6_swap_26
theorem c_X6_swap {T : List Dsc} {R : RM} {c e : Nat} {x1 : Int32} {x2 : Int32} {m : M2} {r : M2} (hG : Geo T R c e) (hf : F_X6_swap c x1 x2 m = some r) : Ct 1 yX6_swap cX6_swap 4 none T (mk m R) [.ref 34, .int x1, .int x2] none (mk r R) := Ct.ofV (r := mk r R) (by decide +kernel) (Nat.le_of_ble_eq_true rfl) (fun X hX hk => w_X6_swap hX hG hf hk)
