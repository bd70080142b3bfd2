theorem dX12_fillSuspects_0 : decode cX12_fillSuspects 0 = .ok (.aload_n 0, 1) := by decide +kernel
theorem dX12_fillSuspects_1 : decode cX12_fillSuspects 1 = .ok (.iconst 0, 1) := by decide +kernel
theorem dX12_fillSuspects_2 : decode cX12_fillSuspects 2 = .ok (.putfield 506, 3) := by decide +kernel
theorem dX12_fillSuspects_5 : decode cX12_fillSuspects 5 = .ok (.iconst 0, 1) := by decide +kernel
theorem dX12_fillSuspects_6 : decode cX12_fillSuspects 6 = .ok (.istore_n 3, 1) := by decide +kernel
theorem dX12_fillSuspects_7 : decode cX12_fillSuspects 7 = .ok (.iload_n 3, 1) := by decide +kernel
theorem dX12_fillSuspects_8 : decode cX12_fillSuspects 8 = .ok (.iconst 1, 1) := by decide +kernel
theorem dX12_fillSuspects_9 : decode cX12_fillSuspects 9 = .ok (.aload_n 0, 1) := by decide +kernel
theorem dX12_fillSuspects_10 : decode cX12_fillSuspects 10 = .ok (.invokevirtual 390, 3) := by decide +kernel
theorem dX12_fillSuspects_13 : decode cX12_fillSuspects 13 = .ok (.ishl, 1) := by decide +kernel
theorem dX12_fillSuspects_14 : decode cX12_fillSuspects 14 = .ok (.if_icmp .ge 52, 3) := by decide +kernel
theorem dX12_fillSuspects_17 : decode cX12_fillSuspects 17 = .ok (.aload_n 0, 1) := by decide +kernel
theorem dX12_fillSuspects_18 : decode cX12_fillSuspects 18 = .ok (.iload_n 3, 1) := by decide +kernel
theorem dX12_fillSuspects_19 : decode cX12_fillSuspects 19 = .ok (.bipush 12, 2) := by decide +kernel
theorem dX12_fillSuspects_21 : decode cX12_fillSuspects 21 = .ok (.invokevirtual 472, 3) := by decide +kernel
theorem dX12_fillSuspects_24 : decode cX12_fillSuspects 24 = .ok (.iload_n 1, 1) := by decide +kernel
theorem dX12_fillSuspects_25 : decode cX12_fillSuspects 25 = .ok (.if_icmp .ne 35, 3) := by decide +kernel
theorem dX12_fillSuspects_28 : decode cX12_fillSuspects 28 = .ok (.aload_n 0, 1) := by decide +kernel
theorem dX12_fillSuspects_29 : decode cX12_fillSuspects 29 = .ok (.iload_n 3, 1) := by decide +kernel
theorem dX12_fillSuspects_30 : decode cX12_fillSuspects 30 = .ok (.iload_n 2, 1) := by decide +kernel
theorem dX12_fillSuspects_31 : decode cX12_fillSuspects 31 = .ok (.invokevirtual 509, 3) := by decide +kernel
theorem dX12_fillSuspects_34 : decode cX12_fillSuspects 34 = .ok (.ifCond .ne 6, 3) := by decide +kernel
theorem dX12_fillSuspects_37 : decode cX12_fillSuspects 37 = .ok (.goto 23, 3) := by decide +kernel
theorem dX12_fillSuspects_40 : decode cX12_fillSuspects 40 = .ok (.aload_n 0, 1) := by decide +kernel
theorem dX12_fillSuspects_41 : decode cX12_fillSuspects 41 = .ok (.getfield 185, 3) := by decide +kernel
theorem dX12_fillSuspects_44 : decode cX12_fillSuspects 44 = .ok (.aload_n 0, 1) := by decide +kernel
theorem dX12_fillSuspects_45 : decode cX12_fillSuspects 45 = .ok (.getfield 506, 3) := by decide +kernel
theorem dX12_fillSuspects_48 : decode cX12_fillSuspects 48 = .ok (.iload_n 3, 1) := by decide +kernel
theorem dX12_fillSuspects_49 : decode cX12_fillSuspects 49 = .ok (.iastore, 1) := by decide +kernel
theorem dX12_fillSuspects_50 : decode cX12_fillSuspects 50 = .ok (.aload_n 0, 1) := by decide +kernel
theorem dX12_fillSuspects_51 : decode cX12_fillSuspects 51 = .ok (.dup, 1) := by decide +kernel
theorem dX12_fillSuspects_52 : decode cX12_fillSuspects 52 = .ok (.getfield 506, 3) := by decide +kernel
theorem dX12_fillSuspects_55 : decode cX12_fillSuspects 55 = .ok (.iconst 1, 1) := by decide +kernel
theorem dX12_fillSuspects_56 : decode cX12_fillSuspects 56 = .ok (.iadd, 1) := by decide +kernel
theorem dX12_fillSuspects_57 : decode cX12_fillSuspects 57 = .ok (.putfield 506, 3) := by decide +kernel
theorem dX12_fillSuspects_60 : decode cX12_fillSuspects 60 = .ok (.iinc 3 1, 3) := by decide +kernel
theorem dX12_fillSuspects_63 : decode cX12_fillSuspects 63 = .ok (.goto (-56), 3) := by decide +kernel
theorem dX12_fillSuspects_66 : decode cX12_fillSuspects 66 = .ok (.return_, 1) := by decide +kernel
def k_X12_fillSuspects_7 (X : CX) (T : List Dsc) (R : RM) (n1 n2 : Nat) (x1 : Int32) (x2 : Int32) (r : ((Int32 × M2) ⊕ ((M2)))) : Prop := match r with
  | .inl s => Wp X cX12_fillSuspects RX12 4 T (mk s.2 R) n1 n2 7 [(0, .ref 56), (1, .int x1), (2, .int x2), (3, .int s.1)] []
  | .inr e => Wp X cX12_fillSuspects RX12 4 T (mk e R) n1 n2 66 [] []
set_option maxHeartbeats 4000000 in
set_option maxRecDepth 100000 in
theorem w_X12_fillSuspects_60 {X : CX} {T : List Dsc} {R : RM} {c e : Nat} {n1 n2 : Nat} {x1 : Int32} {x2 : Int32} {x3 : Int32} {m : M2} {r : ((Int32 × M2) ⊕ ((M2)))} (hX : XR X 10 n1 n2) (hG : Geo T R c e) (hf : f_X12_fillSuspects_60 x1 x2 x3 m = some r) (hk : k_X12_fillSuspects_7 X T R n1 n2 x1 x2 r) : Wp X cX12_fillSuspects RX12 4 T (mk m R) n1 n2 60 [(0, .ref 56), (1, .int x1), (2, .int x2), (3, .int x3)] [] := by
  unfold f_X12_fillSuspects_60 at hf
  obtain ⟨v1, h2, hf⟩ := bnd hf
  refine Wp.iincN (pc := 60) (lo' := [(0, .ref 56), (1, .int x1), (2, .int x2), (3, .int v1)]) (1 : Int32) (by decide) h2 3 rfl [1, 2, 3, 0] rfl (by decide) dX12_fillSuspects_60 ?_
  refine Wp.goto (pc := 63) 7 dX12_fillSuspects_63 (by decide) ?_
  cases hf
  exact hk
set_option maxHeartbeats 4000000 in
set_option maxRecDepth 100000 in
theorem w_X12_fillSuspects_7 {X : CX} {T : List Dsc} {R : RM} {c e : Nat} {n1 n2 : Nat} {x1 : Int32} {x2 : Int32} {x3 : Int32} {m : M2} {r : ((Int32 × M2) ⊕ ((M2)))} (hX : XR X 10 n1 n2) (hG : Geo T R c e) (hf : f_X12_fillSuspects_7 x1 x2 x3 m = some r) (hk : k_X12_fillSuspects_7 X T R n1 n2 x1 x2 r) : Wp X cX12_fillSuspects RX12 4 T (mk m R) n1 n2 7 [(0, .ref 56), (1, .int x1), (2, .int x2), (3, .int x3)] [] := by
  unfold f_X12_fillSuspects_7 at hf
  refine Wp.iload_n (pc := 7) 3 rfl rfl dX12_fillSuspects_7 ?_
  refine Wp.iconst (pc := 8) (1 : Int32) (by decide) dX12_fillSuspects_8 ?_
  refine Wp.aload_n (pc := 9) 0 rfl rfl dX12_fillSuspects_9 ?_
  obtain ⟨c1, h2, hf⟩ := bnd hf
  refine Wp.callVi (pc := 10) (st := [.int (1 : Int32), .int x3]) (as := []) (c_X12_menNow hG h2) ml_RX12_390 mv_X12_menNow mb_X12_menNow hX (Nat.le_of_ble_eq_true rfl) (by decide) rfl (hG.t 56 rfl) rfl (by simp [Value.category]) dX12_fillSuspects_10 rfl ?_
  refine Wp.ishl (pc := 13) dX12_fillSuspects_13 ?_
  refine Wp.icmp_ge (pc := 14) 66 dX12_fillSuspects_14 (by decide) (fun hc3 => ?_) (fun hc3 => ?_)
  · rw [if_pos hc3] at hf
    refine Wp.lo' (lo' := []) [] rfl ?_
    cases hf
    exact hk
  · rw [if_neg hc3] at hf
    refine Wp.aload_n (pc := 17) 0 rfl rfl dX12_fillSuspects_17 ?_
    refine Wp.iload_n (pc := 18) 3 rfl rfl dX12_fillSuspects_18 ?_
    refine Wp.bipush (pc := 19) (12 : Int32) (by decide) dX12_fillSuspects_19 ?_
    obtain ⟨c4, h5, hf⟩ := bnd hf
    refine Wp.callVi (pc := 21) (st := []) (as := [.int x3, .int (12 : Int32)]) (c_X12_bits hG h5) ml_RX12_472 mv_X12_bits mb_X12_bits hX (Nat.le_of_ble_eq_true rfl) (by decide) rfl (hG.t 56 rfl) rfl (by simp) dX12_fillSuspects_21 rfl ?_
    refine Wp.iload_n (pc := 24) 1 rfl rfl dX12_fillSuspects_24 ?_
    refine Wp.icmp_ne (pc := 25) 60 dX12_fillSuspects_25 (by decide) (fun hc6 => ?_) (fun hc6 => ?_)
    · rw [if_neg hc6] at hf
      exact w_X12_fillSuspects_60 hX hG hf hk
    · rw [if_pos hc6] at hf
      refine Wp.aload_n (pc := 28) 0 rfl rfl dX12_fillSuspects_28 ?_
      refine Wp.iload_n (pc := 29) 3 rfl rfl dX12_fillSuspects_29 ?_
      refine Wp.iload_n (pc := 30) 2 rfl rfl dX12_fillSuspects_30 ?_
      obtain ⟨c7, h8, hf⟩ := bnd hf
      refine Wp.callVi (pc := 31) (st := []) (as := [.int x3, .int x2]) (c_X12_fits hG h8) ml_RX12_509 mv_X12_fits mb_X12_fits hX (Nat.le_of_ble_eq_true rfl) (by decide) rfl (hG.t 56 rfl) rfl (by simp) dX12_fillSuspects_31 rfl ?_
      refine Wp.if_ne (pc := 34) 40 dX12_fillSuspects_34 (by decide) (fun hc9 => ?_) (fun hc9 => ?_)
      · rw [if_neg hc9] at hf
        refine Wp.aload_n (pc := 40) 0 rfl rfl dX12_fillSuspects_40 ?_
        refine Wp.getR2 (pc := 41) (hG.r 56 83 rfl) (hG.t 56 rfl) fk_RX12_185 rfl dX12_fillSuspects_41 ?_
        refine Wp.aload_n (pc := 44) 0 rfl rfl dX12_fillSuspects_44 ?_
        refine Wp.getI2 (pc := 45) (hG.t 56 rfl) fk_RX12_506 rfl dX12_fillSuspects_45 ?_
        refine Wp.iload_n (pc := 48) 3 rfl rfl dX12_fillSuspects_48 ?_
        obtain ⟨m10, h11, hf⟩ := bnd hf
        refine Wp.iast2 (pc := 49) h11 (hG.a 112 0 rfl) dX12_fillSuspects_49 ?_
        refine Wp.aload_n (pc := 50) 0 rfl rfl dX12_fillSuspects_50 ?_
        refine Wp.dup (pc := 51) rfl dX12_fillSuspects_51 ?_
        refine Wp.getI2 (pc := 52) (hG.t 56 rfl) fk_RX12_506 rfl dX12_fillSuspects_52 ?_
        refine Wp.iconst (pc := 55) (1 : Int32) (by decide) dX12_fillSuspects_55 ?_
        refine Wp.iadd (pc := 56) dX12_fillSuspects_56 ?_
        obtain ⟨m12, h13, hf⟩ := bnd hf
        refine Wp.ptI2 (pc := 57) h13 (hG.t 56 rfl) fk_RX12_506 ff_RX12_11_84 rfl dX12_fillSuspects_57 ?_
        exact w_X12_fillSuspects_60 hX hG hf hk
      · rw [if_pos hc9] at hf
        refine Wp.goto (pc := 37) 60 dX12_fillSuspects_37 (by decide) ?_
        exact w_X12_fillSuspects_60 hX hG hf hk
theorem wl_X12_fillSuspects_7 {X : CX} {T : List Dsc} {R : RM} {c e : Nat} {n1 n2 : Nat} {x1 : Int32} {x2 : Int32} {x3 : Int32} {m : M2} {e1 : ((M2))} (hX : XR X 10 n1 n2) (hG : Geo T R c e) (h : loop (g_X12_fillSuspects_7 x1 x2) (x3, m) = some e1) (he : Wp X cX12_fillSuspects RX12 4 T (mk e1 R) n1 n2 66 [] []) : Wp X cX12_fillSuspects RX12 4 T (mk m R) n1 n2 7 [(0, .ref 56), (1, .int x1), (2, .int x2), (3, .int x3)] [] :=
  loop_ok (K := k_X12_fillSuspects_7 X T R n1 n2 x1 x2) (fun s r hf hk => w_X12_fillSuspects_7 hX hG hf hk) h he
set_option maxHeartbeats 4000000 in
set_option maxRecDepth 100000 in
theorem w_X12_fillSuspects {X : CX} {T : List Dsc} {R : RM} {c e : Nat} {n1 n2 : Nat} {x1 : Int32} {x2 : Int32} {m : M2} {r : M2} (hX : XR X 10 n1 n2) (hG : Geo T R c e) (hf : F_X12_fillSuspects x1 x2 m = some r) (hk : FnV X cX12_fillSuspects RX12 4 T n1 n2 (mk r R)) : Wp X cX12_fillSuspects RX12 4 T (mk m R) n1 n2 0 [(0, .ref 56), (1, .int x1), (2, .int x2)] [] := by
  unfold F_X12_fillSuspects at hf
  refine Wp.aload_n (pc := 0) 0 rfl rfl dX12_fillSuspects_0 ?_
  refine Wp.iconst (pc := 1) (0 : Int32) (by decide) dX12_fillSuspects_1 ?_
  obtain ⟨m1, h2, hf⟩ := bnd hf
  refine Wp.ptI2 (pc := 2) h2 (hG.t 56 rfl) fk_RX12_506 ff_RX12_11_84 rfl dX12_fillSuspects_2 ?_
  refine Wp.iconst (pc := 5) (0 : Int32) (by decide) dX12_fillSuspects_5 ?_
  refine Wp.istore_n (pc := 6) (lo' := [(0, .ref 56), (1, .int x1), (2, .int x2), (3, .int (0 : Int32))]) [1, 2, 3, 0] rfl (by decide) rfl dX12_fillSuspects_6 ?_
  obtain ⟨e3, h4, hf⟩ := bnd hf
  refine wl_X12_fillSuspects_7 hX hG h4 ?_
  cases hf
  exact hk _ _ dX12_fillSuspects_66
theorem c_X12_fillSuspects {T : List Dsc} {R : RM} {c e : Nat} {x1 : Int32} {x2 : Int32} {m : M2} {r : M2} (hG : Geo T R c e) (hf : F_X12_fillSuspects x1 x2 m = some r) : Ct 10 yX12_fillSuspects cX12_fillSuspects 4 none T (mk m R) [.ref 56, .int x1, .int x2] none (mk r R) := Ct.ofV (r := mk r R) (by decide +kernel) (Nat.le_of_ble_eq_true rfl) (fun X hX hk => w_X12_fillSuspects hX hG hf hk)
theorem dX12_suspects_0 : decode cX12_suspects 0 = .ok (.aload_n 0, 1) := by decide +kernel
theorem dX12_suspects_1 : decode cX12_suspects 1 = .ok (.iload_n 1, 1) := by decide +kernel
theorem dX12_suspects_2 : decode cX12_suspects 2 = .ok (.iload_n 2, 1) := by decide +kernel
theorem dX12_suspects_3 : decode cX12_suspects 3 = .ok (.invokevirtual 512, 3) := by decide +kernel
theorem dX12_suspects_6 : decode cX12_suspects 6 = .ok (.ifCond .ne 5, 3) := by decide +kernel
theorem dX12_suspects_9 : decode cX12_suspects 9 = .ok (.iconst (-1), 1) := by decide +kernel
theorem dX12_suspects_10 : decode cX12_suspects 10 = .ok (.ireturn, 1) := by decide +kernel
theorem dX12_suspects_11 : decode cX12_suspects 11 = .ok (.aload_n 0, 1) := by decide +kernel
theorem dX12_suspects_12 : decode cX12_suspects 12 = .ok (.iload_n 1, 1) := by decide +kernel
theorem dX12_suspects_13 : decode cX12_suspects 13 = .ok (.iload_n 2, 1) := by decide +kernel
theorem dX12_suspects_14 : decode cX12_suspects 14 = .ok (.invokevirtual 515, 3) := by decide +kernel
theorem dX12_suspects_17 : decode cX12_suspects 17 = .ok (.aload_n 0, 1) := by decide +kernel
theorem dX12_suspects_18 : decode cX12_suspects 18 = .ok (.getfield 506, 3) := by decide +kernel
theorem dX12_suspects_21 : decode cX12_suspects 21 = .ok (.ireturn, 1) := by decide +kernel
set_option maxHeartbeats 4000000 in
set_option maxRecDepth 100000 in
theorem w_X12_suspects {X : CX} {T : List Dsc} {R : RM} {c e : Nat} {n1 n2 : Nat} {x1 : Int32} {x2 : Int32} {m : M2} {r : (Int32 × M2)} (hX : XR X 11 n1 n2) (hG : Geo T R c e) (hf : F_X12_suspects x1 x2 m = some r) (hk : FnI X cX12_suspects RX12 3 T n1 n2 (r.1, mk r.2 R)) : Wp X cX12_suspects RX12 3 T (mk m R) n1 n2 0 [(0, .ref 56), (1, .int x1), (2, .int x2)] [] := by
  unfold F_X12_suspects at hf
  refine Wp.aload_n (pc := 0) 0 rfl rfl dX12_suspects_0 ?_
  refine Wp.iload_n (pc := 1) 1 rfl rfl dX12_suspects_1 ?_
  refine Wp.iload_n (pc := 2) 2 rfl rfl dX12_suspects_2 ?_
  obtain ⟨c1, h2, hf⟩ := bnd hf
  refine Wp.callVi (pc := 3) (st := []) (as := [.int x1, .int x2]) (c_X12_canSuspect hG h2) ml_RX12_512 mv_X12_canSuspect mb_X12_canSuspect hX (Nat.le_of_ble_eq_true rfl) (by decide) rfl (hG.t 56 rfl) rfl (by simp) dX12_suspects_3 rfl ?_
  refine Wp.if_ne (pc := 6) 11 dX12_suspects_6 (by decide) (fun hc3 => ?_) (fun hc3 => ?_)
  · rw [if_neg hc3] at hf
    refine Wp.aload_n (pc := 11) 0 rfl rfl dX12_suspects_11 ?_
    refine Wp.iload_n (pc := 12) 1 rfl rfl dX12_suspects_12 ?_
    refine Wp.iload_n (pc := 13) 2 rfl rfl dX12_suspects_13 ?_
    obtain ⟨c4, h5, hf⟩ := bnd hf
    refine Wp.callVv (pc := 14) (st := []) (as := [.int x1, .int x2]) (c_X12_fillSuspects hG h5) ml_RX12_515 mv_X12_fillSuspects mb_X12_fillSuspects hX (Nat.le_of_ble_eq_true rfl) (by decide) rfl (hG.t 56 rfl) rfl (by simp) dX12_suspects_14 rfl ?_
    refine Wp.aload_n (pc := 17) 0 rfl rfl dX12_suspects_17 ?_
    refine Wp.getI2 (pc := 18) (hG.t 56 rfl) fk_RX12_506 rfl dX12_suspects_18 ?_
    cases hf
    exact hk _ _ dX12_suspects_21
  · rw [if_pos hc3] at hf
    refine Wp.iconst (pc := 9) (-1 : Int32) (by decide) dX12_suspects_9 ?_
    cases hf
    exact hk _ _ dX12_suspects_10
theorem c_X12_suspects {T : List Dsc} {R : RM} {c e : Nat} {x1 : Int32} {x2 : Int32} {m : M2} {r : (Int32 × M2)} (hG : Geo T R c e) (hf : F_X12_suspects x1 x2 m = some r) : Ct 11 yX12_suspects cX12_suspects 3 (some .int) T (mk m R) [.ref 56, .int x1, .int x2] (some (.int r.1)) (mk r.2 R) := Ct.ofI (r := (r.1, mk r.2 R)) (by decide +kernel) (Nat.le_of_ble_eq_true rfl) (fun X hX hk => w_X12_suspects hX hG hf hk)
theorem dX12_suspect_0 : decode cX12_suspect 0 = .ok (.aload_n 0, 1) := by decide +kernel
theorem dX12_suspect_1 : decode cX12_suspect 1 = .ok (.iload_n 1, 1) := by decide +kernel
theorem dX12_suspect_2 : decode cX12_suspect 2 = .ok (.iload_n 2, 1) := by decide +kernel
theorem dX12_suspect_3 : decode cX12_suspect 3 = .ok (.invokevirtual 512, 3) := by decide +kernel
theorem dX12_suspect_6 : decode cX12_suspect 6 = .ok (.ifCond .ne 5, 3) := by decide +kernel
theorem dX12_suspect_9 : decode cX12_suspect 9 = .ok (.iconst (-1), 1) := by decide +kernel
theorem dX12_suspect_10 : decode cX12_suspect 10 = .ok (.ireturn, 1) := by decide +kernel
theorem dX12_suspect_11 : decode cX12_suspect 11 = .ok (.aload_n 0, 1) := by decide +kernel
theorem dX12_suspect_12 : decode cX12_suspect 12 = .ok (.iload_n 1, 1) := by decide +kernel
theorem dX12_suspect_13 : decode cX12_suspect 13 = .ok (.iload_n 2, 1) := by decide +kernel
theorem dX12_suspect_14 : decode cX12_suspect 14 = .ok (.invokevirtual 515, 3) := by decide +kernel
theorem dX12_suspect_17 : decode cX12_suspect 17 = .ok (.iload_n 3, 1) := by decide +kernel
theorem dX12_suspect_18 : decode cX12_suspect 18 = .ok (.iconst 0, 1) := by decide +kernel
theorem dX12_suspect_19 : decode cX12_suspect 19 = .ok (.aload_n 0, 1) := by decide +kernel
theorem dX12_suspect_20 : decode cX12_suspect 20 = .ok (.getfield 506, 3) := by decide +kernel
theorem dX12_suspect_23 : decode cX12_suspect 23 = .ok (.iconst 1, 1) := by decide +kernel
theorem dX12_suspect_24 : decode cX12_suspect 24 = .ok (.isub, 1) := by decide +kernel
theorem dX12_suspect_25 : decode cX12_suspect 25 = .ok (.invokestatic 414, 3) := by decide +kernel
theorem dX12_suspect_28 : decode cX12_suspect 28 = .ok (.ifCond .eq 12, 3) := by decide +kernel
theorem dX12_suspect_31 : decode cX12_suspect 31 = .ok (.aload_n 0, 1) := by decide +kernel
theorem dX12_suspect_32 : decode cX12_suspect 32 = .ok (.getfield 185, 3) := by decide +kernel
theorem dX12_suspect_35 : decode cX12_suspect 35 = .ok (.iload_n 3, 1) := by decide +kernel
theorem dX12_suspect_36 : decode cX12_suspect 36 = .ok (.iaload, 1) := by decide +kernel
theorem dX12_suspect_37 : decode cX12_suspect 37 = .ok (.goto 4, 3) := by decide +kernel
theorem dX12_suspect_40 : decode cX12_suspect 40 = .ok (.iconst (-1), 1) := by decide +kernel
theorem dX12_suspect_41 : decode cX12_suspect 41 = .ok (.ireturn, 1) := by decide +kernel
set_option maxHeartbeats 4000000 in
set_option maxRecDepth 100000 in
theorem w_X12_suspect_41 {X : CX} {T : List Dsc} {R : RM} {c e : Nat} {n1 n2 : Nat} {s0 : Int32} {m : M2} {r : (Int32 × M2)} (hX : XR X 11 n1 n2) (hG : Geo T R c e) (hf : f_X12_suspect_41 s0 m = some r) (hk : FnI X cX12_suspect RX12 4 T n1 n2 (r.1, mk r.2 R)) : Wp X cX12_suspect RX12 4 T (mk m R) n1 n2 41 [] [.int s0] := by
  unfold f_X12_suspect_41 at hf
  cases hf
  exact hk _ _ dX12_suspect_41
set_option maxHeartbeats 4000000 in
set_option maxRecDepth 100000 in
theorem w_X12_suspect {X : CX} {T : List Dsc} {R : RM} {c e : Nat} {n1 n2 : Nat} {x1 : Int32} {x2 : Int32} {x3 : Int32} {m : M2} {r : (Int32 × M2)} (hX : XR X 11 n1 n2) (hG : Geo T R c e) (hf : F_X12_suspect x1 x2 x3 m = some r) (hk : FnI X cX12_suspect RX12 4 T n1 n2 (r.1, mk r.2 R)) : Wp X cX12_suspect RX12 4 T (mk m R) n1 n2 0 [(0, .ref 56), (1, .int x1), (2, .int x2), (3, .int x3)] [] := by
  unfold F_X12_suspect at hf
  refine Wp.aload_n (pc := 0) 0 rfl rfl dX12_suspect_0 ?_
  refine Wp.iload_n (pc := 1) 1 rfl rfl dX12_suspect_1 ?_
  refine Wp.iload_n (pc := 2) 2 rfl rfl dX12_suspect_2 ?_
  obtain ⟨c1, h2, hf⟩ := bnd hf
  refine Wp.callVi (pc := 3) (st := []) (as := [.int x1, .int x2]) (c_X12_canSuspect hG h2) ml_RX12_512 mv_X12_canSuspect mb_X12_canSuspect hX (Nat.le_of_ble_eq_true rfl) (by decide) rfl (hG.t 56 rfl) rfl (by simp) dX12_suspect_3 rfl ?_
  refine Wp.if_ne (pc := 6) 11 dX12_suspect_6 (by decide) (fun hc3 => ?_) (fun hc3 => ?_)
  · rw [if_neg hc3] at hf
    refine Wp.aload_n (pc := 11) 0 rfl rfl dX12_suspect_11 ?_
    refine Wp.iload_n (pc := 12) 1 rfl rfl dX12_suspect_12 ?_
    refine Wp.iload_n (pc := 13) 2 rfl rfl dX12_suspect_13 ?_
    obtain ⟨c4, h5, hf⟩ := bnd hf
    refine Wp.callVv (pc := 14) (st := []) (as := [.int x1, .int x2]) (c_X12_fillSuspects hG h5) ml_RX12_515 mv_X12_fillSuspects mb_X12_fillSuspects hX (Nat.le_of_ble_eq_true rfl) (by decide) rfl (hG.t 56 rfl) rfl (by simp) dX12_suspect_14 rfl ?_
    refine Wp.iload_n (pc := 17) 3 rfl rfl dX12_suspect_17 ?_
    refine Wp.iconst (pc := 18) (0 : Int32) (by decide) dX12_suspect_18 ?_
    refine Wp.aload_n (pc := 19) 0 rfl rfl dX12_suspect_19 ?_
    refine Wp.getI2 (pc := 20) (hG.t 56 rfl) fk_RX12_506 rfl dX12_suspect_20 ?_
    refine Wp.iconst (pc := 23) (1 : Int32) (by decide) dX12_suspect_23 ?_
    refine Wp.isub (pc := 24) dX12_suspect_24 ?_
    obtain ⟨c6, h7, hf⟩ := bnd hf
    refine Wp.callSi (pc := 25) (st := []) (as := [.int x3, .int (0 : Int32), .int ((hI c4 56 84) - (1 : Int32))]) (c_X12_in hG h7) ml_RX12_414 ms_X12_in mb_X12_in hX (Nat.le_of_ble_eq_true rfl) (by decide) rfl (by simp) dX12_suspect_25 rfl ?_
    refine Wp.if_eq (pc := 28) 40 dX12_suspect_28 (by decide) (fun hc8 => ?_) (fun hc8 => ?_)
    · rw [if_pos hc8] at hf
      refine Wp.iconst (pc := 40) (-1 : Int32) (by decide) dX12_suspect_40 ?_
      refine Wp.lo' (lo' := []) [] rfl ?_
      exact w_X12_suspect_41 hX hG hf hk
    · rw [if_neg hc8] at hf
      refine Wp.aload_n (pc := 31) 0 rfl rfl dX12_suspect_31 ?_
      refine Wp.getR2 (pc := 32) (hG.r 56 83 rfl) (hG.t 56 rfl) fk_RX12_185 rfl dX12_suspect_32 ?_
      refine Wp.iload_n (pc := 35) 3 rfl rfl dX12_suspect_35 ?_
      obtain ⟨v9, h10, hf⟩ := bnd hf
      refine Wp.iald2 (pc := 36) h10 (hG.a 112 0 rfl) dX12_suspect_36 ?_
      refine Wp.goto (pc := 37) 41 dX12_suspect_37 (by decide) ?_
      refine Wp.lo' (lo' := []) [] rfl ?_
      exact w_X12_suspect_41 hX hG hf hk
  · rw [if_pos hc3] at hf
    refine Wp.iconst (pc := 9) (-1 : Int32) (by decide) dX12_suspect_9 ?_
    cases hf
    exact hk _ _ dX12_suspect_10
theorem c_X12_suspect {T : List Dsc} {R : RM} {c e : Nat} {x1 : Int32} {x2 : Int32} {x3 : Int32} {m : M2} {r : (Int32 × M2)} (hG : Geo T R c e) (hf : F_X12_suspect x1 x2 x3 m = some r) : Ct 11 yX12_suspect cX12_suspect 4 (some .int) T (mk m R) [.ref 56, .int x1, .int x2, .int x3] (some (.int r.1)) (mk r.2 R) := Ct.ofI (r := (r.1, mk r.2 R)) (by decide +kernel) (Nat.le_of_ble_eq_true rfl) (fun X hX hk => w_X12_suspect hX hG hf hk)
theorem dX12_greater_0 : decode cX12_greater 0 = .ok (.aload_n 0, 1) := by decide +kernel
theorem dX12_greater_1 : decode cX12_greater 1 = .ok (.getfield 155, 3) := by decide +kernel
theorem dX12_greater_4 : decode cX12_greater 4 = .ok (.iload_n 1, 1) := by decide +kernel
theorem dX12_greater_5 : decode cX12_greater 5 = .ok (.iaload, 1) := by decide +kernel
theorem dX12_greater_6 : decode cX12_greater 6 = .ok (.aload_n 0, 1) := by decide +kernel
theorem dX12_greater_7 : decode cX12_greater 7 = .ok (.getfield 506, 3) := by decide +kernel
theorem dX12_greater_10 : decode cX12_greater 10 = .ok (.aload_n 0, 1) := by decide +kernel
theorem dX12_greater_11 : decode cX12_greater 11 = .ok (.getfield 155, 3) := by decide +kernel
theorem dX12_greater_14 : decode cX12_greater 14 = .ok (.iload_n 1, 1) := by decide +kernel
theorem dX12_greater_15 : decode cX12_greater 15 = .ok (.iaload, 1) := by decide +kernel
theorem dX12_greater_16 : decode cX12_greater 16 = .ok (.isub, 1) := by decide +kernel
theorem dX12_greater_17 : decode cX12_greater 17 = .ok (.if_icmp .le 12, 3) := by decide +kernel
theorem dX12_greater_20 : decode cX12_greater 20 = .ok (.aload_n 0, 1) := by decide +kernel
theorem dX12_greater_21 : decode cX12_greater 21 = .ok (.getfield 155, 3) := by decide +kernel
theorem dX12_greater_24 : decode cX12_greater 24 = .ok (.iload_n 1, 1) := by decide +kernel
theorem dX12_greater_25 : decode cX12_greater 25 = .ok (.iaload, 1) := by decide +kernel
theorem dX12_greater_26 : decode cX12_greater 26 = .ok (.goto 14, 3) := by decide +kernel
theorem dX12_greater_29 : decode cX12_greater 29 = .ok (.aload_n 0, 1) := by decide +kernel
theorem dX12_greater_30 : decode cX12_greater 30 = .ok (.getfield 506, 3) := by decide +kernel
theorem dX12_greater_33 : decode cX12_greater 33 = .ok (.aload_n 0, 1) := by decide +kernel
theorem dX12_greater_34 : decode cX12_greater 34 = .ok (.getfield 155, 3) := by decide +kernel
theorem dX12_greater_37 : decode cX12_greater 37 = .ok (.iload_n 1, 1) := by decide +kernel
theorem dX12_greater_38 : decode cX12_greater 38 = .ok (.iaload, 1) := by decide +kernel
theorem dX12_greater_39 : decode cX12_greater 39 = .ok (.isub, 1) := by decide +kernel
theorem dX12_greater_40 : decode cX12_greater 40 = .ok (.ireturn, 1) := by decide +kernel
set_option maxHeartbeats 4000000 in
set_option maxRecDepth 100000 in
theorem w_X12_greater_40 {X : CX} {T : List Dsc} {R : RM} {c e : Nat} {n1 n2 : Nat} {s0 : Int32} {m : M2} {r : (Int32 × M2)} (hX : XR X 1 n1 n2) (hG : Geo T R c e) (hf : f_X12_greater_40 s0 m = some r) (hk : FnI X cX12_greater RX12 2 T n1 n2 (r.1, mk r.2 R)) : Wp X cX12_greater RX12 2 T (mk m R) n1 n2 40 [] [.int s0] := by
  unfold f_X12_greater_40 at hf
  cases hf
  exact hk _ _ dX12_greater_40
set_option maxHeartbeats 4000000 in
set_option maxRecDepth 100000 in
theorem w_X12_greater {X : CX} {T : List Dsc} {R : RM} {c e : Nat} {n1 n2 : Nat} {x1 : Int32} {m : M2} {r : (Int32 × M2)} (hX : XR X 1 n1 n2) (hG : Geo T R c e) (hf : F_X12_greater x1 m = some r) (hk : FnI X cX12_greater RX12 2 T n1 n2 (r.1, mk r.2 R)) : Wp X cX12_greater RX12 2 T (mk m R) n1 n2 0 [(0, .ref 56), (1, .int x1)] [] := by
  unfold F_X12_greater at hf
  refine Wp.aload_n (pc := 0) 0 rfl rfl dX12_greater_0 ?_
  refine Wp.getR2 (pc := 1) (hG.r 56 72 rfl) (hG.t 56 rfl) fk_RX12_155 rfl dX12_greater_1 ?_
  refine Wp.iload_n (pc := 4) 1 rfl rfl dX12_greater_4 ?_
  obtain ⟨v1, h2, hf⟩ := bnd hf
  refine Wp.iald2 (pc := 5) h2 (hG.a 102 0 rfl) dX12_greater_5 ?_
  refine Wp.aload_n (pc := 6) 0 rfl rfl dX12_greater_6 ?_
  refine Wp.getI2 (pc := 7) (hG.t 56 rfl) fk_RX12_506 rfl dX12_greater_7 ?_
  refine Wp.aload_n (pc := 10) 0 rfl rfl dX12_greater_10 ?_
  refine Wp.getR2 (pc := 11) (hG.r 56 72 rfl) (hG.t 56 rfl) fk_RX12_155 rfl dX12_greater_11 ?_
  refine Wp.iload_n (pc := 14) 1 rfl rfl dX12_greater_14 ?_
  obtain ⟨v3, h4, hf⟩ := bnd hf
  refine Wp.iald2 (pc := 15) h4 (hG.a 102 0 rfl) dX12_greater_15 ?_
  refine Wp.isub (pc := 16) dX12_greater_16 ?_
  refine Wp.icmp_le (pc := 17) 29 dX12_greater_17 (by decide) (fun hc5 => ?_) (fun hc5 => ?_)
  · rw [if_pos hc5] at hf
    refine Wp.aload_n (pc := 29) 0 rfl rfl dX12_greater_29 ?_
    refine Wp.getI2 (pc := 30) (hG.t 56 rfl) fk_RX12_506 rfl dX12_greater_30 ?_
    refine Wp.aload_n (pc := 33) 0 rfl rfl dX12_greater_33 ?_
    refine Wp.getR2 (pc := 34) (hG.r 56 72 rfl) (hG.t 56 rfl) fk_RX12_155 rfl dX12_greater_34 ?_
    refine Wp.iload_n (pc := 37) 1 rfl rfl dX12_greater_37 ?_
    obtain ⟨v6, h7, hf⟩ := bnd hf
    refine Wp.iald2 (pc := 38) h7 (hG.a 102 0 rfl) dX12_greater_38 ?_
    refine Wp.isub (pc := 39) dX12_greater_39 ?_
    refine Wp.lo' (lo' := []) [] rfl ?_
    exact w_X12_greater_40 hX hG hf hk
  · rw [if_neg hc5] at hf
    refine Wp.aload_n (pc := 20) 0 rfl rfl dX12_greater_20 ?_
    refine Wp.getR2 (pc := 21) (hG.r 56 72 rfl) (hG.t 56 rfl) fk_RX12_155 rfl dX12_greater_21 ?_
    refine Wp.iload_n (pc := 24) 1 rfl rfl dX12_greater_24 ?_
    obtain ⟨v8, h9, hf⟩ := bnd hf
    refine Wp.iald2 (pc := 25) h9 (hG.a 102 0 rfl) dX12_greater_25 ?_
    refine Wp.goto (pc := 26) 40 dX12_greater_26 (by decide) ?_
    refine Wp.lo' (lo' := []) [] rfl ?_
    exact w_X12_greater_40 hX hG hf hk
theorem c_X12_greater {T : List Dsc} {R : RM} {c e : Nat} {x1 : Int32} {m : M2} {r : (Int32 × M2)} (hG : Geo T R c e) (hf : F_X12_greater x1 m = some r) : Ct 1 yX12_greater cX12_greater 2 (some .int) T (mk m R) [.ref 56, .int x1] (some (.int r.1)) (mk r.2 R) := Ct.ofI (r := (r.1, mk r.2 R)) (by decide +kernel) (Nat.le_of_ble_eq_true rfl) (fun X hX hk => w_X12_greater hX hG hf hk)
theorem dX12_check_0 : decode cX12_check 0 = .ok (.aload_n 0, 1) := by decide +kernel
theorem dX12_check_1 : decode cX12_check 1 = .ok (.iload_n 1, 1) := by decide +kernel
theorem dX12_check_2 : decode cX12_check 2 = .ok (.iload_n 2, 1) := by decide +kernel
theorem dX12_check_3 : decode cX12_check 3 = .ok (.invokevirtual 512, 3) := by decide +kernel
theorem dX12_check_6 : decode cX12_check 6 = .ok (.ifCond .eq 13, 3) := by decide +kernel
theorem dX12_check_9 : decode cX12_check 9 = .ok (.iload_n 3, 1) := by decide +kernel
theorem dX12_check_10 : decode cX12_check 10 = .ok (.iconst 0, 1) := by decide +kernel
theorem dX12_check_11 : decode cX12_check 11 = .ok (.bipush 99, 2) := by decide +kernel
theorem dX12_check_13 : decode cX12_check 13 = .ok (.invokestatic 414, 3) := by decide +kernel
theorem dX12_check_16 : decode cX12_check 16 = .ok (.ifCond .ne 5, 3) := by decide +kernel
theorem dX12_check_19 : decode cX12_check 19 = .ok (.iconst (-1), 1) := by decide +kernel
theorem dX12_check_20 : decode cX12_check 20 = .ok (.ireturn, 1) := by decide +kernel
theorem dX12_check_21 : decode cX12_check 21 = .ok (.aload_n 0, 1) := by decide +kernel
theorem dX12_check_22 : decode cX12_check 22 = .ok (.iload_n 1, 1) := by decide +kernel
theorem dX12_check_23 : decode cX12_check 23 = .ok (.iload_n 2, 1) := by decide +kernel
theorem dX12_check_24 : decode cX12_check 24 = .ok (.invokevirtual 515, 3) := by decide +kernel
theorem dX12_check_27 : decode cX12_check 27 = .ok (.aload_n 0, 1) := by decide +kernel
theorem dX12_check_28 : decode cX12_check 28 = .ok (.getfield 506, 3) := by decide +kernel
theorem dX12_check_31 : decode cX12_check 31 = .ok (.ifCond .eq 11, 3) := by decide +kernel
theorem dX12_check_34 : decode cX12_check 34 = .ok (.aload_n 0, 1) := by decide +kernel
theorem dX12_check_35 : decode cX12_check 35 = .ok (.invokevirtual 390, 3) := by decide +kernel
theorem dX12_check_38 : decode cX12_check 38 = .ok (.iconst 2, 1) := by decide +kernel
theorem dX12_check_39 : decode cX12_check 39 = .ok (.if_icmp .ge 6, 3) := by decide +kernel
theorem dX12_check_42 : decode cX12_check 42 = .ok (.bipush (-2), 2) := by decide +kernel
theorem dX12_check_44 : decode cX12_check 44 = .ok (.ireturn, 1) := by decide +kernel
theorem dX12_check_45 : decode cX12_check 45 = .ok (.iconst 0, 1) := by decide +kernel
theorem dX12_check_46 : decode cX12_check 46 = .ok (.istore 4, 2) := by decide +kernel
theorem dX12_check_48 : decode cX12_check 48 = .ok (.iload 4, 2) := by decide +kernel
theorem dX12_check_50 : decode cX12_check 50 = .ok (.bipush 12, 2) := by decide +kernel
theorem dX12_check_52 : decode cX12_check 52 = .ok (.if_icmp .ge 17, 3) := by decide +kernel
theorem dX12_check_55 : decode cX12_check 55 = .ok (.aload_n 0, 1) := by decide +kernel
theorem dX12_check_56 : decode cX12_check 56 = .ok (.getfield 155, 3) := by decide +kernel
theorem dX12_check_59 : decode cX12_check 59 = .ok (.iload 4, 2) := by decide +kernel
theorem dX12_check_61 : decode cX12_check 61 = .ok (.iconst 0, 1) := by decide +kernel
theorem dX12_check_62 : decode cX12_check 62 = .ok (.iastore, 1) := by decide +kernel
theorem dX12_check_63 : decode cX12_check 63 = .ok (.iinc 4 1, 3) := by decide +kernel
theorem dX12_check_66 : decode cX12_check 66 = .ok (.goto (-18), 3) := by decide +kernel
theorem dX12_check_69 : decode cX12_check 69 = .ok (.iconst 0, 1) := by decide +kernel
theorem dX12_check_70 : decode cX12_check 70 = .ok (.istore 4, 2) := by decide +kernel
theorem dX12_check_72 : decode cX12_check 72 = .ok (.iload 4, 2) := by decide +kernel
theorem dX12_check_74 : decode cX12_check 74 = .ok (.aload_n 0, 1) := by decide +kernel
theorem dX12_check_75 : decode cX12_check 75 = .ok (.getfield 506, 3) := by decide +kernel
theorem dX12_check_78 : decode cX12_check 78 = .ok (.if_icmp .ge 84, 3) := by decide +kernel
theorem dX12_check_81 : decode cX12_check 81 = .ok (.aload_n 0, 1) := by decide +kernel
theorem dX12_check_82 : decode cX12_check 82 = .ok (.aload_n 0, 1) := by decide +kernel
theorem dX12_check_83 : decode cX12_check 83 = .ok (.getfield 185, 3) := by decide +kernel
theorem dX12_check_86 : decode cX12_check 86 = .ok (.iload 4, 2) := by decide +kernel
theorem dX12_check_88 : decode cX12_check 88 = .ok (.iaload, 1) := by decide +kernel
theorem dX12_check_89 : decode cX12_check 89 = .ok (.invokevirtual 503, 3) := by decide +kernel
theorem dX12_check_92 : decode cX12_check 92 = .ok (.iconst 0, 1) := by decide +kernel
theorem dX12_check_93 : decode cX12_check 93 = .ok (.istore 5, 2) := by decide +kernel
theorem dX12_check_95 : decode cX12_check 95 = .ok (.iload 5, 2) := by decide +kernel
theorem dX12_check_97 : decode cX12_check 97 = .ok (.iload_n 3, 1) := by decide +kernel
theorem dX12_check_98 : decode cX12_check 98 = .ok (.if_icmp .ge 19, 3) := by decide +kernel
theorem dX12_check_101 : decode cX12_check 101 = .ok (.aload_n 0, 1) := by decide +kernel
theorem dX12_check_102 : decode cX12_check 102 = .ok (.aload_n 0, 1) := by decide +kernel
theorem dX12_check_103 : decode cX12_check 103 = .ok (.iload 5, 2) := by decide +kernel
theorem dX12_check_105 : decode cX12_check 105 = .ok (.invokevirtual 447, 3) := by decide +kernel
theorem dX12_check_108 : decode cX12_check 108 = .ok (.invokevirtual 450, 3) := by decide +kernel
theorem dX12_check_111 : decode cX12_check 111 = .ok (.iinc 5 1, 3) := by decide +kernel
theorem dX12_check_114 : decode cX12_check 114 = .ok (.goto (-19), 3) := by decide +kernel
theorem dX12_check_117 : decode cX12_check 117 = .ok (.aload_n 0, 1) := by decide +kernel
theorem dX12_check_118 : decode cX12_check 118 = .ok (.invokevirtual 453, 3) := by decide +kernel
theorem dX12_check_121 : decode cX12_check 121 = .ok (.istore 5, 2) := by decide +kernel
theorem dX12_check_123 : decode cX12_check 123 = .ok (.iconst 0, 1) := by decide +kernel
theorem dX12_check_124 : decode cX12_check 124 = .ok (.istore 6, 2) := by decide +kernel
theorem dX12_check_126 : decode cX12_check 126 = .ok (.iload 6, 2) := by decide +kernel
theorem dX12_check_128 : decode cX12_check 128 = .ok (.bipush 12, 2) := by decide +kernel
theorem dX12_check_130 : decode cX12_check 130 = .ok (.if_icmp .ge 26, 3) := by decide +kernel
theorem dX12_check_133 : decode cX12_check 133 = .ok (.aload_n 0, 1) := by decide +kernel
theorem dX12_check_134 : decode cX12_check 134 = .ok (.getfield 155, 3) := by decide +kernel
theorem dX12_check_137 : decode cX12_check 137 = .ok (.iload 6, 2) := by decide +kernel
theorem dX12_check_139 : decode cX12_check 139 = .ok (.dup2, 1) := by decide +kernel
theorem dX12_check_140 : decode cX12_check 140 = .ok (.iaload, 1) := by decide +kernel
theorem dX12_check_141 : decode cX12_check 141 = .ok (.iload 5, 2) := by decide +kernel
theorem dX12_check_143 : decode cX12_check 143 = .ok (.iload 6, 2) := by decide +kernel
theorem dX12_check_145 : decode cX12_check 145 = .ok (.ishr, 1) := by decide +kernel
theorem dX12_check_146 : decode cX12_check 146 = .ok (.iconst 1, 1) := by decide +kernel
theorem dX12_check_147 : decode cX12_check 147 = .ok (.iand, 1) := by decide +kernel
theorem dX12_check_148 : decode cX12_check 148 = .ok (.iadd, 1) := by decide +kernel
theorem dX12_check_149 : decode cX12_check 149 = .ok (.iastore, 1) := by decide +kernel
theorem dX12_check_150 : decode cX12_check 150 = .ok (.iinc 6 1, 3) := by decide +kernel
theorem dX12_check_153 : decode cX12_check 153 = .ok (.goto (-27), 3) := by decide +kernel
theorem dX12_check_156 : decode cX12_check 156 = .ok (.iinc 4 1, 3) := by decide +kernel
theorem dX12_check_159 : decode cX12_check 159 = .ok (.goto (-87), 3) := by decide +kernel
theorem dX12_check_162 : decode cX12_check 162 = .ok (.iconst 1, 1) := by decide +kernel
theorem dX12_check_163 : decode cX12_check 163 = .ok (.istore 4, 2) := by decide +kernel
theorem dX12_check_165 : decode cX12_check 165 = .ok (.iconst 2, 1) := by decide +kernel
theorem dX12_check_166 : decode cX12_check 166 = .ok (.istore 5, 2) := by decide +kernel
theorem dX12_check_168 : decode cX12_check 168 = .ok (.iload 5, 2) := by decide +kernel
theorem dX12_check_170 : decode cX12_check 170 = .ok (.aload_n 0, 1) := by decide +kernel
theorem dX12_check_171 : decode cX12_check 171 = .ok (.invokevirtual 390, 3) := by decide +kernel
theorem dX12_check_174 : decode cX12_check 174 = .ok (.if_icmp .ge 28, 3) := by decide +kernel
theorem dX12_check_177 : decode cX12_check 177 = .ok (.aload_n 0, 1) := by decide +kernel
theorem dX12_check_178 : decode cX12_check 178 = .ok (.iload 5, 2) := by decide +kernel
theorem dX12_check_180 : decode cX12_check 180 = .ok (.invokevirtual 518, 3) := by decide +kernel
theorem dX12_check_183 : decode cX12_check 183 = .ok (.aload_n 0, 1) := by decide +kernel
theorem dX12_check_184 : decode cX12_check 184 = .ok (.iload 4, 2) := by decide +kernel
theorem dX12_check_186 : decode cX12_check 186 = .ok (.invokevirtual 518, 3) := by decide +kernel
theorem dX12_check_189 : decode cX12_check 189 = .ok (.if_icmp .ge 7, 3) := by decide +kernel
theorem dX12_check_192 : decode cX12_check 192 = .ok (.iload 5, 2) := by decide +kernel
theorem dX12_check_194 : decode cX12_check 194 = .ok (.istore 4, 2) := by decide +kernel
theorem dX12_check_196 : decode cX12_check 196 = .ok (.iinc 5 1, 3) := by decide +kernel
theorem dX12_check_199 : decode cX12_check 199 = .ok (.goto (-31), 3) := by decide +kernel
theorem dX12_check_202 : decode cX12_check 202 = .ok (.iload 4, 2) := by decide +kernel
theorem dX12_check_204 : decode cX12_check 204 = .ok (.ireturn, 1) := by decide +kernel
def k_X12_check_48 (X : CX) (T : List Dsc) (R : RM) (n1 n2 : Nat) (x3 : Int32) (r : ((Int32 × M2) ⊕ ((M2)))) : Prop := match r with
  | .inl s => Wp X cX12_check RX12 7 T (mk s.2 R) n1 n2 48 [(0, .ref 56), (3, .int x3), (4, .int s.1)] []
  | .inr e => Wp X cX12_check RX12 7 T (mk e R) n1 n2 69 [(0, .ref 56), (3, .int x3)] []
def k_X12_check_95 (X : CX) (T : List Dsc) (R : RM) (n1 n2 : Nat) (x3 : Int32) (x4 : Int32) (r : ((Int32 × M2) ⊕ ((M2)))) : Prop := match r with
  | .inl s => Wp X cX12_check RX12 7 T (mk s.2 R) n1 n2 95 [(0, .ref 56), (3, .int x3), (4, .int x4), (5, .int s.1)] []
  | .inr e => Wp X cX12_check RX12 7 T (mk e R) n1 n2 117 [(0, .ref 56), (3, .int x3), (4, .int x4)] []
def k_X12_check_126 (X : CX) (T : List Dsc) (R : RM) (n1 n2 : Nat) (x3 : Int32) (x4 : Int32) (x5 : Int32) (r : ((Int32 × M2) ⊕ ((M2)))) : Prop := match r with
  | .inl s => Wp X cX12_check RX12 7 T (mk s.2 R) n1 n2 126 [(0, .ref 56), (3, .int x3), (4, .int x4), (5, .int x5), (6, .int s.1)] []
  | .inr e => Wp X cX12_check RX12 7 T (mk e R) n1 n2 156 [(0, .ref 56), (3, .int x3), (4, .int x4)] []
def k_X12_check_72 (X : CX) (T : List Dsc) (R : RM) (n1 n2 : Nat) (x3 : Int32) (r : ((Int32 × M2) ⊕ ((M2)))) : Prop := match r with
  | .inl s => Wp X cX12_check RX12 7 T (mk s.2 R) n1 n2 72 [(0, .ref 56), (3, .int x3), (4, .int s.1)] []
  | .inr e => Wp X cX12_check RX12 7 T (mk e R) n1 n2 162 [(0, .ref 56)] []
def k_X12_check_168 (X : CX) (T : List Dsc) (R : RM) (n1 n2 : Nat) (r : ((Int32 × Int32 × M2) ⊕ ((Int32 × M2)))) : Prop := match r with
  | .inl s => Wp X cX12_check RX12 7 T (mk s.2.2 R) n1 n2 168 [(0, .ref 56), (4, .int s.1), (5, .int s.2.1)] []
  | .inr e => Wp X cX12_check RX12 7 T (mk e.2 R) n1 n2 202 [(4, .int e.1)] []
set_option maxHeartbeats 4000000 in
set_option maxRecDepth 100000 in
theorem w_X12_check_19 {X : CX} {T : List Dsc} {R : RM} {c e : Nat} {n1 n2 : Nat} {m : M2} {r : (Int32 × M2)} (hX : XR X 11 n1 n2) (hG : Geo T R c e) (hf : f_X12_check_19 m = some r) (hk : FnI X cX12_check RX12 7 T n1 n2 (r.1, mk r.2 R)) : Wp X cX12_check RX12 7 T (mk m R) n1 n2 19 [] [] := by
  unfold f_X12_check_19 at hf
  refine Wp.iconst (pc := 19) (-1 : Int32) (by decide) dX12_check_19 ?_
  cases hf
  exact hk _ _ dX12_check_20
set_option maxHeartbeats 4000000 in
set_option maxRecDepth 100000 in
theorem w_X12_check_42 {X : CX} {T : List Dsc} {R : RM} {c e : Nat} {n1 n2 : Nat} {m : M2} {r : (Int32 × M2)} (hX : XR X 11 n1 n2) (hG : Geo T R c e) (hf : f_X12_check_42 m = some r) (hk : FnI X cX12_check RX12 7 T n1 n2 (r.1, mk r.2 R)) : Wp X cX12_check RX12 7 T (mk m R) n1 n2 42 [] [] := by
  unfold f_X12_check_42 at hf
  refine Wp.bipush (pc := 42) (-2 : Int32) (by decide) dX12_check_42 ?_
  cases hf
  exact hk _ _ dX12_check_44
set_option maxHeartbeats 4000000 in
set_option maxRecDepth 100000 in
theorem w_X12_check_48 {X : CX} {T : List Dsc} {R : RM} {c e : Nat} {n1 n2 : Nat} {x3 : Int32} {x4 : Int32} {m : M2} {r : ((Int32 × M2) ⊕ ((M2)))} (hX : XR X 11 n1 n2) (hG : Geo T R c e) (hf : f_X12_check_48 x3 x4 m = some r) (hk : k_X12_check_48 X T R n1 n2 x3 r) : Wp X cX12_check RX12 7 T (mk m R) n1 n2 48 [(0, .ref 56), (3, .int x3), (4, .int x4)] [] := by
  unfold f_X12_check_48 at hf
  refine Wp.iload (pc := 48) 2 rfl dX12_check_48 ?_
  refine Wp.bipush (pc := 50) (12 : Int32) (by decide) dX12_check_50 ?_
  refine Wp.icmp_ge (pc := 52) 69 dX12_check_52 (by decide) (fun hc1 => ?_) (fun hc1 => ?_)
  · rw [if_pos hc1] at hf
    refine Wp.lo' (lo' := [(0, .ref 56), (3, .int x3)]) [0, 1] rfl ?_
    cases hf
    exact hk
  · rw [if_neg hc1] at hf
    refine Wp.aload_n (pc := 55) 0 rfl rfl dX12_check_55 ?_
    refine Wp.getR2 (pc := 56) (hG.r 56 72 rfl) (hG.t 56 rfl) fk_RX12_155 rfl dX12_check_56 ?_
    refine Wp.iload (pc := 59) 2 rfl dX12_check_59 ?_
    refine Wp.iconst (pc := 61) (0 : Int32) (by decide) dX12_check_61 ?_
    obtain ⟨m2, h3, hf⟩ := bnd hf
    refine Wp.iast2 (pc := 62) h3 (hG.a 102 0 rfl) dX12_check_62 ?_
    obtain ⟨v4, h5, hf⟩ := bnd hf
    refine Wp.iincN (pc := 63) (lo' := [(0, .ref 56), (3, .int x3), (4, .int v4)]) (1 : Int32) (by decide) h5 2 rfl [1, 2, 0] rfl (by decide) dX12_check_63 ?_
    refine Wp.goto (pc := 66) 48 dX12_check_66 (by decide) ?_
    cases hf
    exact hk
theorem wl_X12_check_48 {X : CX} {T : List Dsc} {R : RM} {c e : Nat} {n1 n2 : Nat} {x3 : Int32} {x4 : Int32} {m : M2} {e1 : ((M2))} (hX : XR X 11 n1 n2) (hG : Geo T R c e) (h : loop (g_X12_check_48 x3) (x4, m) = some e1) (he : Wp X cX12_check RX12 7 T (mk e1 R) n1 n2 69 [(0, .ref 56), (3, .int x3)] []) : Wp X cX12_check RX12 7 T (mk m R) n1 n2 48 [(0, .ref 56), (3, .int x3), (4, .int x4)] [] :=
  loop_ok (K := k_X12_check_48 X T R n1 n2 x3) (fun s r hf hk => w_X12_check_48 hX hG hf hk) h he
set_option maxHeartbeats 4000000 in
set_option maxRecDepth 100000 in
theorem w_X12_check_95 {X : CX} {T : List Dsc} {R : RM} {c e : Nat} {n1 n2 : Nat} {x3 : Int32} {x4 : Int32} {x5 : Int32} {m : M2} {r : ((Int32 × M2) ⊕ ((M2)))} (hX : XR X 11 n1 n2) (hG : Geo T R c e) (hf : f_X12_check_95 x3 x4 x5 m = some r) (hk : k_X12_check_95 X T R n1 n2 x3 x4 r) : Wp X cX12_check RX12 7 T (mk m R) n1 n2 95 [(0, .ref 56), (3, .int x3), (4, .int x4), (5, .int x5)] [] := by
  unfold f_X12_check_95 at hf
  refine Wp.iload (pc := 95) 3 rfl dX12_check_95 ?_
  refine Wp.iload_n (pc := 97) 1 rfl rfl dX12_check_97 ?_
  refine Wp.icmp_ge (pc := 98) 117 dX12_check_98 (by decide) (fun hc1 => ?_) (fun hc1 => ?_)
  · rw [if_pos hc1] at hf
    refine Wp.lo' (lo' := [(0, .ref 56), (3, .int x3), (4, .int x4)]) [0, 1, 2] rfl ?_
    cases hf
    exact hk
  · rw [if_neg hc1] at hf
    refine Wp.aload_n (pc := 101) 0 rfl rfl dX12_check_101 ?_
    refine Wp.aload_n (pc := 102) 0 rfl rfl dX12_check_102 ?_
    refine Wp.iload (pc := 103) 3 rfl dX12_check_103 ?_
    obtain ⟨c2, h3, hf⟩ := bnd hf
    refine Wp.callVi (pc := 105) (st := [.ref 56]) (as := [.int x5]) (c_X12_isFog hG h3) ml_RX12_447 mv_X12_isFog mb_X12_isFog hX (Nat.le_of_ble_eq_true rfl) (by decide) rfl (hG.t 56 rfl) rfl (by simp [Value.category]) dX12_check_105 rfl ?_
    obtain ⟨c4, h5, hf⟩ := bnd hf
    refine Wp.callVv (pc := 108) (st := []) (as := [.int c2.1]) (c_X12_strikes hG h5) ml_RX12_450 mv_X12_strikes mb_X12_strikes hX (Nat.le_of_ble_eq_true rfl) (by decide) rfl (hG.t 56 rfl) rfl (by simp) dX12_check_108 rfl ?_
    obtain ⟨v6, h7, hf⟩ := bnd hf
    refine Wp.iincN (pc := 111) (lo' := [(0, .ref 56), (3, .int x3), (4, .int x4), (5, .int v6)]) (1 : Int32) (by decide) h7 3 rfl [1, 2, 3, 0] rfl (by decide) dX12_check_111 ?_
    refine Wp.goto (pc := 114) 95 dX12_check_114 (by decide) ?_
    cases hf
    exact hk
theorem wl_X12_check_95 {X : CX} {T : List Dsc} {R : RM} {c e : Nat} {n1 n2 : Nat} {x3 : Int32} {x4 : Int32} {x5 : Int32} {m : M2} {e1 : ((M2))} (hX : XR X 11 n1 n2) (hG : Geo T R c e) (h : loop (g_X12_check_95 x3 x4) (x5, m) = some e1) (he : Wp X cX12_check RX12 7 T (mk e1 R) n1 n2 117 [(0, .ref 56), (3, .int x3), (4, .int x4)] []) : Wp X cX12_check RX12 7 T (mk m R) n1 n2 95 [(0, .ref 56), (3, .int x3), (4, .int x4), (5, .int x5)] [] :=
  loop_ok (K := k_X12_check_95 X T R n1 n2 x3 x4) (fun s r hf hk => w_X12_check_95 hX hG hf hk) h he
set_option maxHeartbeats 4000000 in
set_option maxRecDepth 100000 in
theorem w_X12_check_126 {X : CX} {T : List Dsc} {R : RM} {c e : Nat} {n1 n2 : Nat} {x3 : Int32} {x4 : Int32} {x5 : Int32} {x6 : Int32} {m : M2} {r : ((Int32 × M2) ⊕ ((M2)))} (hX : XR X 11 n1 n2) (hG : Geo T R c e) (hf : f_X12_check_126 x3 x4 x5 x6 m = some r) (hk : k_X12_check_126 X T R n1 n2 x3 x4 x5 r) : Wp X cX12_check RX12 7 T (mk m R) n1 n2 126 [(0, .ref 56), (3, .int x3), (4, .int x4), (5, .int x5), (6, .int x6)] [] := by
  unfold f_X12_check_126 at hf
  refine Wp.iload (pc := 126) 4 rfl dX12_check_126 ?_
  refine Wp.bipush (pc := 128) (12 : Int32) (by decide) dX12_check_128 ?_
  refine Wp.icmp_ge (pc := 130) 156 dX12_check_130 (by decide) (fun hc1 => ?_) (fun hc1 => ?_)
  · rw [if_pos hc1] at hf
    refine Wp.lo' (lo' := [(0, .ref 56), (3, .int x3), (4, .int x4)]) [0, 1, 2] rfl ?_
    cases hf
    exact hk
  · rw [if_neg hc1] at hf
    refine Wp.aload_n (pc := 133) 0 rfl rfl dX12_check_133 ?_
    refine Wp.getR2 (pc := 134) (hG.r 56 72 rfl) (hG.t 56 rfl) fk_RX12_155 rfl dX12_check_134 ?_
    refine Wp.iload (pc := 137) 4 rfl dX12_check_137 ?_
    refine Wp.dup2 (pc := 139) rfl rfl dX12_check_139 ?_
    obtain ⟨v2, h3, hf⟩ := bnd hf
    refine Wp.iald2 (pc := 140) h3 (hG.a 102 0 rfl) dX12_check_140 ?_
    refine Wp.iload (pc := 141) 3 rfl dX12_check_141 ?_
    refine Wp.iload (pc := 143) 4 rfl dX12_check_143 ?_
    refine Wp.ishr (pc := 145) dX12_check_145 ?_
    refine Wp.iconst (pc := 146) (1 : Int32) (by decide) dX12_check_146 ?_
    refine Wp.iand (pc := 147) dX12_check_147 ?_
    refine Wp.iadd (pc := 148) dX12_check_148 ?_
    obtain ⟨m4, h5, hf⟩ := bnd hf
    refine Wp.iast2 (pc := 149) h5 (hG.a 102 0 rfl) dX12_check_149 ?_
    obtain ⟨v6, h7, hf⟩ := bnd hf
    refine Wp.iincN (pc := 150) (lo' := [(0, .ref 56), (3, .int x3), (4, .int x4), (5, .int x5), (6, .int v6)]) (1 : Int32) (by decide) h7 4 rfl [1, 2, 3, 4, 0] rfl (by decide) dX12_check_150 ?_
    refine Wp.goto (pc := 153) 126 dX12_check_153 (by decide) ?_
    cases hf
    exact hk
theorem wl_X12_check_126 {X : CX} {T : List Dsc} {R : RM} {c e : Nat} {n1 n2 : Nat} {x3 : Int32} {x4 : Int32} {x5 : Int32} {x6 : Int32} {m : M2} {e1 : ((M2))} (hX : XR X 11 n1 n2) (hG : Geo T R c e) (h : loop (g_X12_check_126 x3 x4 x5) (x6, m) = some e1) (he : Wp X cX12_check RX12 7 T (mk e1 R) n1 n2 156 [(0, .ref 56), (3, .int x3), (4, .int x4)] []) : Wp X cX12_check RX12 7 T (mk m R) n1 n2 126 [(0, .ref 56), (3, .int x3), (4, .int x4), (5, .int x5), (6, .int x6)] [] :=
  loop_ok (K := k_X12_check_126 X T R n1 n2 x3 x4 x5) (fun s r hf hk => w_X12_check_126 hX hG hf hk) h he
set_option maxHeartbeats 4000000 in
set_option maxRecDepth 100000 in
theorem w_X12_check_72 {X : CX} {T : List Dsc} {R : RM} {c e : Nat} {n1 n2 : Nat} {x3 : Int32} {x4 : Int32} {m : M2} {r : ((Int32 × M2) ⊕ ((M2)))} (hX : XR X 11 n1 n2) (hG : Geo T R c e) (hf : f_X12_check_72 x3 x4 m = some r) (hk : k_X12_check_72 X T R n1 n2 x3 r) : Wp X cX12_check RX12 7 T (mk m R) n1 n2 72 [(0, .ref 56), (3, .int x3), (4, .int x4)] [] := by
  unfold f_X12_check_72 at hf
  refine Wp.iload (pc := 72) 2 rfl dX12_check_72 ?_
  refine Wp.aload_n (pc := 74) 0 rfl rfl dX12_check_74 ?_
  refine Wp.getI2 (pc := 75) (hG.t 56 rfl) fk_RX12_506 rfl dX12_check_75 ?_
  refine Wp.icmp_ge (pc := 78) 162 dX12_check_78 (by decide) (fun hc1 => ?_) (fun hc1 => ?_)
  · rw [if_pos hc1] at hf
    refine Wp.lo' (lo' := [(0, .ref 56)]) [0] rfl ?_
    cases hf
    exact hk
  · rw [if_neg hc1] at hf
    refine Wp.aload_n (pc := 81) 0 rfl rfl dX12_check_81 ?_
    refine Wp.aload_n (pc := 82) 0 rfl rfl dX12_check_82 ?_
    refine Wp.getR2 (pc := 83) (hG.r 56 83 rfl) (hG.t 56 rfl) fk_RX12_185 rfl dX12_check_83 ?_
    refine Wp.iload (pc := 86) 2 rfl dX12_check_86 ?_
    obtain ⟨v2, h3, hf⟩ := bnd hf
    refine Wp.iald2 (pc := 88) h3 (hG.a 112 0 rfl) dX12_check_88 ?_
    obtain ⟨c4, h5, hf⟩ := bnd hf
    refine Wp.callVv (pc := 89) (st := []) (as := [.int v2]) (c_X12_breaks hG h5) ml_RX12_503 mv_X12_breaks mb_X12_breaks hX (Nat.le_of_ble_eq_true rfl) (by decide) rfl (hG.t 56 rfl) rfl (by simp) dX12_check_89 rfl ?_
    refine Wp.iconst (pc := 92) (0 : Int32) (by decide) dX12_check_92 ?_
    refine Wp.istore (pc := 93) (lo' := [(0, .ref 56), (3, .int x3), (4, .int x4), (5, .int (0 : Int32))]) [1, 2, 3, 0] rfl (by decide) dX12_check_93 ?_
    obtain ⟨e6, h7, hf⟩ := bnd hf
    refine wl_X12_check_95 hX hG h7 ?_
    refine Wp.aload_n (pc := 117) 0 rfl rfl dX12_check_117 ?_
    obtain ⟨c8, h9, hf⟩ := bnd hf
    refine Wp.callVi (pc := 118) (st := []) (as := []) (c_X12_clashesNow hG h9) ml_RX12_453 mv_X12_clashesNow mb_X12_clashesNow hX (Nat.le_of_ble_eq_true rfl) (by decide) rfl (hG.t 56 rfl) rfl (by simp) dX12_check_118 rfl ?_
    refine Wp.istore (pc := 121) (lo' := [(0, .ref 56), (3, .int x3), (4, .int x4), (5, .int c8.1)]) [1, 2, 3, 0] rfl (by decide) dX12_check_121 ?_
    refine Wp.iconst (pc := 123) (0 : Int32) (by decide) dX12_check_123 ?_
    refine Wp.istore (pc := 124) (lo' := [(0, .ref 56), (3, .int x3), (4, .int x4), (5, .int c8.1), (6, .int (0 : Int32))]) [1, 2, 3, 4, 0] rfl (by decide) dX12_check_124 ?_
    obtain ⟨e10, h11, hf⟩ := bnd hf
    refine wl_X12_check_126 hX hG h11 ?_
    obtain ⟨v12, h13, hf⟩ := bnd hf
    refine Wp.iincN (pc := 156) (lo' := [(0, .ref 56), (3, .int x3), (4, .int v12)]) (1 : Int32) (by decide) h13 2 rfl [1, 2, 0] rfl (by decide) dX12_check_156 ?_
    refine Wp.goto (pc := 159) 72 dX12_check_159 (by decide) ?_
    cases hf
    exact hk
theorem wl_X12_check_72 {X : CX} {T : List Dsc} {R : RM} {c e : Nat} {n1 n2 : Nat} {x3 : Int32} {x4 : Int32} {m : M2} {e1 : ((M2))} (hX : XR X 11 n1 n2) (hG : Geo T R c e) (h : loop (g_X12_check_72 x3) (x4, m) = some e1) (he : Wp X cX12_check RX12 7 T (mk e1 R) n1 n2 162 [(0, .ref 56)] []) : Wp X cX12_check RX12 7 T (mk m R) n1 n2 72 [(0, .ref 56), (3, .int x3), (4, .int x4)] [] :=
  loop_ok (K := k_X12_check_72 X T R n1 n2 x3) (fun s r hf hk => w_X12_check_72 hX hG hf hk) h he
set_option maxHeartbeats 4000000 in
set_option maxRecDepth 100000 in
theorem w_X12_check_196 {X : CX} {T : List Dsc} {R : RM} {c e : Nat} {n1 n2 : Nat} {x4 : Int32} {x5 : Int32} {m : M2} {r : ((Int32 × Int32 × M2) ⊕ ((Int32 × M2)))} (hX : XR X 11 n1 n2) (hG : Geo T R c e) (hf : f_X12_check_196 x4 x5 m = some r) (hk : k_X12_check_168 X T R n1 n2 r) : Wp X cX12_check RX12 7 T (mk m R) n1 n2 196 [(0, .ref 56), (4, .int x4), (5, .int x5)] [] := by
  unfold f_X12_check_196 at hf
  obtain ⟨v1, h2, hf⟩ := bnd hf
  refine Wp.iincN (pc := 196) (lo' := [(0, .ref 56), (4, .int x4), (5, .int v1)]) (1 : Int32) (by decide) h2 2 rfl [1, 2, 0] rfl (by decide) dX12_check_196 ?_
  refine Wp.goto (pc := 199) 168 dX12_check_199 (by decide) ?_
  cases hf
  exact hk
set_option maxHeartbeats 4000000 in
set_option maxRecDepth 100000 in
theorem w_X12_check_168 {X : CX} {T : List Dsc} {R : RM} {c e : Nat} {n1 n2 : Nat} {x4 : Int32} {x5 : Int32} {m : M2} {r : ((Int32 × Int32 × M2) ⊕ ((Int32 × M2)))} (hX : XR X 11 n1 n2) (hG : Geo T R c e) (hf : f_X12_check_168 x4 x5 m = some r) (hk : k_X12_check_168 X T R n1 n2 r) : Wp X cX12_check RX12 7 T (mk m R) n1 n2 168 [(0, .ref 56), (4, .int x4), (5, .int x5)] [] := by
  unfold f_X12_check_168 at hf
  refine Wp.iload (pc := 168) 2 rfl dX12_check_168 ?_
  refine Wp.aload_n (pc := 170) 0 rfl rfl dX12_check_170 ?_
  obtain ⟨c1, h2, hf⟩ := bnd hf
  refine Wp.callVi (pc := 171) (st := [.int x5]) (as := []) (c_X12_menNow hG h2) ml_RX12_390 mv_X12_menNow mb_X12_menNow hX (Nat.le_of_ble_eq_true rfl) (by decide) rfl (hG.t 56 rfl) rfl (by simp [Value.category]) dX12_check_171 rfl ?_
  refine Wp.icmp_ge (pc := 174) 202 dX12_check_174 (by decide) (fun hc3 => ?_) (fun hc3 => ?_)
  · rw [if_pos hc3] at hf
    refine Wp.lo' (lo' := [(4, .int x4)]) [1] rfl ?_
    cases hf
    exact hk
  · rw [if_neg hc3] at hf
    refine Wp.aload_n (pc := 177) 0 rfl rfl dX12_check_177 ?_
    refine Wp.iload (pc := 178) 2 rfl dX12_check_178 ?_
    obtain ⟨c4, h5, hf⟩ := bnd hf
    refine Wp.callVi (pc := 180) (st := []) (as := [.int x5]) (c_X12_greater hG h5) ml_RX12_518 mv_X12_greater mb_X12_greater hX (Nat.le_of_ble_eq_true rfl) (by decide) rfl (hG.t 56 rfl) rfl (by simp) dX12_check_180 rfl ?_
    refine Wp.aload_n (pc := 183) 0 rfl rfl dX12_check_183 ?_
    refine Wp.iload (pc := 184) 1 rfl dX12_check_184 ?_
    obtain ⟨c6, h7, hf⟩ := bnd hf
    refine Wp.callVi (pc := 186) (st := [.int c4.1]) (as := [.int x4]) (c_X12_greater hG h7) ml_RX12_518 mv_X12_greater mb_X12_greater hX (Nat.le_of_ble_eq_true rfl) (by decide) rfl (hG.t 56 rfl) rfl (by simp [Value.category]) dX12_check_186 rfl ?_
    refine Wp.icmp_ge (pc := 189) 196 dX12_check_189 (by decide) (fun hc8 => ?_) (fun hc8 => ?_)
    · rw [if_pos hc8] at hf
      exact w_X12_check_196 hX hG hf hk
    · rw [if_neg hc8] at hf
      refine Wp.iload (pc := 192) 2 rfl dX12_check_192 ?_
      refine Wp.istore (pc := 194) (lo' := [(0, .ref 56), (4, .int x5), (5, .int x5)]) [1, 0, 2] rfl (by decide) dX12_check_194 ?_
      exact w_X12_check_196 hX hG hf hk
theorem wl_X12_check_168 {X : CX} {T : List Dsc} {R : RM} {c e : Nat} {n1 n2 : Nat} {x4 : Int32} {x5 : Int32} {m : M2} {e1 : ((Int32 × M2))} (hX : XR X 11 n1 n2) (hG : Geo T R c e) (h : loop (g_X12_check_168) (x4, x5, m) = some e1) (he : Wp X cX12_check RX12 7 T (mk e1.2 R) n1 n2 202 [(4, .int e1.1)] []) : Wp X cX12_check RX12 7 T (mk m R) n1 n2 168 [(0, .ref 56), (4, .int x4), (5, .int x5)] [] :=
  loop_ok (K := k_X12_check_168 X T R n1 n2) (fun s r hf hk => w_X12_check_168 hX hG hf hk) h he
set_option maxHeartbeats 4000000 in
set_option maxRecDepth 100000 in
theorem w_X12_check {X : CX} {T : List Dsc} {R : RM} {c e : Nat} {n1 n2 : Nat} {x1 : Int32} {x2 : Int32} {x3 : Int32} {m : M2} {r : (Int32 × M2)} (hX : XR X 11 n1 n2) (hG : Geo T R c e) (hf : F_X12_check x1 x2 x3 m = some r) (hk : FnI X cX12_check RX12 7 T n1 n2 (r.1, mk r.2 R)) : Wp X cX12_check RX12 7 T (mk m R) n1 n2 0 [(0, .ref 56), (1, .int x1), (2, .int x2), (3, .int x3)] [] := by
  unfold F_X12_check at hf
  refine Wp.aload_n (pc := 0) 0 rfl rfl dX12_check_0 ?_
  refine Wp.iload_n (pc := 1) 1 rfl rfl dX12_check_1 ?_
  refine Wp.iload_n (pc := 2) 2 rfl rfl dX12_check_2 ?_
  obtain ⟨c1, h2, hf⟩ := bnd hf
  refine Wp.callVi (pc := 3) (st := []) (as := [.int x1, .int x2]) (c_X12_canSuspect hG h2) ml_RX12_512 mv_X12_canSuspect mb_X12_canSuspect hX (Nat.le_of_ble_eq_true rfl) (by decide) rfl (hG.t 56 rfl) rfl (by simp) dX12_check_3 rfl ?_
  refine Wp.if_eq (pc := 6) 19 dX12_check_6 (by decide) (fun hc3 => ?_) (fun hc3 => ?_)
  · rw [if_pos hc3] at hf
    refine Wp.lo' (lo' := []) [] rfl ?_
    exact w_X12_check_19 hX hG hf hk
  · rw [if_neg hc3] at hf
    refine Wp.iload_n (pc := 9) 3 rfl rfl dX12_check_9 ?_
    refine Wp.iconst (pc := 10) (0 : Int32) (by decide) dX12_check_10 ?_
    refine Wp.bipush (pc := 11) (99 : Int32) (by decide) dX12_check_11 ?_
    obtain ⟨c4, h5, hf⟩ := bnd hf
    refine Wp.callSi (pc := 13) (st := []) (as := [.int x3, .int (0 : Int32), .int (99 : Int32)]) (c_X12_in hG h5) ml_RX12_414 ms_X12_in mb_X12_in hX (Nat.le_of_ble_eq_true rfl) (by decide) rfl (by simp) dX12_check_13 rfl ?_
    refine Wp.if_ne (pc := 16) 21 dX12_check_16 (by decide) (fun hc6 => ?_) (fun hc6 => ?_)
    · rw [if_neg hc6] at hf
      refine Wp.aload_n (pc := 21) 0 rfl rfl dX12_check_21 ?_
      refine Wp.iload_n (pc := 22) 1 rfl rfl dX12_check_22 ?_
      refine Wp.iload_n (pc := 23) 2 rfl rfl dX12_check_23 ?_
      obtain ⟨c7, h8, hf⟩ := bnd hf
      refine Wp.callVv (pc := 24) (st := []) (as := [.int x1, .int x2]) (c_X12_fillSuspects hG h8) ml_RX12_515 mv_X12_fillSuspects mb_X12_fillSuspects hX (Nat.le_of_ble_eq_true rfl) (by decide) rfl (hG.t 56 rfl) rfl (by simp) dX12_check_24 rfl ?_
      refine Wp.aload_n (pc := 27) 0 rfl rfl dX12_check_27 ?_
      refine Wp.getI2 (pc := 28) (hG.t 56 rfl) fk_RX12_506 rfl dX12_check_28 ?_
      refine Wp.if_eq (pc := 31) 42 dX12_check_31 (by decide) (fun hc9 => ?_) (fun hc9 => ?_)
      · rw [if_pos hc9] at hf
        refine Wp.lo' (lo' := []) [] rfl ?_
        exact w_X12_check_42 hX hG hf hk
      · rw [if_neg hc9] at hf
        refine Wp.aload_n (pc := 34) 0 rfl rfl dX12_check_34 ?_
        obtain ⟨c10, h11, hf⟩ := bnd hf
        refine Wp.callVi (pc := 35) (st := []) (as := []) (c_X12_menNow hG h11) ml_RX12_390 mv_X12_menNow mb_X12_menNow hX (Nat.le_of_ble_eq_true rfl) (by decide) rfl (hG.t 56 rfl) rfl (by simp) dX12_check_35 rfl ?_
        refine Wp.iconst (pc := 38) (2 : Int32) (by decide) dX12_check_38 ?_
        refine Wp.icmp_ge (pc := 39) 45 dX12_check_39 (by decide) (fun hc12 => ?_) (fun hc12 => ?_)
        · rw [if_pos hc12] at hf
          refine Wp.iconst (pc := 45) (0 : Int32) (by decide) dX12_check_45 ?_
          refine Wp.istore (pc := 46) (lo' := [(0, .ref 56), (3, .int x3), (4, .int (0 : Int32))]) [1, 4, 0] rfl (by decide) dX12_check_46 ?_
          obtain ⟨e13, h14, hf⟩ := bnd hf
          refine wl_X12_check_48 hX hG h14 ?_
          refine Wp.iconst (pc := 69) (0 : Int32) (by decide) dX12_check_69 ?_
          refine Wp.istore (pc := 70) (lo' := [(0, .ref 56), (3, .int x3), (4, .int (0 : Int32))]) [1, 2, 0] rfl (by decide) dX12_check_70 ?_
          obtain ⟨e15, h16, hf⟩ := bnd hf
          refine wl_X12_check_72 hX hG h16 ?_
          refine Wp.iconst (pc := 162) (1 : Int32) (by decide) dX12_check_162 ?_
          refine Wp.istore (pc := 163) (lo' := [(0, .ref 56), (4, .int (1 : Int32))]) [1, 0] rfl (by decide) dX12_check_163 ?_
          refine Wp.iconst (pc := 165) (2 : Int32) (by decide) dX12_check_165 ?_
          refine Wp.istore (pc := 166) (lo' := [(0, .ref 56), (4, .int (1 : Int32)), (5, .int (2 : Int32))]) [1, 2, 0] rfl (by decide) dX12_check_166 ?_
          obtain ⟨e17, h18, hf⟩ := bnd hf
          refine wl_X12_check_168 hX hG h18 ?_
          refine Wp.iload (pc := 202) 0 rfl dX12_check_202 ?_
          cases hf
          exact hk _ _ dX12_check_204
        · rw [if_neg hc12] at hf
          refine Wp.lo' (lo' := []) [] rfl ?_
          exact w_X12_check_42 hX hG hf hk
    · rw [if_pos hc6] at hf
      refine Wp.lo' (lo' := []) [] rfl ?_
      exact w_X12_check_19 hX hG hf hk
theorem c_X12_check {T : List Dsc} {R : RM} {c e : Nat} {x1 : Int32} {x2 : Int32} {x3 : Int32} {m : M2} {r : (Int32 × M2)} (hG : Geo T R c e) (hf : F_X12_check x1 x2 x3 m = some r) : Ct 11 yX12_check cX12_check 7 (some .int) T (mk m R) [.ref 56, .int x1, .int x2, .int x3] (some (.int r.1)) (mk r.2 R) := Ct.ofI (r := (r.1, mk r.2 R)) (by decide +kernel) (Nat.le_of_ble_eq_true rfl) (fun X hX hk => w_X12_check hX hG hf hk)
theorem dX12_hold_0 : decode cX12_hold 0 = .ok (.iload_n 1, 1) := by decide +kernel
theorem dX12_hold_1 : decode cX12_hold 1 = .ok (.iconst 0, 1) := by decide +kernel
theorem dX12_hold_2 : decode cX12_hold 2 = .ok (.iconst 2, 1) := by decide +kernel
theorem dX12_hold_3 : decode cX12_hold 3 = .ok (.invokestatic 414, 3) := by decide +kernel
theorem dX12_hold_6 : decode cX12_hold 6 = .ok (.ifCond .ne 5, 3) := by decide +kernel
theorem dX12_hold_9 : decode cX12_hold 9 = .ok (.iconst 0, 1) := by decide +kernel
theorem dX12_hold_10 : decode cX12_hold 10 = .ok (.ireturn, 1) := by decide +kernel
theorem dX12_hold_11 : decode cX12_hold 11 = .ok (.aload_n 0, 1) := by decide +kernel
theorem dX12_hold_12 : decode cX12_hold 12 = .ok (.getfield 188, 3) := by decide +kernel
theorem dX12_hold_15 : decode cX12_hold 15 = .ok (.iload_n 1, 1) := by decide +kernel
theorem dX12_hold_16 : decode cX12_hold 16 = .ok (.iconst 1, 1) := by decide +kernel
theorem dX12_hold_17 : decode cX12_hold 17 = .ok (.bastore, 1) := by decide +kernel
theorem dX12_hold_18 : decode cX12_hold 18 = .ok (.aload_n 0, 1) := by decide +kernel
theorem dX12_hold_19 : decode cX12_hold 19 = .ok (.getfield 200, 3) := by decide +kernel
theorem dX12_hold_22 : decode cX12_hold 22 = .ok (.iload_n 1, 1) := by decide +kernel
theorem dX12_hold_23 : decode cX12_hold 23 = .ok (.aload_n 0, 1) := by decide +kernel
theorem dX12_hold_24 : decode cX12_hold 24 = .ok (.getfield 209, 3) := by decide +kernel
theorem dX12_hold_27 : decode cX12_hold 27 = .ok (.iastore, 1) := by decide +kernel
theorem dX12_hold_28 : decode cX12_hold 28 = .ok (.aload_n 0, 1) := by decide +kernel
theorem dX12_hold_29 : decode cX12_hold 29 = .ok (.getfield 203, 3) := by decide +kernel
theorem dX12_hold_32 : decode cX12_hold 32 = .ok (.iload_n 1, 1) := by decide +kernel
theorem dX12_hold_33 : decode cX12_hold 33 = .ok (.aload_n 0, 1) := by decide +kernel
theorem dX12_hold_34 : decode cX12_hold 34 = .ok (.getfield 393, 3) := by decide +kernel
theorem dX12_hold_37 : decode cX12_hold 37 = .ok (.iastore, 1) := by decide +kernel
theorem dX12_hold_38 : decode cX12_hold 38 = .ok (.aload_n 0, 1) := by decide +kernel
theorem dX12_hold_39 : decode cX12_hold 39 = .ok (.getfield 206, 3) := by decide +kernel
theorem dX12_hold_42 : decode cX12_hold 42 = .ok (.iload_n 1, 1) := by decide +kernel
theorem dX12_hold_43 : decode cX12_hold 43 = .ok (.aload_n 0, 1) := by decide +kernel
theorem dX12_hold_44 : decode cX12_hold 44 = .ok (.getfield 396, 3) := by decide +kernel
theorem dX12_hold_47 : decode cX12_hold 47 = .ok (.iastore, 1) := by decide +kernel
theorem dX12_hold_48 : decode cX12_hold 48 = .ok (.iconst 0, 1) := by decide +kernel
theorem dX12_hold_49 : decode cX12_hold 49 = .ok (.istore_n 2, 1) := by decide +kernel
theorem dX12_hold_50 : decode cX12_hold 50 = .ok (.iload_n 2, 1) := by decide +kernel
theorem dX12_hold_51 : decode cX12_hold 51 = .ok (.bipush 12, 2) := by decide +kernel
theorem dX12_hold_53 : decode cX12_hold 53 = .ok (.if_icmp .ge 60, 3) := by decide +kernel
theorem dX12_hold_56 : decode cX12_hold 56 = .ok (.aload_n 0, 1) := by decide +kernel
theorem dX12_hold_57 : decode cX12_hold 57 = .ok (.getfield 191, 3) := by decide +kernel
theorem dX12_hold_60 : decode cX12_hold 60 = .ok (.bipush 12, 2) := by decide +kernel
theorem dX12_hold_62 : decode cX12_hold 62 = .ok (.iload_n 1, 1) := by decide +kernel
theorem dX12_hold_63 : decode cX12_hold 63 = .ok (.imul, 1) := by decide +kernel
theorem dX12_hold_64 : decode cX12_hold 64 = .ok (.iload_n 2, 1) := by decide +kernel
theorem dX12_hold_65 : decode cX12_hold 65 = .ok (.iadd, 1) := by decide +kernel
theorem dX12_hold_66 : decode cX12_hold 66 = .ok (.aload_n 0, 1) := by decide +kernel
theorem dX12_hold_67 : decode cX12_hold 67 = .ok (.getfield 128, 3) := by decide +kernel
theorem dX12_hold_70 : decode cX12_hold 70 = .ok (.iload_n 2, 1) := by decide +kernel
theorem dX12_hold_71 : decode cX12_hold 71 = .ok (.iaload, 1) := by decide +kernel
theorem dX12_hold_72 : decode cX12_hold 72 = .ok (.iastore, 1) := by decide +kernel
theorem dX12_hold_73 : decode cX12_hold 73 = .ok (.aload_n 0, 1) := by decide +kernel
theorem dX12_hold_74 : decode cX12_hold 74 = .ok (.getfield 194, 3) := by decide +kernel
theorem dX12_hold_77 : decode cX12_hold 77 = .ok (.bipush 12, 2) := by decide +kernel
theorem dX12_hold_79 : decode cX12_hold 79 = .ok (.iload_n 1, 1) := by decide +kernel
theorem dX12_hold_80 : decode cX12_hold 80 = .ok (.imul, 1) := by decide +kernel
theorem dX12_hold_81 : decode cX12_hold 81 = .ok (.iload_n 2, 1) := by decide +kernel
theorem dX12_hold_82 : decode cX12_hold 82 = .ok (.iadd, 1) := by decide +kernel
theorem dX12_hold_83 : decode cX12_hold 83 = .ok (.aload_n 0, 1) := by decide +kernel
theorem dX12_hold_84 : decode cX12_hold 84 = .ok (.getfield 131, 3) := by decide +kernel
theorem dX12_hold_87 : decode cX12_hold 87 = .ok (.iload_n 2, 1) := by decide +kernel
theorem dX12_hold_88 : decode cX12_hold 88 = .ok (.iaload, 1) := by decide +kernel
theorem dX12_hold_89 : decode cX12_hold 89 = .ok (.iastore, 1) := by decide +kernel
theorem dX12_hold_90 : decode cX12_hold 90 = .ok (.aload_n 0, 1) := by decide +kernel
theorem dX12_hold_91 : decode cX12_hold 91 = .ok (.getfield 197, 3) := by decide +kernel
theorem dX12_hold_94 : decode cX12_hold 94 = .ok (.bipush 12, 2) := by decide +kernel
theorem dX12_hold_96 : decode cX12_hold 96 = .ok (.iload_n 1, 1) := by decide +kernel
theorem dX12_hold_97 : decode cX12_hold 97 = .ok (.imul, 1) := by decide +kernel
theorem dX12_hold_98 : decode cX12_hold 98 = .ok (.iload_n 2, 1) := by decide +kernel
theorem dX12_hold_99 : decode cX12_hold 99 = .ok (.iadd, 1) := by decide +kernel
theorem dX12_hold_100 : decode cX12_hold 100 = .ok (.aload_n 0, 1) := by decide +kernel
theorem dX12_hold_101 : decode cX12_hold 101 = .ok (.getfield 134, 3) := by decide +kernel
theorem dX12_hold_104 : decode cX12_hold 104 = .ok (.iload_n 2, 1) := by decide +kernel
theorem dX12_hold_105 : decode cX12_hold 105 = .ok (.iaload, 1) := by decide +kernel
theorem dX12_hold_106 : decode cX12_hold 106 = .ok (.iastore, 1) := by decide +kernel
theorem dX12_hold_107 : decode cX12_hold 107 = .ok (.iinc 2 1, 3) := by decide +kernel
theorem dX12_hold_110 : decode cX12_hold 110 = .ok (.goto (-60), 3) := by decide +kernel
theorem dX12_hold_113 : decode cX12_hold 113 = .ok (.iconst 1, 1) := by decide +kernel
theorem dX12_hold_114 : decode cX12_hold 114 = .ok (.ireturn, 1) := by decide +kernel
def k_X12_hold_50 (X : CX) (T : List Dsc) (R : RM) (n1 n2 : Nat) (x1 : Int32) (r : ((Int32 × M2) ⊕ ((M2)))) : Prop := match r with
  | .inl s => Wp X cX12_hold RX12 3 T (mk s.2 R) n1 n2 50 [(0, .ref 56), (1, .int x1), (2, .int s.1)] []
  | .inr e => Wp X cX12_hold RX12 3 T (mk e R) n1 n2 113 [] []
set_option maxHeartbeats 4000000 in
set_option maxRecDepth 100000 in
theorem w_X12_hold_50 {X : CX} {T : List Dsc} {R : RM} {c e : Nat} {n1 n2 : Nat} {x1 : Int32} {x2 : Int32} {m : M2} {r : ((Int32 × M2) ⊕ ((M2)))} (hX : XR X 2 n1 n2) (hG : Geo T R c e) (hf : f_X12_hold_50 x1 x2 m = some r) (hk : k_X12_hold_50 X T R n1 n2 x1 r) : Wp X cX12_hold RX12 3 T (mk m R) n1 n2 50 [(0, .ref 56), (1, .int x1), (2, .int x2)] [] := by
  unfold f_X12_hold_50 at hf
  refine Wp.iload_n (pc := 50) 2 rfl rfl dX12_hold_50 ?_
  refine Wp.bipush (pc := 51) (12 : Int32) (by decide) dX12_hold_51 ?_
  refine Wp.icmp_ge (pc := 53) 113 dX12_hold_53 (by decide) (fun hc1 => ?_) (fun hc1 => ?_)
  · rw [if_pos hc1] at hf
    refine Wp.lo' (lo' := []) [] rfl ?_
    cases hf
    exact hk
  · rw [if_neg hc1] at hf
    refine Wp.aload_n (pc := 56) 0 rfl rfl dX12_hold_56 ?_
    refine Wp.getR2 (pc := 57) (hG.r 56 86 rfl) (hG.t 56 rfl) fk_RX12_191 rfl dX12_hold_57 ?_
    refine Wp.bipush (pc := 60) (12 : Int32) (by decide) dX12_hold_60 ?_
    refine Wp.iload_n (pc := 62) 1 rfl rfl dX12_hold_62 ?_
    refine Wp.imul (pc := 63) dX12_hold_63 ?_
    refine Wp.iload_n (pc := 64) 2 rfl rfl dX12_hold_64 ?_
    refine Wp.iadd (pc := 65) dX12_hold_65 ?_
    refine Wp.aload_n (pc := 66) 0 rfl rfl dX12_hold_66 ?_
    refine Wp.getR2 (pc := 67) (hG.r 56 55 rfl) (hG.t 56 rfl) fk_RX12_128 rfl dX12_hold_67 ?_
    refine Wp.iload_n (pc := 70) 2 rfl rfl dX12_hold_70 ?_
    obtain ⟨v2, h3, hf⟩ := bnd hf
    refine Wp.iald2 (pc := 71) h3 (hG.a 93 0 rfl) dX12_hold_71 ?_
    obtain ⟨m4, h5, hf⟩ := bnd hf
    refine Wp.iast2 (pc := 72) h5 (hG.a 114 0 rfl) dX12_hold_72 ?_
    refine Wp.aload_n (pc := 73) 0 rfl rfl dX12_hold_73 ?_
    refine Wp.getR2 (pc := 74) (hG.r 56 87 rfl) (hG.t 56 rfl) fk_RX12_194 rfl dX12_hold_74 ?_
    refine Wp.bipush (pc := 77) (12 : Int32) (by decide) dX12_hold_77 ?_
    refine Wp.iload_n (pc := 79) 1 rfl rfl dX12_hold_79 ?_
    refine Wp.imul (pc := 80) dX12_hold_80 ?_
    refine Wp.iload_n (pc := 81) 2 rfl rfl dX12_hold_81 ?_
    refine Wp.iadd (pc := 82) dX12_hold_82 ?_
    refine Wp.aload_n (pc := 83) 0 rfl rfl dX12_hold_83 ?_
    refine Wp.getR2 (pc := 84) (hG.r 56 56 rfl) (hG.t 56 rfl) fk_RX12_131 rfl dX12_hold_84 ?_
    refine Wp.iload_n (pc := 87) 2 rfl rfl dX12_hold_87 ?_
    obtain ⟨v6, h7, hf⟩ := bnd hf
    refine Wp.iald2 (pc := 88) h7 (hG.a 94 0 rfl) dX12_hold_88 ?_
    obtain ⟨m8, h9, hf⟩ := bnd hf
    refine Wp.iast2 (pc := 89) h9 (hG.a 115 0 rfl) dX12_hold_89 ?_
    refine Wp.aload_n (pc := 90) 0 rfl rfl dX12_hold_90 ?_
    refine Wp.getR2 (pc := 91) (hG.r 56 88 rfl) (hG.t 56 rfl) fk_RX12_197 rfl dX12_hold_91 ?_
    refine Wp.bipush (pc := 94) (12 : Int32) (by decide) dX12_hold_94 ?_
    refine Wp.iload_n (pc := 96) 1 rfl rfl dX12_hold_96 ?_
    refine Wp.imul (pc := 97) dX12_hold_97 ?_
    refine Wp.iload_n (pc := 98) 2 rfl rfl dX12_hold_98 ?_
    refine Wp.iadd (pc := 99) dX12_hold_99 ?_
    refine Wp.aload_n (pc := 100) 0 rfl rfl dX12_hold_100 ?_
    refine Wp.getR2 (pc := 101) (hG.r 56 57 rfl) (hG.t 56 rfl) fk_RX12_134 rfl dX12_hold_101 ?_
    refine Wp.iload_n (pc := 104) 2 rfl rfl dX12_hold_104 ?_
    obtain ⟨v10, h11, hf⟩ := bnd hf
    refine Wp.iald2 (pc := 105) h11 (hG.a 95 0 rfl) dX12_hold_105 ?_
    obtain ⟨m12, h13, hf⟩ := bnd hf
    refine Wp.iast2 (pc := 106) h13 (hG.a 116 0 rfl) dX12_hold_106 ?_
    obtain ⟨v14, h15, hf⟩ := bnd hf
    refine Wp.iincN (pc := 107) (lo' := [(0, .ref 56), (1, .int x1), (2, .int v14)]) (1 : Int32) (by decide) h15 2 rfl [1, 2, 0] rfl (by decide) dX12_hold_107 ?_
    refine Wp.goto (pc := 110) 50 dX12_hold_110 (by decide) ?_
    cases hf
    exact hk
theorem wl_X12_hold_50 {X : CX} {T : List Dsc} {R : RM} {c e : Nat} {n1 n2 : Nat} {x1 : Int32} {x2 : Int32} {m : M2} {e1 : ((M2))} (hX : XR X 2 n1 n2) (hG : Geo T R c e) (h : loop (g_X12_hold_50 x1) (x2, m) = some e1) (he : Wp X cX12_hold RX12 3 T (mk e1 R) n1 n2 113 [] []) : Wp X cX12_hold RX12 3 T (mk m R) n1 n2 50 [(0, .ref 56), (1, .int x1), (2, .int x2)] [] :=
  loop_ok (K := k_X12_hold_50 X T R n1 n2 x1) (fun s r hf hk => w_X12_hold_50 hX hG hf hk) h he
set_option maxHeartbeats 4000000 in
set_option maxRecDepth 100000 in
theorem w_X12_hold {X : CX} {T : List Dsc} {R : RM} {c e : Nat} {n1 n2 : Nat} {x1 : Int32} {m : M2} {r : (Int32 × M2)} (hX : XR X 2 n1 n2) (hG : Geo T R c e) (hf : F_X12_hold x1 m = some r) (hk : FnZ X cX12_hold RX12 3 T n1 n2 (r.1, mk r.2 R)) : Wp X cX12_hold RX12 3 T (mk m R) n1 n2 0 [(0, .ref 56), (1, .int x1)] [] := by
  unfold F_X12_hold at hf
  refine Wp.iload_n (pc := 0) 1 rfl rfl dX12_hold_0 ?_
  refine Wp.iconst (pc := 1) (0 : Int32) (by decide) dX12_hold_1 ?_
  refine Wp.iconst (pc := 2) (2 : Int32) (by decide) dX12_hold_2 ?_
  obtain ⟨c1, h2, hf⟩ := bnd hf
  refine Wp.callSi (pc := 3) (st := []) (as := [.int x1, .int (0 : Int32), .int (2 : Int32)]) (c_X12_in hG h2) ml_RX12_414 ms_X12_in mb_X12_in hX (Nat.le_of_ble_eq_true rfl) (by decide) rfl (by simp) dX12_hold_3 rfl ?_
  refine Wp.if_ne (pc := 6) 11 dX12_hold_6 (by decide) (fun hc3 => ?_) (fun hc3 => ?_)
  · rw [if_neg hc3] at hf
    refine Wp.aload_n (pc := 11) 0 rfl rfl dX12_hold_11 ?_
    refine Wp.getR2 (pc := 12) (hG.r 56 85 rfl) (hG.t 56 rfl) fk_RX12_188 rfl dX12_hold_12 ?_
    refine Wp.iload_n (pc := 15) 1 rfl rfl dX12_hold_15 ?_
    refine Wp.iconst (pc := 16) (1 : Int32) (by decide) dX12_hold_16 ?_
    obtain ⟨m4, h5, hf⟩ := bnd hf
    refine Wp.zast2 (pc := 17) (Or.inr rfl) h5 (hG.a 113 3 rfl) dX12_hold_17 ?_
    refine Wp.aload_n (pc := 18) 0 rfl rfl dX12_hold_18 ?_
    refine Wp.getR2 (pc := 19) (hG.r 56 89 rfl) (hG.t 56 rfl) fk_RX12_200 rfl dX12_hold_19 ?_
    refine Wp.iload_n (pc := 22) 1 rfl rfl dX12_hold_22 ?_
    refine Wp.aload_n (pc := 23) 0 rfl rfl dX12_hold_23 ?_
    refine Wp.getI2 (pc := 24) (hG.t 56 rfl) fk_RX12_209 rfl dX12_hold_24 ?_
    obtain ⟨m6, h7, hf⟩ := bnd hf
    refine Wp.iast2 (pc := 27) h7 (hG.a 117 0 rfl) dX12_hold_27 ?_
    refine Wp.aload_n (pc := 28) 0 rfl rfl dX12_hold_28 ?_
    refine Wp.getR2 (pc := 29) (hG.r 56 90 rfl) (hG.t 56 rfl) fk_RX12_203 rfl dX12_hold_29 ?_
    refine Wp.iload_n (pc := 32) 1 rfl rfl dX12_hold_32 ?_
    refine Wp.aload_n (pc := 33) 0 rfl rfl dX12_hold_33 ?_
    refine Wp.getI2 (pc := 34) (hG.t 56 rfl) fk_RX12_393 rfl dX12_hold_34 ?_
    obtain ⟨m8, h9, hf⟩ := bnd hf
    refine Wp.iast2 (pc := 37) h9 (hG.a 118 0 rfl) dX12_hold_37 ?_
    refine Wp.aload_n (pc := 38) 0 rfl rfl dX12_hold_38 ?_
    refine Wp.getR2 (pc := 39) (hG.r 56 91 rfl) (hG.t 56 rfl) fk_RX12_206 rfl dX12_hold_39 ?_
    refine Wp.iload_n (pc := 42) 1 rfl rfl dX12_hold_42 ?_
    refine Wp.aload_n (pc := 43) 0 rfl rfl dX12_hold_43 ?_
    refine Wp.getI2 (pc := 44) (hG.t 56 rfl) fk_RX12_396 rfl dX12_hold_44 ?_
    obtain ⟨m10, h11, hf⟩ := bnd hf
    refine Wp.iast2 (pc := 47) h11 (hG.a 119 0 rfl) dX12_hold_47 ?_
    refine Wp.iconst (pc := 48) (0 : Int32) (by decide) dX12_hold_48 ?_
    refine Wp.istore_n (pc := 49) (lo' := [(0, .ref 56), (1, .int x1), (2, .int (0 : Int32))]) [1, 2, 0] rfl (by decide) rfl dX12_hold_49 ?_
    obtain ⟨e12, h13, hf⟩ := bnd hf
    refine wl_X12_hold_50 hX hG h13 ?_
    refine Wp.iconst (pc := 113) (1 : Int32) (by decide) dX12_hold_113 ?_
    cases hf
    exact hk _ _ (Or.inr rfl) dX12_hold_114
  · rw [if_pos hc3] at hf
    refine Wp.iconst (pc := 9) (0 : Int32) (by decide) dX12_hold_9 ?_
    cases hf
    exact hk _ _ (Or.inl rfl) dX12_hold_10
theorem c_X12_hold {T : List Dsc} {R : RM} {c e : Nat} {x1 : Int32} {m : M2} {r : (Int32 × M2)} (hG : Geo T R c e) (hf : F_X12_hold x1 m = some r) : Ct 2 yX12_hold cX12_hold 3 (some .boolean) T (mk m R) [.ref 56, .int x1] (some (.int r.1)) (mk r.2 R) := Ct.ofZ (r := (r.1, mk r.2 R)) (by decide +kernel) (Nat.le_of_ble_eq_true rfl) (fun X hX hk => w_X12_hold hX hG hf hk)
theorem dX12_restore_0 : decode cX12_restore 0 = .ok (.iload_n 1, 1) := by decide +kernel
theorem dX12_restore_1 : decode cX12_restore 1 = .ok (.iconst 0, 1) := by decide +kernel
theorem dX12_restore_2 : decode cX12_restore 2 = .ok (.iconst 2, 1) := by decide +kernel
theorem dX12_restore_3 : decode cX12_restore 3 = .ok (.invokestatic 414, 3) := by decide +kernel
theorem dX12_restore_6 : decode cX12_restore 6 = .ok (.ifCond .eq 12, 3) := by decide +kernel
theorem dX12_restore_9 : decode cX12_restore 9 = .ok (.aload_n 0, 1) := by decide +kernel
theorem dX12_restore_10 : decode cX12_restore 10 = .ok (.getfield 188, 3) := by decide +kernel
theorem dX12_restore_13 : decode cX12_restore 13 = .ok (.iload_n 1, 1) := by decide +kernel
theorem dX12_restore_14 : decode cX12_restore 14 = .ok (.baload, 1) := by decide +kernel
theorem dX12_restore_15 : decode cX12_restore 15 = .ok (.ifCond .ne 5, 3) := by decide +kernel
theorem dX12_restore_18 : decode cX12_restore 18 = .ok (.iconst 0, 1) := by decide +kernel
theorem dX12_restore_19 : decode cX12_restore 19 = .ok (.ireturn, 1) := by decide +kernel
theorem dX12_restore_20 : decode cX12_restore 20 = .ok (.aload_n 0, 1) := by decide +kernel
theorem dX12_restore_21 : decode cX12_restore 21 = .ok (.aload_n 0, 1) := by decide +kernel
theorem dX12_restore_22 : decode cX12_restore 22 = .ok (.getfield 200, 3) := by decide +kernel
theorem dX12_restore_25 : decode cX12_restore 25 = .ok (.iload_n 1, 1) := by decide +kernel
theorem dX12_restore_26 : decode cX12_restore 26 = .ok (.iaload, 1) := by decide +kernel
theorem dX12_restore_27 : decode cX12_restore 27 = .ok (.putfield 209, 3) := by decide +kernel
theorem dX12_restore_30 : decode cX12_restore 30 = .ok (.aload_n 0, 1) := by decide +kernel
theorem dX12_restore_31 : decode cX12_restore 31 = .ok (.aload_n 0, 1) := by decide +kernel
theorem dX12_restore_32 : decode cX12_restore 32 = .ok (.getfield 203, 3) := by decide +kernel
theorem dX12_restore_35 : decode cX12_restore 35 = .ok (.iload_n 1, 1) := by decide +kernel
theorem dX12_restore_36 : decode cX12_restore 36 = .ok (.iaload, 1) := by decide +kernel
theorem dX12_restore_37 : decode cX12_restore 37 = .ok (.putfield 393, 3) := by decide +kernel
theorem dX12_restore_40 : decode cX12_restore 40 = .ok (.aload_n 0, 1) := by decide +kernel
theorem dX12_restore_41 : decode cX12_restore 41 = .ok (.aload_n 0, 1) := by decide +kernel
theorem dX12_restore_42 : decode cX12_restore 42 = .ok (.getfield 206, 3) := by decide +kernel
theorem dX12_restore_45 : decode cX12_restore 45 = .ok (.iload_n 1, 1) := by decide +kernel
theorem dX12_restore_46 : decode cX12_restore 46 = .ok (.iaload, 1) := by decide +kernel
theorem dX12_restore_47 : decode cX12_restore 47 = .ok (.putfield 396, 3) := by decide +kernel
theorem dX12_restore_50 : decode cX12_restore 50 = .ok (.aload_n 0, 1) := by decide +kernel
theorem dX12_restore_51 : decode cX12_restore 51 = .ok (.iconst 0, 1) := by decide +kernel
theorem dX12_restore_52 : decode cX12_restore 52 = .ok (.putfield 311, 3) := by decide +kernel
theorem dX12_restore_55 : decode cX12_restore 55 = .ok (.iconst 0, 1) := by decide +kernel
theorem dX12_restore_56 : decode cX12_restore 56 = .ok (.istore_n 2, 1) := by decide +kernel
theorem dX12_restore_57 : decode cX12_restore 57 = .ok (.iload_n 2, 1) := by decide +kernel
theorem dX12_restore_58 : decode cX12_restore 58 = .ok (.bipush 12, 2) := by decide +kernel
theorem dX12_restore_60 : decode cX12_restore 60 = .ok (.if_icmp .ge 60, 3) := by decide +kernel
theorem dX12_restore_63 : decode cX12_restore 63 = .ok (.aload_n 0, 1) := by decide +kernel
theorem dX12_restore_64 : decode cX12_restore 64 = .ok (.getfield 128, 3) := by decide +kernel
theorem dX12_restore_67 : decode cX12_restore 67 = .ok (.iload_n 2, 1) := by decide +kernel
theorem dX12_restore_68 : decode cX12_restore 68 = .ok (.aload_n 0, 1) := by decide +kernel
theorem dX12_restore_69 : decode cX12_restore 69 = .ok (.getfield 191, 3) := by decide +kernel
theorem dX12_restore_72 : decode cX12_restore 72 = .ok (.bipush 12, 2) := by decide +kernel
theorem dX12_restore_74 : decode cX12_restore 74 = .ok (.iload_n 1, 1) := by decide +kernel
theorem dX12_restore_75 : decode cX12_restore 75 = .ok (.imul, 1) := by decide +kernel
theorem dX12_restore_76 : decode cX12_restore 76 = .ok (.iload_n 2, 1) := by decide +kernel
theorem dX12_restore_77 : decode cX12_restore 77 = .ok (.iadd, 1) := by decide +kernel
theorem dX12_restore_78 : decode cX12_restore 78 = .ok (.iaload, 1) := by decide +kernel
theorem dX12_restore_79 : decode cX12_restore 79 = .ok (.iastore, 1) := by decide +kernel
theorem dX12_restore_80 : decode cX12_restore 80 = .ok (.aload_n 0, 1) := by decide +kernel
theorem dX12_restore_81 : decode cX12_restore 81 = .ok (.getfield 131, 3) := by decide +kernel
theorem dX12_restore_84 : decode cX12_restore 84 = .ok (.iload_n 2, 1) := by decide +kernel
theorem dX12_restore_85 : decode cX12_restore 85 = .ok (.aload_n 0, 1) := by decide +kernel
theorem dX12_restore_86 : decode cX12_restore 86 = .ok (.getfield 194, 3) := by decide +kernel
theorem dX12_restore_89 : decode cX12_restore 89 = .ok (.bipush 12, 2) := by decide +kernel
theorem dX12_restore_91 : decode cX12_restore 91 = .ok (.iload_n 1, 1) := by decide +kernel
theorem dX12_restore_92 : decode cX12_restore 92 = .ok (.imul, 1) := by decide +kernel
theorem dX12_restore_93 : decode cX12_restore 93 = .ok (.iload_n 2, 1) := by decide +kernel
theorem dX12_restore_94 : decode cX12_restore 94 = .ok (.iadd, 1) := by decide +kernel
theorem dX12_restore_95 : decode cX12_restore 95 = .ok (.iaload, 1) := by decide +kernel
theorem dX12_restore_96 : decode cX12_restore 96 = .ok (.iastore, 1) := by decide +kernel
theorem dX12_restore_97 : decode cX12_restore 97 = .ok (.aload_n 0, 1) := by decide +kernel
theorem dX12_restore_98 : decode cX12_restore 98 = .ok (.getfield 134, 3) := by decide +kernel
theorem dX12_restore_101 : decode cX12_restore 101 = .ok (.iload_n 2, 1) := by decide +kernel
theorem dX12_restore_102 : decode cX12_restore 102 = .ok (.aload_n 0, 1) := by decide +kernel
theorem dX12_restore_103 : decode cX12_restore 103 = .ok (.getfield 197, 3) := by decide +kernel
theorem dX12_restore_106 : decode cX12_restore 106 = .ok (.bipush 12, 2) := by decide +kernel
theorem dX12_restore_108 : decode cX12_restore 108 = .ok (.iload_n 1, 1) := by decide +kernel
theorem dX12_restore_109 : decode cX12_restore 109 = .ok (.imul, 1) := by decide +kernel
theorem dX12_restore_110 : decode cX12_restore 110 = .ok (.iload_n 2, 1) := by decide +kernel
theorem dX12_restore_111 : decode cX12_restore 111 = .ok (.iadd, 1) := by decide +kernel
theorem dX12_restore_112 : decode cX12_restore 112 = .ok (.iaload, 1) := by decide +kernel
theorem dX12_restore_113 : decode cX12_restore 113 = .ok (.iastore, 1) := by decide +kernel
theorem dX12_restore_114 : decode cX12_restore 114 = .ok (.iinc 2 1, 3) := by decide +kernel
theorem dX12_restore_117 : decode cX12_restore 117 = .ok (.goto (-60), 3) := by decide +kernel
theorem dX12_restore_120 : decode cX12_restore 120 = .ok (.iconst 1, 1) := by decide +kernel
theorem dX12_restore_121 : decode cX12_restore 121 = .ok (.ireturn, 1) := by decide +kernel
def k_X12_restore_57 (X : CX) (T : List Dsc) (R : RM) (n1 n2 : Nat) (x1 : Int32) (r : ((Int32 × M2) ⊕ ((M2)))) : Prop := match r with
  | .inl s => Wp X cX12_restore RX12 3 T (mk s.2 R) n1 n2 57 [(0, .ref 56), (1, .int x1), (2, .int s.1)] []
  | .inr e => Wp X cX12_restore RX12 3 T (mk e R) n1 n2 120 [] []
set_option maxHeartbeats 4000000 in
set_option maxRecDepth 100000 in
theorem w_X12_restore_18 {X : CX} {T : List Dsc} {R : RM} {c e : Nat} {n1 n2 : Nat} {m : M2} {r : (Int32 × M2)} (hX : XR X 2 n1 n2) (hG : Geo T R c e) (hf : f_X12_restore_18 m = some r) (hk : FnZ X cX12_restore RX12 3 T n1 n2 (r.1, mk r.2 R)) : Wp X cX12_restore RX12 3 T (mk m R) n1 n2 18 [] [] := by
  unfold f_X12_restore_18 at hf
  refine Wp.iconst (pc := 18) (0 : Int32) (by decide) dX12_restore_18 ?_
  cases hf
  exact hk _ _ (Or.inl rfl) dX12_restore_19
set_option maxHeartbeats 4000000 in
set_option maxRecDepth 100000 in
theorem w_X12_restore_57 {X : CX} {T : List Dsc} {R : RM} {c e : Nat} {n1 n2 : Nat} {x1 : Int32} {x2 : Int32} {m : M2} {r : ((Int32 × M2) ⊕ ((M2)))} (hX : XR X 2 n1 n2) (hG : Geo T R c e) (hf : f_X12_restore_57 x1 x2 m = some r) (hk : k_X12_restore_57 X T R n1 n2 x1 r) : Wp X cX12_restore RX12 3 T (mk m R) n1 n2 57 [(0, .ref 56), (1, .int x1), (2, .int x2)] [] := by
  unfold f_X12_restore_57 at hf
  refine Wp.iload_n (pc := 57) 2 rfl rfl dX12_restore_57 ?_
  refine Wp.bipush (pc := 58) (12 : Int32) (by decide) dX12_restore_58 ?_
  refine Wp.icmp_ge (pc := 60) 120 dX12_restore_60 (by decide) (fun hc1 => ?_) (fun hc1 => ?_)
  · rw [if_pos hc1] at hf
    refine Wp.lo' (lo' := []) [] rfl ?_
    cases hf
    exact hk
  · rw [if_neg hc1] at hf
    refine Wp.aload_n (pc := 63) 0 rfl rfl dX12_restore_63 ?_
    refine Wp.getR2 (pc := 64) (hG.r 56 55 rfl) (hG.t 56 rfl) fk_RX12_128 rfl dX12_restore_64 ?_
    refine Wp.iload_n (pc := 67) 2 rfl rfl dX12_restore_67 ?_
    refine Wp.aload_n (pc := 68) 0 rfl rfl dX12_restore_68 ?_
    refine Wp.getR2 (pc := 69) (hG.r 56 86 rfl) (hG.t 56 rfl) fk_RX12_191 rfl dX12_restore_69 ?_
    refine Wp.bipush (pc := 72) (12 : Int32) (by decide) dX12_restore_72 ?_
    refine Wp.iload_n (pc := 74) 1 rfl rfl dX12_restore_74 ?_
    refine Wp.imul (pc := 75) dX12_restore_75 ?_
    refine Wp.iload_n (pc := 76) 2 rfl rfl dX12_restore_76 ?_
    refine Wp.iadd (pc := 77) dX12_restore_77 ?_
    obtain ⟨v2, h3, hf⟩ := bnd hf
    refine Wp.iald2 (pc := 78) h3 (hG.a 114 0 rfl) dX12_restore_78 ?_
    obtain ⟨m4, h5, hf⟩ := bnd hf
    refine Wp.iast2 (pc := 79) h5 (hG.a 93 0 rfl) dX12_restore_79 ?_
    refine Wp.aload_n (pc := 80) 0 rfl rfl dX12_restore_80 ?_
    refine Wp.getR2 (pc := 81) (hG.r 56 56 rfl) (hG.t 56 rfl) fk_RX12_131 rfl dX12_restore_81 ?_
    refine Wp.iload_n (pc := 84) 2 rfl rfl dX12_restore_84 ?_
    refine Wp.aload_n (pc := 85) 0 rfl rfl dX12_restore_85 ?_
    refine Wp.getR2 (pc := 86) (hG.r 56 87 rfl) (hG.t 56 rfl) fk_RX12_194 rfl dX12_restore_86 ?_
    refine Wp.bipush (pc := 89) (12 : Int32) (by decide) dX12_restore_89 ?_
    refine Wp.iload_n (pc := 91) 1 rfl rfl dX12_restore_91 ?_
    refine Wp.imul (pc := 92) dX12_restore_92 ?_
    refine Wp.iload_n (pc := 93) 2 rfl rfl dX12_restore_93 ?_
    refine Wp.iadd (pc := 94) dX12_restore_94 ?_
    obtain ⟨v6, h7, hf⟩ := bnd hf
    refine Wp.iald2 (pc := 95) h7 (hG.a 115 0 rfl) dX12_restore_95 ?_
    obtain ⟨m8, h9, hf⟩ := bnd hf
    refine Wp.iast2 (pc := 96) h9 (hG.a 94 0 rfl) dX12_restore_96 ?_
    refine Wp.aload_n (pc := 97) 0 rfl rfl dX12_restore_97 ?_
    refine Wp.getR2 (pc := 98) (hG.r 56 57 rfl) (hG.t 56 rfl) fk_RX12_134 rfl dX12_restore_98 ?_
    refine Wp.iload_n (pc := 101) 2 rfl rfl dX12_restore_101 ?_
    refine Wp.aload_n (pc := 102) 0 rfl rfl dX12_restore_102 ?_
    refine Wp.getR2 (pc := 103) (hG.r 56 88 rfl) (hG.t 56 rfl) fk_RX12_197 rfl dX12_restore_103 ?_
    refine Wp.bipush (pc := 106) (12 : Int32) (by decide) dX12_restore_106 ?_
    refine Wp.iload_n (pc := 108) 1 rfl rfl dX12_restore_108 ?_
    refine Wp.imul (pc := 109) dX12_restore_109 ?_
    refine Wp.iload_n (pc := 110) 2 rfl rfl dX12_restore_110 ?_
    refine Wp.iadd (pc := 111) dX12_restore_111 ?_
    obtain ⟨v10, h11, hf⟩ := bnd hf
    refine Wp.iald2 (pc := 112) h11 (hG.a 116 0 rfl) dX12_restore_112 ?_
    obtain ⟨m12, h13, hf⟩ := bnd hf
    refine Wp.iast2 (pc := 113) h13 (hG.a 95 0 rfl) dX12_restore_113 ?_
    obtain ⟨v14, h15, hf⟩ := bnd hf
    refine Wp.iincN (pc := 114) (lo' := [(0, .ref 56), (1, .int x1), (2, .int v14)]) (1 : Int32) (by decide) h15 2 rfl [1, 2, 0] rfl (by decide) dX12_restore_114 ?_
    refine Wp.goto (pc := 117) 57 dX12_restore_117 (by decide) ?_
    cases hf
    exact hk
theorem wl_X12_restore_57 {X : CX} {T : List Dsc} {R : RM} {c e : Nat} {n1 n2 : Nat} {x1 : Int32} {x2 : Int32} {m : M2} {e1 : ((M2))} (hX : XR X 2 n1 n2) (hG : Geo T R c e) (h : loop (g_X12_restore_57 x1) (x2, m) = some e1) (he : Wp X cX12_restore RX12 3 T (mk e1 R) n1 n2 120 [] []) : Wp X cX12_restore RX12 3 T (mk m R) n1 n2 57 [(0, .ref 56), (1, .int x1), (2, .int x2)] [] :=
  loop_ok (K := k_X12_restore_57 X T R n1 n2 x1) (fun s r hf hk => w_X12_restore_57 hX hG hf hk) h he
set_option maxHeartbeats 4000000 in
set_option maxRecDepth 100000 in
theorem w_X12_restore {X : CX} {T : List Dsc} {R : RM} {c e : Nat} {n1 n2 : Nat} {x1 : Int32} {m : M2} {r : (Int32 × M2)} (hX : XR X 2 n1 n2) (hG : Geo T R c e) (hf : F_X12_restore x1 m = some r) (hk : FnZ X cX12_restore RX12 3 T n1 n2 (r.1, mk r.2 R)) : Wp X cX12_restore RX12 3 T (mk m R) n1 n2 0 [(0, .ref 56), (1, .int x1)] [] := by
  unfold F_X12_restore at hf
  refine Wp.iload_n (pc := 0) 1 rfl rfl dX12_restore_0 ?_
  refine Wp.iconst (pc := 1) (0 : Int32) (by decide) dX12_restore_1 ?_
  refine Wp.iconst (pc := 2) (2 : Int32) (by decide) dX12_restore_2 ?_
  obtain ⟨c1, h2, hf⟩ := bnd hf
  refine Wp.callSi (pc := 3) (st := []) (as := [.int x1, .int (0 : Int32), .int (2 : Int32)]) (c_X12_in hG h2) ml_RX12_414 ms_X12_in mb_X12_in hX (Nat.le_of_ble_eq_true rfl) (by decide) rfl (by simp) dX12_restore_3 rfl ?_
  refine Wp.if_eq (pc := 6) 18 dX12_restore_6 (by decide) (fun hc3 => ?_) (fun hc3 => ?_)
  · rw [if_pos hc3] at hf
    refine Wp.lo' (lo' := []) [] rfl ?_
    exact w_X12_restore_18 hX hG hf hk
  · rw [if_neg hc3] at hf
    refine Wp.aload_n (pc := 9) 0 rfl rfl dX12_restore_9 ?_
    refine Wp.getR2 (pc := 10) (hG.r 56 85 rfl) (hG.t 56 rfl) fk_RX12_188 rfl dX12_restore_10 ?_
    refine Wp.iload_n (pc := 13) 1 rfl rfl dX12_restore_13 ?_
    obtain ⟨v4, h5, hf⟩ := bnd hf
    refine Wp.zald2 (pc := 14) h5 (hG.a 113 3 rfl) dX12_restore_14 ?_
    refine Wp.if_ne (pc := 15) 20 dX12_restore_15 (by decide) (fun hc6 => ?_) (fun hc6 => ?_)
    · rw [if_neg hc6] at hf
      refine Wp.aload_n (pc := 20) 0 rfl rfl dX12_restore_20 ?_
      refine Wp.aload_n (pc := 21) 0 rfl rfl dX12_restore_21 ?_
      refine Wp.getR2 (pc := 22) (hG.r 56 89 rfl) (hG.t 56 rfl) fk_RX12_200 rfl dX12_restore_22 ?_
      refine Wp.iload_n (pc := 25) 1 rfl rfl dX12_restore_25 ?_
      obtain ⟨v7, h8, hf⟩ := bnd hf
      refine Wp.iald2 (pc := 26) h8 (hG.a 117 0 rfl) dX12_restore_26 ?_
      obtain ⟨m9, h10, hf⟩ := bnd hf
      refine Wp.ptI2 (pc := 27) h10 (hG.t 56 rfl) fk_RX12_209 ff_RX12_11_58 rfl dX12_restore_27 ?_
      refine Wp.aload_n (pc := 30) 0 rfl rfl dX12_restore_30 ?_
      refine Wp.aload_n (pc := 31) 0 rfl rfl dX12_restore_31 ?_
      refine Wp.getR2 (pc := 32) (hG.r 56 90 rfl) (hG.t 56 rfl) fk_RX12_203 rfl dX12_restore_32 ?_
      refine Wp.iload_n (pc := 35) 1 rfl rfl dX12_restore_35 ?_
      obtain ⟨v11, h12, hf⟩ := bnd hf
      refine Wp.iald2 (pc := 36) h12 (hG.a 118 0 rfl) dX12_restore_36 ?_
      obtain ⟨m13, h14, hf⟩ := bnd hf
      refine Wp.ptI2 (pc := 37) h14 (hG.t 56 rfl) fk_RX12_393 ff_RX12_11_59 rfl dX12_restore_37 ?_
      refine Wp.aload_n (pc := 40) 0 rfl rfl dX12_restore_40 ?_
      refine Wp.aload_n (pc := 41) 0 rfl rfl dX12_restore_41 ?_
      refine Wp.getR2 (pc := 42) (hG.r 56 91 rfl) (hG.t 56 rfl) fk_RX12_206 rfl dX12_restore_42 ?_
      refine Wp.iload_n (pc := 45) 1 rfl rfl dX12_restore_45 ?_
      obtain ⟨v15, h16, hf⟩ := bnd hf
      refine Wp.iald2 (pc := 46) h16 (hG.a 119 0 rfl) dX12_restore_46 ?_
      obtain ⟨m17, h18, hf⟩ := bnd hf
      refine Wp.ptI2 (pc := 47) h18 (hG.t 56 rfl) fk_RX12_396 ff_RX12_11_60 rfl dX12_restore_47 ?_
      refine Wp.aload_n (pc := 50) 0 rfl rfl dX12_restore_50 ?_
      refine Wp.iconst (pc := 51) (0 : Int32) (by decide) dX12_restore_51 ?_
      obtain ⟨m19, h20, hf⟩ := bnd hf
      refine Wp.ptI2 (pc := 52) h20 (hG.t 56 rfl) fk_RX12_311 ff_RX12_11_61 rfl dX12_restore_52 ?_
      refine Wp.iconst (pc := 55) (0 : Int32) (by decide) dX12_restore_55 ?_
      refine Wp.istore_n (pc := 56) (lo' := [(0, .ref 56), (1, .int x1), (2, .int (0 : Int32))]) [1, 2, 0] rfl (by decide) rfl dX12_restore_56 ?_
      obtain ⟨e21, h22, hf⟩ := bnd hf
      refine wl_X12_restore_57 hX hG h22 ?_
      refine Wp.iconst (pc := 120) (1 : Int32) (by decide) dX12_restore_120 ?_
      cases hf
      exact hk _ _ (Or.inr rfl) dX12_restore_121
    · rw [if_pos hc6] at hf
      refine Wp.lo' (lo' := []) [] rfl ?_
      exact w_X12_restore_18 hX hG hf hk
theorem c_X12_restore {T : List Dsc} {R : RM} {c e : Nat} {x1 : Int32} {m : M2} {r : (Int32 × M2)} (hG : Geo T R c e) (hf : F_X12_restore x1 m = some r) : Ct 2 yX12_restore cX12_restore 3 (some .boolean) T (mk m R) [.ref 56, .int x1] (some (.int r.1)) (mk r.2 R) := Ct.ofZ (r := (r.1, mk r.2 R)) (by decide +kernel) (Nat.le_of_ble_eq_true rfl) (fun X hX hk => w_X12_restore hX hG hf hk)
theorem dX12_count_0 : decode cX12_count 0 = .ok (.iload_n 1, 1) := by decide +kernel
theorem dX12_count_1 : decode cX12_count 1 = .ok (.tableswitch 235 0 12 #[67, 77, 87, 92, 97, 115, 120, 148, 158, 163, 168, 173, 218], 67) := by decide +kernel
theorem dX12_count_68 : decode cX12_count 68 = .ok (.aload_n 0, 1) := by decide +kernel
theorem dX12_count_69 : decode cX12_count 69 = .ok (.getfield 46, 3) := by decide +kernel
theorem dX12_count_72 : decode cX12_count 72 = .ok (.aload_n 0, 1) := by decide +kernel
theorem dX12_count_73 : decode cX12_count 73 = .ok (.getfield 284, 3) := by decide +kernel
theorem dX12_count_76 : decode cX12_count 76 = .ok (.iaload, 1) := by decide +kernel
theorem dX12_count_77 : decode cX12_count 77 = .ok (.ireturn, 1) := by decide +kernel
theorem dX12_count_78 : decode cX12_count 78 = .ok (.aload_n 0, 1) := by decide +kernel
theorem dX12_count_79 : decode cX12_count 79 = .ok (.getfield 49, 3) := by decide +kernel
theorem dX12_count_82 : decode cX12_count 82 = .ok (.aload_n 0, 1) := by decide +kernel
theorem dX12_count_83 : decode cX12_count 83 = .ok (.getfield 284, 3) := by decide +kernel
theorem dX12_count_86 : decode cX12_count 86 = .ok (.iaload, 1) := by decide +kernel
theorem dX12_count_87 : decode cX12_count 87 = .ok (.ireturn, 1) := by decide +kernel
theorem dX12_count_88 : decode cX12_count 88 = .ok (.aload_n 0, 1) := by decide +kernel
theorem dX12_count_89 : decode cX12_count 89 = .ok (.invokevirtual 390, 3) := by decide +kernel
theorem dX12_count_92 : decode cX12_count 92 = .ok (.ireturn, 1) := by decide +kernel
theorem dX12_count_93 : decode cX12_count 93 = .ok (.aload_n 0, 1) := by decide +kernel
theorem dX12_count_94 : decode cX12_count 94 = .ok (.getfield 396, 3) := by decide +kernel
theorem dX12_count_97 : decode cX12_count 97 = .ok (.ireturn, 1) := by decide +kernel
theorem dX12_count_98 : decode cX12_count 98 = .ok (.aload_n 0, 1) := by decide +kernel
theorem dX12_count_99 : decode cX12_count 99 = .ok (.getfield 209, 3) := by decide +kernel
theorem dX12_count_102 : decode cX12_count 102 = .ok (.iconst (-1), 1) := by decide +kernel
theorem dX12_count_103 : decode cX12_count 103 = .ok (.if_icmp .ne 8, 3) := by decide +kernel
theorem dX12_count_106 : decode cX12_count 106 = .ok (.bipush (-2), 2) := by decide +kernel
theorem dX12_count_108 : decode cX12_count 108 = .ok (.goto 7, 3) := by decide +kernel
theorem dX12_count_111 : decode cX12_count 111 = .ok (.aload_n 0, 1) := by decide +kernel
theorem dX12_count_112 : decode cX12_count 112 = .ok (.getfield 209, 3) := by decide +kernel
theorem dX12_count_115 : decode cX12_count 115 = .ok (.ireturn, 1) := by decide +kernel
theorem dX12_count_116 : decode cX12_count 116 = .ok (.aload_n 0, 1) := by decide +kernel
theorem dX12_count_117 : decode cX12_count 117 = .ok (.getfield 393, 3) := by decide +kernel
theorem dX12_count_120 : decode cX12_count 120 = .ok (.ireturn, 1) := by decide +kernel
theorem dX12_count_121 : decode cX12_count 121 = .ok (.aload_n 0, 1) := by decide +kernel
theorem dX12_count_122 : decode cX12_count 122 = .ok (.getfield 85, 3) := by decide +kernel
theorem dX12_count_125 : decode cX12_count 125 = .ok (.aload_n 0, 1) := by decide +kernel
theorem dX12_count_126 : decode cX12_count 126 = .ok (.getfield 284, 3) := by decide +kernel
theorem dX12_count_129 : decode cX12_count 129 = .ok (.iaload, 1) := by decide +kernel
theorem dX12_count_130 : decode cX12_count 130 = .ok (.iconst (-1), 1) := by decide +kernel
theorem dX12_count_131 : decode cX12_count 131 = .ok (.if_icmp .ne 8, 3) := by decide +kernel
theorem dX12_count_134 : decode cX12_count 134 = .ok (.bipush (-2), 2) := by decide +kernel
theorem dX12_count_136 : decode cX12_count 136 = .ok (.goto 12, 3) := by decide +kernel
theorem dX12_count_139 : decode cX12_count 139 = .ok (.aload_n 0, 1) := by decide +kernel
theorem dX12_count_140 : decode cX12_count 140 = .ok (.getfield 85, 3) := by decide +kernel
theorem dX12_count_143 : decode cX12_count 143 = .ok (.aload_n 0, 1) := by decide +kernel
theorem dX12_count_144 : decode cX12_count 144 = .ok (.getfield 284, 3) := by decide +kernel
theorem dX12_count_147 : decode cX12_count 147 = .ok (.iaload, 1) := by decide +kernel
theorem dX12_count_148 : decode cX12_count 148 = .ok (.ireturn, 1) := by decide +kernel
theorem dX12_count_149 : decode cX12_count 149 = .ok (.aload_n 0, 1) := by decide +kernel
theorem dX12_count_150 : decode cX12_count 150 = .ok (.getfield 88, 3) := by decide +kernel
theorem dX12_count_153 : decode cX12_count 153 = .ok (.aload_n 0, 1) := by decide +kernel
theorem dX12_count_154 : decode cX12_count 154 = .ok (.getfield 284, 3) := by decide +kernel
theorem dX12_count_157 : decode cX12_count 157 = .ok (.iaload, 1) := by decide +kernel
theorem dX12_count_158 : decode cX12_count 158 = .ok (.ireturn, 1) := by decide +kernel
theorem dX12_count_159 : decode cX12_count 159 = .ok (.aload_n 0, 1) := by decide +kernel
theorem dX12_count_160 : decode cX12_count 160 = .ok (.getfield 216, 3) := by decide +kernel
theorem dX12_count_163 : decode cX12_count 163 = .ok (.ireturn, 1) := by decide +kernel
theorem dX12_count_164 : decode cX12_count 164 = .ok (.aload_n 0, 1) := by decide +kernel
theorem dX12_count_165 : decode cX12_count 165 = .ok (.getfield 311, 3) := by decide +kernel
theorem dX12_count_168 : decode cX12_count 168 = .ok (.ireturn, 1) := by decide +kernel
theorem dX12_count_169 : decode cX12_count 169 = .ok (.aload_n 0, 1) := by decide +kernel
theorem dX12_count_170 : decode cX12_count 170 = .ok (.getfield 314, 3) := by decide +kernel
theorem dX12_count_173 : decode cX12_count 173 = .ok (.ireturn, 1) := by decide +kernel
theorem dX12_count_174 : decode cX12_count 174 = .ok (.aload_n 0, 1) := by decide +kernel
theorem dX12_count_175 : decode cX12_count 175 = .ok (.getfield 188, 3) := by decide +kernel
theorem dX12_count_178 : decode cX12_count 178 = .ok (.iconst 0, 1) := by decide +kernel
theorem dX12_count_179 : decode cX12_count 179 = .ok (.baload, 1) := by decide +kernel
theorem dX12_count_180 : decode cX12_count 180 = .ok (.ifCond .eq 7, 3) := by decide +kernel
theorem dX12_count_183 : decode cX12_count 183 = .ok (.iconst 1, 1) := by decide +kernel
theorem dX12_count_184 : decode cX12_count 184 = .ok (.goto 4, 3) := by decide +kernel
theorem dX12_count_187 : decode cX12_count 187 = .ok (.iconst 0, 1) := by decide +kernel
theorem dX12_count_188 : decode cX12_count 188 = .ok (.aload_n 0, 1) := by decide +kernel
theorem dX12_count_189 : decode cX12_count 189 = .ok (.getfield 188, 3) := by decide +kernel
theorem dX12_count_192 : decode cX12_count 192 = .ok (.iconst 1, 1) := by decide +kernel
theorem dX12_count_193 : decode cX12_count 193 = .ok (.baload, 1) := by decide +kernel
theorem dX12_count_194 : decode cX12_count 194 = .ok (.ifCond .eq 7, 3) := by decide +kernel
theorem dX12_count_197 : decode cX12_count 197 = .ok (.iconst 1, 1) := by decide +kernel
theorem dX12_count_198 : decode cX12_count 198 = .ok (.goto 4, 3) := by decide +kernel
theorem dX12_count_201 : decode cX12_count 201 = .ok (.iconst 0, 1) := by decide +kernel
theorem dX12_count_202 : decode cX12_count 202 = .ok (.iadd, 1) := by decide +kernel
theorem dX12_count_203 : decode cX12_count 203 = .ok (.aload_n 0, 1) := by decide +kernel
theorem dX12_count_204 : decode cX12_count 204 = .ok (.getfield 188, 3) := by decide +kernel
theorem dX12_count_207 : decode cX12_count 207 = .ok (.iconst 2, 1) := by decide +kernel
theorem dX12_count_208 : decode cX12_count 208 = .ok (.baload, 1) := by decide +kernel
theorem dX12_count_209 : decode cX12_count 209 = .ok (.ifCond .eq 7, 3) := by decide +kernel
theorem dX12_count_212 : decode cX12_count 212 = .ok (.iconst 1, 1) := by decide +kernel
theorem dX12_count_213 : decode cX12_count 213 = .ok (.goto 4, 3) := by decide +kernel
theorem dX12_count_216 : decode cX12_count 216 = .ok (.iconst 0, 1) := by decide +kernel
theorem dX12_count_217 : decode cX12_count 217 = .ok (.iadd, 1) := by decide +kernel
theorem dX12_count_218 : decode cX12_count 218 = .ok (.ireturn, 1) := by decide +kernel
theorem dX12_count_219 : decode cX12_count 219 = .ok (.aload_n 0, 1) := by decide +kernel
theorem dX12_count_220 : decode cX12_count 220 = .ok (.aload_n 0, 1) := by decide +kernel
theorem dX12_count_221 : decode cX12_count 221 = .ok (.getfield 396, 3) := by decide +kernel
theorem dX12_count_224 : decode cX12_count 224 = .ok (.invokevirtual 447, 3) := by decide +kernel
theorem dX12_count_227 : decode cX12_count 227 = .ok (.ifCond .eq 7, 3) := by decide +kernel
theorem dX12_count_230 : decode cX12_count 230 = .ok (.iconst 1, 1) := by decide +kernel
theorem dX12_count_231 : decode cX12_count 231 = .ok (.goto 4, 3) := by decide +kernel
theorem dX12_count_234 : decode cX12_count 234 = .ok (.iconst 0, 1) := by decide +kernel
theorem dX12_count_235 : decode cX12_count 235 = .ok (.ireturn, 1) := by decide +kernel
theorem dX12_count_236 : decode cX12_count 236 = .ok (.iconst (-1), 1) := by decide +kernel
theorem dX12_count_237 : decode cX12_count 237 = .ok (.ireturn, 1) := by decide +kernel
set_option maxHeartbeats 4000000 in
set_option maxRecDepth 100000 in
theorem w_X12_count_115 {X : CX} {T : List Dsc} {R : RM} {c e : Nat} {n1 n2 : Nat} {s0 : Int32} {m : M2} {r : (Int32 × M2)} (hX : XR X 3 n1 n2) (hG : Geo T R c e) (hf : f_X12_count_115 s0 m = some r) (hk : FnI X cX12_count RX12 2 T n1 n2 (r.1, mk r.2 R)) : Wp X cX12_count RX12 2 T (mk m R) n1 n2 115 [] [.int s0] := by
  unfold f_X12_count_115 at hf
  cases hf
  exact hk _ _ dX12_count_115
set_option maxHeartbeats 4000000 in
set_option maxRecDepth 100000 in
theorem w_X12_count_148 {X : CX} {T : List Dsc} {R : RM} {c e : Nat} {n1 n2 : Nat} {s0 : Int32} {m : M2} {r : (Int32 × M2)} (hX : XR X 3 n1 n2) (hG : Geo T R c e) (hf : f_X12_count_148 s0 m = some r) (hk : FnI X cX12_count RX12 2 T n1 n2 (r.1, mk r.2 R)) : Wp X cX12_count RX12 2 T (mk m R) n1 n2 148 [] [.int s0] := by
  unfold f_X12_count_148 at hf
  cases hf
  exact hk _ _ dX12_count_148
set_option maxHeartbeats 4000000 in
set_option maxRecDepth 100000 in
theorem w_X12_count_217 {X : CX} {T : List Dsc} {R : RM} {c e : Nat} {n1 n2 : Nat} {s0 : Int32} {s1 : Int32} {m : M2} {r : (Int32 × M2)} (hX : XR X 3 n1 n2) (hG : Geo T R c e) (hf : f_X12_count_217 s0 s1 m = some r) (hk : FnI X cX12_count RX12 2 T n1 n2 (r.1, mk r.2 R)) : Wp X cX12_count RX12 2 T (mk m R) n1 n2 217 [] [.int s1, .int s0] := by
  unfold f_X12_count_217 at hf
  refine Wp.iadd (pc := 217) dX12_count_217 ?_
  cases hf
  exact hk _ _ dX12_count_218
set_option maxHeartbeats 4000000 in
set_option maxRecDepth 100000 in
theorem w_X12_count_202 {X : CX} {T : List Dsc} {R : RM} {c e : Nat} {n1 n2 : Nat} {s0 : Int32} {s1 : Int32} {m : M2} {r : (Int32 × M2)} (hX : XR X 3 n1 n2) (hG : Geo T R c e) (hf : f_X12_count_202 s0 s1 m = some r) (hk : FnI X cX12_count RX12 2 T n1 n2 (r.1, mk r.2 R)) : Wp X cX12_count RX12 2 T (mk m R) n1 n2 202 [(0, .ref 56)] [.int s1, .int s0] := by
  unfold f_X12_count_202 at hf
  refine Wp.iadd (pc := 202) dX12_count_202 ?_
  refine Wp.aload_n (pc := 203) 0 rfl rfl dX12_count_203 ?_
  refine Wp.getR2 (pc := 204) (hG.r 56 85 rfl) (hG.t 56 rfl) fk_RX12_188 rfl dX12_count_204 ?_
  refine Wp.iconst (pc := 207) (2 : Int32) (by decide) dX12_count_207 ?_
  obtain ⟨v1, h2, hf⟩ := bnd hf
  refine Wp.zald2 (pc := 208) h2 (hG.a 113 3 rfl) dX12_count_208 ?_
  refine Wp.if_eq (pc := 209) 216 dX12_count_209 (by decide) (fun hc3 => ?_) (fun hc3 => ?_)
  · rw [if_pos hc3] at hf
    refine Wp.iconst (pc := 216) (0 : Int32) (by decide) dX12_count_216 ?_
    refine Wp.lo' (lo' := []) [] rfl ?_
    exact w_X12_count_217 hX hG hf hk
  · rw [if_neg hc3] at hf
    refine Wp.iconst (pc := 212) (1 : Int32) (by decide) dX12_count_212 ?_
    refine Wp.goto (pc := 213) 217 dX12_count_213 (by decide) ?_
    refine Wp.lo' (lo' := []) [] rfl ?_
    exact w_X12_count_217 hX hG hf hk
set_option maxHeartbeats 4000000 in
set_option maxRecDepth 100000 in
theorem w_X12_count_188 {X : CX} {T : List Dsc} {R : RM} {c e : Nat} {n1 n2 : Nat} {s0 : Int32} {m : M2} {r : (Int32 × M2)} (hX : XR X 3 n1 n2) (hG : Geo T R c e) (hf : f_X12_count_188 s0 m = some r) (hk : FnI X cX12_count RX12 2 T n1 n2 (r.1, mk r.2 R)) : Wp X cX12_count RX12 2 T (mk m R) n1 n2 188 [(0, .ref 56)] [.int s0] := by
  unfold f_X12_count_188 at hf
  refine Wp.aload_n (pc := 188) 0 rfl rfl dX12_count_188 ?_
  refine Wp.getR2 (pc := 189) (hG.r 56 85 rfl) (hG.t 56 rfl) fk_RX12_188 rfl dX12_count_189 ?_
  refine Wp.iconst (pc := 192) (1 : Int32) (by decide) dX12_count_192 ?_
  obtain ⟨v1, h2, hf⟩ := bnd hf
  refine Wp.zald2 (pc := 193) h2 (hG.a 113 3 rfl) dX12_count_193 ?_
  refine Wp.if_eq (pc := 194) 201 dX12_count_194 (by decide) (fun hc3 => ?_) (fun hc3 => ?_)
  · rw [if_pos hc3] at hf
    refine Wp.iconst (pc := 201) (0 : Int32) (by decide) dX12_count_201 ?_
    exact w_X12_count_202 hX hG hf hk
  · rw [if_neg hc3] at hf
    refine Wp.iconst (pc := 197) (1 : Int32) (by decide) dX12_count_197 ?_
    refine Wp.goto (pc := 198) 202 dX12_count_198 (by decide) ?_
    exact w_X12_count_202 hX hG hf hk
set_option maxHeartbeats 4000000 in
set_option maxRecDepth 100000 in
theorem w_X12_count_235 {X : CX} {T : List Dsc} {R : RM} {c e : Nat} {n1 n2 : Nat} {s0 : Int32} {m : M2} {r : (Int32 × M2)} (hX : XR X 3 n1 n2) (hG : Geo T R c e) (hf : f_X12_count_235 s0 m = some r) (hk : FnI X cX12_count RX12 2 T n1 n2 (r.1, mk r.2 R)) : Wp X cX12_count RX12 2 T (mk m R) n1 n2 235 [] [.int s0] := by
  unfold f_X12_count_235 at hf
  cases hf
  exact hk _ _ dX12_count_235
set_option maxHeartbeats 4000000 in
set_option maxRecDepth 100000 in
theorem w_X12_count {X : CX} {T : List Dsc} {R : RM} {c e : Nat} {n1 n2 : Nat} {x1 : Int32} {m : M2} {r : (Int32 × M2)} (hX : XR X 3 n1 n2) (hG : Geo T R c e) (hf : F_X12_count x1 m = some r) (hk : FnI X cX12_count RX12 2 T n1 n2 (r.1, mk r.2 R)) : Wp X cX12_count RX12 2 T (mk m R) n1 n2 0 [(0, .ref 56), (1, .int x1)] [] := by
  unfold F_X12_count at hf
  refine Wp.iload_n (pc := 0) 1 rfl rfl dX12_count_0 ?_
  by_cases hc1 : x1 = (0 : Int32)
  · rw [if_pos hc1] at hf
    refine Wp.swIn (pc := 1) 68 dX12_count_1 hc1 (by decide) (by decide) rfl (by decide) ?_
    refine Wp.aload_n (pc := 68) 0 rfl rfl dX12_count_68 ?_
    refine Wp.getR2 (pc := 69) (hG.r 56 23 rfl) (hG.t 56 rfl) fk_RX12_46 rfl dX12_count_69 ?_
    refine Wp.aload_n (pc := 72) 0 rfl rfl dX12_count_72 ?_
    refine Wp.getI2 (pc := 73) (hG.t 56 rfl) fk_RX12_284 rfl dX12_count_73 ?_
    obtain ⟨v2, h3, hf⟩ := bnd hf
    refine Wp.iald2 (pc := 76) h3 (hG.a 66 0 rfl) dX12_count_76 ?_
    cases hf
    exact hk _ _ dX12_count_77
  · rw [if_neg hc1] at hf
    by_cases hc4 : x1 = (1 : Int32)
    · rw [if_pos hc4] at hf
      refine Wp.swIn (pc := 1) 78 dX12_count_1 hc4 (by decide) (by decide) rfl (by decide) ?_
      refine Wp.aload_n (pc := 78) 0 rfl rfl dX12_count_78 ?_
      refine Wp.getR2 (pc := 79) (hG.r 56 24 rfl) (hG.t 56 rfl) fk_RX12_49 rfl dX12_count_79 ?_
      refine Wp.aload_n (pc := 82) 0 rfl rfl dX12_count_82 ?_
      refine Wp.getI2 (pc := 83) (hG.t 56 rfl) fk_RX12_284 rfl dX12_count_83 ?_
      obtain ⟨v5, h6, hf⟩ := bnd hf
      refine Wp.iald2 (pc := 86) h6 (hG.a 67 0 rfl) dX12_count_86 ?_
      cases hf
      exact hk _ _ dX12_count_87
    · rw [if_neg hc4] at hf
      by_cases hc7 : x1 = (2 : Int32)
      · rw [if_pos hc7] at hf
        refine Wp.swIn (pc := 1) 88 dX12_count_1 hc7 (by decide) (by decide) rfl (by decide) ?_
        refine Wp.aload_n (pc := 88) 0 rfl rfl dX12_count_88 ?_
        obtain ⟨c8, h9, hf⟩ := bnd hf
        refine Wp.callVi (pc := 89) (st := []) (as := []) (c_X12_menNow hG h9) ml_RX12_390 mv_X12_menNow mb_X12_menNow hX (Nat.le_of_ble_eq_true rfl) (by decide) rfl (hG.t 56 rfl) rfl (by simp) dX12_count_89 rfl ?_
        cases hf
        exact hk _ _ dX12_count_92
      · rw [if_neg hc7] at hf
        by_cases hc10 : x1 = (3 : Int32)
        · rw [if_pos hc10] at hf
          refine Wp.swIn (pc := 1) 93 dX12_count_1 hc10 (by decide) (by decide) rfl (by decide) ?_
          refine Wp.aload_n (pc := 93) 0 rfl rfl dX12_count_93 ?_
          refine Wp.getI2 (pc := 94) (hG.t 56 rfl) fk_RX12_396 rfl dX12_count_94 ?_
          cases hf
          exact hk _ _ dX12_count_97
        · rw [if_neg hc10] at hf
          by_cases hc11 : x1 = (4 : Int32)
          · rw [if_pos hc11] at hf
            refine Wp.swIn (pc := 1) 98 dX12_count_1 hc11 (by decide) (by decide) rfl (by decide) ?_
            refine Wp.aload_n (pc := 98) 0 rfl rfl dX12_count_98 ?_
            refine Wp.getI2 (pc := 99) (hG.t 56 rfl) fk_RX12_209 rfl dX12_count_99 ?_
            refine Wp.iconst (pc := 102) (-1 : Int32) (by decide) dX12_count_102 ?_
            refine Wp.icmp_ne (pc := 103) 111 dX12_count_103 (by decide) (fun hc12 => ?_) (fun hc12 => ?_)
            · rw [if_neg hc12] at hf
              refine Wp.aload_n (pc := 111) 0 rfl rfl dX12_count_111 ?_
              refine Wp.getI2 (pc := 112) (hG.t 56 rfl) fk_RX12_209 rfl dX12_count_112 ?_
              refine Wp.lo' (lo' := []) [] rfl ?_
              exact w_X12_count_115 hX hG hf hk
            · rw [if_pos hc12] at hf
              refine Wp.bipush (pc := 106) (-2 : Int32) (by decide) dX12_count_106 ?_
              refine Wp.goto (pc := 108) 115 dX12_count_108 (by decide) ?_
              refine Wp.lo' (lo' := []) [] rfl ?_
              exact w_X12_count_115 hX hG hf hk
          · rw [if_neg hc11] at hf
            by_cases hc13 : x1 = (5 : Int32)
            · rw [if_pos hc13] at hf
              refine Wp.swIn (pc := 1) 116 dX12_count_1 hc13 (by decide) (by decide) rfl (by decide) ?_
              refine Wp.aload_n (pc := 116) 0 rfl rfl dX12_count_116 ?_
              refine Wp.getI2 (pc := 117) (hG.t 56 rfl) fk_RX12_393 rfl dX12_count_117 ?_
              cases hf
              exact hk _ _ dX12_count_120
            · rw [if_neg hc13] at hf
              by_cases hc14 : x1 = (6 : Int32)
              · rw [if_pos hc14] at hf
                refine Wp.swIn (pc := 1) 121 dX12_count_1 hc14 (by decide) (by decide) rfl (by decide) ?_
                refine Wp.aload_n (pc := 121) 0 rfl rfl dX12_count_121 ?_
                refine Wp.getR2 (pc := 122) (hG.r 56 37 rfl) (hG.t 56 rfl) fk_RX12_85 rfl dX12_count_122 ?_
                refine Wp.aload_n (pc := 125) 0 rfl rfl dX12_count_125 ?_
                refine Wp.getI2 (pc := 126) (hG.t 56 rfl) fk_RX12_284 rfl dX12_count_126 ?_
                obtain ⟨v15, h16, hf⟩ := bnd hf
                refine Wp.iald2 (pc := 129) h16 (hG.a 79 0 rfl) dX12_count_129 ?_
                refine Wp.iconst (pc := 130) (-1 : Int32) (by decide) dX12_count_130 ?_
                refine Wp.icmp_ne (pc := 131) 139 dX12_count_131 (by decide) (fun hc17 => ?_) (fun hc17 => ?_)
                · rw [if_neg hc17] at hf
                  refine Wp.aload_n (pc := 139) 0 rfl rfl dX12_count_139 ?_
                  refine Wp.getR2 (pc := 140) (hG.r 56 37 rfl) (hG.t 56 rfl) fk_RX12_85 rfl dX12_count_140 ?_
                  refine Wp.aload_n (pc := 143) 0 rfl rfl dX12_count_143 ?_
                  refine Wp.getI2 (pc := 144) (hG.t 56 rfl) fk_RX12_284 rfl dX12_count_144 ?_
                  obtain ⟨v18, h19, hf⟩ := bnd hf
                  refine Wp.iald2 (pc := 147) h19 (hG.a 79 0 rfl) dX12_count_147 ?_
                  refine Wp.lo' (lo' := []) [] rfl ?_
                  exact w_X12_count_148 hX hG hf hk
                · rw [if_pos hc17] at hf
                  refine Wp.bipush (pc := 134) (-2 : Int32) (by decide) dX12_count_134 ?_
                  refine Wp.goto (pc := 136) 148 dX12_count_136 (by decide) ?_
                  refine Wp.lo' (lo' := []) [] rfl ?_
                  exact w_X12_count_148 hX hG hf hk
              · rw [if_neg hc14] at hf
                by_cases hc20 : x1 = (7 : Int32)
                · rw [if_pos hc20] at hf
                  refine Wp.swIn (pc := 1) 149 dX12_count_1 hc20 (by decide) (by decide) rfl (by decide) ?_
                  refine Wp.aload_n (pc := 149) 0 rfl rfl dX12_count_149 ?_
                  refine Wp.getR2 (pc := 150) (hG.r 56 38 rfl) (hG.t 56 rfl) fk_RX12_88 rfl dX12_count_150 ?_
                  refine Wp.aload_n (pc := 153) 0 rfl rfl dX12_count_153 ?_
                  refine Wp.getI2 (pc := 154) (hG.t 56 rfl) fk_RX12_284 rfl dX12_count_154 ?_
                  obtain ⟨v21, h22, hf⟩ := bnd hf
                  refine Wp.iald2 (pc := 157) h22 (hG.a 80 0 rfl) dX12_count_157 ?_
                  cases hf
                  exact hk _ _ dX12_count_158
                · rw [if_neg hc20] at hf
                  by_cases hc23 : x1 = (8 : Int32)
                  · rw [if_pos hc23] at hf
                    refine Wp.swIn (pc := 1) 159 dX12_count_1 hc23 (by decide) (by decide) rfl (by decide) ?_
                    refine Wp.aload_n (pc := 159) 0 rfl rfl dX12_count_159 ?_
                    refine Wp.getI2 (pc := 160) (hG.t 56 rfl) fk_RX12_216 rfl dX12_count_160 ?_
                    cases hf
                    exact hk _ _ dX12_count_163
                  · rw [if_neg hc23] at hf
                    by_cases hc24 : x1 = (9 : Int32)
                    · rw [if_pos hc24] at hf
                      refine Wp.swIn (pc := 1) 164 dX12_count_1 hc24 (by decide) (by decide) rfl (by decide) ?_
                      refine Wp.aload_n (pc := 164) 0 rfl rfl dX12_count_164 ?_
                      refine Wp.getI2 (pc := 165) (hG.t 56 rfl) fk_RX12_311 rfl dX12_count_165 ?_
                      cases hf
                      exact hk _ _ dX12_count_168
                    · rw [if_neg hc24] at hf
                      by_cases hc25 : x1 = (10 : Int32)
                      · rw [if_pos hc25] at hf
                        refine Wp.swIn (pc := 1) 169 dX12_count_1 hc25 (by decide) (by decide) rfl (by decide) ?_
                        refine Wp.aload_n (pc := 169) 0 rfl rfl dX12_count_169 ?_
                        refine Wp.getI2 (pc := 170) (hG.t 56 rfl) fk_RX12_314 rfl dX12_count_170 ?_
                        cases hf
                        exact hk _ _ dX12_count_173
                      · rw [if_neg hc25] at hf
                        by_cases hc26 : x1 = (11 : Int32)
                        · rw [if_pos hc26] at hf
                          refine Wp.swIn (pc := 1) 174 dX12_count_1 hc26 (by decide) (by decide) rfl (by decide) ?_
                          refine Wp.aload_n (pc := 174) 0 rfl rfl dX12_count_174 ?_
                          refine Wp.getR2 (pc := 175) (hG.r 56 85 rfl) (hG.t 56 rfl) fk_RX12_188 rfl dX12_count_175 ?_
                          refine Wp.iconst (pc := 178) (0 : Int32) (by decide) dX12_count_178 ?_
                          obtain ⟨v27, h28, hf⟩ := bnd hf
                          refine Wp.zald2 (pc := 179) h28 (hG.a 113 3 rfl) dX12_count_179 ?_
                          refine Wp.if_eq (pc := 180) 187 dX12_count_180 (by decide) (fun hc29 => ?_) (fun hc29 => ?_)
                          · rw [if_pos hc29] at hf
                            refine Wp.iconst (pc := 187) (0 : Int32) (by decide) dX12_count_187 ?_
                            refine Wp.lo' (lo' := [(0, .ref 56)]) [0] rfl ?_
                            exact w_X12_count_188 hX hG hf hk
                          · rw [if_neg hc29] at hf
                            refine Wp.iconst (pc := 183) (1 : Int32) (by decide) dX12_count_183 ?_
                            refine Wp.goto (pc := 184) 188 dX12_count_184 (by decide) ?_
                            refine Wp.lo' (lo' := [(0, .ref 56)]) [0] rfl ?_
                            exact w_X12_count_188 hX hG hf hk
                        · rw [if_neg hc26] at hf
                          by_cases hc30 : x1 = (12 : Int32)
                          · rw [if_pos hc30] at hf
                            refine Wp.swIn (pc := 1) 219 dX12_count_1 hc30 (by decide) (by decide) rfl (by decide) ?_
                            refine Wp.aload_n (pc := 219) 0 rfl rfl dX12_count_219 ?_
                            refine Wp.aload_n (pc := 220) 0 rfl rfl dX12_count_220 ?_
                            refine Wp.getI2 (pc := 221) (hG.t 56 rfl) fk_RX12_396 rfl dX12_count_221 ?_
                            obtain ⟨c31, h32, hf⟩ := bnd hf
                            refine Wp.callVi (pc := 224) (st := []) (as := [.int (hI m 56 60)]) (c_X12_isFog hG h32) ml_RX12_447 mv_X12_isFog mb_X12_isFog hX (Nat.le_of_ble_eq_true rfl) (by decide) rfl (hG.t 56 rfl) rfl (by simp) dX12_count_224 rfl ?_
                            refine Wp.if_eq (pc := 227) 234 dX12_count_227 (by decide) (fun hc33 => ?_) (fun hc33 => ?_)
                            · rw [if_pos hc33] at hf
                              refine Wp.iconst (pc := 234) (0 : Int32) (by decide) dX12_count_234 ?_
                              refine Wp.lo' (lo' := []) [] rfl ?_
                              exact w_X12_count_235 hX hG hf hk
                            · rw [if_neg hc33] at hf
                              refine Wp.iconst (pc := 230) (1 : Int32) (by decide) dX12_count_230 ?_
                              refine Wp.goto (pc := 231) 235 dX12_count_231 (by decide) ?_
                              refine Wp.lo' (lo' := []) [] rfl ?_
                              exact w_X12_count_235 hX hG hf hk
                          · rw [if_neg hc30] at hf
                            refine Wp.swOut (pc := 1) 236 dX12_count_1 (swx (fun k h1 h2 => ?_)) (by decide) ?_
                            · have z0 := lv_neT hc1 (a := 0) (by decide); have z1 := lv_neT hc4 (a := 1) (by decide); have z2 := lv_neT hc7 (a := 2) (by decide); have z3 := lv_neT hc10 (a := 3) (by decide); have z4 := lv_neT hc11 (a := 4) (by decide); have z5 := lv_neT hc13 (a := 5) (by decide); have z6 := lv_neT hc14 (a := 6) (by decide); have z7 := lv_neT hc20 (a := 7) (by decide); have z8 := lv_neT hc23 (a := 8) (by decide); have z9 := lv_neT hc24 (a := 9) (by decide); have z10 := lv_neT hc25 (a := 10) (by decide); have z11 := lv_neT hc26 (a := 11) (by decide); have z12 := lv_neT hc30 (a := 12) (by decide); omega
                            · skip
                              refine Wp.iconst (pc := 236) (-1 : Int32) (by decide) dX12_count_236 ?_
                              cases hf
                              exact hk _ _ dX12_count_237
theorem c_X12_count {T : List Dsc} {R : RM} {c e : Nat} {x1 : Int32} {m : M2} {r : (Int32 × M2)} (hG : Geo T R c e) (hf : F_X12_count x1 m = some r) : Ct 3 yX12_count cX12_count 2 (some .int) T (mk m R) [.ref 56, .int x1] (some (.int r.1)) (mk r.2 R) := Ct.ofI (r := (r.1, mk r.2 R)) (by decide +kernel) (Nat.le_of_ble_eq_true rfl) (fun X hX hk => w_X12_count hX hG hf hk)
