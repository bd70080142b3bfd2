theorem dX11_seat_0 : decode cX11_seat 0 = .ok (.iload_n 1, 1) := by decide +kernel
theorem dX11_seat_1 : decode cX11_seat 1 = .ok (.iload_n 2, 1) := by decide +kernel
theorem dX11_seat_2 : decode cX11_seat 2 = .ok (.invokestatic 213, 3) := by decide +kernel
theorem dX11_seat_5 : decode cX11_seat 5 = .ok (.ifCond .eq 11, 3) := by decide +kernel
theorem dX11_seat_8 : decode cX11_seat 8 = .ok (.aload_n 0, 1) := by decide +kernel
theorem dX11_seat_9 : decode cX11_seat 9 = .ok (.iload_n 3, 1) := by decide +kernel
theorem dX11_seat_10 : decode cX11_seat 10 = .ok (.invokevirtual 121, 3) := by decide +kernel
theorem dX11_seat_13 : decode cX11_seat 13 = .ok (.ifCond .ne 5, 3) := by decide +kernel
theorem dX11_seat_16 : decode cX11_seat 16 = .ok (.iconst (-1), 1) := by decide +kernel
theorem dX11_seat_17 : decode cX11_seat 17 = .ok (.ireturn, 1) := by decide +kernel
theorem dX11_seat_18 : decode cX11_seat 18 = .ok (.aload_n 0, 1) := by decide +kernel
theorem dX11_seat_19 : decode cX11_seat 19 = .ok (.getfield 16, 3) := by decide +kernel
theorem dX11_seat_22 : decode cX11_seat 22 = .ok (.getfield 153, 3) := by decide +kernel
theorem dX11_seat_25 : decode cX11_seat 25 = .ok (.bipush 6, 2) := by decide +kernel
theorem dX11_seat_27 : decode cX11_seat 27 = .ok (.if_icmp .le 6, 3) := by decide +kernel
theorem dX11_seat_30 : decode cX11_seat 30 = .ok (.bipush (-2), 2) := by decide +kernel
theorem dX11_seat_32 : decode cX11_seat 32 = .ok (.ireturn, 1) := by decide +kernel
theorem dX11_seat_33 : decode cX11_seat 33 = .ok (.aload_n 0, 1) := by decide +kernel
theorem dX11_seat_34 : decode cX11_seat 34 = .ok (.getfield 64, 3) := by decide +kernel
theorem dX11_seat_37 : decode cX11_seat 37 = .ok (.aload_n 0, 1) := by decide +kernel
theorem dX11_seat_38 : decode cX11_seat 38 = .ok (.getfield 44, 3) := by decide +kernel
theorem dX11_seat_41 : decode cX11_seat 41 = .ok (.iload_n 1, 1) := by decide +kernel
theorem dX11_seat_42 : decode cX11_seat 42 = .ok (.iload_n 2, 1) := by decide +kernel
theorem dX11_seat_43 : decode cX11_seat 43 = .ok (.invokevirtual 217, 3) := by decide +kernel
theorem dX11_seat_46 : decode cX11_seat 46 = .ok (.pop, 1) := by decide +kernel
theorem dX11_seat_47 : decode cX11_seat 47 = .ok (.aload_n 0, 1) := by decide +kernel
theorem dX11_seat_48 : decode cX11_seat 48 = .ok (.getfield 64, 3) := by decide +kernel
theorem dX11_seat_51 : decode cX11_seat 51 = .ok (.getfield 221, 3) := by decide +kernel
theorem dX11_seat_54 : decode cX11_seat 54 = .ok (.iload_n 3, 1) := by decide +kernel
theorem dX11_seat_55 : decode cX11_seat 55 = .ok (.iaload, 1) := by decide +kernel
theorem dX11_seat_56 : decode cX11_seat 56 = .ok (.ireturn, 1) := by decide +kernel
set_option maxHeartbeats 4000000 in
set_option maxRecDepth 100000 in
theorem w_X11_seat_16 {X : CX} {T : List Dsc} {R : RM} {c e : Nat} {n1 n2 : Nat} {m : M2} {r : (Int32 × M2)} (hX : XR X 8 n1 n2) (hG : Geo T R c e) (hf : f_X11_seat_16 c m = some r) (hk : FnI X cX11_seat RX11 4 T n1 n2 (r.1, mk r.2 R)) : Wp X cX11_seat RX11 4 T (mk m R) n1 n2 16 [] [] := by
  unfold f_X11_seat_16 at hf
  refine Wp.iconst (pc := 16) (-1 : Int32) (by decide) dX11_seat_16 ?_
  cases hf
  exact hk _ _ dX11_seat_17
set_option maxHeartbeats 4000000 in
set_option maxRecDepth 100000 in
theorem w_X11_seat {X : CX} {T : List Dsc} {R : RM} {c e : Nat} {n1 n2 : Nat} {x1 : Int32} {x2 : Int32} {x3 : Int32} {m : M2} {r : (Int32 × M2)} (hX : XR X 8 n1 n2) (hG : Geo T R c e) (hf : F_X11_seat c x1 x2 x3 m = some r) (hk : FnI X cX11_seat RX11 4 T n1 n2 (r.1, mk r.2 R)) : Wp X cX11_seat RX11 4 T (mk m R) n1 n2 0 [(0, .ref 0), (1, .int x1), (2, .int x2), (3, .int x3)] [] := by
  unfold F_X11_seat at hf
  refine Wp.iload_n (pc := 0) 1 rfl rfl dX11_seat_0 ?_
  refine Wp.iload_n (pc := 1) 2 rfl rfl dX11_seat_1 ?_
  obtain ⟨c1, h2, hf⟩ := bnd hf
  refine Wp.callSi (pc := 2) (st := []) (as := [.int x1, .int x2]) (c_X6_isAim hG h2) ml_RX11_213 ms_X6_isAim mb_X6_isAim hX (Nat.le_of_ble_eq_true rfl) (by decide) rfl (by simp) dX11_seat_2 rfl ?_
  refine Wp.if_eq (pc := 5) 16 dX11_seat_5 (by decide) (fun hc3 => ?_) (fun hc3 => ?_)
  · rw [if_pos hc3] at hf
    refine Wp.lo' (lo' := []) [] rfl ?_
    exact w_X11_seat_16 hX hG hf hk
  · rw [if_neg hc3] at hf
    refine Wp.aload_n (pc := 8) 0 rfl rfl dX11_seat_8 ?_
    refine Wp.iload_n (pc := 9) 3 rfl rfl dX11_seat_9 ?_
    obtain ⟨c4, h5, hf⟩ := bnd hf
    refine Wp.callVi (pc := 10) (st := []) (as := [.int x3]) (c_X11_isBench hG h5) ml_RX11_121 mv_X11_isBench mb_X11_isBench hX (Nat.le_of_ble_eq_true rfl) (by decide) rfl (hG.t 0 rfl) rfl (by simp) dX11_seat_10 rfl ?_
    refine Wp.if_ne (pc := 13) 18 dX11_seat_13 (by decide) (fun hc6 => ?_) (fun hc6 => ?_)
    · rw [if_neg hc6] at hf
      refine Wp.aload_n (pc := 18) 0 rfl rfl dX11_seat_18 ?_
      refine Wp.getR2 (pc := 19) hG.r0 (hG.t 0 rfl) fk_RX11_16 rfl dX11_seat_19 ?_
      refine Wp.getI2 (pc := 22) (hG.tt hG.hc) fk_RX11_153 rfl dX11_seat_22 ?_
      refine Wp.bipush (pc := 25) (6 : Int32) (by decide) dX11_seat_25 ?_
      refine Wp.icmp_le (pc := 27) 33 dX11_seat_27 (by decide) (fun hc7 => ?_) (fun hc7 => ?_)
      · rw [if_pos hc7] at hf
        refine Wp.aload_n (pc := 33) 0 rfl rfl dX11_seat_33 ?_
        refine Wp.getR2 (pc := 34) (hG.r 0 9 rfl) (hG.t 0 rfl) fk_RX11_64 rfl dX11_seat_34 ?_
        refine Wp.aload_n (pc := 37) 0 rfl rfl dX11_seat_37 ?_
        refine Wp.getR2 (pc := 38) (hG.r 0 6 rfl) (hG.t 0 rfl) fk_RX11_44 rfl dX11_seat_38 ?_
        refine Wp.iload_n (pc := 41) 1 rfl rfl dX11_seat_41 ?_
        refine Wp.iload_n (pc := 42) 2 rfl rfl dX11_seat_42 ?_
        obtain ⟨c8, h9, hf⟩ := bnd hf
        refine Wp.callVi (pc := 43) (st := []) (as := [.ref 28, .int x1, .int x2]) (c_X6_bestOrder hG cw28 h9) ml_RX11_217 mv_X6_bestOrder mb_X6_bestOrder hX (Nat.le_of_ble_eq_true rfl) (by decide) rfl (hG.t 34 rfl) rfl (by simp) dX11_seat_43 rfl ?_
        refine Wp.pop (pc := 46) rfl dX11_seat_46 ?_
        refine Wp.aload_n (pc := 47) 0 rfl rfl dX11_seat_47 ?_
        refine Wp.getR2 (pc := 48) (hG.r 0 9 rfl) (hG.t 0 rfl) fk_RX11_64 rfl dX11_seat_48 ?_
        refine Wp.getR2 (pc := 51) (hG.r 34 2 rfl) (hG.t 34 rfl) fk_RX11_221 rfl dX11_seat_51 ?_
        refine Wp.iload_n (pc := 54) 3 rfl rfl dX11_seat_54 ?_
        obtain ⟨v10, h11, hf⟩ := bnd hf
        refine Wp.iald2 (pc := 55) h11 (hG.a 36 0 rfl) dX11_seat_55 ?_
        cases hf
        exact hk _ _ dX11_seat_56
      · rw [if_neg hc7] at hf
        refine Wp.bipush (pc := 30) (-2 : Int32) (by decide) dX11_seat_30 ?_
        cases hf
        exact hk _ _ dX11_seat_32
    · rw [if_pos hc6] at hf
      refine Wp.lo' (lo' := []) [] rfl ?_
      exact w_X11_seat_16 hX hG hf hk
theorem c_X11_seat {T : List Dsc} {R : RM} {c e : Nat} {x1 : Int32} {x2 : Int32} {x3 : Int32} {m : M2} {r : (Int32 × M2)} (hG : Geo T R c e) (hf : F_X11_seat c x1 x2 x3 m = some r) : Ct 8 yX11_seat cX11_seat 4 (some .int) T (mk m R) [.ref 0, .int x1, .int x2, .int x3] (some (.int r.1)) (mk r.2 R) := Ct.ofI (r := (r.1, mk r.2 R)) (by decide +kernel) (Nat.le_of_ble_eq_true rfl) (fun X hX hk => w_X11_seat hX hG hf hk)
theorem dX11_better_0 : decode cX11_better 0 = .ok (.iload_n 1, 1) := by decide +kernel
theorem dX11_better_1 : decode cX11_better 1 = .ok (.iload_n 2, 1) := by decide +kernel
theorem dX11_better_2 : decode cX11_better 2 = .ok (.invokestatic 213, 3) := by decide +kernel
theorem dX11_better_5 : decode cX11_better 5 = .ok (.ifCond .eq 13, 3) := by decide +kernel
theorem dX11_better_8 : decode cX11_better 8 = .ok (.aload_n 0, 1) := by decide +kernel
theorem dX11_better_9 : decode cX11_better 9 = .ok (.getfield 16, 3) := by decide +kernel
theorem dX11_better_12 : decode cX11_better 12 = .ok (.getfield 153, 3) := by decide +kernel
theorem dX11_better_15 : decode cX11_better 15 = .ok (.ifCond .ne 5, 3) := by decide +kernel
theorem dX11_better_18 : decode cX11_better 18 = .ok (.iconst (-1), 1) := by decide +kernel
theorem dX11_better_19 : decode cX11_better 19 = .ok (.ireturn, 1) := by decide +kernel
theorem dX11_better_20 : decode cX11_better 20 = .ok (.aload_n 0, 1) := by decide +kernel
theorem dX11_better_21 : decode cX11_better 21 = .ok (.getfield 64, 3) := by decide +kernel
theorem dX11_better_24 : decode cX11_better 24 = .ok (.aload_n 0, 1) := by decide +kernel
theorem dX11_better_25 : decode cX11_better 25 = .ok (.getfield 44, 3) := by decide +kernel
theorem dX11_better_28 : decode cX11_better 28 = .ok (.iload_n 1, 1) := by decide +kernel
theorem dX11_better_29 : decode cX11_better 29 = .ok (.iload_n 2, 1) := by decide +kernel
theorem dX11_better_30 : decode cX11_better 30 = .ok (.invokevirtual 224, 3) := by decide +kernel
theorem dX11_better_33 : decode cX11_better 33 = .ok (.ireturn, 1) := by decide +kernel
set_option maxHeartbeats 4000000 in
set_option maxRecDepth 100000 in
theorem w_X11_better_18 {X : CX} {T : List Dsc} {R : RM} {c e : Nat} {n1 n2 : Nat} {m : M2} {r : (Int32 × M2)} (hX : XR X 8 n1 n2) (hG : Geo T R c e) (hf : f_X11_better_18 c m = some r) (hk : FnI X cX11_better RX11 3 T n1 n2 (r.1, mk r.2 R)) : Wp X cX11_better RX11 3 T (mk m R) n1 n2 18 [] [] := by
  unfold f_X11_better_18 at hf
  refine Wp.iconst (pc := 18) (-1 : Int32) (by decide) dX11_better_18 ?_
  cases hf
  exact hk _ _ dX11_better_19
set_option maxHeartbeats 4000000 in
set_option maxRecDepth 100000 in
theorem w_X11_better {X : CX} {T : List Dsc} {R : RM} {c e : Nat} {n1 n2 : Nat} {x1 : Int32} {x2 : Int32} {m : M2} {r : (Int32 × M2)} (hX : XR X 8 n1 n2) (hG : Geo T R c e) (hf : F_X11_better c x1 x2 m = some r) (hk : FnI X cX11_better RX11 3 T n1 n2 (r.1, mk r.2 R)) : Wp X cX11_better RX11 3 T (mk m R) n1 n2 0 [(0, .ref 0), (1, .int x1), (2, .int x2)] [] := by
  unfold F_X11_better at hf
  refine Wp.iload_n (pc := 0) 1 rfl rfl dX11_better_0 ?_
  refine Wp.iload_n (pc := 1) 2 rfl rfl dX11_better_1 ?_
  obtain ⟨c1, h2, hf⟩ := bnd hf
  refine Wp.callSi (pc := 2) (st := []) (as := [.int x1, .int x2]) (c_X6_isAim hG h2) ml_RX11_213 ms_X6_isAim mb_X6_isAim hX (Nat.le_of_ble_eq_true rfl) (by decide) rfl (by simp) dX11_better_2 rfl ?_
  refine Wp.if_eq (pc := 5) 18 dX11_better_5 (by decide) (fun hc3 => ?_) (fun hc3 => ?_)
  · rw [if_pos hc3] at hf
    refine Wp.lo' (lo' := []) [] rfl ?_
    exact w_X11_better_18 hX hG hf hk
  · rw [if_neg hc3] at hf
    refine Wp.aload_n (pc := 8) 0 rfl rfl dX11_better_8 ?_
    refine Wp.getR2 (pc := 9) hG.r0 (hG.t 0 rfl) fk_RX11_16 rfl dX11_better_9 ?_
    refine Wp.getI2 (pc := 12) (hG.tt hG.hc) fk_RX11_153 rfl dX11_better_12 ?_
    refine Wp.if_ne (pc := 15) 20 dX11_better_15 (by decide) (fun hc4 => ?_) (fun hc4 => ?_)
    · rw [if_neg hc4] at hf
      refine Wp.aload_n (pc := 20) 0 rfl rfl dX11_better_20 ?_
      refine Wp.getR2 (pc := 21) (hG.r 0 9 rfl) (hG.t 0 rfl) fk_RX11_64 rfl dX11_better_21 ?_
      refine Wp.aload_n (pc := 24) 0 rfl rfl dX11_better_24 ?_
      refine Wp.getR2 (pc := 25) (hG.r 0 6 rfl) (hG.t 0 rfl) fk_RX11_44 rfl dX11_better_25 ?_
      refine Wp.iload_n (pc := 28) 1 rfl rfl dX11_better_28 ?_
      refine Wp.iload_n (pc := 29) 2 rfl rfl dX11_better_29 ?_
      obtain ⟨c5, h6, hf⟩ := bnd hf
      refine Wp.callVi (pc := 30) (st := []) (as := [.ref 28, .int x1, .int x2]) (c_X6_bestExchange hG cw28 h6) ml_RX11_224 mv_X6_bestExchange mb_X6_bestExchange hX (Nat.le_of_ble_eq_true rfl) (by decide) rfl (hG.t 34 rfl) rfl (by simp) dX11_better_30 rfl ?_
      cases hf
      exact hk _ _ dX11_better_33
    · rw [if_pos hc4] at hf
      refine Wp.lo' (lo' := []) [] rfl ?_
      exact w_X11_better_18 hX hG hf hk
theorem c_X11_better {T : List Dsc} {R : RM} {c e : Nat} {x1 : Int32} {x2 : Int32} {m : M2} {r : (Int32 × M2)} (hG : Geo T R c e) (hf : F_X11_better c x1 x2 m = some r) : Ct 8 yX11_better cX11_better 3 (some .int) T (mk m R) [.ref 0, .int x1, .int x2] (some (.int r.1)) (mk r.2 R) := Ct.ofI (r := (r.1, mk r.2 R)) (by decide +kernel) (Nat.le_of_ble_eq_true rfl) (fun X hX hk => w_X11_better hX hG hf hk)
theorem dX11_ram_0 : decode cX11_ram 0 = .ok (.iload_n 1, 1) := by decide +kernel
theorem dX11_ram_1 : decode cX11_ram 1 = .ok (.iconst 1, 1) := by decide +kernel
theorem dX11_ram_2 : decode cX11_ram 2 = .ok (.if_icmp .lt 28, 3) := by decide +kernel
theorem dX11_ram_5 : decode cX11_ram 5 = .ok (.iload_n 1, 1) := by decide +kernel
theorem dX11_ram_6 : decode cX11_ram 6 = .ok (.bipush 60, 2) := by decide +kernel
theorem dX11_ram_8 : decode cX11_ram 8 = .ok (.if_icmp .gt 22, 3) := by decide +kernel
theorem dX11_ram_11 : decode cX11_ram 11 = .ok (.iload_n 2, 1) := by decide +kernel
theorem dX11_ram_12 : decode cX11_ram 12 = .ok (.ifCond .lt 18, 3) := by decide +kernel
theorem dX11_ram_15 : decode cX11_ram 15 = .ok (.iload_n 2, 1) := by decide +kernel
theorem dX11_ram_16 : decode cX11_ram 16 = .ok (.iconst 2, 1) := by decide +kernel
theorem dX11_ram_17 : decode cX11_ram 17 = .ok (.if_icmp .gt 13, 3) := by decide +kernel
theorem dX11_ram_20 : decode cX11_ram 20 = .ok (.aload_n 0, 1) := by decide +kernel
theorem dX11_ram_21 : decode cX11_ram 21 = .ok (.getfield 16, 3) := by decide +kernel
theorem dX11_ram_24 : decode cX11_ram 24 = .ok (.getfield 153, 3) := by decide +kernel
theorem dX11_ram_27 : decode cX11_ram 27 = .ok (.ifCond .ne 5, 3) := by decide +kernel
theorem dX11_ram_30 : decode cX11_ram 30 = .ok (.iconst (-1), 1) := by decide +kernel
theorem dX11_ram_31 : decode cX11_ram 31 = .ok (.ireturn, 1) := by decide +kernel
theorem dX11_ram_32 : decode cX11_ram 32 = .ok (.aload_n 0, 1) := by decide +kernel
theorem dX11_ram_33 : decode cX11_ram 33 = .ok (.getfield 44, 3) := by decide +kernel
theorem dX11_ram_36 : decode cX11_ram 36 = .ok (.getfield 140, 3) := by decide +kernel
theorem dX11_ram_39 : decode cX11_ram 39 = .ok (.ifCond .ge 6, 3) := by decide +kernel
theorem dX11_ram_42 : decode cX11_ram 42 = .ok (.bipush (-2), 2) := by decide +kernel
theorem dX11_ram_44 : decode cX11_ram 44 = .ok (.ireturn, 1) := by decide +kernel
theorem dX11_ram_45 : decode cX11_ram 45 = .ok (.aload_n 0, 1) := by decide +kernel
theorem dX11_ram_46 : decode cX11_ram 46 = .ok (.getfield 78, 3) := by decide +kernel
theorem dX11_ram_49 : decode cX11_ram 49 = .ok (.aload_n 0, 1) := by decide +kernel
theorem dX11_ram_50 : decode cX11_ram 50 = .ok (.getfield 44, 3) := by decide +kernel
theorem dX11_ram_53 : decode cX11_ram 53 = .ok (.iload_n 1, 1) := by decide +kernel
theorem dX11_ram_54 : decode cX11_ram 54 = .ok (.invokevirtual 240, 3) := by decide +kernel
theorem dX11_ram_57 : decode cX11_ram 57 = .ok (.iload_n 2, 1) := by decide +kernel
theorem dX11_ram_58 : decode cX11_ram 58 = .ok (.ifCond .ne 11, 3) := by decide +kernel
theorem dX11_ram_61 : decode cX11_ram 61 = .ok (.aload_n 0, 1) := by decide +kernel
theorem dX11_ram_62 : decode cX11_ram 62 = .ok (.getfield 78, 3) := by decide +kernel
theorem dX11_ram_65 : decode cX11_ram 65 = .ok (.getfield 244, 3) := by decide +kernel
theorem dX11_ram_68 : decode cX11_ram 68 = .ok (.ireturn, 1) := by decide +kernel
theorem dX11_ram_69 : decode cX11_ram 69 = .ok (.iload_n 2, 1) := by decide +kernel
theorem dX11_ram_70 : decode cX11_ram 70 = .ok (.iconst 1, 1) := by decide +kernel
theorem dX11_ram_71 : decode cX11_ram 71 = .ok (.if_icmp .ne 13, 3) := by decide +kernel
theorem dX11_ram_74 : decode cX11_ram 74 = .ok (.aload_n 0, 1) := by decide +kernel
theorem dX11_ram_75 : decode cX11_ram 75 = .ok (.getfield 78, 3) := by decide +kernel
theorem dX11_ram_78 : decode cX11_ram 78 = .ok (.getfield 247, 3) := by decide +kernel
theorem dX11_ram_81 : decode cX11_ram 81 = .ok (.goto 10, 3) := by decide +kernel
theorem dX11_ram_84 : decode cX11_ram 84 = .ok (.aload_n 0, 1) := by decide +kernel
theorem dX11_ram_85 : decode cX11_ram 85 = .ok (.getfield 78, 3) := by decide +kernel
theorem dX11_ram_88 : decode cX11_ram 88 = .ok (.getfield 250, 3) := by decide +kernel
theorem dX11_ram_91 : decode cX11_ram 91 = .ok (.ireturn, 1) := by decide +kernel
set_option maxHeartbeats 4000000 in
set_option maxRecDepth 100000 in
theorem w_X11_ram_30 {X : CX} {T : List Dsc} {R : RM} {c e : Nat} {n1 n2 : Nat} {m : M2} {r : (Int32 × M2)} (hX : XR X 8 n1 n2) (hG : Geo T R c e) (hf : f_X11_ram_30 c m = some r) (hk : FnI X cX11_ram RX11 3 T n1 n2 (r.1, mk r.2 R)) : Wp X cX11_ram RX11 3 T (mk m R) n1 n2 30 [] [] := by
  unfold f_X11_ram_30 at hf
  refine Wp.iconst (pc := 30) (-1 : Int32) (by decide) dX11_ram_30 ?_
  cases hf
  exact hk _ _ dX11_ram_31
set_option maxHeartbeats 4000000 in
set_option maxRecDepth 100000 in
theorem w_X11_ram_91 {X : CX} {T : List Dsc} {R : RM} {c e : Nat} {n1 n2 : Nat} {s0 : Int32} {m : M2} {r : (Int32 × M2)} (hX : XR X 8 n1 n2) (hG : Geo T R c e) (hf : f_X11_ram_91 c s0 m = some r) (hk : FnI X cX11_ram RX11 3 T n1 n2 (r.1, mk r.2 R)) : Wp X cX11_ram RX11 3 T (mk m R) n1 n2 91 [] [.int s0] := by
  unfold f_X11_ram_91 at hf
  cases hf
  exact hk _ _ dX11_ram_91
set_option maxHeartbeats 4000000 in
set_option maxRecDepth 100000 in
theorem w_X11_ram {X : CX} {T : List Dsc} {R : RM} {c e : Nat} {n1 n2 : Nat} {x1 : Int32} {x2 : Int32} {m : M2} {r : (Int32 × M2)} (hX : XR X 8 n1 n2) (hG : Geo T R c e) (hf : F_X11_ram c x1 x2 m = some r) (hk : FnI X cX11_ram RX11 3 T n1 n2 (r.1, mk r.2 R)) : Wp X cX11_ram RX11 3 T (mk m R) n1 n2 0 [(0, .ref 0), (1, .int x1), (2, .int x2)] [] := by
  unfold F_X11_ram at hf
  refine Wp.iload_n (pc := 0) 1 rfl rfl dX11_ram_0 ?_
  refine Wp.iconst (pc := 1) (1 : Int32) (by decide) dX11_ram_1 ?_
  refine Wp.icmp_lt (pc := 2) 30 dX11_ram_2 (by decide) (fun hc1 => ?_) (fun hc1 => ?_)
  · rw [if_pos hc1] at hf
    refine Wp.lo' (lo' := []) [] rfl ?_
    exact w_X11_ram_30 hX hG hf hk
  · rw [if_neg hc1] at hf
    refine Wp.iload_n (pc := 5) 1 rfl rfl dX11_ram_5 ?_
    refine Wp.bipush (pc := 6) (60 : Int32) (by decide) dX11_ram_6 ?_
    refine Wp.icmp_gt (pc := 8) 30 dX11_ram_8 (by decide) (fun hc2 => ?_) (fun hc2 => ?_)
    · rw [if_pos hc2] at hf
      refine Wp.lo' (lo' := []) [] rfl ?_
      exact w_X11_ram_30 hX hG hf hk
    · rw [if_neg hc2] at hf
      refine Wp.iload_n (pc := 11) 2 rfl rfl dX11_ram_11 ?_
      refine Wp.if_lt (pc := 12) 30 dX11_ram_12 (by decide) (fun hc3 => ?_) (fun hc3 => ?_)
      · rw [if_pos hc3] at hf
        refine Wp.lo' (lo' := []) [] rfl ?_
        exact w_X11_ram_30 hX hG hf hk
      · rw [if_neg hc3] at hf
        refine Wp.iload_n (pc := 15) 2 rfl rfl dX11_ram_15 ?_
        refine Wp.iconst (pc := 16) (2 : Int32) (by decide) dX11_ram_16 ?_
        refine Wp.icmp_gt (pc := 17) 30 dX11_ram_17 (by decide) (fun hc4 => ?_) (fun hc4 => ?_)
        · rw [if_pos hc4] at hf
          refine Wp.lo' (lo' := []) [] rfl ?_
          exact w_X11_ram_30 hX hG hf hk
        · rw [if_neg hc4] at hf
          refine Wp.aload_n (pc := 20) 0 rfl rfl dX11_ram_20 ?_
          refine Wp.getR2 (pc := 21) hG.r0 (hG.t 0 rfl) fk_RX11_16 rfl dX11_ram_21 ?_
          refine Wp.getI2 (pc := 24) (hG.tt hG.hc) fk_RX11_153 rfl dX11_ram_24 ?_
          refine Wp.if_ne (pc := 27) 32 dX11_ram_27 (by decide) (fun hc5 => ?_) (fun hc5 => ?_)
          · rw [if_neg hc5] at hf
            refine Wp.aload_n (pc := 32) 0 rfl rfl dX11_ram_32 ?_
            refine Wp.getR2 (pc := 33) (hG.r 0 6 rfl) (hG.t 0 rfl) fk_RX11_44 rfl dX11_ram_33 ?_
            refine Wp.getI2 (pc := 36) (hG.wt cw28) fk_RX11_140 rfl dX11_ram_36 ?_
            refine Wp.if_ge (pc := 39) 45 dX11_ram_39 (by decide) (fun hc6 => ?_) (fun hc6 => ?_)
            · rw [if_pos hc6] at hf
              refine Wp.aload_n (pc := 45) 0 rfl rfl dX11_ram_45 ?_
              refine Wp.getR2 (pc := 46) (hG.r 0 11 rfl) (hG.t 0 rfl) fk_RX11_78 rfl dX11_ram_46 ?_
              refine Wp.aload_n (pc := 49) 0 rfl rfl dX11_ram_49 ?_
              refine Wp.getR2 (pc := 50) (hG.r 0 6 rfl) (hG.t 0 rfl) fk_RX11_44 rfl dX11_ram_50 ?_
              refine Wp.iload_n (pc := 53) 1 rfl rfl dX11_ram_53 ?_
              obtain ⟨c7, h8, hf⟩ := bnd hf
              refine Wp.callVv (pc := 54) (st := []) (as := [.ref 28, .int x1]) (c_X9_planRam hG cw28 h8) ml_RX11_240 mv_X9_planRam mb_X9_planRam hX (Nat.le_of_ble_eq_true rfl) (by decide) rfl (hG.t 39 rfl) rfl (by simp) dX11_ram_54 rfl ?_
              refine Wp.iload_n (pc := 57) 2 rfl rfl dX11_ram_57 ?_
              refine Wp.if_ne (pc := 58) 69 dX11_ram_58 (by decide) (fun hc9 => ?_) (fun hc9 => ?_)
              · rw [if_neg hc9] at hf
                refine Wp.iload_n (pc := 69) 2 rfl rfl dX11_ram_69 ?_
                refine Wp.iconst (pc := 70) (1 : Int32) (by decide) dX11_ram_70 ?_
                refine Wp.icmp_ne (pc := 71) 84 dX11_ram_71 (by decide) (fun hc10 => ?_) (fun hc10 => ?_)
                · rw [if_neg hc10] at hf
                  refine Wp.aload_n (pc := 84) 0 rfl rfl dX11_ram_84 ?_
                  refine Wp.getR2 (pc := 85) (hG.r 0 11 rfl) (hG.t 0 rfl) fk_RX11_78 rfl dX11_ram_85 ?_
                  refine Wp.getI2 (pc := 88) (hG.t 39 rfl) fk_RX11_250 rfl dX11_ram_88 ?_
                  refine Wp.lo' (lo' := []) [] rfl ?_
                  exact w_X11_ram_91 hX hG hf hk
                · rw [if_pos hc10] at hf
                  refine Wp.aload_n (pc := 74) 0 rfl rfl dX11_ram_74 ?_
                  refine Wp.getR2 (pc := 75) (hG.r 0 11 rfl) (hG.t 0 rfl) fk_RX11_78 rfl dX11_ram_75 ?_
                  refine Wp.getI2 (pc := 78) (hG.t 39 rfl) fk_RX11_247 rfl dX11_ram_78 ?_
                  refine Wp.goto (pc := 81) 91 dX11_ram_81 (by decide) ?_
                  refine Wp.lo' (lo' := []) [] rfl ?_
                  exact w_X11_ram_91 hX hG hf hk
              · rw [if_pos hc9] at hf
                refine Wp.aload_n (pc := 61) 0 rfl rfl dX11_ram_61 ?_
                refine Wp.getR2 (pc := 62) (hG.r 0 11 rfl) (hG.t 0 rfl) fk_RX11_78 rfl dX11_ram_62 ?_
                refine Wp.getI2 (pc := 65) (hG.t 39 rfl) fk_RX11_244 rfl dX11_ram_65 ?_
                cases hf
                exact hk _ _ dX11_ram_68
            · rw [if_neg hc6] at hf
              refine Wp.bipush (pc := 42) (-2 : Int32) (by decide) dX11_ram_42 ?_
              cases hf
              exact hk _ _ dX11_ram_44
          · rw [if_pos hc5] at hf
            refine Wp.lo' (lo' := []) [] rfl ?_
            exact w_X11_ram_30 hX hG hf hk
theorem c_X11_ram {T : List Dsc} {R : RM} {c e : Nat} {x1 : Int32} {x2 : Int32} {m : M2} {r : (Int32 × M2)} (hG : Geo T R c e) (hf : F_X11_ram c x1 x2 m = some r) : Ct 8 yX11_ram cX11_ram 3 (some .int) T (mk m R) [.ref 0, .int x1, .int x2] (some (.int r.1)) (mk r.2 R) := Ct.ofI (r := (r.1, mk r.2 R)) (by decide +kernel) (Nat.le_of_ble_eq_true rfl) (fun X hX hk => w_X11_ram hX hG hf hk)
theorem dX11_odds_0 : decode cX11_odds 0 = .ok (.iload_n 1, 1) := by decide +kernel
theorem dX11_odds_1 : decode cX11_odds 1 = .ok (.iconst 1, 1) := by decide +kernel
theorem dX11_odds_2 : decode cX11_odds 2 = .ok (.if_icmp .lt 39, 3) := by decide +kernel
theorem dX11_odds_5 : decode cX11_odds 5 = .ok (.iload_n 1, 1) := by decide +kernel
theorem dX11_odds_6 : decode cX11_odds 6 = .ok (.bipush 10, 2) := by decide +kernel
theorem dX11_odds_8 : decode cX11_odds 8 = .ok (.if_icmp .gt 33, 3) := by decide +kernel
theorem dX11_odds_11 : decode cX11_odds 11 = .ok (.iload_n 3, 1) := by decide +kernel
theorem dX11_odds_12 : decode cX11_odds 12 = .ok (.iconst 1, 1) := by decide +kernel
theorem dX11_odds_13 : decode cX11_odds 13 = .ok (.if_icmp .lt 28, 3) := by decide +kernel
theorem dX11_odds_16 : decode cX11_odds 16 = .ok (.iload_n 3, 1) := by decide +kernel
theorem dX11_odds_17 : decode cX11_odds 17 = .ok (.bipush 9, 2) := by decide +kernel
theorem dX11_odds_19 : decode cX11_odds 19 = .ok (.if_icmp .gt 22, 3) := by decide +kernel
theorem dX11_odds_22 : decode cX11_odds 22 = .ok (.iload_n 2, 1) := by decide +kernel
theorem dX11_odds_23 : decode cX11_odds 23 = .ok (.ifCond .lt 18, 3) := by decide +kernel
theorem dX11_odds_26 : decode cX11_odds 26 = .ok (.iload_n 2, 1) := by decide +kernel
theorem dX11_odds_27 : decode cX11_odds 27 = .ok (.iload_n 3, 1) := by decide +kernel
theorem dX11_odds_28 : decode cX11_odds 28 = .ok (.if_icmp .gt 13, 3) := by decide +kernel
theorem dX11_odds_31 : decode cX11_odds 31 = .ok (.aload_n 0, 1) := by decide +kernel
theorem dX11_odds_32 : decode cX11_odds 32 = .ok (.getfield 16, 3) := by decide +kernel
theorem dX11_odds_35 : decode cX11_odds 35 = .ok (.getfield 153, 3) := by decide +kernel
theorem dX11_odds_38 : decode cX11_odds 38 = .ok (.ifCond .ne 7, 3) := by decide +kernel
theorem dX11_odds_41 : decode cX11_odds 41 = .ok (.ldc2_w 253, 3) := by decide +kernel
theorem dX11_odds_44 : decode cX11_odds 44 = .ok (.lreturn, 1) := by decide +kernel
theorem dX11_odds_45 : decode cX11_odds 45 = .ok (.aload_n 0, 1) := by decide +kernel
theorem dX11_odds_46 : decode cX11_odds 46 = .ok (.getfield 78, 3) := by decide +kernel
theorem dX11_odds_49 : decode cX11_odds 49 = .ok (.aload_n 0, 1) := by decide +kernel
theorem dX11_odds_50 : decode cX11_odds 50 = .ok (.getfield 44, 3) := by decide +kernel
theorem dX11_odds_53 : decode cX11_odds 53 = .ok (.aload_n 0, 1) := by decide +kernel
theorem dX11_odds_54 : decode cX11_odds 54 = .ok (.getfield 44, 3) := by decide +kernel
theorem dX11_odds_57 : decode cX11_odds 57 = .ok (.getfield 125, 3) := by decide +kernel
theorem dX11_odds_60 : decode cX11_odds 60 = .ok (.iload_n 1, 1) := by decide +kernel
theorem dX11_odds_61 : decode cX11_odds 61 = .ok (.iload_n 2, 1) := by decide +kernel
theorem dX11_odds_62 : decode cX11_odds 62 = .ok (.iload_n 3, 1) := by decide +kernel
theorem dX11_odds_63 : decode cX11_odds 63 = .ok (.invokevirtual 255, 3) := by decide +kernel
theorem dX11_odds_66 : decode cX11_odds 66 = .ok (.lreturn, 1) := by decide +kernel
set_option maxHeartbeats 4000000 in
set_option maxRecDepth 100000 in
theorem w_X11_odds_41 {X : CX} {T : List Dsc} {R : RM} {c e : Nat} {n1 n2 : Nat} {m : M2} {r : (Int64 × M2)} (hX : XR X 41 n1 n2) (hG : Geo T R c e) (hf : f_X11_odds_41 c m = some r) (hk : FnJ X cX11_odds RX11 4 T n1 n2 (r.1, mk r.2 R)) : Wp X cX11_odds RX11 4 T (mk m R) n1 n2 41 [] [] := by
  unfold f_X11_odds_41 at hf
  refine Wp.ldc2 (pc := 41) (v := (-1 : Int64)) (gw_tb 636 (by decide +kernel) rfl) dX11_odds_41 ?_
  cases hf
  exact hk _ _ dX11_odds_44
set_option maxHeartbeats 4000000 in
set_option maxRecDepth 100000 in
theorem w_X11_odds {X : CX} {T : List Dsc} {R : RM} {c e : Nat} {n1 n2 : Nat} {x1 : Int32} {x2 : Int32} {x3 : Int32} {m : M2} {r : (Int64 × M2)} (hX : XR X 41 n1 n2) (hG : Geo T R c e) (hf : F_X11_odds c x1 x2 x3 m = some r) (hk : FnJ X cX11_odds RX11 4 T n1 n2 (r.1, mk r.2 R)) : Wp X cX11_odds RX11 4 T (mk m R) n1 n2 0 [(0, .ref 0), (1, .int x1), (2, .int x2), (3, .int x3)] [] := by
  unfold F_X11_odds at hf
  refine Wp.iload_n (pc := 0) 1 rfl rfl dX11_odds_0 ?_
  refine Wp.iconst (pc := 1) (1 : Int32) (by decide) dX11_odds_1 ?_
  refine Wp.icmp_lt (pc := 2) 41 dX11_odds_2 (by decide) (fun hc1 => ?_) (fun hc1 => ?_)
  · rw [if_pos hc1] at hf
    refine Wp.lo' (lo' := []) [] rfl ?_
    exact w_X11_odds_41 hX hG hf hk
  · rw [if_neg hc1] at hf
    refine Wp.iload_n (pc := 5) 1 rfl rfl dX11_odds_5 ?_
    refine Wp.bipush (pc := 6) (10 : Int32) (by decide) dX11_odds_6 ?_
    refine Wp.icmp_gt (pc := 8) 41 dX11_odds_8 (by decide) (fun hc2 => ?_) (fun hc2 => ?_)
    · rw [if_pos hc2] at hf
      refine Wp.lo' (lo' := []) [] rfl ?_
      exact w_X11_odds_41 hX hG hf hk
    · rw [if_neg hc2] at hf
      refine Wp.iload_n (pc := 11) 3 rfl rfl dX11_odds_11 ?_
      refine Wp.iconst (pc := 12) (1 : Int32) (by decide) dX11_odds_12 ?_
      refine Wp.icmp_lt (pc := 13) 41 dX11_odds_13 (by decide) (fun hc3 => ?_) (fun hc3 => ?_)
      · rw [if_pos hc3] at hf
        refine Wp.lo' (lo' := []) [] rfl ?_
        exact w_X11_odds_41 hX hG hf hk
      · rw [if_neg hc3] at hf
        refine Wp.iload_n (pc := 16) 3 rfl rfl dX11_odds_16 ?_
        refine Wp.bipush (pc := 17) (9 : Int32) (by decide) dX11_odds_17 ?_
        refine Wp.icmp_gt (pc := 19) 41 dX11_odds_19 (by decide) (fun hc4 => ?_) (fun hc4 => ?_)
        · rw [if_pos hc4] at hf
          refine Wp.lo' (lo' := []) [] rfl ?_
          exact w_X11_odds_41 hX hG hf hk
        · rw [if_neg hc4] at hf
          refine Wp.iload_n (pc := 22) 2 rfl rfl dX11_odds_22 ?_
          refine Wp.if_lt (pc := 23) 41 dX11_odds_23 (by decide) (fun hc5 => ?_) (fun hc5 => ?_)
          · rw [if_pos hc5] at hf
            refine Wp.lo' (lo' := []) [] rfl ?_
            exact w_X11_odds_41 hX hG hf hk
          · rw [if_neg hc5] at hf
            refine Wp.iload_n (pc := 26) 2 rfl rfl dX11_odds_26 ?_
            refine Wp.iload_n (pc := 27) 3 rfl rfl dX11_odds_27 ?_
            refine Wp.icmp_gt (pc := 28) 41 dX11_odds_28 (by decide) (fun hc6 => ?_) (fun hc6 => ?_)
            · rw [if_pos hc6] at hf
              refine Wp.lo' (lo' := []) [] rfl ?_
              exact w_X11_odds_41 hX hG hf hk
            · rw [if_neg hc6] at hf
              refine Wp.aload_n (pc := 31) 0 rfl rfl dX11_odds_31 ?_
              refine Wp.getR2 (pc := 32) hG.r0 (hG.t 0 rfl) fk_RX11_16 rfl dX11_odds_32 ?_
              refine Wp.getI2 (pc := 35) (hG.tt hG.hc) fk_RX11_153 rfl dX11_odds_35 ?_
              refine Wp.if_ne (pc := 38) 45 dX11_odds_38 (by decide) (fun hc7 => ?_) (fun hc7 => ?_)
              · rw [if_neg hc7] at hf
                refine Wp.aload_n (pc := 45) 0 rfl rfl dX11_odds_45 ?_
                refine Wp.getR2 (pc := 46) (hG.r 0 11 rfl) (hG.t 0 rfl) fk_RX11_78 rfl dX11_odds_46 ?_
                refine Wp.aload_n (pc := 49) 0 rfl rfl dX11_odds_49 ?_
                refine Wp.getR2 (pc := 50) (hG.r 0 6 rfl) (hG.t 0 rfl) fk_RX11_44 rfl dX11_odds_50 ?_
                refine Wp.aload_n (pc := 53) 0 rfl rfl dX11_odds_53 ?_
                refine Wp.getR2 (pc := 54) (hG.r 0 6 rfl) (hG.t 0 rfl) fk_RX11_44 rfl dX11_odds_54 ?_
                refine Wp.getJ2 (pc := 57) (hG.wt cw28) fk_RX11_125 rfl dX11_odds_57 ?_
                refine Wp.iload_n (pc := 60) 1 rfl rfl dX11_odds_60 ?_
                refine Wp.iload_n (pc := 61) 2 rfl rfl dX11_odds_61 ?_
                refine Wp.iload_n (pc := 62) 3 rfl rfl dX11_odds_62 ?_
                obtain ⟨c8, h9, hf⟩ := bnd hf
                refine Wp.callVl (pc := 63) (st := []) (as := [.ref 28, .long (hJ m 28 0), .int x1, .int x2, .int x3]) (c_X9_weighed hG cw28 h9) ml_RX11_255 mv_X9_weighed mb_X9_weighed hX (Nat.le_of_ble_eq_true rfl) (by decide) rfl (hG.t 39 rfl) rfl (by simp) dX11_odds_63 rfl ?_
                cases hf
                exact hk _ _ dX11_odds_66
              · rw [if_pos hc7] at hf
                refine Wp.lo' (lo' := []) [] rfl ?_
                exact w_X11_odds_41 hX hG hf hk
theorem c_X11_odds {T : List Dsc} {R : RM} {c e : Nat} {x1 : Int32} {x2 : Int32} {x3 : Int32} {m : M2} {r : (Int64 × M2)} (hG : Geo T R c e) (hf : F_X11_odds c x1 x2 x3 m = some r) : Ct 41 yX11_odds cX11_odds 4 (some .long) T (mk m R) [.ref 0, .int x1, .int x2, .int x3] (some (.long r.1)) (mk r.2 R) := Ct.ofJ (r := (r.1, mk r.2 R)) (by decide +kernel) (Nat.le_of_ble_eq_true rfl) (fun X hX hk => w_X11_odds hX hG hf hk)
theorem dX11_tell_0 : decode cX11_tell 0 = .ok (.aload_n 0, 1) := by decide +kernel
theorem dX11_tell_1 : decode cX11_tell 1 = .ok (.getfield 85, 3) := by decide +kernel
theorem dX11_tell_4 : decode cX11_tell 4 = .ok (.getfield 111, 3) := by decide +kernel
theorem dX11_tell_7 : decode cX11_tell 7 = .ok (.bipush 20, 2) := by decide +kernel
theorem dX11_tell_9 : decode cX11_tell 9 = .ok (.if_icmp .ge 23, 3) := by decide +kernel
theorem dX11_tell_12 : decode cX11_tell 12 = .ok (.iload_n 1, 1) := by decide +kernel
theorem dX11_tell_13 : decode cX11_tell 13 = .ok (.invokestatic 259, 3) := by decide +kernel
theorem dX11_tell_16 : decode cX11_tell 16 = .ok (.ifCond .eq 16, 3) := by decide +kernel
theorem dX11_tell_19 : decode cX11_tell 19 = .ok (.iload_n 2, 1) := by decide +kernel
theorem dX11_tell_20 : decode cX11_tell 20 = .ok (.iconst 1, 1) := by decide +kernel
theorem dX11_tell_21 : decode cX11_tell 21 = .ok (.if_icmp .lt 11, 3) := by decide +kernel
theorem dX11_tell_24 : decode cX11_tell 24 = .ok (.aload_n 0, 1) := by decide +kernel
theorem dX11_tell_25 : decode cX11_tell 25 = .ok (.iload_n 2, 1) := by decide +kernel
theorem dX11_tell_26 : decode cX11_tell 26 = .ok (.invokevirtual 121, 3) := by decide +kernel
theorem dX11_tell_29 : decode cX11_tell 29 = .ok (.ifCond .ne 5, 3) := by decide +kernel
theorem dX11_tell_32 : decode cX11_tell 32 = .ok (.iconst (-1), 1) := by decide +kernel
theorem dX11_tell_33 : decode cX11_tell 33 = .ok (.ireturn, 1) := by decide +kernel
theorem dX11_tell_34 : decode cX11_tell 34 = .ok (.aload_n 0, 1) := by decide +kernel
theorem dX11_tell_35 : decode cX11_tell 35 = .ok (.getfield 85, 3) := by decide +kernel
theorem dX11_tell_38 : decode cX11_tell 38 = .ok (.iload_n 1, 1) := by decide +kernel
theorem dX11_tell_39 : decode cX11_tell 39 = .ok (.iload_n 2, 1) := by decide +kernel
theorem dX11_tell_40 : decode cX11_tell 40 = .ok (.iload_n 3, 1) := by decide +kernel
theorem dX11_tell_41 : decode cX11_tell 41 = .ok (.invokevirtual 262, 3) := by decide +kernel
theorem dX11_tell_44 : decode cX11_tell 44 = .ok (.ireturn, 1) := by decide +kernel
set_option maxHeartbeats 4000000 in
set_option maxRecDepth 100000 in
theorem w_X11_tell_32 {X : CX} {T : List Dsc} {R : RM} {c e : Nat} {n1 n2 : Nat} {m : M2} {r : (Int32 × M2)} (hX : XR X 2 n1 n2) (hG : Geo T R c e) (hf : f_X11_tell_32 c m = some r) (hk : FnI X cX11_tell RX11 4 T n1 n2 (r.1, mk r.2 R)) : Wp X cX11_tell RX11 4 T (mk m R) n1 n2 32 [] [] := by
  unfold f_X11_tell_32 at hf
  refine Wp.iconst (pc := 32) (-1 : Int32) (by decide) dX11_tell_32 ?_
  cases hf
  exact hk _ _ dX11_tell_33
set_option maxHeartbeats 4000000 in
set_option maxRecDepth 100000 in
theorem w_X11_tell {X : CX} {T : List Dsc} {R : RM} {c e : Nat} {n1 n2 : Nat} {x1 : Int32} {x2 : Int32} {x3 : Int32} {m : M2} {r : (Int32 × M2)} (hX : XR X 2 n1 n2) (hG : Geo T R c e) (hf : F_X11_tell c x1 x2 x3 m = some r) (hk : FnI X cX11_tell RX11 4 T n1 n2 (r.1, mk r.2 R)) : Wp X cX11_tell RX11 4 T (mk m R) n1 n2 0 [(0, .ref 0), (1, .int x1), (2, .int x2), (3, .int x3)] [] := by
  unfold F_X11_tell at hf
  refine Wp.aload_n (pc := 0) 0 rfl rfl dX11_tell_0 ?_
  refine Wp.getR2 (pc := 1) (hG.r 0 12 rfl) (hG.t 0 rfl) fk_RX11_85 rfl dX11_tell_1 ?_
  refine Wp.getI2 (pc := 4) (hG.t 41 rfl) fk_RX11_111 rfl dX11_tell_4 ?_
  refine Wp.bipush (pc := 7) (20 : Int32) (by decide) dX11_tell_7 ?_
  refine Wp.icmp_ge (pc := 9) 32 dX11_tell_9 (by decide) (fun hc1 => ?_) (fun hc1 => ?_)
  · rw [if_pos hc1] at hf
    refine Wp.lo' (lo' := []) [] rfl ?_
    exact w_X11_tell_32 hX hG hf hk
  · rw [if_neg hc1] at hf
    refine Wp.iload_n (pc := 12) 1 rfl rfl dX11_tell_12 ?_
    obtain ⟨c2, h3, hf⟩ := bnd hf
    refine Wp.callSi (pc := 13) (st := []) (as := [.int x1]) (c_X10_isStroke hG h3) ml_RX11_259 ms_X10_isStroke mb_X10_isStroke hX (Nat.le_of_ble_eq_true rfl) (by decide) rfl (by simp) dX11_tell_13 rfl ?_
    refine Wp.if_eq (pc := 16) 32 dX11_tell_16 (by decide) (fun hc4 => ?_) (fun hc4 => ?_)
    · rw [if_pos hc4] at hf
      refine Wp.lo' (lo' := []) [] rfl ?_
      exact w_X11_tell_32 hX hG hf hk
    · rw [if_neg hc4] at hf
      refine Wp.iload_n (pc := 19) 2 rfl rfl dX11_tell_19 ?_
      refine Wp.iconst (pc := 20) (1 : Int32) (by decide) dX11_tell_20 ?_
      refine Wp.icmp_lt (pc := 21) 32 dX11_tell_21 (by decide) (fun hc5 => ?_) (fun hc5 => ?_)
      · rw [if_pos hc5] at hf
        refine Wp.lo' (lo' := []) [] rfl ?_
        exact w_X11_tell_32 hX hG hf hk
      · rw [if_neg hc5] at hf
        refine Wp.aload_n (pc := 24) 0 rfl rfl dX11_tell_24 ?_
        refine Wp.iload_n (pc := 25) 2 rfl rfl dX11_tell_25 ?_
        obtain ⟨c6, h7, hf⟩ := bnd hf
        refine Wp.callVi (pc := 26) (st := []) (as := [.int x2]) (c_X11_isBench hG h7) ml_RX11_121 mv_X11_isBench mb_X11_isBench hX (Nat.le_of_ble_eq_true rfl) (by decide) rfl (hG.t 0 rfl) rfl (by simp) dX11_tell_26 rfl ?_
        refine Wp.if_ne (pc := 29) 34 dX11_tell_29 (by decide) (fun hc8 => ?_) (fun hc8 => ?_)
        · rw [if_neg hc8] at hf
          refine Wp.aload_n (pc := 34) 0 rfl rfl dX11_tell_34 ?_
          refine Wp.getR2 (pc := 35) (hG.r 0 12 rfl) (hG.t 0 rfl) fk_RX11_85 rfl dX11_tell_35 ?_
          refine Wp.iload_n (pc := 38) 1 rfl rfl dX11_tell_38 ?_
          refine Wp.iload_n (pc := 39) 2 rfl rfl dX11_tell_39 ?_
          refine Wp.iload_n (pc := 40) 3 rfl rfl dX11_tell_40 ?_
          obtain ⟨c9, h10, hf⟩ := bnd hf
          refine Wp.callVi (pc := 41) (st := []) (as := [.int x1, .int x2, .int x3]) (c_X10_note hG h10) ml_RX11_262 mv_X10_note mb_X10_note hX (Nat.le_of_ble_eq_true rfl) (by decide) rfl (hG.t 41 rfl) rfl (by simp) dX11_tell_41 rfl ?_
          cases hf
          exact hk _ _ dX11_tell_44
        · rw [if_pos hc8] at hf
          refine Wp.lo' (lo' := []) [] rfl ?_
          exact w_X11_tell_32 hX hG hf hk
theorem c_X11_tell {T : List Dsc} {R : RM} {c e : Nat} {x1 : Int32} {x2 : Int32} {x3 : Int32} {m : M2} {r : (Int32 × M2)} (hG : Geo T R c e) (hf : F_X11_tell c x1 x2 x3 m = some r) : Ct 2 yX11_tell cX11_tell 4 (some .int) T (mk m R) [.ref 0, .int x1, .int x2, .int x3] (some (.int r.1)) (mk r.2 R) := Ct.ofI (r := (r.1, mk r.2 R)) (by decide +kernel) (Nat.le_of_ble_eq_true rfl) (fun X hX hk => w_X11_tell hX hG hf hk)
theorem dX11_forget_0 : decode cX11_forget 0 = .ok (.aload_n 0, 1) := by decide +kernel
theorem dX11_forget_1 : decode cX11_forget 1 = .ok (.getfield 85, 3) := by decide +kernel
theorem dX11_forget_4 : decode cX11_forget 4 = .ok (.getfield 111, 3) := by decide +kernel
theorem dX11_forget_7 : decode cX11_forget 7 = .ok (.istore_n 1, 1) := by decide +kernel
theorem dX11_forget_8 : decode cX11_forget 8 = .ok (.aload_n 0, 1) := by decide +kernel
theorem dX11_forget_9 : decode cX11_forget 9 = .ok (.getfield 85, 3) := by decide +kernel
theorem dX11_forget_12 : decode cX11_forget 12 = .ok (.iconst 0, 1) := by decide +kernel
theorem dX11_forget_13 : decode cX11_forget 13 = .ok (.putfield 111, 3) := by decide +kernel
theorem dX11_forget_16 : decode cX11_forget 16 = .ok (.iload_n 1, 1) := by decide +kernel
theorem dX11_forget_17 : decode cX11_forget 17 = .ok (.ireturn, 1) := by decide +kernel
set_option maxHeartbeats 4000000 in
set_option maxRecDepth 100000 in
theorem w_X11_forget {X : CX} {T : List Dsc} {R : RM} {c e : Nat} {n1 n2 : Nat} {m : M2} {r : (Int32 × M2)} (hX : XR X 1 n1 n2) (hG : Geo T R c e) (hf : F_X11_forget c m = some r) (hk : FnI X cX11_forget RX11 2 T n1 n2 (r.1, mk r.2 R)) : Wp X cX11_forget RX11 2 T (mk m R) n1 n2 0 [(0, .ref 0)] [] := by
  unfold F_X11_forget at hf
  refine Wp.aload_n (pc := 0) 0 rfl rfl dX11_forget_0 ?_
  refine Wp.getR2 (pc := 1) (hG.r 0 12 rfl) (hG.t 0 rfl) fk_RX11_85 rfl dX11_forget_1 ?_
  refine Wp.getI2 (pc := 4) (hG.t 41 rfl) fk_RX11_111 rfl dX11_forget_4 ?_
  obtain ⟨v1, h2, hf⟩ := bnd hf
  refine Wp.nI' h2 ?_
  refine Wp.istore_n (pc := 7) (lo' := [(0, .ref 0), (1, .int v1)]) [1, 0] rfl (by decide) rfl dX11_forget_7 ?_
  refine Wp.aload_n (pc := 8) 0 rfl rfl dX11_forget_8 ?_
  refine Wp.getR2 (pc := 9) (hG.r 0 12 rfl) (hG.t 0 rfl) fk_RX11_85 rfl dX11_forget_9 ?_
  refine Wp.iconst (pc := 12) (0 : Int32) (by decide) dX11_forget_12 ?_
  obtain ⟨m3, h4, hf⟩ := bnd hf
  refine Wp.ptI2 (pc := 13) h4 (hG.t 41 rfl) fk_RX11_111 ff_RX11_9_1 rfl dX11_forget_13 ?_
  refine Wp.iload_n (pc := 16) 1 rfl rfl dX11_forget_16 ?_
  cases hf
  exact hk _ _ dX11_forget_17
theorem c_X11_forget {T : List Dsc} {R : RM} {c e : Nat} {m : M2} {r : (Int32 × M2)} (hG : Geo T R c e) (hf : F_X11_forget c m = some r) : Ct 1 yX11_forget cX11_forget 2 (some .int) T (mk m R) [.ref 0] (some (.int r.1)) (mk r.2 R) := Ct.ofI (r := (r.1, mk r.2 R)) (by decide +kernel) (Nat.le_of_ble_eq_true rfl) (fun X hX hk => w_X11_forget hX hG hf hk)
theorem dX11_suspects_0 : decode cX11_suspects 0 = .ok (.aload_n 0, 1) := by decide +kernel
theorem dX11_suspects_1 : decode cX11_suspects 1 = .ok (.getfield 85, 3) := by decide +kernel
theorem dX11_suspects_4 : decode cX11_suspects 4 = .ok (.iload_n 1, 1) := by decide +kernel
theorem dX11_suspects_5 : decode cX11_suspects 5 = .ok (.iload_n 2, 1) := by decide +kernel
theorem dX11_suspects_6 : decode cX11_suspects 6 = .ok (.invokevirtual 266, 3) := by decide +kernel
theorem dX11_suspects_9 : decode cX11_suspects 9 = .ok (.ifCond .eq 15, 3) := by decide +kernel
theorem dX11_suspects_12 : decode cX11_suspects 12 = .ok (.aload_n 0, 1) := by decide +kernel
theorem dX11_suspects_13 : decode cX11_suspects 13 = .ok (.getfield 85, 3) := by decide +kernel
theorem dX11_suspects_16 : decode cX11_suspects 16 = .ok (.iload_n 1, 1) := by decide +kernel
theorem dX11_suspects_17 : decode cX11_suspects 17 = .ok (.iload_n 2, 1) := by decide +kernel
theorem dX11_suspects_18 : decode cX11_suspects 18 = .ok (.invokevirtual 269, 3) := by decide +kernel
theorem dX11_suspects_21 : decode cX11_suspects 21 = .ok (.goto 4, 3) := by decide +kernel
theorem dX11_suspects_24 : decode cX11_suspects 24 = .ok (.iconst (-1), 1) := by decide +kernel
theorem dX11_suspects_25 : decode cX11_suspects 25 = .ok (.ireturn, 1) := by decide +kernel
set_option maxHeartbeats 4000000 in
set_option maxRecDepth 100000 in
theorem w_X11_suspects_25 {X : CX} {T : List Dsc} {R : RM} {c e : Nat} {n1 n2 : Nat} {s0 : Int32} {m : M2} {r : (Int32 × M2)} (hX : XR X 8 n1 n2) (hG : Geo T R c e) (hf : f_X11_suspects_25 c s0 m = some r) (hk : FnI X cX11_suspects RX11 3 T n1 n2 (r.1, mk r.2 R)) : Wp X cX11_suspects RX11 3 T (mk m R) n1 n2 25 [] [.int s0] := by
  unfold f_X11_suspects_25 at hf
  cases hf
  exact hk _ _ dX11_suspects_25
set_option maxHeartbeats 4000000 in
set_option maxRecDepth 100000 in
theorem w_X11_suspects {X : CX} {T : List Dsc} {R : RM} {c e : Nat} {n1 n2 : Nat} {x1 : Int32} {x2 : Int32} {m : M2} {r : (Int32 × M2)} (hX : XR X 8 n1 n2) (hG : Geo T R c e) (hf : F_X11_suspects c x1 x2 m = some r) (hk : FnI X cX11_suspects RX11 3 T n1 n2 (r.1, mk r.2 R)) : Wp X cX11_suspects RX11 3 T (mk m R) n1 n2 0 [(0, .ref 0), (1, .int x1), (2, .int x2)] [] := by
  unfold F_X11_suspects at hf
  refine Wp.aload_n (pc := 0) 0 rfl rfl dX11_suspects_0 ?_
  refine Wp.getR2 (pc := 1) (hG.r 0 12 rfl) (hG.t 0 rfl) fk_RX11_85 rfl dX11_suspects_1 ?_
  refine Wp.iload_n (pc := 4) 1 rfl rfl dX11_suspects_4 ?_
  refine Wp.iload_n (pc := 5) 2 rfl rfl dX11_suspects_5 ?_
  obtain ⟨c1, h2, hf⟩ := bnd hf
  refine Wp.callVi (pc := 6) (st := []) (as := [.int x1, .int x2]) (c_X10_isQuestion hG h2) ml_RX11_266 mv_X10_isQuestion mb_X10_isQuestion hX (Nat.le_of_ble_eq_true rfl) (by decide) rfl (hG.t 41 rfl) rfl (by simp) dX11_suspects_6 rfl ?_
  refine Wp.if_eq (pc := 9) 24 dX11_suspects_9 (by decide) (fun hc3 => ?_) (fun hc3 => ?_)
  · rw [if_pos hc3] at hf
    refine Wp.iconst (pc := 24) (-1 : Int32) (by decide) dX11_suspects_24 ?_
    refine Wp.lo' (lo' := []) [] rfl ?_
    exact w_X11_suspects_25 hX hG hf hk
  · rw [if_neg hc3] at hf
    refine Wp.aload_n (pc := 12) 0 rfl rfl dX11_suspects_12 ?_
    refine Wp.getR2 (pc := 13) (hG.r 0 12 rfl) (hG.t 0 rfl) fk_RX11_85 rfl dX11_suspects_13 ?_
    refine Wp.iload_n (pc := 16) 1 rfl rfl dX11_suspects_16 ?_
    refine Wp.iload_n (pc := 17) 2 rfl rfl dX11_suspects_17 ?_
    obtain ⟨c4, h5, hf⟩ := bnd hf
    refine Wp.callVi (pc := 18) (st := []) (as := [.int x1, .int x2]) (c_X10_countSets hG h5) ml_RX11_269 mv_X10_countSets mb_X10_countSets hX (Nat.le_of_ble_eq_true rfl) (by decide) rfl (hG.t 41 rfl) rfl (by simp) dX11_suspects_18 rfl ?_
    refine Wp.goto (pc := 21) 25 dX11_suspects_21 (by decide) ?_
    refine Wp.lo' (lo' := []) [] rfl ?_
    exact w_X11_suspects_25 hX hG hf hk
theorem c_X11_suspects {T : List Dsc} {R : RM} {c e : Nat} {x1 : Int32} {x2 : Int32} {m : M2} {r : (Int32 × M2)} (hG : Geo T R c e) (hf : F_X11_suspects c x1 x2 m = some r) : Ct 8 yX11_suspects cX11_suspects 3 (some .int) T (mk m R) [.ref 0, .int x1, .int x2] (some (.int r.1)) (mk r.2 R) := Ct.ofI (r := (r.1, mk r.2 R)) (by decide +kernel) (Nat.le_of_ble_eq_true rfl) (fun X hX hk => w_X11_suspects hX hG hf hk)
theorem dX11_suspect_0 : decode cX11_suspect 0 = .ok (.aload_n 0, 1) := by decide +kernel
theorem dX11_suspect_1 : decode cX11_suspect 1 = .ok (.getfield 85, 3) := by decide +kernel
theorem dX11_suspect_4 : decode cX11_suspect 4 = .ok (.iload_n 1, 1) := by decide +kernel
theorem dX11_suspect_5 : decode cX11_suspect 5 = .ok (.iload_n 2, 1) := by decide +kernel
theorem dX11_suspect_6 : decode cX11_suspect 6 = .ok (.invokevirtual 266, 3) := by decide +kernel
theorem dX11_suspect_9 : decode cX11_suspect 9 = .ok (.ifCond .eq 20, 3) := by decide +kernel
theorem dX11_suspect_12 : decode cX11_suspect 12 = .ok (.iload_n 3, 1) := by decide +kernel
theorem dX11_suspect_13 : decode cX11_suspect 13 = .ok (.ifCond .lt 16, 3) := by decide +kernel
theorem dX11_suspect_16 : decode cX11_suspect 16 = .ok (.aload_n 0, 1) := by decide +kernel
theorem dX11_suspect_17 : decode cX11_suspect 17 = .ok (.getfield 85, 3) := by decide +kernel
theorem dX11_suspect_20 : decode cX11_suspect 20 = .ok (.iload_n 1, 1) := by decide +kernel
theorem dX11_suspect_21 : decode cX11_suspect 21 = .ok (.iload_n 2, 1) := by decide +kernel
theorem dX11_suspect_22 : decode cX11_suspect 22 = .ok (.iload_n 3, 1) := by decide +kernel
theorem dX11_suspect_23 : decode cX11_suspect 23 = .ok (.invokevirtual 273, 3) := by decide +kernel
theorem dX11_suspect_26 : decode cX11_suspect 26 = .ok (.goto 4, 3) := by decide +kernel
theorem dX11_suspect_29 : decode cX11_suspect 29 = .ok (.iconst (-1), 1) := by decide +kernel
theorem dX11_suspect_30 : decode cX11_suspect 30 = .ok (.ireturn, 1) := by decide +kernel
set_option maxHeartbeats 4000000 in
set_option maxRecDepth 100000 in
theorem w_X11_suspect_30 {X : CX} {T : List Dsc} {R : RM} {c e : Nat} {n1 n2 : Nat} {s0 : Int32} {m : M2} {r : (Int32 × M2)} (hX : XR X 8 n1 n2) (hG : Geo T R c e) (hf : f_X11_suspect_30 c s0 m = some r) (hk : FnI X cX11_suspect RX11 4 T n1 n2 (r.1, mk r.2 R)) : Wp X cX11_suspect RX11 4 T (mk m R) n1 n2 30 [] [.int s0] := by
  unfold f_X11_suspect_30 at hf
  cases hf
  exact hk _ _ dX11_suspect_30
set_option maxHeartbeats 4000000 in
set_option maxRecDepth 100000 in
theorem w_X11_suspect_29 {X : CX} {T : List Dsc} {R : RM} {c e : Nat} {n1 n2 : Nat} {m : M2} {r : (Int32 × M2)} (hX : XR X 8 n1 n2) (hG : Geo T R c e) (hf : f_X11_suspect_29 c m = some r) (hk : FnI X cX11_suspect RX11 4 T n1 n2 (r.1, mk r.2 R)) : Wp X cX11_suspect RX11 4 T (mk m R) n1 n2 29 [] [] := by
  unfold f_X11_suspect_29 at hf
  refine Wp.iconst (pc := 29) (-1 : Int32) (by decide) dX11_suspect_29 ?_
  exact w_X11_suspect_30 hX hG hf hk
set_option maxHeartbeats 4000000 in
set_option maxRecDepth 100000 in
theorem w_X11_suspect {X : CX} {T : List Dsc} {R : RM} {c e : Nat} {n1 n2 : Nat} {x1 : Int32} {x2 : Int32} {x3 : Int32} {m : M2} {r : (Int32 × M2)} (hX : XR X 8 n1 n2) (hG : Geo T R c e) (hf : F_X11_suspect c x1 x2 x3 m = some r) (hk : FnI X cX11_suspect RX11 4 T n1 n2 (r.1, mk r.2 R)) : Wp X cX11_suspect RX11 4 T (mk m R) n1 n2 0 [(0, .ref 0), (1, .int x1), (2, .int x2), (3, .int x3)] [] := by
  unfold F_X11_suspect at hf
  refine Wp.aload_n (pc := 0) 0 rfl rfl dX11_suspect_0 ?_
  refine Wp.getR2 (pc := 1) (hG.r 0 12 rfl) (hG.t 0 rfl) fk_RX11_85 rfl dX11_suspect_1 ?_
  refine Wp.iload_n (pc := 4) 1 rfl rfl dX11_suspect_4 ?_
  refine Wp.iload_n (pc := 5) 2 rfl rfl dX11_suspect_5 ?_
  obtain ⟨c1, h2, hf⟩ := bnd hf
  refine Wp.callVi (pc := 6) (st := []) (as := [.int x1, .int x2]) (c_X10_isQuestion hG h2) ml_RX11_266 mv_X10_isQuestion mb_X10_isQuestion hX (Nat.le_of_ble_eq_true rfl) (by decide) rfl (hG.t 41 rfl) rfl (by simp) dX11_suspect_6 rfl ?_
  refine Wp.if_eq (pc := 9) 29 dX11_suspect_9 (by decide) (fun hc3 => ?_) (fun hc3 => ?_)
  · rw [if_pos hc3] at hf
    refine Wp.lo' (lo' := []) [] rfl ?_
    exact w_X11_suspect_29 hX hG hf hk
  · rw [if_neg hc3] at hf
    refine Wp.iload_n (pc := 12) 3 rfl rfl dX11_suspect_12 ?_
    refine Wp.if_lt (pc := 13) 29 dX11_suspect_13 (by decide) (fun hc4 => ?_) (fun hc4 => ?_)
    · rw [if_pos hc4] at hf
      refine Wp.lo' (lo' := []) [] rfl ?_
      exact w_X11_suspect_29 hX hG hf hk
    · rw [if_neg hc4] at hf
      refine Wp.aload_n (pc := 16) 0 rfl rfl dX11_suspect_16 ?_
      refine Wp.getR2 (pc := 17) (hG.r 0 12 rfl) (hG.t 0 rfl) fk_RX11_85 rfl dX11_suspect_17 ?_
      refine Wp.iload_n (pc := 20) 1 rfl rfl dX11_suspect_20 ?_
      refine Wp.iload_n (pc := 21) 2 rfl rfl dX11_suspect_21 ?_
      refine Wp.iload_n (pc := 22) 3 rfl rfl dX11_suspect_22 ?_
      obtain ⟨c5, h6, hf⟩ := bnd hf
      refine Wp.callVi (pc := 23) (st := []) (as := [.int x1, .int x2, .int x3]) (c_X10_setNumber hG h6) ml_RX11_273 mv_X10_setNumber mb_X10_setNumber hX (Nat.le_of_ble_eq_true rfl) (by decide) rfl (hG.t 41 rfl) rfl (by simp) dX11_suspect_23 rfl ?_
      refine Wp.goto (pc := 26) 30 dX11_suspect_26 (by decide) ?_
      refine Wp.lo' (lo' := []) [] rfl ?_
      exact w_X11_suspect_30 hX hG hf hk
theorem c_X11_suspect {T : List Dsc} {R : RM} {c e : Nat} {x1 : Int32} {x2 : Int32} {x3 : Int32} {m : M2} {r : (Int32 × M2)} (hG : Geo T R c e) (hf : F_X11_suspect c x1 x2 x3 m = some r) : Ct 8 yX11_suspect cX11_suspect 4 (some .int) T (mk m R) [.ref 0, .int x1, .int x2, .int x3] (some (.int r.1)) (mk r.2 R) := Ct.ofI (r := (r.1, mk r.2 R)) (by decide +kernel) (Nat.le_of_ble_eq_true rfl) (fun X hX hk => w_X11_suspect hX hG hf hk)
theorem dX11_check_0 : decode cX11_check 0 = .ok (.aload_n 0, 1) := by decide +kernel
theorem dX11_check_1 : decode cX11_check 1 = .ok (.getfield 85, 3) := by decide +kernel
theorem dX11_check_4 : decode cX11_check 4 = .ok (.iload_n 1, 1) := by decide +kernel
theorem dX11_check_5 : decode cX11_check 5 = .ok (.iload_n 2, 1) := by decide +kernel
theorem dX11_check_6 : decode cX11_check 6 = .ok (.invokevirtual 266, 3) := by decide +kernel
theorem dX11_check_9 : decode cX11_check 9 = .ok (.ifCond .eq 10, 3) := by decide +kernel
theorem dX11_check_12 : decode cX11_check 12 = .ok (.iload_n 3, 1) := by decide +kernel
theorem dX11_check_13 : decode cX11_check 13 = .ok (.invokestatic 259, 3) := by decide +kernel
theorem dX11_check_16 : decode cX11_check 16 = .ok (.ifCond .ne 5, 3) := by decide +kernel
theorem dX11_check_19 : decode cX11_check 19 = .ok (.iconst (-1), 1) := by decide +kernel
theorem dX11_check_20 : decode cX11_check 20 = .ok (.ireturn, 1) := by decide +kernel
theorem dX11_check_21 : decode cX11_check 21 = .ok (.aload_n 0, 1) := by decide +kernel
theorem dX11_check_22 : decode cX11_check 22 = .ok (.getfield 85, 3) := by decide +kernel
theorem dX11_check_25 : decode cX11_check 25 = .ok (.iload_n 1, 1) := by decide +kernel
theorem dX11_check_26 : decode cX11_check 26 = .ok (.iload_n 2, 1) := by decide +kernel
theorem dX11_check_27 : decode cX11_check 27 = .ok (.iload_n 3, 1) := by decide +kernel
theorem dX11_check_28 : decode cX11_check 28 = .ok (.invokevirtual 277, 3) := by decide +kernel
theorem dX11_check_31 : decode cX11_check 31 = .ok (.ireturn, 1) := by decide +kernel
set_option maxHeartbeats 4000000 in
set_option maxRecDepth 100000 in
theorem w_X11_check_19 {X : CX} {T : List Dsc} {R : RM} {c e : Nat} {n1 n2 : Nat} {m : M2} {r : (Int32 × M2)} (hX : XR X 8 n1 n2) (hG : Geo T R c e) (hf : f_X11_check_19 c m = some r) (hk : FnI X cX11_check RX11 4 T n1 n2 (r.1, mk r.2 R)) : Wp X cX11_check RX11 4 T (mk m R) n1 n2 19 [] [] := by
  unfold f_X11_check_19 at hf
  refine Wp.iconst (pc := 19) (-1 : Int32) (by decide) dX11_check_19 ?_
  cases hf
  exact hk _ _ dX11_check_20
set_option maxHeartbeats 4000000 in
set_option maxRecDepth 100000 in
theorem w_X11_check {X : CX} {T : List Dsc} {R : RM} {c e : Nat} {n1 n2 : Nat} {x1 : Int32} {x2 : Int32} {x3 : Int32} {m : M2} {r : (Int32 × M2)} (hX : XR X 8 n1 n2) (hG : Geo T R c e) (hf : F_X11_check c x1 x2 x3 m = some r) (hk : FnI X cX11_check RX11 4 T n1 n2 (r.1, mk r.2 R)) : Wp X cX11_check RX11 4 T (mk m R) n1 n2 0 [(0, .ref 0), (1, .int x1), (2, .int x2), (3, .int x3)] [] := by
  unfold F_X11_check at hf
  refine Wp.aload_n (pc := 0) 0 rfl rfl dX11_check_0 ?_
  refine Wp.getR2 (pc := 1) (hG.r 0 12 rfl) (hG.t 0 rfl) fk_RX11_85 rfl dX11_check_1 ?_
  refine Wp.iload_n (pc := 4) 1 rfl rfl dX11_check_4 ?_
  refine Wp.iload_n (pc := 5) 2 rfl rfl dX11_check_5 ?_
  obtain ⟨c1, h2, hf⟩ := bnd hf
  refine Wp.callVi (pc := 6) (st := []) (as := [.int x1, .int x2]) (c_X10_isQuestion hG h2) ml_RX11_266 mv_X10_isQuestion mb_X10_isQuestion hX (Nat.le_of_ble_eq_true rfl) (by decide) rfl (hG.t 41 rfl) rfl (by simp) dX11_check_6 rfl ?_
  refine Wp.if_eq (pc := 9) 19 dX11_check_9 (by decide) (fun hc3 => ?_) (fun hc3 => ?_)
  · rw [if_pos hc3] at hf
    refine Wp.lo' (lo' := []) [] rfl ?_
    exact w_X11_check_19 hX hG hf hk
  · rw [if_neg hc3] at hf
    refine Wp.iload_n (pc := 12) 3 rfl rfl dX11_check_12 ?_
    obtain ⟨c4, h5, hf⟩ := bnd hf
    refine Wp.callSi (pc := 13) (st := []) (as := [.int x3]) (c_X10_isStroke hG h5) ml_RX11_259 ms_X10_isStroke mb_X10_isStroke hX (Nat.le_of_ble_eq_true rfl) (by decide) rfl (by simp) dX11_check_13 rfl ?_
    refine Wp.if_ne (pc := 16) 21 dX11_check_16 (by decide) (fun hc6 => ?_) (fun hc6 => ?_)
    · rw [if_neg hc6] at hf
      refine Wp.aload_n (pc := 21) 0 rfl rfl dX11_check_21 ?_
      refine Wp.getR2 (pc := 22) (hG.r 0 12 rfl) (hG.t 0 rfl) fk_RX11_85 rfl dX11_check_22 ?_
      refine Wp.iload_n (pc := 25) 1 rfl rfl dX11_check_25 ?_
      refine Wp.iload_n (pc := 26) 2 rfl rfl dX11_check_26 ?_
      refine Wp.iload_n (pc := 27) 3 rfl rfl dX11_check_27 ?_
      obtain ⟨c7, h8, hf⟩ := bnd hf
      refine Wp.callVi (pc := 28) (st := []) (as := [.int x1, .int x2, .int x3]) (c_X10_evenestBench hG h8) ml_RX11_277 mv_X10_evenestBench mb_X10_evenestBench hX (Nat.le_of_ble_eq_true rfl) (by decide) rfl (hG.t 41 rfl) rfl (by simp) dX11_check_28 rfl ?_
      cases hf
      exact hk _ _ dX11_check_31
    · rw [if_pos hc6] at hf
      refine Wp.lo' (lo' := []) [] rfl ?_
      exact w_X11_check_19 hX hG hf hk
theorem c_X11_check {T : List Dsc} {R : RM} {c e : Nat} {x1 : Int32} {x2 : Int32} {x3 : Int32} {m : M2} {r : (Int32 × M2)} (hG : Geo T R c e) (hf : F_X11_check c x1 x2 x3 m = some r) : Ct 8 yX11_check cX11_check 4 (some .int) T (mk m R) [.ref 0, .int x1, .int x2, .int x3] (some (.int r.1)) (mk r.2 R) := Ct.ofI (r := (r.1, mk r.2 R)) (by decide +kernel) (Nat.le_of_ble_eq_true rfl) (fun X hX hk => w_X11_check hX hG hf hk)
theorem dX11_hold_0 : decode cX11_hold 0 = .ok (.iload_n 1, 1) := by decide +kernel
theorem dX11_hold_1 : decode cX11_hold 1 = .ok (.ifCond .lt 8, 3) := by decide +kernel
theorem dX11_hold_4 : decode cX11_hold 4 = .ok (.iload_n 1, 1) := by decide +kernel
theorem dX11_hold_5 : decode cX11_hold 5 = .ok (.iconst 3, 1) := by decide +kernel
theorem dX11_hold_6 : decode cX11_hold 6 = .ok (.if_icmp .lt 5, 3) := by decide +kernel
theorem dX11_hold_9 : decode cX11_hold 9 = .ok (.iconst 0, 1) := by decide +kernel
theorem dX11_hold_10 : decode cX11_hold 10 = .ok (.ireturn, 1) := by decide +kernel
theorem dX11_hold_11 : decode cX11_hold 11 = .ok (.aload_n 0, 1) := by decide +kernel
theorem dX11_hold_12 : decode cX11_hold 12 = .ok (.getfield 48, 3) := by decide +kernel
theorem dX11_hold_15 : decode cX11_hold 15 = .ok (.iload_n 1, 1) := by decide +kernel
theorem dX11_hold_16 : decode cX11_hold 16 = .ok (.aaload, 1) := by decide +kernel
theorem dX11_hold_17 : decode cX11_hold 17 = .ok (.aload_n 0, 1) := by decide +kernel
theorem dX11_hold_18 : decode cX11_hold 18 = .ok (.getfield 44, 3) := by decide +kernel
theorem dX11_hold_21 : decode cX11_hold 21 = .ok (.invokevirtual 280, 3) := by decide +kernel
theorem dX11_hold_24 : decode cX11_hold 24 = .ok (.aload_n 0, 1) := by decide +kernel
theorem dX11_hold_25 : decode cX11_hold 25 = .ok (.getfield 48, 3) := by decide +kernel
theorem dX11_hold_28 : decode cX11_hold 28 = .ok (.iload_n 1, 1) := by decide +kernel
theorem dX11_hold_29 : decode cX11_hold 29 = .ok (.aaload, 1) := by decide +kernel
theorem dX11_hold_30 : decode cX11_hold 30 = .ok (.iconst 1, 1) := by decide +kernel
theorem dX11_hold_31 : decode cX11_hold 31 = .ok (.putfield 114, 3) := by decide +kernel
theorem dX11_hold_34 : decode cX11_hold 34 = .ok (.iconst 1, 1) := by decide +kernel
theorem dX11_hold_35 : decode cX11_hold 35 = .ok (.ireturn, 1) := by decide +kernel
set_option maxHeartbeats 4000000 in
set_option maxRecDepth 100000 in
theorem w_X11_hold_9 {X : CX} {T : List Dsc} {R : RM} {c e : Nat} {n1 n2 : Nat} {m : M2} {r : (Int32 × M2)} (hX : XR X 2 n1 n2) (hG : Geo T R c e) (hf : f_X11_hold_9 c m = some r) (hk : FnZ X cX11_hold RX11 2 T n1 n2 (r.1, mk r.2 R)) : Wp X cX11_hold RX11 2 T (mk m R) n1 n2 9 [] [] := by
  unfold f_X11_hold_9 at hf
  refine Wp.iconst (pc := 9) (0 : Int32) (by decide) dX11_hold_9 ?_
  cases hf
  exact hk _ _ (Or.inl rfl) dX11_hold_10
set_option maxHeartbeats 4000000 in
set_option maxRecDepth 100000 in
theorem w_X11_hold {X : CX} {T : List Dsc} {R : RM} {c e : Nat} {n1 n2 : Nat} {x1 : Int32} {m : M2} {r : (Int32 × M2)} (hX : XR X 2 n1 n2) (hG : Geo T R c e) (hf : F_X11_hold c x1 m = some r) (hk : FnZ X cX11_hold RX11 2 T n1 n2 (r.1, mk r.2 R)) : Wp X cX11_hold RX11 2 T (mk m R) n1 n2 0 [(0, .ref 0), (1, .int x1)] [] := by
  unfold F_X11_hold at hf
  refine Wp.iload_n (pc := 0) 1 rfl rfl dX11_hold_0 ?_
  refine Wp.if_lt (pc := 1) 9 dX11_hold_1 (by decide) (fun hc1 => ?_) (fun hc1 => ?_)
  · rw [if_pos hc1] at hf
    refine Wp.lo' (lo' := []) [] rfl ?_
    exact w_X11_hold_9 hX hG hf hk
  · rw [if_neg hc1] at hf
    refine Wp.iload_n (pc := 4) 1 rfl rfl dX11_hold_4 ?_
    refine Wp.iconst (pc := 5) (3 : Int32) (by decide) dX11_hold_5 ?_
    refine Wp.icmp_lt (pc := 6) 11 dX11_hold_6 (by decide) (fun hc2 => ?_) (fun hc2 => ?_)
    · rw [if_pos hc2] at hf
      refine Wp.aload_n (pc := 11) 0 rfl rfl dX11_hold_11 ?_
      refine Wp.getR2 (pc := 12) (hG.r 0 7 rfl) (hG.t 0 rfl) fk_RX11_48 rfl dX11_hold_12 ?_
      refine Wp.iload_n (pc := 15) 1 rfl rfl dX11_hold_15 ?_
      obtain ⟨v3, h4, hf⟩ := bnd hf
      refine Wp.aald2 (pc := 16) (v := (47 + 3 * v3)) h4 (slot_r hG h4) (hG.wt (ixC_cw h4)) (hG.a 31 4 rfl) dX11_hold_16 ?_
      refine Wp.aload_n (pc := 17) 0 rfl rfl dX11_hold_17 ?_
      refine Wp.getR2 (pc := 18) (hG.r 0 6 rfl) (hG.t 0 rfl) fk_RX11_44 rfl dX11_hold_18 ?_
      obtain ⟨c5, h6, hf⟩ := bnd hf
      refine Wp.callVv (pc := 21) (st := []) (as := [.ref 28]) (c_X1_take hG (ixC_cw h4) cw28 h6) ml_RX11_280 mv_X1_take mb_X1_take hX (Nat.le_of_ble_eq_true rfl) (by decide) rfl (hG.wt (ixC_cw h4)) rfl (by simp) dX11_hold_21 rfl ?_
      refine Wp.aload_n (pc := 24) 0 rfl rfl dX11_hold_24 ?_
      refine Wp.getR2 (pc := 25) (hG.r 0 7 rfl) (hG.t 0 rfl) fk_RX11_48 rfl dX11_hold_25 ?_
      refine Wp.iload_n (pc := 28) 1 rfl rfl dX11_hold_28 ?_
      obtain ⟨v7, h8, hf⟩ := bnd hf
      refine Wp.aald2 (pc := 29) (v := (47 + 3 * v7)) h8 (slot_r hG h8) (hG.wt (ixC_cw h8)) (hG.a 31 4 rfl) dX11_hold_29 ?_
      refine Wp.iconst (pc := 30) (1 : Int32) (by decide) dX11_hold_30 ?_
      obtain ⟨m9, h10, hf⟩ := bnd hf
      refine Wp.ptZ2 (pc := 31) (Or.inr rfl) h10 (hG.wt (ixC_cw h8)) fk_RX11_114 ff_RX11_1_5 rfl dX11_hold_31 ?_
      refine Wp.iconst (pc := 34) (1 : Int32) (by decide) dX11_hold_34 ?_
      cases hf
      exact hk _ _ (Or.inr rfl) dX11_hold_35
    · rw [if_neg hc2] at hf
      refine Wp.lo' (lo' := []) [] rfl ?_
      exact w_X11_hold_9 hX hG hf hk
theorem c_X11_hold {T : List Dsc} {R : RM} {c e : Nat} {x1 : Int32} {m : M2} {r : (Int32 × M2)} (hG : Geo T R c e) (hf : F_X11_hold c x1 m = some r) : Ct 2 yX11_hold cX11_hold 2 (some .boolean) T (mk m R) [.ref 0, .int x1] (some (.int r.1)) (mk r.2 R) := Ct.ofZ (r := (r.1, mk r.2 R)) (by decide +kernel) (Nat.le_of_ble_eq_true rfl) (fun X hX hk => w_X11_hold hX hG hf hk)
theorem dX11_restore_0 : decode cX11_restore 0 = .ok (.iload_n 1, 1) := by decide +kernel
theorem dX11_restore_1 : decode cX11_restore 1 = .ok (.ifCond .lt 20, 3) := by decide +kernel
theorem dX11_restore_4 : decode cX11_restore 4 = .ok (.iload_n 1, 1) := by decide +kernel
theorem dX11_restore_5 : decode cX11_restore 5 = .ok (.iconst 3, 1) := by decide +kernel
theorem dX11_restore_6 : decode cX11_restore 6 = .ok (.if_icmp .ge 15, 3) := by decide +kernel
theorem dX11_restore_9 : decode cX11_restore 9 = .ok (.aload_n 0, 1) := by decide +kernel
theorem dX11_restore_10 : decode cX11_restore 10 = .ok (.getfield 48, 3) := by decide +kernel
theorem dX11_restore_13 : decode cX11_restore 13 = .ok (.iload_n 1, 1) := by decide +kernel
theorem dX11_restore_14 : decode cX11_restore 14 = .ok (.aaload, 1) := by decide +kernel
theorem dX11_restore_15 : decode cX11_restore 15 = .ok (.getfield 114, 3) := by decide +kernel
theorem dX11_restore_18 : decode cX11_restore 18 = .ok (.ifCond .ne 5, 3) := by decide +kernel
theorem dX11_restore_21 : decode cX11_restore 21 = .ok (.iconst 0, 1) := by decide +kernel
theorem dX11_restore_22 : decode cX11_restore 22 = .ok (.ireturn, 1) := by decide +kernel
theorem dX11_restore_23 : decode cX11_restore 23 = .ok (.aload_n 0, 1) := by decide +kernel
theorem dX11_restore_24 : decode cX11_restore 24 = .ok (.getfield 44, 3) := by decide +kernel
theorem dX11_restore_27 : decode cX11_restore 27 = .ok (.aload_n 0, 1) := by decide +kernel
theorem dX11_restore_28 : decode cX11_restore 28 = .ok (.getfield 48, 3) := by decide +kernel
theorem dX11_restore_31 : decode cX11_restore 31 = .ok (.iload_n 1, 1) := by decide +kernel
theorem dX11_restore_32 : decode cX11_restore 32 = .ok (.aaload, 1) := by decide +kernel
theorem dX11_restore_33 : decode cX11_restore 33 = .ok (.invokevirtual 280, 3) := by decide +kernel
theorem dX11_restore_36 : decode cX11_restore 36 = .ok (.aload_n 0, 1) := by decide +kernel
theorem dX11_restore_37 : decode cX11_restore 37 = .ok (.getfield 55, 3) := by decide +kernel
theorem dX11_restore_40 : decode cX11_restore 40 = .ok (.invokevirtual 108, 3) := by decide +kernel
theorem dX11_restore_43 : decode cX11_restore 43 = .ok (.iconst 1, 1) := by decide +kernel
theorem dX11_restore_44 : decode cX11_restore 44 = .ok (.ireturn, 1) := by decide +kernel
set_option maxHeartbeats 4000000 in
set_option maxRecDepth 100000 in
theorem w_X11_restore_21 {X : CX} {T : List Dsc} {R : RM} {c e : Nat} {n1 n2 : Nat} {m : M2} {r : (Int32 × M2)} (hX : XR X 2 n1 n2) (hG : Geo T R c e) (hf : f_X11_restore_21 c m = some r) (hk : FnZ X cX11_restore RX11 2 T n1 n2 (r.1, mk r.2 R)) : Wp X cX11_restore RX11 2 T (mk m R) n1 n2 21 [] [] := by
  unfold f_X11_restore_21 at hf
  refine Wp.iconst (pc := 21) (0 : Int32) (by decide) dX11_restore_21 ?_
  cases hf
  exact hk _ _ (Or.inl rfl) dX11_restore_22
set_option maxHeartbeats 4000000 in
set_option maxRecDepth 100000 in
theorem w_X11_restore {X : CX} {T : List Dsc} {R : RM} {c e : Nat} {n1 n2 : Nat} {x1 : Int32} {m : M2} {r : (Int32 × M2)} (hX : XR X 2 n1 n2) (hG : Geo T R c e) (hf : F_X11_restore c x1 m = some r) (hk : FnZ X cX11_restore RX11 2 T n1 n2 (r.1, mk r.2 R)) : Wp X cX11_restore RX11 2 T (mk m R) n1 n2 0 [(0, .ref 0), (1, .int x1)] [] := by
  unfold F_X11_restore at hf
  refine Wp.iload_n (pc := 0) 1 rfl rfl dX11_restore_0 ?_
  refine Wp.if_lt (pc := 1) 21 dX11_restore_1 (by decide) (fun hc1 => ?_) (fun hc1 => ?_)
  · rw [if_pos hc1] at hf
    refine Wp.lo' (lo' := []) [] rfl ?_
    exact w_X11_restore_21 hX hG hf hk
  · rw [if_neg hc1] at hf
    refine Wp.iload_n (pc := 4) 1 rfl rfl dX11_restore_4 ?_
    refine Wp.iconst (pc := 5) (3 : Int32) (by decide) dX11_restore_5 ?_
    refine Wp.icmp_ge (pc := 6) 21 dX11_restore_6 (by decide) (fun hc2 => ?_) (fun hc2 => ?_)
    · rw [if_pos hc2] at hf
      refine Wp.lo' (lo' := []) [] rfl ?_
      exact w_X11_restore_21 hX hG hf hk
    · rw [if_neg hc2] at hf
      refine Wp.aload_n (pc := 9) 0 rfl rfl dX11_restore_9 ?_
      refine Wp.getR2 (pc := 10) (hG.r 0 7 rfl) (hG.t 0 rfl) fk_RX11_48 rfl dX11_restore_10 ?_
      refine Wp.iload_n (pc := 13) 1 rfl rfl dX11_restore_13 ?_
      obtain ⟨v3, h4, hf⟩ := bnd hf
      refine Wp.aald2 (pc := 14) (v := (47 + 3 * v3)) h4 (slot_r hG h4) (hG.wt (ixC_cw h4)) (hG.a 31 4 rfl) dX11_restore_14 ?_
      refine Wp.getI2 (pc := 15) (hG.wt (ixC_cw h4)) fk_RX11_114 rfl dX11_restore_15 ?_
      refine Wp.if_ne (pc := 18) 23 dX11_restore_18 (by decide) (fun hc5 => ?_) (fun hc5 => ?_)
      · rw [if_neg hc5] at hf
        refine Wp.aload_n (pc := 23) 0 rfl rfl dX11_restore_23 ?_
        refine Wp.getR2 (pc := 24) (hG.r 0 6 rfl) (hG.t 0 rfl) fk_RX11_44 rfl dX11_restore_24 ?_
        refine Wp.aload_n (pc := 27) 0 rfl rfl dX11_restore_27 ?_
        refine Wp.getR2 (pc := 28) (hG.r 0 7 rfl) (hG.t 0 rfl) fk_RX11_48 rfl dX11_restore_28 ?_
        refine Wp.iload_n (pc := 31) 1 rfl rfl dX11_restore_31 ?_
        obtain ⟨v6, h7, hf⟩ := bnd hf
        refine Wp.aald2 (pc := 32) (v := (47 + 3 * v6)) h7 (slot_r hG h7) (hG.wt (ixC_cw h7)) (hG.a 31 4 rfl) dX11_restore_32 ?_
        obtain ⟨c8, h9, hf⟩ := bnd hf
        refine Wp.callVv (pc := 33) (st := []) (as := [.ref (47 + 3 * v6)]) (c_X1_take hG cw28 (ixC_cw h7) h9) ml_RX11_280 mv_X1_take mb_X1_take hX (Nat.le_of_ble_eq_true rfl) (by decide) rfl (hG.wt cw28) rfl (by simp) dX11_restore_33 rfl ?_
        refine Wp.aload_n (pc := 36) 0 rfl rfl dX11_restore_36 ?_
        refine Wp.getR2 (pc := 37) (hG.r 0 8 rfl) (hG.t 0 rfl) fk_RX11_55 rfl dX11_restore_37 ?_
        obtain ⟨c10, h11, hf⟩ := bnd hf
        refine Wp.callVv (pc := 40) (st := []) (as := []) (c_X3_clear hG h11) ml_RX11_108 mv_X3_clear mb_X3_clear hX (Nat.le_of_ble_eq_true rfl) (by decide) rfl (hG.t 32 rfl) rfl (by simp) dX11_restore_40 rfl ?_
        refine Wp.iconst (pc := 43) (1 : Int32) (by decide) dX11_restore_43 ?_
        cases hf
        exact hk _ _ (Or.inr rfl) dX11_restore_44
      · rw [if_pos hc5] at hf
        refine Wp.lo' (lo' := []) [] rfl ?_
        exact w_X11_restore_21 hX hG hf hk
theorem c_X11_restore {T : List Dsc} {R : RM} {c e : Nat} {x1 : Int32} {m : M2} {r : (Int32 × M2)} (hG : Geo T R c e) (hf : F_X11_restore c x1 m = some r) : Ct 2 yX11_restore cX11_restore 2 (some .boolean) T (mk m R) [.ref 0, .int x1] (some (.int r.1)) (mk r.2 R) := Ct.ofZ (r := (r.1, mk r.2 R)) (by decide +kernel) (Nat.le_of_ble_eq_true rfl) (fun X hX hk => w_X11_restore hX hG hf hk)
theorem dX11_orNotSo_0 : decode cX11_orNotSo 0 = .ok (.iload_n 0, 1) := by decide +kernel
theorem dX11_orNotSo_1 : decode cX11_orNotSo 1 = .ok (.ifCond .ge 8, 3) := by decide +kernel
theorem dX11_orNotSo_4 : decode cX11_orNotSo 4 = .ok (.bipush (-2), 2) := by decide +kernel
theorem dX11_orNotSo_6 : decode cX11_orNotSo 6 = .ok (.goto 4, 3) := by decide +kernel
theorem dX11_orNotSo_9 : decode cX11_orNotSo 9 = .ok (.iload_n 0, 1) := by decide +kernel
theorem dX11_orNotSo_10 : decode cX11_orNotSo 10 = .ok (.ireturn, 1) := by decide +kernel
set_option maxHeartbeats 4000000 in
set_option maxRecDepth 100000 in
theorem w_X11_orNotSo_10 {X : CX} {T : List Dsc} {R : RM} {c e : Nat} {n1 n2 : Nat} {s0 : Int32} {m : M2} {r : (Int32 × M2)} (hX : XR X 1 n1 n2) (hG : Geo T R c e) (hf : f_X11_orNotSo_10 s0 m = some r) (hk : FnI X cX11_orNotSo RX11 1 T n1 n2 (r.1, mk r.2 R)) : Wp X cX11_orNotSo RX11 1 T (mk m R) n1 n2 10 [] [.int s0] := by
  unfold f_X11_orNotSo_10 at hf
  cases hf
  exact hk _ _ dX11_orNotSo_10
set_option maxHeartbeats 4000000 in
set_option maxRecDepth 100000 in
theorem w_X11_orNotSo {X : CX} {T : List Dsc} {R : RM} {c e : Nat} {n1 n2 : Nat} {x0 : Int32} {m : M2} {r : (Int32 × M2)} (hX : XR X 1 n1 n2) (hG : Geo T R c e) (hf : F_X11_orNotSo x0 m = some r) (hk : FnI X cX11_orNotSo RX11 1 T n1 n2 (r.1, mk r.2 R)) : Wp X cX11_orNotSo RX11 1 T (mk m R) n1 n2 0 [(0, .int x0)] [] := by
  unfold F_X11_orNotSo at hf
  refine Wp.iload_n (pc := 0) 0 rfl rfl dX11_orNotSo_0 ?_
  refine Wp.if_ge (pc := 1) 9 dX11_orNotSo_1 (by decide) (fun hc1 => ?_) (fun hc1 => ?_)
  · rw [if_pos hc1] at hf
    refine Wp.iload_n (pc := 9) 0 rfl rfl dX11_orNotSo_9 ?_
    refine Wp.lo' (lo' := []) [] rfl ?_
    exact w_X11_orNotSo_10 hX hG hf hk
  · rw [if_neg hc1] at hf
    refine Wp.bipush (pc := 4) (-2 : Int32) (by decide) dX11_orNotSo_4 ?_
    refine Wp.goto (pc := 6) 10 dX11_orNotSo_6 (by decide) ?_
    refine Wp.lo' (lo' := []) [] rfl ?_
    exact w_X11_orNotSo_10 hX hG hf hk
theorem c_X11_orNotSo {T : List Dsc} {R : RM} {c e : Nat} {x0 : Int32} {m : M2} {r : (Int32 × M2)} (hG : Geo T R c e) (hf : F_X11_orNotSo x0 m = some r) : Ct 1 yX11_orNotSo cX11_orNotSo 1 (some .int) T (mk m R) [.int x0] (some (.int r.1)) (mk r.2 R) := Ct.ofI (r := (r.1, mk r.2 R)) (by decide +kernel) (Nat.le_of_ble_eq_true rfl) (fun X hX hk => w_X11_orNotSo hX hG hf hk)
theorem dX11_heldSlots_0 : decode cX11_heldSlots 0 = .ok (.iconst 0, 1) := by decide +kernel
theorem dX11_heldSlots_1 : decode cX11_heldSlots 1 = .ok (.istore_n 1, 1) := by decide +kernel
theorem dX11_heldSlots_2 : decode cX11_heldSlots 2 = .ok (.iconst 0, 1) := by decide +kernel
theorem dX11_heldSlots_3 : decode cX11_heldSlots 3 = .ok (.istore_n 2, 1) := by decide +kernel
theorem dX11_heldSlots_4 : decode cX11_heldSlots 4 = .ok (.iload_n 2, 1) := by decide +kernel
theorem dX11_heldSlots_5 : decode cX11_heldSlots 5 = .ok (.iconst 3, 1) := by decide +kernel
theorem dX11_heldSlots_6 : decode cX11_heldSlots 6 = .ok (.if_icmp .ge 24, 3) := by decide +kernel
theorem dX11_heldSlots_9 : decode cX11_heldSlots 9 = .ok (.aload_n 0, 1) := by decide +kernel
theorem dX11_heldSlots_10 : decode cX11_heldSlots 10 = .ok (.getfield 48, 3) := by decide +kernel
theorem dX11_heldSlots_13 : decode cX11_heldSlots 13 = .ok (.iload_n 2, 1) := by decide +kernel
theorem dX11_heldSlots_14 : decode cX11_heldSlots 14 = .ok (.aaload, 1) := by decide +kernel
theorem dX11_heldSlots_15 : decode cX11_heldSlots 15 = .ok (.getfield 114, 3) := by decide +kernel
theorem dX11_heldSlots_18 : decode cX11_heldSlots 18 = .ok (.ifCond .eq 6, 3) := by decide +kernel
theorem dX11_heldSlots_21 : decode cX11_heldSlots 21 = .ok (.iinc 1 1, 3) := by decide +kernel
theorem dX11_heldSlots_24 : decode cX11_heldSlots 24 = .ok (.iinc 2 1, 3) := by decide +kernel
theorem dX11_heldSlots_27 : decode cX11_heldSlots 27 = .ok (.goto (-23), 3) := by decide +kernel
theorem dX11_heldSlots_30 : decode cX11_heldSlots 30 = .ok (.iload_n 1, 1) := by decide +kernel
theorem dX11_heldSlots_31 : decode cX11_heldSlots 31 = .ok (.ireturn, 1) := by decide +kernel
def k_X11_heldSlots_4 (X : CX) (T : List Dsc) (R : RM) (n1 n2 : Nat) (r : ((Int32 × Int32 × M2) ⊕ ((Int32 × M2)))) : Prop := match r with
  | .inl s => Wp X cX11_heldSlots RX11 3 T (mk s.2.2 R) n1 n2 4 [(0, .ref 0), (1, .int s.1), (2, .int s.2.1)] []
  | .inr e => Wp X cX11_heldSlots RX11 3 T (mk e.2 R) n1 n2 30 [(1, .int e.1)] []
set_option maxHeartbeats 4000000 in
set_option maxRecDepth 100000 in
theorem w_X11_heldSlots_24 {X : CX} {T : List Dsc} {R : RM} {c e : Nat} {n1 n2 : Nat} {x1 : Int32} {x2 : Int32} {m : M2} {r : ((Int32 × Int32 × M2) ⊕ ((Int32 × M2)))} (hX : XR X 1 n1 n2) (hG : Geo T R c e) (hf : f_X11_heldSlots_24 c x1 x2 m = some r) (hk : k_X11_heldSlots_4 X T R n1 n2 r) : Wp X cX11_heldSlots RX11 3 T (mk m R) n1 n2 24 [(0, .ref 0), (1, .int x1), (2, .int x2)] [] := by
  unfold f_X11_heldSlots_24 at hf
  obtain ⟨v1, h2, hf⟩ := bnd hf
  refine Wp.iincN (pc := 24) (lo' := [(0, .ref 0), (1, .int x1), (2, .int v1)]) (1 : Int32) (by decide) h2 2 rfl [1, 2, 0] rfl (by decide) dX11_heldSlots_24 ?_
  refine Wp.goto (pc := 27) 4 dX11_heldSlots_27 (by decide) ?_
  cases hf
  exact hk
set_option maxHeartbeats 4000000 in
set_option maxRecDepth 100000 in
theorem w_X11_heldSlots_4 {X : CX} {T : List Dsc} {R : RM} {c e : Nat} {n1 n2 : Nat} {x1 : Int32} {x2 : Int32} {m : M2} {r : ((Int32 × Int32 × M2) ⊕ ((Int32 × M2)))} (hX : XR X 1 n1 n2) (hG : Geo T R c e) (hf : f_X11_heldSlots_4 c x1 x2 m = some r) (hk : k_X11_heldSlots_4 X T R n1 n2 r) : Wp X cX11_heldSlots RX11 3 T (mk m R) n1 n2 4 [(0, .ref 0), (1, .int x1), (2, .int x2)] [] := by
  unfold f_X11_heldSlots_4 at hf
  refine Wp.iload_n (pc := 4) 2 rfl rfl dX11_heldSlots_4 ?_
  refine Wp.iconst (pc := 5) (3 : Int32) (by decide) dX11_heldSlots_5 ?_
  refine Wp.icmp_ge (pc := 6) 30 dX11_heldSlots_6 (by decide) (fun hc1 => ?_) (fun hc1 => ?_)
  · rw [if_pos hc1] at hf
    refine Wp.lo' (lo' := [(1, .int x1)]) [1] rfl ?_
    cases hf
    exact hk
  · rw [if_neg hc1] at hf
    refine Wp.aload_n (pc := 9) 0 rfl rfl dX11_heldSlots_9 ?_
    refine Wp.getR2 (pc := 10) (hG.r 0 7 rfl) (hG.t 0 rfl) fk_RX11_48 rfl dX11_heldSlots_10 ?_
    refine Wp.iload_n (pc := 13) 2 rfl rfl dX11_heldSlots_13 ?_
    obtain ⟨v2, h3, hf⟩ := bnd hf
    refine Wp.aald2 (pc := 14) (v := (47 + 3 * v2)) h3 (slot_r hG h3) (hG.wt (ixC_cw h3)) (hG.a 31 4 rfl) dX11_heldSlots_14 ?_
    refine Wp.getI2 (pc := 15) (hG.wt (ixC_cw h3)) fk_RX11_114 rfl dX11_heldSlots_15 ?_
    refine Wp.if_eq (pc := 18) 24 dX11_heldSlots_18 (by decide) (fun hc4 => ?_) (fun hc4 => ?_)
    · rw [if_pos hc4] at hf
      exact w_X11_heldSlots_24 hX hG hf hk
    · rw [if_neg hc4] at hf
      obtain ⟨v5, h6, hf⟩ := bnd hf
      refine Wp.iincN (pc := 21) (lo' := [(0, .ref 0), (1, .int v5), (2, .int x2)]) (1 : Int32) (by decide) h6 1 rfl [1, 0, 2] rfl (by decide) dX11_heldSlots_21 ?_
      exact w_X11_heldSlots_24 hX hG hf hk
theorem wl_X11_heldSlots_4 {X : CX} {T : List Dsc} {R : RM} {c e : Nat} {n1 n2 : Nat} {x1 : Int32} {x2 : Int32} {m : M2} {e1 : ((Int32 × M2))} (hX : XR X 1 n1 n2) (hG : Geo T R c e) (h : loop (g_X11_heldSlots_4 c) (x1, x2, m) = some e1) (he : Wp X cX11_heldSlots RX11 3 T (mk e1.2 R) n1 n2 30 [(1, .int e1.1)] []) : Wp X cX11_heldSlots RX11 3 T (mk m R) n1 n2 4 [(0, .ref 0), (1, .int x1), (2, .int x2)] [] :=
  loop_ok (K := k_X11_heldSlots_4 X T R n1 n2) (fun s r hf hk => w_X11_heldSlots_4 hX hG hf hk) h he
set_option maxHeartbeats 4000000 in
set_option maxRecDepth 100000 in
theorem w_X11_heldSlots {X : CX} {T : List Dsc} {R : RM} {c e : Nat} {n1 n2 : Nat} {m : M2} {r : (Int32 × M2)} (hX : XR X 1 n1 n2) (hG : Geo T R c e) (hf : F_X11_heldSlots c m = some r) (hk : FnI X cX11_heldSlots RX11 3 T n1 n2 (r.1, mk r.2 R)) : Wp X cX11_heldSlots RX11 3 T (mk m R) n1 n2 0 [(0, .ref 0)] [] := by
  unfold F_X11_heldSlots at hf
  refine Wp.iconst (pc := 0) (0 : Int32) (by decide) dX11_heldSlots_0 ?_
  refine Wp.istore_n (pc := 1) (lo' := [(0, .ref 0), (1, .int (0 : Int32))]) [1, 0] rfl (by decide) rfl dX11_heldSlots_1 ?_
  refine Wp.iconst (pc := 2) (0 : Int32) (by decide) dX11_heldSlots_2 ?_
  refine Wp.istore_n (pc := 3) (lo' := [(0, .ref 0), (1, .int (0 : Int32)), (2, .int (0 : Int32))]) [1, 2, 0] rfl (by decide) rfl dX11_heldSlots_3 ?_
  obtain ⟨e1, h2, hf⟩ := bnd hf
  refine wl_X11_heldSlots_4 hX hG h2 ?_
  refine Wp.iload_n (pc := 30) 0 rfl rfl dX11_heldSlots_30 ?_
  cases hf
  exact hk _ _ dX11_heldSlots_31
theorem c_X11_heldSlots {T : List Dsc} {R : RM} {c e : Nat} {m : M2} {r : (Int32 × M2)} (hG : Geo T R c e) (hf : F_X11_heldSlots c m = some r) : Ct 1 yX11_heldSlots cX11_heldSlots 3 (some .int) T (mk m R) [.ref 0] (some (.int r.1)) (mk r.2 R) := Ct.ofI (r := (r.1, mk r.2 R)) (by decide +kernel) (Nat.le_of_ble_eq_true rfl) (fun X hX hk => w_X11_heldSlots hX hG hf hk)
theorem dX11_count_0 : decode cX11_count 0 = .ok (.iload_n 1, 1) := by decide +kernel
theorem dX11_count_1 : decode cX11_count 1 = .ok (.tableswitch 186 0 12 #[67, 75, 83, 91, 99, 110, 118, 129, 137, 142, 150, 158, 163], 67) := by decide +kernel
theorem dX11_count_68 : decode cX11_count 68 = .ok (.aload_n 0, 1) := by decide +kernel
theorem dX11_count_69 : decode cX11_count 69 = .ok (.getfield 16, 3) := by decide +kernel
theorem dX11_count_72 : decode cX11_count 72 = .ok (.getfield 206, 3) := by decide +kernel
theorem dX11_count_75 : decode cX11_count 75 = .ok (.ireturn, 1) := by decide +kernel
theorem dX11_count_76 : decode cX11_count 76 = .ok (.aload_n 0, 1) := by decide +kernel
theorem dX11_count_77 : decode cX11_count 77 = .ok (.getfield 16, 3) := by decide +kernel
theorem dX11_count_80 : decode cX11_count 80 = .ok (.getfield 204, 3) := by decide +kernel
theorem dX11_count_83 : decode cX11_count 83 = .ok (.ireturn, 1) := by decide +kernel
theorem dX11_count_84 : decode cX11_count 84 = .ok (.aload_n 0, 1) := by decide +kernel
theorem dX11_count_85 : decode cX11_count 85 = .ok (.getfield 16, 3) := by decide +kernel
theorem dX11_count_88 : decode cX11_count 88 = .ok (.getfield 153, 3) := by decide +kernel
theorem dX11_count_91 : decode cX11_count 91 = .ok (.ireturn, 1) := by decide +kernel
theorem dX11_count_92 : decode cX11_count 92 = .ok (.aload_n 0, 1) := by decide +kernel
theorem dX11_count_93 : decode cX11_count 93 = .ok (.getfield 44, 3) := by decide +kernel
theorem dX11_count_96 : decode cX11_count 96 = .ok (.getfield 143, 3) := by decide +kernel
theorem dX11_count_99 : decode cX11_count 99 = .ok (.ireturn, 1) := by decide +kernel
theorem dX11_count_100 : decode cX11_count 100 = .ok (.aload_n 0, 1) := by decide +kernel
theorem dX11_count_101 : decode cX11_count 101 = .ok (.getfield 44, 3) := by decide +kernel
theorem dX11_count_104 : decode cX11_count 104 = .ok (.getfield 140, 3) := by decide +kernel
theorem dX11_count_107 : decode cX11_count 107 = .ok (.invokestatic 284, 3) := by decide +kernel
theorem dX11_count_110 : decode cX11_count 110 = .ok (.ireturn, 1) := by decide +kernel
theorem dX11_count_111 : decode cX11_count 111 = .ok (.aload_n 0, 1) := by decide +kernel
theorem dX11_count_112 : decode cX11_count 112 = .ok (.getfield 16, 3) := by decide +kernel
theorem dX11_count_115 : decode cX11_count 115 = .ok (.getfield 287, 3) := by decide +kernel
theorem dX11_count_118 : decode cX11_count 118 = .ok (.ireturn, 1) := by decide +kernel
theorem dX11_count_119 : decode cX11_count 119 = .ok (.aload_n 0, 1) := by decide +kernel
theorem dX11_count_120 : decode cX11_count 120 = .ok (.getfield 16, 3) := by decide +kernel
theorem dX11_count_123 : decode cX11_count 123 = .ok (.getfield 290, 3) := by decide +kernel
theorem dX11_count_126 : decode cX11_count 126 = .ok (.invokestatic 284, 3) := by decide +kernel
theorem dX11_count_129 : decode cX11_count 129 = .ok (.ireturn, 1) := by decide +kernel
theorem dX11_count_130 : decode cX11_count 130 = .ok (.aload_n 0, 1) := by decide +kernel
theorem dX11_count_131 : decode cX11_count 131 = .ok (.getfield 16, 3) := by decide +kernel
theorem dX11_count_134 : decode cX11_count 134 = .ok (.getfield 293, 3) := by decide +kernel
theorem dX11_count_137 : decode cX11_count 137 = .ok (.ireturn, 1) := by decide +kernel
theorem dX11_count_138 : decode cX11_count 138 = .ok (.aload_n 0, 1) := by decide +kernel
theorem dX11_count_139 : decode cX11_count 139 = .ok (.getfield 92, 3) := by decide +kernel
theorem dX11_count_142 : decode cX11_count 142 = .ok (.ireturn, 1) := by decide +kernel
theorem dX11_count_143 : decode cX11_count 143 = .ok (.aload_n 0, 1) := by decide +kernel
theorem dX11_count_144 : decode cX11_count 144 = .ok (.getfield 55, 3) := by decide +kernel
theorem dX11_count_147 : decode cX11_count 147 = .ok (.getfield 162, 3) := by decide +kernel
theorem dX11_count_150 : decode cX11_count 150 = .ok (.ireturn, 1) := by decide +kernel
theorem dX11_count_151 : decode cX11_count 151 = .ok (.aload_n 0, 1) := by decide +kernel
theorem dX11_count_152 : decode cX11_count 152 = .ok (.getfield 85, 3) := by decide +kernel
theorem dX11_count_155 : decode cX11_count 155 = .ok (.getfield 111, 3) := by decide +kernel
theorem dX11_count_158 : decode cX11_count 158 = .ok (.ireturn, 1) := by decide +kernel
theorem dX11_count_159 : decode cX11_count 159 = .ok (.aload_n 0, 1) := by decide +kernel
theorem dX11_count_160 : decode cX11_count 160 = .ok (.invokevirtual 296, 3) := by decide +kernel
theorem dX11_count_163 : decode cX11_count 163 = .ok (.ireturn, 1) := by decide +kernel
theorem dX11_count_164 : decode cX11_count 164 = .ok (.aload_n 0, 1) := by decide +kernel
theorem dX11_count_165 : decode cX11_count 165 = .ok (.getfield 16, 3) := by decide +kernel
theorem dX11_count_168 : decode cX11_count 168 = .ok (.aload_n 0, 1) := by decide +kernel
theorem dX11_count_169 : decode cX11_count 169 = .ok (.getfield 44, 3) := by decide +kernel
theorem dX11_count_172 : decode cX11_count 172 = .ok (.getfield 143, 3) := by decide +kernel
theorem dX11_count_175 : decode cX11_count 175 = .ok (.invokevirtual 146, 3) := by decide +kernel
theorem dX11_count_178 : decode cX11_count 178 = .ok (.ifCond .eq 7, 3) := by decide +kernel
theorem dX11_count_181 : decode cX11_count 181 = .ok (.iconst 1, 1) := by decide +kernel
theorem dX11_count_182 : decode cX11_count 182 = .ok (.goto 4, 3) := by decide +kernel
theorem dX11_count_185 : decode cX11_count 185 = .ok (.iconst 0, 1) := by decide +kernel
theorem dX11_count_186 : decode cX11_count 186 = .ok (.ireturn, 1) := by decide +kernel
theorem dX11_count_187 : decode cX11_count 187 = .ok (.iconst (-1), 1) := by decide +kernel
theorem dX11_count_188 : decode cX11_count 188 = .ok (.ireturn, 1) := by decide +kernel
set_option maxHeartbeats 4000000 in
set_option maxRecDepth 100000 in
theorem w_X11_count_186 {X : CX} {T : List Dsc} {R : RM} {c e : Nat} {n1 n2 : Nat} {s0 : Int32} {m : M2} {r : (Int32 × M2)} (hX : XR X 2 n1 n2) (hG : Geo T R c e) (hf : f_X11_count_186 c s0 m = some r) (hk : FnI X cX11_count RX11 2 T n1 n2 (r.1, mk r.2 R)) : Wp X cX11_count RX11 2 T (mk m R) n1 n2 186 [] [.int s0] := by
  unfold f_X11_count_186 at hf
  cases hf
  exact hk _ _ dX11_count_186
set_option maxHeartbeats 4000000 in
set_option maxRecDepth 100000 in
theorem w_X11_count {X : CX} {T : List Dsc} {R : RM} {c e : Nat} {n1 n2 : Nat} {x1 : Int32} {m : M2} {r : (Int32 × M2)} (hX : XR X 2 n1 n2) (hG : Geo T R c e) (hf : F_X11_count c x1 m = some r) (hk : FnI X cX11_count RX11 2 T n1 n2 (r.1, mk r.2 R)) : Wp X cX11_count RX11 2 T (mk m R) n1 n2 0 [(0, .ref 0), (1, .int x1)] [] := by
  unfold F_X11_count at hf
  refine Wp.iload_n (pc := 0) 1 rfl rfl dX11_count_0 ?_
  by_cases hc1 : x1 = (0 : Int32)
  · rw [if_pos hc1] at hf
    refine Wp.swIn (pc := 1) 68 dX11_count_1 hc1 (by decide) (by decide) rfl (by decide) ?_
    refine Wp.aload_n (pc := 68) 0 rfl rfl dX11_count_68 ?_
    refine Wp.getR2 (pc := 69) hG.r0 (hG.t 0 rfl) fk_RX11_16 rfl dX11_count_69 ?_
    refine Wp.getI2 (pc := 72) (hG.tt hG.hc) fk_RX11_206 rfl dX11_count_72 ?_
    cases hf
    exact hk _ _ dX11_count_75
  · rw [if_neg hc1] at hf
    by_cases hc2 : x1 = (1 : Int32)
    · rw [if_pos hc2] at hf
      refine Wp.swIn (pc := 1) 76 dX11_count_1 hc2 (by decide) (by decide) rfl (by decide) ?_
      refine Wp.aload_n (pc := 76) 0 rfl rfl dX11_count_76 ?_
      refine Wp.getR2 (pc := 77) hG.r0 (hG.t 0 rfl) fk_RX11_16 rfl dX11_count_77 ?_
      refine Wp.getI2 (pc := 80) (hG.tt hG.hc) fk_RX11_204 rfl dX11_count_80 ?_
      cases hf
      exact hk _ _ dX11_count_83
    · rw [if_neg hc2] at hf
      by_cases hc3 : x1 = (2 : Int32)
      · rw [if_pos hc3] at hf
        refine Wp.swIn (pc := 1) 84 dX11_count_1 hc3 (by decide) (by decide) rfl (by decide) ?_
        refine Wp.aload_n (pc := 84) 0 rfl rfl dX11_count_84 ?_
        refine Wp.getR2 (pc := 85) hG.r0 (hG.t 0 rfl) fk_RX11_16 rfl dX11_count_85 ?_
        refine Wp.getI2 (pc := 88) (hG.tt hG.hc) fk_RX11_153 rfl dX11_count_88 ?_
        cases hf
        exact hk _ _ dX11_count_91
      · rw [if_neg hc3] at hf
        by_cases hc4 : x1 = (3 : Int32)
        · rw [if_pos hc4] at hf
          refine Wp.swIn (pc := 1) 92 dX11_count_1 hc4 (by decide) (by decide) rfl (by decide) ?_
          refine Wp.aload_n (pc := 92) 0 rfl rfl dX11_count_92 ?_
          refine Wp.getR2 (pc := 93) (hG.r 0 6 rfl) (hG.t 0 rfl) fk_RX11_44 rfl dX11_count_93 ?_
          refine Wp.getI2 (pc := 96) (hG.wt cw28) fk_RX11_143 rfl dX11_count_96 ?_
          cases hf
          exact hk _ _ dX11_count_99
        · rw [if_neg hc4] at hf
          by_cases hc5 : x1 = (4 : Int32)
          · rw [if_pos hc5] at hf
            refine Wp.swIn (pc := 1) 100 dX11_count_1 hc5 (by decide) (by decide) rfl (by decide) ?_
            refine Wp.aload_n (pc := 100) 0 rfl rfl dX11_count_100 ?_
            refine Wp.getR2 (pc := 101) (hG.r 0 6 rfl) (hG.t 0 rfl) fk_RX11_44 rfl dX11_count_101 ?_
            refine Wp.getI2 (pc := 104) (hG.wt cw28) fk_RX11_140 rfl dX11_count_104 ?_
            obtain ⟨c6, h7, hf⟩ := bnd hf
            refine Wp.callSi (pc := 107) (st := []) (as := [.int (hI m 28 3)]) (c_X11_orNotSo hG h7) ml_RX11_284 ms_X11_orNotSo mb_X11_orNotSo hX (Nat.le_of_ble_eq_true rfl) (by decide) rfl (by simp) dX11_count_107 rfl ?_
            cases hf
            exact hk _ _ dX11_count_110
          · rw [if_neg hc5] at hf
            by_cases hc8 : x1 = (5 : Int32)
            · rw [if_pos hc8] at hf
              refine Wp.swIn (pc := 1) 111 dX11_count_1 hc8 (by decide) (by decide) rfl (by decide) ?_
              refine Wp.aload_n (pc := 111) 0 rfl rfl dX11_count_111 ?_
              refine Wp.getR2 (pc := 112) hG.r0 (hG.t 0 rfl) fk_RX11_16 rfl dX11_count_112 ?_
              refine Wp.getI2 (pc := 115) (hG.tt hG.hc) fk_RX11_287 rfl dX11_count_115 ?_
              cases hf
              exact hk _ _ dX11_count_118
            · rw [if_neg hc8] at hf
              by_cases hc9 : x1 = (6 : Int32)
              · rw [if_pos hc9] at hf
                refine Wp.swIn (pc := 1) 119 dX11_count_1 hc9 (by decide) (by decide) rfl (by decide) ?_
                refine Wp.aload_n (pc := 119) 0 rfl rfl dX11_count_119 ?_
                refine Wp.getR2 (pc := 120) hG.r0 (hG.t 0 rfl) fk_RX11_16 rfl dX11_count_120 ?_
                refine Wp.getI2 (pc := 123) (hG.tt hG.hc) fk_RX11_290 rfl dX11_count_123 ?_
                obtain ⟨c10, h11, hf⟩ := bnd hf
                refine Wp.callSi (pc := 126) (st := []) (as := [.int (hI m c 10)]) (c_X11_orNotSo hG h11) ml_RX11_284 ms_X11_orNotSo mb_X11_orNotSo hX (Nat.le_of_ble_eq_true rfl) (by decide) rfl (by simp) dX11_count_126 rfl ?_
                cases hf
                exact hk _ _ dX11_count_129
              · rw [if_neg hc9] at hf
                by_cases hc12 : x1 = (7 : Int32)
                · rw [if_pos hc12] at hf
                  refine Wp.swIn (pc := 1) 130 dX11_count_1 hc12 (by decide) (by decide) rfl (by decide) ?_
                  refine Wp.aload_n (pc := 130) 0 rfl rfl dX11_count_130 ?_
                  refine Wp.getR2 (pc := 131) hG.r0 (hG.t 0 rfl) fk_RX11_16 rfl dX11_count_131 ?_
                  refine Wp.getI2 (pc := 134) (hG.tt hG.hc) fk_RX11_293 rfl dX11_count_134 ?_
                  cases hf
                  exact hk _ _ dX11_count_137
                · rw [if_neg hc12] at hf
                  by_cases hc13 : x1 = (8 : Int32)
                  · rw [if_pos hc13] at hf
                    refine Wp.swIn (pc := 1) 138 dX11_count_1 hc13 (by decide) (by decide) rfl (by decide) ?_
                    refine Wp.aload_n (pc := 138) 0 rfl rfl dX11_count_138 ?_
                    refine Wp.getI2 (pc := 139) (hG.t 0 rfl) fk_RX11_92 rfl dX11_count_139 ?_
                    cases hf
                    exact hk _ _ dX11_count_142
                  · rw [if_neg hc13] at hf
                    by_cases hc14 : x1 = (9 : Int32)
                    · rw [if_pos hc14] at hf
                      refine Wp.swIn (pc := 1) 143 dX11_count_1 hc14 (by decide) (by decide) rfl (by decide) ?_
                      refine Wp.aload_n (pc := 143) 0 rfl rfl dX11_count_143 ?_
                      refine Wp.getR2 (pc := 144) (hG.r 0 8 rfl) (hG.t 0 rfl) fk_RX11_55 rfl dX11_count_144 ?_
                      refine Wp.getI2 (pc := 147) (hG.t 32 rfl) fk_RX11_162 rfl dX11_count_147 ?_
                      cases hf
                      exact hk _ _ dX11_count_150
                    · rw [if_neg hc14] at hf
                      by_cases hc15 : x1 = (10 : Int32)
                      · rw [if_pos hc15] at hf
                        refine Wp.swIn (pc := 1) 151 dX11_count_1 hc15 (by decide) (by decide) rfl (by decide) ?_
                        refine Wp.aload_n (pc := 151) 0 rfl rfl dX11_count_151 ?_
                        refine Wp.getR2 (pc := 152) (hG.r 0 12 rfl) (hG.t 0 rfl) fk_RX11_85 rfl dX11_count_152 ?_
                        refine Wp.getI2 (pc := 155) (hG.t 41 rfl) fk_RX11_111 rfl dX11_count_155 ?_
                        cases hf
                        exact hk _ _ dX11_count_158
                      · rw [if_neg hc15] at hf
                        by_cases hc16 : x1 = (11 : Int32)
                        · rw [if_pos hc16] at hf
                          refine Wp.swIn (pc := 1) 159 dX11_count_1 hc16 (by decide) (by decide) rfl (by decide) ?_
                          refine Wp.aload_n (pc := 159) 0 rfl rfl dX11_count_159 ?_
                          obtain ⟨c17, h18, hf⟩ := bnd hf
                          refine Wp.callVi (pc := 160) (st := []) (as := []) (c_X11_heldSlots hG h18) ml_RX11_296 mv_X11_heldSlots mb_X11_heldSlots hX (Nat.le_of_ble_eq_true rfl) (by decide) rfl (hG.t 0 rfl) rfl (by simp) dX11_count_160 rfl ?_
                          cases hf
                          exact hk _ _ dX11_count_163
                        · rw [if_neg hc16] at hf
                          by_cases hc19 : x1 = (12 : Int32)
                          · rw [if_pos hc19] at hf
                            refine Wp.swIn (pc := 1) 164 dX11_count_1 hc19 (by decide) (by decide) rfl (by decide) ?_
                            refine Wp.aload_n (pc := 164) 0 rfl rfl dX11_count_164 ?_
                            refine Wp.getR2 (pc := 165) hG.r0 (hG.t 0 rfl) fk_RX11_16 rfl dX11_count_165 ?_
                            refine Wp.aload_n (pc := 168) 0 rfl rfl dX11_count_168 ?_
                            refine Wp.getR2 (pc := 169) (hG.r 0 6 rfl) (hG.t 0 rfl) fk_RX11_44 rfl dX11_count_169 ?_
                            refine Wp.getI2 (pc := 172) (hG.wt cw28) fk_RX11_143 rfl dX11_count_172 ?_
                            obtain ⟨c20, h21, hf⟩ := bnd hf
                            refine Wp.callVi (pc := 175) (st := []) (as := [.int (hI m 28 4)]) (c_X7_isFog hG hG.hc h21) ml_RX11_146 mv_X7_isFog mb_X7_isFog hX (Nat.le_of_ble_eq_true rfl) (by decide) rfl (hG.tt hG.hc) rfl (by simp) dX11_count_175 rfl ?_
                            refine Wp.if_eq (pc := 178) 185 dX11_count_178 (by decide) (fun hc22 => ?_) (fun hc22 => ?_)
                            · rw [if_pos hc22] at hf
                              refine Wp.iconst (pc := 185) (0 : Int32) (by decide) dX11_count_185 ?_
                              refine Wp.lo' (lo' := []) [] rfl ?_
                              exact w_X11_count_186 hX hG hf hk
                            · rw [if_neg hc22] at hf
                              refine Wp.iconst (pc := 181) (1 : Int32) (by decide) dX11_count_181 ?_
                              refine Wp.goto (pc := 182) 186 dX11_count_182 (by decide) ?_
                              refine Wp.lo' (lo' := []) [] rfl ?_
                              exact w_X11_count_186 hX hG hf hk
                          · rw [if_neg hc19] at hf
                            refine Wp.swOut (pc := 1) 187 dX11_count_1 (swx (fun k h1 h2 => ?_)) (by decide) ?_
                            · have z0 := lv_neT hc1 (a := 0) (by decide); have z1 := lv_neT hc2 (a := 1) (by decide); have z2 := lv_neT hc3 (a := 2) (by decide); have z3 := lv_neT hc4 (a := 3) (by decide); have z4 := lv_neT hc5 (a := 4) (by decide); have z5 := lv_neT hc8 (a := 5) (by decide); have z6 := lv_neT hc9 (a := 6) (by decide); have z7 := lv_neT hc12 (a := 7) (by decide); have z8 := lv_neT hc13 (a := 8) (by decide); have z9 := lv_neT hc14 (a := 9) (by decide); have z10 := lv_neT hc15 (a := 10) (by decide); have z11 := lv_neT hc16 (a := 11) (by decide); have z12 := lv_neT hc19 (a := 12) (by decide); omega
                            · skip
                              refine Wp.iconst (pc := 187) (-1 : Int32) (by decide) dX11_count_187 ?_
                              cases hf
                              exact hk _ _ dX11_count_188
theorem c_X11_count {T : List Dsc} {R : RM} {c e : Nat} {x1 : Int32} {m : M2} {r : (Int32 × M2)} (hG : Geo T R c e) (hf : F_X11_count c x1 m = some r) : Ct 2 yX11_count cX11_count 2 (some .int) T (mk m R) [.ref 0, .int x1] (some (.int r.1)) (mk r.2 R) := Ct.ofI (r := (r.1, mk r.2 R)) (by decide +kernel) (Nat.le_of_ble_eq_true rfl) (fun X hX hk => w_X11_count hX hG hf hk)
theorem dX12_put_0 : decode cX12_put 0 = .ok (.bipush 24, 2) := by decide +kernel
theorem dX12_put_2 : decode cX12_put 2 = .ok (.istore_n 2, 1) := by decide +kernel
theorem dX12_put_3 : decode cX12_put 3 = .ok (.iload_n 2, 1) := by decide +kernel
theorem dX12_put_4 : decode cX12_put 4 = .ok (.ifCond .lt 32, 3) := by decide +kernel
theorem dX12_put_7 : decode cX12_put 7 = .ok (.aload_n 0, 1) := by decide +kernel
theorem dX12_put_8 : decode cX12_put 8 = .ok (.getfield 13, 3) := by decide +kernel
theorem dX12_put_11 : decode cX12_put 11 = .ok (.aload_n 0, 1) := by decide +kernel
theorem dX12_put_12 : decode cX12_put 12 = .ok (.getfield 216, 3) := by decide +kernel
theorem dX12_put_15 : decode cX12_put 15 = .ok (.iload_n 1, 1) := by decide +kernel
theorem dX12_put_16 : decode cX12_put 16 = .ok (.iload_n 2, 1) := by decide +kernel
theorem dX12_put_17 : decode cX12_put 17 = .ok (.ishr, 1) := by decide +kernel
theorem dX12_put_18 : decode cX12_put 18 = .ok (.i2b, 1) := by decide +kernel
theorem dX12_put_19 : decode cX12_put 19 = .ok (.bastore, 1) := by decide +kernel
theorem dX12_put_20 : decode cX12_put 20 = .ok (.aload_n 0, 1) := by decide +kernel
theorem dX12_put_21 : decode cX12_put 21 = .ok (.dup, 1) := by decide +kernel
theorem dX12_put_22 : decode cX12_put 22 = .ok (.getfield 216, 3) := by decide +kernel
theorem dX12_put_25 : decode cX12_put 25 = .ok (.iconst 1, 1) := by decide +kernel
theorem dX12_put_26 : decode cX12_put 26 = .ok (.iadd, 1) := by decide +kernel
theorem dX12_put_27 : decode cX12_put 27 = .ok (.putfield 216, 3) := by decide +kernel
theorem dX12_put_30 : decode cX12_put 30 = .ok (.iinc 2 (-8), 3) := by decide +kernel
theorem dX12_put_33 : decode cX12_put 33 = .ok (.goto (-30), 3) := by decide +kernel
theorem dX12_put_36 : decode cX12_put 36 = .ok (.return_, 1) := by decide +kernel
def k_X12_put_3 (X : CX) (T : List Dsc) (R : RM) (n1 n2 : Nat) (x1 : Int32) (r : ((Int32 × M2) ⊕ ((M2)))) : Prop := match r with
  | .inl s => Wp X cX12_put RX12 3 T (mk s.2 R) n1 n2 3 [(0, .ref 56), (1, .int x1), (2, .int s.1)] []
  | .inr e => Wp X cX12_put RX12 3 T (mk e R) n1 n2 36 [] []
set_option maxHeartbeats 4000000 in
set_option maxRecDepth 100000 in
theorem w_X12_put_3 {X : CX} {T : List Dsc} {R : RM} {c e : Nat} {n1 n2 : Nat} {x1 : Int32} {x2 : Int32} {m : M2} {r : ((Int32 × M2) ⊕ ((M2)))} (hX : XR X 1 n1 n2) (hG : Geo T R c e) (hf : f_X12_put_3 x1 x2 m = some r) (hk : k_X12_put_3 X T R n1 n2 x1 r) : Wp X cX12_put RX12 3 T (mk m R) n1 n2 3 [(0, .ref 56), (1, .int x1), (2, .int x2)] [] := by
  unfold f_X12_put_3 at hf
  refine Wp.iload_n (pc := 3) 2 rfl rfl dX12_put_3 ?_
  refine Wp.if_lt (pc := 4) 36 dX12_put_4 (by decide) (fun hc1 => ?_) (fun hc1 => ?_)
  · rw [if_pos hc1] at hf
    refine Wp.lo' (lo' := []) [] rfl ?_
    cases hf
    exact hk
  · rw [if_neg hc1] at hf
    refine Wp.aload_n (pc := 7) 0 rfl rfl dX12_put_7 ?_
    refine Wp.getR2 (pc := 8) (hG.r 56 1 rfl) (hG.t 56 rfl) fk_RX12_13 rfl dX12_put_8 ?_
    refine Wp.aload_n (pc := 11) 0 rfl rfl dX12_put_11 ?_
    refine Wp.getI2 (pc := 12) (hG.t 56 rfl) fk_RX12_216 rfl dX12_put_12 ?_
    refine Wp.iload_n (pc := 15) 1 rfl rfl dX12_put_15 ?_
    refine Wp.iload_n (pc := 16) 2 rfl rfl dX12_put_16 ?_
    refine Wp.ishr (pc := 17) dX12_put_17 ?_
    refine Wp.i2b (pc := 18) dX12_put_18 ?_
    obtain ⟨m2, h3, hf⟩ := bnd hf
    refine Wp.bast2 (pc := 19) h3 (hG.a 57 2 rfl) dX12_put_19 ?_
    refine Wp.aload_n (pc := 20) 0 rfl rfl dX12_put_20 ?_
    refine Wp.dup (pc := 21) rfl dX12_put_21 ?_
    refine Wp.getI2 (pc := 22) (hG.t 56 rfl) fk_RX12_216 rfl dX12_put_22 ?_
    refine Wp.iconst (pc := 25) (1 : Int32) (by decide) dX12_put_25 ?_
    refine Wp.iadd (pc := 26) dX12_put_26 ?_
    obtain ⟨m4, h5, hf⟩ := bnd hf
    refine Wp.ptI2 (pc := 27) h5 (hG.t 56 rfl) fk_RX12_216 ff_RX12_11_2 rfl dX12_put_27 ?_
    obtain ⟨v6, h7, hf⟩ := bnd hf
    refine Wp.iincN (pc := 30) (lo' := [(0, .ref 56), (1, .int x1), (2, .int v6)]) (-8 : Int32) (by decide) h7 2 rfl [1, 2, 0] rfl (by decide) dX12_put_30 ?_
    refine Wp.goto (pc := 33) 3 dX12_put_33 (by decide) ?_
    cases hf
    exact hk
theorem wl_X12_put_3 {X : CX} {T : List Dsc} {R : RM} {c e : Nat} {n1 n2 : Nat} {x1 : Int32} {x2 : Int32} {m : M2} {e1 : ((M2))} (hX : XR X 1 n1 n2) (hG : Geo T R c e) (h : loop (g_X12_put_3 x1) (x2, m) = some e1) (he : Wp X cX12_put RX12 3 T (mk e1 R) n1 n2 36 [] []) : Wp X cX12_put RX12 3 T (mk m R) n1 n2 3 [(0, .ref 56), (1, .int x1), (2, .int x2)] [] :=
  loop_ok (K := k_X12_put_3 X T R n1 n2 x1) (fun s r hf hk => w_X12_put_3 hX hG hf hk) h he
set_option maxHeartbeats 4000000 in
set_option maxRecDepth 100000 in
theorem w_X12_put {X : CX} {T : List Dsc} {R : RM} {c e : Nat} {n1 n2 : Nat} {x1 : Int32} {m : M2} {r : M2} (hX : XR X 1 n1 n2) (hG : Geo T R c e) (hf : F_X12_put x1 m = some r) (hk : FnV X cX12_put RX12 3 T n1 n2 (mk r R)) : Wp X cX12_put RX12 3 T (mk m R) n1 n2 0 [(0, .ref 56), (1, .int x1)] [] := by
  unfold F_X12_put at hf
  refine Wp.bipush (pc := 0) (24 : Int32) (by decide) dX12_put_0 ?_
  refine Wp.istore_n (pc := 2) (lo' := [(0, .ref 56), (1, .int x1), (2, .int (24 : Int32))]) [1, 2, 0] rfl (by decide) rfl dX12_put_2 ?_
  obtain ⟨e1, h2, hf⟩ := bnd hf
  refine wl_X12_put_3 hX hG h2 ?_
  cases hf
  exact hk _ _ dX12_put_36
theorem c_X12_put {T : List Dsc} {R : RM} {c e : Nat} {x1 : Int32} {m : M2} {r : M2} (hG : Geo T R c e) (hf : F_X12_put x1 m = some r) : Ct 1 yX12_put cX12_put 3 none T (mk m R) [.ref 56, .int x1] none (mk r R) := Ct.ofV (r := mk r R) (by decide +kernel) (Nat.le_of_ble_eq_true rfl) (fun X hX hk => w_X12_put hX hG hf hk)
theorem dX12_feed_0 : decode cX12_feed 0 = .ok (.aload_n 0, 1) := by decide +kernel
theorem dX12_feed_1 : decode cX12_feed 1 = .ok (.getfield 216, 3) := by decide +kernel
theorem dX12_feed_4 : decode cX12_feed 4 = .ok (.bipush 20, 2) := by decide +kernel
theorem dX12_feed_6 : decode cX12_feed 6 = .ok (.iadd, 1) := by decide +kernel
theorem dX12_feed_7 : decode cX12_feed 7 = .ok (.sipush 2000, 3) := by decide +kernel
theorem dX12_feed_10 : decode cX12_feed 10 = .ok (.if_icmp .le 5, 3) := by decide +kernel
theorem dX12_feed_13 : decode cX12_feed 13 = .ok (.iconst (-1), 1) := by decide +kernel
theorem dX12_feed_14 : decode cX12_feed 14 = .ok (.ireturn, 1) := by decide +kernel
theorem dX12_feed_15 : decode cX12_feed 15 = .ok (.aload_n 0, 1) := by decide +kernel
theorem dX12_feed_16 : decode cX12_feed 16 = .ok (.iload_n 1, 1) := by decide +kernel
theorem dX12_feed_17 : decode cX12_feed 17 = .ok (.invokevirtual 219, 3) := by decide +kernel
theorem dX12_feed_20 : decode cX12_feed 20 = .ok (.aload_n 0, 1) := by decide +kernel
theorem dX12_feed_21 : decode cX12_feed 21 = .ok (.iload_n 2, 1) := by decide +kernel
theorem dX12_feed_22 : decode cX12_feed 22 = .ok (.invokevirtual 219, 3) := by decide +kernel
theorem dX12_feed_25 : decode cX12_feed 25 = .ok (.aload_n 0, 1) := by decide +kernel
theorem dX12_feed_26 : decode cX12_feed 26 = .ok (.iload_n 3, 1) := by decide +kernel
theorem dX12_feed_27 : decode cX12_feed 27 = .ok (.invokevirtual 219, 3) := by decide +kernel
theorem dX12_feed_30 : decode cX12_feed 30 = .ok (.aload_n 0, 1) := by decide +kernel
theorem dX12_feed_31 : decode cX12_feed 31 = .ok (.iload 4, 2) := by decide +kernel
theorem dX12_feed_33 : decode cX12_feed 33 = .ok (.invokevirtual 219, 3) := by decide +kernel
theorem dX12_feed_36 : decode cX12_feed 36 = .ok (.aload_n 0, 1) := by decide +kernel
theorem dX12_feed_37 : decode cX12_feed 37 = .ok (.iload 5, 2) := by decide +kernel
theorem dX12_feed_39 : decode cX12_feed 39 = .ok (.invokevirtual 219, 3) := by decide +kernel
theorem dX12_feed_42 : decode cX12_feed 42 = .ok (.aload_n 0, 1) := by decide +kernel
theorem dX12_feed_43 : decode cX12_feed 43 = .ok (.getfield 216, 3) := by decide +kernel
theorem dX12_feed_46 : decode cX12_feed 46 = .ok (.ireturn, 1) := by decide +kernel
set_option maxHeartbeats 4000000 in
set_option maxRecDepth 100000 in
theorem w_X12_feed {X : CX} {T : List Dsc} {R : RM} {c e : Nat} {n1 n2 : Nat} {x1 : Int32} {x2 : Int32} {x3 : Int32} {x4 : Int32} {x5 : Int32} {m : M2} {r : (Int32 × M2)} (hX : XR X 2 n1 n2) (hG : Geo T R c e) (hf : F_X12_feed x1 x2 x3 x4 x5 m = some r) (hk : FnI X cX12_feed RX12 6 T n1 n2 (r.1, mk r.2 R)) : Wp X cX12_feed RX12 6 T (mk m R) n1 n2 0 [(0, .ref 56), (1, .int x1), (2, .int x2), (3, .int x3), (4, .int x4), (5, .int x5)] [] := by
  unfold F_X12_feed at hf
  refine Wp.aload_n (pc := 0) 0 rfl rfl dX12_feed_0 ?_
  refine Wp.getI2 (pc := 1) (hG.t 56 rfl) fk_RX12_216 rfl dX12_feed_1 ?_
  refine Wp.bipush (pc := 4) (20 : Int32) (by decide) dX12_feed_4 ?_
  refine Wp.iadd (pc := 6) dX12_feed_6 ?_
  refine Wp.sipush (pc := 7) (2000 : Int32) (by decide) dX12_feed_7 ?_
  refine Wp.icmp_le (pc := 10) 15 dX12_feed_10 (by decide) (fun hc1 => ?_) (fun hc1 => ?_)
  · rw [if_pos hc1] at hf
    refine Wp.aload_n (pc := 15) 0 rfl rfl dX12_feed_15 ?_
    refine Wp.iload_n (pc := 16) 1 rfl rfl dX12_feed_16 ?_
    obtain ⟨c2, h3, hf⟩ := bnd hf
    refine Wp.callVv (pc := 17) (st := []) (as := [.int x1]) (c_X12_put hG h3) ml_RX12_219 mv_X12_put mb_X12_put hX (Nat.le_of_ble_eq_true rfl) (by decide) rfl (hG.t 56 rfl) rfl (by simp) dX12_feed_17 rfl ?_
    refine Wp.aload_n (pc := 20) 0 rfl rfl dX12_feed_20 ?_
    refine Wp.iload_n (pc := 21) 2 rfl rfl dX12_feed_21 ?_
    obtain ⟨c4, h5, hf⟩ := bnd hf
    refine Wp.callVv (pc := 22) (st := []) (as := [.int x2]) (c_X12_put hG h5) ml_RX12_219 mv_X12_put mb_X12_put hX (Nat.le_of_ble_eq_true rfl) (by decide) rfl (hG.t 56 rfl) rfl (by simp) dX12_feed_22 rfl ?_
    refine Wp.aload_n (pc := 25) 0 rfl rfl dX12_feed_25 ?_
    refine Wp.iload_n (pc := 26) 3 rfl rfl dX12_feed_26 ?_
    obtain ⟨c6, h7, hf⟩ := bnd hf
    refine Wp.callVv (pc := 27) (st := []) (as := [.int x3]) (c_X12_put hG h7) ml_RX12_219 mv_X12_put mb_X12_put hX (Nat.le_of_ble_eq_true rfl) (by decide) rfl (hG.t 56 rfl) rfl (by simp) dX12_feed_27 rfl ?_
    refine Wp.aload_n (pc := 30) 0 rfl rfl dX12_feed_30 ?_
    refine Wp.iload (pc := 31) 4 rfl dX12_feed_31 ?_
    obtain ⟨c8, h9, hf⟩ := bnd hf
    refine Wp.callVv (pc := 33) (st := []) (as := [.int x4]) (c_X12_put hG h9) ml_RX12_219 mv_X12_put mb_X12_put hX (Nat.le_of_ble_eq_true rfl) (by decide) rfl (hG.t 56 rfl) rfl (by simp) dX12_feed_33 rfl ?_
    refine Wp.aload_n (pc := 36) 0 rfl rfl dX12_feed_36 ?_
    refine Wp.iload (pc := 37) 5 rfl dX12_feed_37 ?_
    obtain ⟨c10, h11, hf⟩ := bnd hf
    refine Wp.callVv (pc := 39) (st := []) (as := [.int x5]) (c_X12_put hG h11) ml_RX12_219 mv_X12_put mb_X12_put hX (Nat.le_of_ble_eq_true rfl) (by decide) rfl (hG.t 56 rfl) rfl (by simp) dX12_feed_39 rfl ?_
    refine Wp.aload_n (pc := 42) 0 rfl rfl dX12_feed_42 ?_
    refine Wp.getI2 (pc := 43) (hG.t 56 rfl) fk_RX12_216 rfl dX12_feed_43 ?_
    cases hf
    exact hk _ _ dX12_feed_46
  · rw [if_neg hc1] at hf
    refine Wp.iconst (pc := 13) (-1 : Int32) (by decide) dX12_feed_13 ?_
    cases hf
    exact hk _ _ dX12_feed_14
theorem c_X12_feed {T : List Dsc} {R : RM} {c e : Nat} {x1 : Int32} {x2 : Int32} {x3 : Int32} {x4 : Int32} {x5 : Int32} {m : M2} {r : (Int32 × M2)} (hG : Geo T R c e) (hf : F_X12_feed x1 x2 x3 x4 x5 m = some r) : Ct 2 yX12_feed cX12_feed 6 (some .int) T (mk m R) [.ref 56, .int x1, .int x2, .int x3, .int x4, .int x5] (some (.int r.1)) (mk r.2 R) := Ct.ofI (r := (r.1, mk r.2 R)) (by decide +kernel) (Nat.le_of_ble_eq_true rfl) (fun X hX hk => w_X12_feed hX hG hf hk)
theorem dX12_back_0 : decode cX12_back 0 = .ok (.iload_n 1, 1) := by decide +kernel
theorem dX12_back_1 : decode cX12_back 1 = .ok (.ifCond .lt 11, 3) := by decide +kernel
theorem dX12_back_4 : decode cX12_back 4 = .ok (.iload_n 1, 1) := by decide +kernel
theorem dX12_back_5 : decode cX12_back 5 = .ok (.aload_n 0, 1) := by decide +kernel
theorem dX12_back_6 : decode cX12_back 6 = .ok (.getfield 216, 3) := by decide +kernel
theorem dX12_back_9 : decode cX12_back 9 = .ok (.if_icmp .le 5, 3) := by decide +kernel
theorem dX12_back_12 : decode cX12_back 12 = .ok (.iconst (-1), 1) := by decide +kernel
theorem dX12_back_13 : decode cX12_back 13 = .ok (.ireturn, 1) := by decide +kernel
theorem dX12_back_14 : decode cX12_back 14 = .ok (.aload_n 0, 1) := by decide +kernel
theorem dX12_back_15 : decode cX12_back 15 = .ok (.dup, 1) := by decide +kernel
theorem dX12_back_16 : decode cX12_back 16 = .ok (.getfield 216, 3) := by decide +kernel
theorem dX12_back_19 : decode cX12_back 19 = .ok (.iload_n 1, 1) := by decide +kernel
theorem dX12_back_20 : decode cX12_back 20 = .ok (.isub, 1) := by decide +kernel
theorem dX12_back_21 : decode cX12_back 21 = .ok (.putfield 216, 3) := by decide +kernel
theorem dX12_back_24 : decode cX12_back 24 = .ok (.aload_n 0, 1) := by decide +kernel
theorem dX12_back_25 : decode cX12_back 25 = .ok (.getfield 216, 3) := by decide +kernel
theorem dX12_back_28 : decode cX12_back 28 = .ok (.ireturn, 1) := by decide +kernel
set_option maxHeartbeats 4000000 in
set_option maxRecDepth 100000 in
theorem w_X12_back_12 {X : CX} {T : List Dsc} {R : RM} {c e : Nat} {n1 n2 : Nat} {m : M2} {r : (Int32 × M2)} (hX : XR X 1 n1 n2) (hG : Geo T R c e) (hf : f_X12_back_12 m = some r) (hk : FnI X cX12_back RX12 2 T n1 n2 (r.1, mk r.2 R)) : Wp X cX12_back RX12 2 T (mk m R) n1 n2 12 [] [] := by
  unfold f_X12_back_12 at hf
  refine Wp.iconst (pc := 12) (-1 : Int32) (by decide) dX12_back_12 ?_
  cases hf
  exact hk _ _ dX12_back_13
set_option maxHeartbeats 4000000 in
set_option maxRecDepth 100000 in
theorem w_X12_back {X : CX} {T : List Dsc} {R : RM} {c e : Nat} {n1 n2 : Nat} {x1 : Int32} {m : M2} {r : (Int32 × M2)} (hX : XR X 1 n1 n2) (hG : Geo T R c e) (hf : F_X12_back x1 m = some r) (hk : FnI X cX12_back RX12 2 T n1 n2 (r.1, mk r.2 R)) : Wp X cX12_back RX12 2 T (mk m R) n1 n2 0 [(0, .ref 56), (1, .int x1)] [] := by
  unfold F_X12_back at hf
  refine Wp.iload_n (pc := 0) 1 rfl rfl dX12_back_0 ?_
  refine Wp.if_lt (pc := 1) 12 dX12_back_1 (by decide) (fun hc1 => ?_) (fun hc1 => ?_)
  · rw [if_pos hc1] at hf
    refine Wp.lo' (lo' := []) [] rfl ?_
    exact w_X12_back_12 hX hG hf hk
  · rw [if_neg hc1] at hf
    refine Wp.iload_n (pc := 4) 1 rfl rfl dX12_back_4 ?_
    refine Wp.aload_n (pc := 5) 0 rfl rfl dX12_back_5 ?_
    refine Wp.getI2 (pc := 6) (hG.t 56 rfl) fk_RX12_216 rfl dX12_back_6 ?_
    refine Wp.icmp_le (pc := 9) 14 dX12_back_9 (by decide) (fun hc2 => ?_) (fun hc2 => ?_)
    · rw [if_pos hc2] at hf
      refine Wp.aload_n (pc := 14) 0 rfl rfl dX12_back_14 ?_
      refine Wp.dup (pc := 15) rfl dX12_back_15 ?_
      refine Wp.getI2 (pc := 16) (hG.t 56 rfl) fk_RX12_216 rfl dX12_back_16 ?_
      refine Wp.iload_n (pc := 19) 1 rfl rfl dX12_back_19 ?_
      refine Wp.isub (pc := 20) dX12_back_20 ?_
      obtain ⟨m3, h4, hf⟩ := bnd hf
      refine Wp.ptI2 (pc := 21) h4 (hG.t 56 rfl) fk_RX12_216 ff_RX12_11_2 rfl dX12_back_21 ?_
      refine Wp.aload_n (pc := 24) 0 rfl rfl dX12_back_24 ?_
      refine Wp.getI2 (pc := 25) (hG.t 56 rfl) fk_RX12_216 rfl dX12_back_25 ?_
      cases hf
      exact hk _ _ dX12_back_28
    · rw [if_neg hc2] at hf
      refine Wp.lo' (lo' := []) [] rfl ?_
      exact w_X12_back_12 hX hG hf hk
theorem c_X12_back {T : List Dsc} {R : RM} {c e : Nat} {x1 : Int32} {m : M2} {r : (Int32 × M2)} (hG : Geo T R c e) (hf : F_X12_back x1 m = some r) : Ct 1 yX12_back cX12_back 2 (some .int) T (mk m R) [.ref 56, .int x1] (some (.int r.1)) (mk r.2 R) := Ct.ofI (r := (r.1, mk r.2 R)) (by decide +kernel) (Nat.le_of_ble_eq_true rfl) (fun X hX hk => w_X12_back hX hG hf hk)
theorem dX12_byteAt_0 : decode cX12_byteAt 0 = .ok (.iload_n 1, 1) := by decide +kernel
theorem dX12_byteAt_1 : decode cX12_byteAt 1 = .ok (.aload_n 0, 1) := by decide +kernel
theorem dX12_byteAt_2 : decode cX12_byteAt 2 = .ok (.getfield 223, 3) := by decide +kernel
theorem dX12_byteAt_5 : decode cX12_byteAt 5 = .ok (.if_icmp .ge 16, 3) := by decide +kernel
theorem dX12_byteAt_8 : decode cX12_byteAt 8 = .ok (.aload_n 0, 1) := by decide +kernel
theorem dX12_byteAt_9 : decode cX12_byteAt 9 = .ok (.getfield 17, 3) := by decide +kernel
theorem dX12_byteAt_12 : decode cX12_byteAt 12 = .ok (.iload_n 1, 1) := by decide +kernel
theorem dX12_byteAt_13 : decode cX12_byteAt 13 = .ok (.baload, 1) := by decide +kernel
theorem dX12_byteAt_14 : decode cX12_byteAt 14 = .ok (.sipush 255, 3) := by decide +kernel
theorem dX12_byteAt_17 : decode cX12_byteAt 17 = .ok (.iand, 1) := by decide +kernel
theorem dX12_byteAt_18 : decode cX12_byteAt 18 = .ok (.goto 4, 3) := by decide +kernel
theorem dX12_byteAt_21 : decode cX12_byteAt 21 = .ok (.iconst 0, 1) := by decide +kernel
theorem dX12_byteAt_22 : decode cX12_byteAt 22 = .ok (.ireturn, 1) := by decide +kernel
set_option maxHeartbeats 4000000 in
set_option maxRecDepth 100000 in
theorem w_X12_byteAt_22 {X : CX} {T : List Dsc} {R : RM} {c e : Nat} {n1 n2 : Nat} {s0 : Int32} {m : M2} {r : (Int32 × M2)} (hX : XR X 1 n1 n2) (hG : Geo T R c e) (hf : f_X12_byteAt_22 s0 m = some r) (hk : FnI X cX12_byteAt RX12 2 T n1 n2 (r.1, mk r.2 R)) : Wp X cX12_byteAt RX12 2 T (mk m R) n1 n2 22 [] [.int s0] := by
  unfold f_X12_byteAt_22 at hf
  cases hf
  exact hk _ _ dX12_byteAt_22
set_option maxHeartbeats 4000000 in
set_option maxRecDepth 100000 in
theorem w_X12_byteAt {X : CX} {T : List Dsc} {R : RM} {c e : Nat} {n1 n2 : Nat} {x1 : Int32} {m : M2} {r : (Int32 × M2)} (hX : XR X 1 n1 n2) (hG : Geo T R c e) (hf : F_X12_byteAt x1 m = some r) (hk : FnI X cX12_byteAt RX12 2 T n1 n2 (r.1, mk r.2 R)) : Wp X cX12_byteAt RX12 2 T (mk m R) n1 n2 0 [(0, .ref 56), (1, .int x1)] [] := by
  unfold F_X12_byteAt at hf
  refine Wp.iload_n (pc := 0) 1 rfl rfl dX12_byteAt_0 ?_
  refine Wp.aload_n (pc := 1) 0 rfl rfl dX12_byteAt_1 ?_
  refine Wp.getI2 (pc := 2) (hG.t 56 rfl) fk_RX12_223 rfl dX12_byteAt_2 ?_
  refine Wp.icmp_ge (pc := 5) 21 dX12_byteAt_5 (by decide) (fun hc1 => ?_) (fun hc1 => ?_)
  · rw [if_pos hc1] at hf
    refine Wp.iconst (pc := 21) (0 : Int32) (by decide) dX12_byteAt_21 ?_
    refine Wp.lo' (lo' := []) [] rfl ?_
    exact w_X12_byteAt_22 hX hG hf hk
  · rw [if_neg hc1] at hf
    refine Wp.aload_n (pc := 8) 0 rfl rfl dX12_byteAt_8 ?_
    refine Wp.getR2 (pc := 9) (hG.r 56 3 rfl) (hG.t 56 rfl) fk_RX12_17 rfl dX12_byteAt_9 ?_
    refine Wp.iload_n (pc := 12) 1 rfl rfl dX12_byteAt_12 ?_
    obtain ⟨v2, h3, hf⟩ := bnd hf
    refine Wp.bald2 (pc := 13) h3 (hG.a 58 2 rfl) dX12_byteAt_13 ?_
    refine Wp.sipush (pc := 14) (255 : Int32) (by decide) dX12_byteAt_14 ?_
    refine Wp.iand (pc := 17) dX12_byteAt_17 ?_
    refine Wp.goto (pc := 18) 22 dX12_byteAt_18 (by decide) ?_
    refine Wp.lo' (lo' := []) [] rfl ?_
    exact w_X12_byteAt_22 hX hG hf hk
theorem c_X12_byteAt {T : List Dsc} {R : RM} {c e : Nat} {x1 : Int32} {m : M2} {r : (Int32 × M2)} (hG : Geo T R c e) (hf : F_X12_byteAt x1 m = some r) : Ct 1 yX12_byteAt cX12_byteAt 2 (some .int) T (mk m R) [.ref 56, .int x1] (some (.int r.1)) (mk r.2 R) := Ct.ofI (r := (r.1, mk r.2 R)) (by decide +kernel) (Nat.le_of_ble_eq_true rfl) (fun X hX hk => w_X12_byteAt hX hG hf hk)
theorem dX12_isDigit_0 : decode cX12_isDigit 0 = .ok (.iload_n 0, 1) := by decide +kernel
theorem dX12_isDigit_1 : decode cX12_isDigit 1 = .ok (.bipush 48, 2) := by decide +kernel
theorem dX12_isDigit_3 : decode cX12_isDigit 3 = .ok (.if_icmp .lt 13, 3) := by decide +kernel
theorem dX12_isDigit_6 : decode cX12_isDigit 6 = .ok (.iload_n 0, 1) := by decide +kernel
theorem dX12_isDigit_7 : decode cX12_isDigit 7 = .ok (.bipush 57, 2) := by decide +kernel
theorem dX12_isDigit_9 : decode cX12_isDigit 9 = .ok (.if_icmp .gt 7, 3) := by decide +kernel
theorem dX12_isDigit_12 : decode cX12_isDigit 12 = .ok (.iconst 1, 1) := by decide +kernel
theorem dX12_isDigit_13 : decode cX12_isDigit 13 = .ok (.goto 4, 3) := by decide +kernel
theorem dX12_isDigit_16 : decode cX12_isDigit 16 = .ok (.iconst 0, 1) := by decide +kernel
theorem dX12_isDigit_17 : decode cX12_isDigit 17 = .ok (.ireturn, 1) := by decide +kernel
set_option maxHeartbeats 4000000 in
set_option maxRecDepth 100000 in
theorem w_X12_isDigit_17 {X : CX} {T : List Dsc} {R : RM} {c e : Nat} {n1 n2 : Nat} {s0 : Int32} {m : M2} {r : (Int32 × M2)} (hX : XR X 1 n1 n2) (hG : Geo T R c e) (hf : f_X12_isDigit_17 s0 m = some r) (hk : FnZ X cX12_isDigit RX12 1 T n1 n2 (r.1, mk r.2 R)) : Wp X cX12_isDigit RX12 1 T (mk m R) n1 n2 17 [] [.int s0] := by
  unfold f_X12_isDigit_17 at hf
  obtain ⟨v1, h2, hf⟩ := bnd hf
  refine Wp.zb' h2 (fun h2 => ?_)
  cases hf
  exact hk _ _ h2 dX12_isDigit_17
set_option maxHeartbeats 4000000 in
set_option maxRecDepth 100000 in
theorem w_X12_isDigit_16 {X : CX} {T : List Dsc} {R : RM} {c e : Nat} {n1 n2 : Nat} {m : M2} {r : (Int32 × M2)} (hX : XR X 1 n1 n2) (hG : Geo T R c e) (hf : f_X12_isDigit_16 m = some r) (hk : FnZ X cX12_isDigit RX12 1 T n1 n2 (r.1, mk r.2 R)) : Wp X cX12_isDigit RX12 1 T (mk m R) n1 n2 16 [] [] := by
  unfold f_X12_isDigit_16 at hf
  refine Wp.iconst (pc := 16) (0 : Int32) (by decide) dX12_isDigit_16 ?_
  exact w_X12_isDigit_17 hX hG hf hk
set_option maxHeartbeats 4000000 in
set_option maxRecDepth 100000 in
theorem w_X12_isDigit {X : CX} {T : List Dsc} {R : RM} {c e : Nat} {n1 n2 : Nat} {x0 : Int32} {m : M2} {r : (Int32 × M2)} (hX : XR X 1 n1 n2) (hG : Geo T R c e) (hf : F_X12_isDigit x0 m = some r) (hk : FnZ X cX12_isDigit RX12 1 T n1 n2 (r.1, mk r.2 R)) : Wp X cX12_isDigit RX12 1 T (mk m R) n1 n2 0 [(0, .int x0)] [] := by
  unfold F_X12_isDigit at hf
  refine Wp.iload_n (pc := 0) 0 rfl rfl dX12_isDigit_0 ?_
  refine Wp.bipush (pc := 1) (48 : Int32) (by decide) dX12_isDigit_1 ?_
  refine Wp.icmp_lt (pc := 3) 16 dX12_isDigit_3 (by decide) (fun hc1 => ?_) (fun hc1 => ?_)
  · rw [if_pos hc1] at hf
    refine Wp.lo' (lo' := []) [] rfl ?_
    exact w_X12_isDigit_16 hX hG hf hk
  · rw [if_neg hc1] at hf
    refine Wp.iload_n (pc := 6) 0 rfl rfl dX12_isDigit_6 ?_
    refine Wp.bipush (pc := 7) (57 : Int32) (by decide) dX12_isDigit_7 ?_
    refine Wp.icmp_gt (pc := 9) 16 dX12_isDigit_9 (by decide) (fun hc2 => ?_) (fun hc2 => ?_)
    · rw [if_pos hc2] at hf
      refine Wp.lo' (lo' := []) [] rfl ?_
      exact w_X12_isDigit_16 hX hG hf hk
    · rw [if_neg hc2] at hf
      refine Wp.iconst (pc := 12) (1 : Int32) (by decide) dX12_isDigit_12 ?_
      refine Wp.goto (pc := 13) 17 dX12_isDigit_13 (by decide) ?_
      refine Wp.lo' (lo' := []) [] rfl ?_
      exact w_X12_isDigit_17 hX hG hf hk
theorem c_X12_isDigit {T : List Dsc} {R : RM} {c e : Nat} {x0 : Int32} {m : M2} {r : (Int32 × M2)} (hG : Geo T R c e) (hf : F_X12_isDigit x0 m = some r) : Ct 1 yX12_isDigit cX12_isDigit 1 (some .boolean) T (mk m R) [.int x0] (some (.int r.1)) (mk r.2 R) := Ct.ofZ (r := (r.1, mk r.2 R)) (by decide +kernel) (Nat.le_of_ble_eq_true rfl) (fun X hX hk => w_X12_isDigit hX hG hf hk)
theorem dX12_isLetter_0 : decode cX12_isLetter 0 = .ok (.iload_n 0, 1) := by decide +kernel
theorem dX12_isLetter_1 : decode cX12_isLetter 1 = .ok (.bipush 97, 2) := by decide +kernel
theorem dX12_isLetter_3 : decode cX12_isLetter 3 = .ok (.if_icmp .lt 13, 3) := by decide +kernel
theorem dX12_isLetter_6 : decode cX12_isLetter 6 = .ok (.iload_n 0, 1) := by decide +kernel
theorem dX12_isLetter_7 : decode cX12_isLetter 7 = .ok (.bipush 122, 2) := by decide +kernel
theorem dX12_isLetter_9 : decode cX12_isLetter 9 = .ok (.if_icmp .gt 7, 3) := by decide +kernel
theorem dX12_isLetter_12 : decode cX12_isLetter 12 = .ok (.iconst 1, 1) := by decide +kernel
theorem dX12_isLetter_13 : decode cX12_isLetter 13 = .ok (.goto 4, 3) := by decide +kernel
theorem dX12_isLetter_16 : decode cX12_isLetter 16 = .ok (.iconst 0, 1) := by decide +kernel
theorem dX12_isLetter_17 : decode cX12_isLetter 17 = .ok (.ireturn, 1) := by decide +kernel
set_option maxHeartbeats 4000000 in
set_option maxRecDepth 100000 in
theorem w_X12_isLetter_17 {X : CX} {T : List Dsc} {R : RM} {c e : Nat} {n1 n2 : Nat} {s0 : Int32} {m : M2} {r : (Int32 × M2)} (hX : XR X 1 n1 n2) (hG : Geo T R c e) (hf : f_X12_isLetter_17 s0 m = some r) (hk : FnZ X cX12_isLetter RX12 1 T n1 n2 (r.1, mk r.2 R)) : Wp X cX12_isLetter RX12 1 T (mk m R) n1 n2 17 [] [.int s0] := by
  unfold f_X12_isLetter_17 at hf
  obtain ⟨v1, h2, hf⟩ := bnd hf
  refine Wp.zb' h2 (fun h2 => ?_)
  cases hf
  exact hk _ _ h2 dX12_isLetter_17
set_option maxHeartbeats 4000000 in
set_option maxRecDepth 100000 in
theorem w_X12_isLetter_16 {X : CX} {T : List Dsc} {R : RM} {c e : Nat} {n1 n2 : Nat} {m : M2} {r : (Int32 × M2)} (hX : XR X 1 n1 n2) (hG : Geo T R c e) (hf : f_X12_isLetter_16 m = some r) (hk : FnZ X cX12_isLetter RX12 1 T n1 n2 (r.1, mk r.2 R)) : Wp X cX12_isLetter RX12 1 T (mk m R) n1 n2 16 [] [] := by
  unfold f_X12_isLetter_16 at hf
  refine Wp.iconst (pc := 16) (0 : Int32) (by decide) dX12_isLetter_16 ?_
  exact w_X12_isLetter_17 hX hG hf hk
set_option maxHeartbeats 4000000 in
set_option maxRecDepth 100000 in
theorem w_X12_isLetter {X : CX} {T : List Dsc} {R : RM} {c e : Nat} {n1 n2 : Nat} {x0 : Int32} {m : M2} {r : (Int32 × M2)} (hX : XR X 1 n1 n2) (hG : Geo T R c e) (hf : F_X12_isLetter x0 m = some r) (hk : FnZ X cX12_isLetter RX12 1 T n1 n2 (r.1, mk r.2 R)) : Wp X cX12_isLetter RX12 1 T (mk m R) n1 n2 0 [(0, .int x0)] [] := by
  unfold F_X12_isLetter at hf
  refine Wp.iload_n (pc := 0) 0 rfl rfl dX12_isLetter_0 ?_
  refine Wp.bipush (pc := 1) (97 : Int32) (by decide) dX12_isLetter_1 ?_
  refine Wp.icmp_lt (pc := 3) 16 dX12_isLetter_3 (by decide) (fun hc1 => ?_) (fun hc1 => ?_)
  · rw [if_pos hc1] at hf
    refine Wp.lo' (lo' := []) [] rfl ?_
    exact w_X12_isLetter_16 hX hG hf hk
  · rw [if_neg hc1] at hf
    refine Wp.iload_n (pc := 6) 0 rfl rfl dX12_isLetter_6 ?_
    refine Wp.bipush (pc := 7) (122 : Int32) (by decide) dX12_isLetter_7 ?_
    refine Wp.icmp_gt (pc := 9) 16 dX12_isLetter_9 (by decide) (fun hc2 => ?_) (fun hc2 => ?_)
    · rw [if_pos hc2] at hf
      refine Wp.lo' (lo' := []) [] rfl ?_
      exact w_X12_isLetter_16 hX hG hf hk
    · rw [if_neg hc2] at hf
      refine Wp.iconst (pc := 12) (1 : Int32) (by decide) dX12_isLetter_12 ?_
      refine Wp.goto (pc := 13) 17 dX12_isLetter_13 (by decide) ?_
      refine Wp.lo' (lo' := []) [] rfl ?_
      exact w_X12_isLetter_17 hX hG hf hk
theorem c_X12_isLetter {T : List Dsc} {R : RM} {c e : Nat} {x0 : Int32} {m : M2} {r : (Int32 × M2)} (hG : Geo T R c e) (hf : F_X12_isLetter x0 m = some r) : Ct 1 yX12_isLetter cX12_isLetter 1 (some .boolean) T (mk m R) [.int x0] (some (.int r.1)) (mk r.2 R) := Ct.ofZ (r := (r.1, mk r.2 R)) (by decide +kernel) (Nat.le_of_ble_eq_true rfl) (fun X hX hk => w_X12_isLetter hX hG hf hk)
theorem dX12_appends_0 : decode cX12_appends 0 = .ok (.iload_n 2, 1) := by decide +kernel
theorem dX12_appends_1 : decode cX12_appends 1 = .ok (.ifCond .ne 7, 3) := by decide +kernel
theorem dX12_appends_4 : decode cX12_appends 4 = .ok (.lload_n 0, 1) := by decide +kernel
theorem dX12_appends_5 : decode cX12_appends 5 = .ok (.goto 16, 3) := by decide +kernel
theorem dX12_appends_8 : decode cX12_appends 8 = .ok (.ldc2_w 226, 3) := by decide +kernel
theorem dX12_appends_11 : decode cX12_appends 11 = .ok (.lload_n 0, 1) := by decide +kernel
theorem dX12_appends_12 : decode cX12_appends 12 = .ok (.lmul, 1) := by decide +kernel
theorem dX12_appends_13 : decode cX12_appends 13 = .ok (.iload_n 2, 1) := by decide +kernel
theorem dX12_appends_14 : decode cX12_appends 14 = .ok (.bipush 97, 2) := by decide +kernel
theorem dX12_appends_16 : decode cX12_appends 16 = .ok (.isub, 1) := by decide +kernel
theorem dX12_appends_17 : decode cX12_appends 17 = .ok (.iconst 1, 1) := by decide +kernel
theorem dX12_appends_18 : decode cX12_appends 18 = .ok (.iadd, 1) := by decide +kernel
theorem dX12_appends_19 : decode cX12_appends 19 = .ok (.i2l, 1) := by decide +kernel
theorem dX12_appends_20 : decode cX12_appends 20 = .ok (.ladd, 1) := by decide +kernel
theorem dX12_appends_21 : decode cX12_appends 21 = .ok (.lreturn, 1) := by decide +kernel
set_option maxHeartbeats 4000000 in
set_option maxRecDepth 100000 in
theorem w_X12_appends_21 {X : CX} {T : List Dsc} {R : RM} {c e : Nat} {n1 n2 : Nat} {s0 : Int64} {m : M2} {r : (Int64 × M2)} (hX : XR X 1 n1 n2) (hG : Geo T R c e) (hf : f_X12_appends_21 s0 m = some r) (hk : FnJ X cX12_appends RX12 3 T n1 n2 (r.1, mk r.2 R)) : Wp X cX12_appends RX12 3 T (mk m R) n1 n2 21 [] [.long s0] := by
  unfold f_X12_appends_21 at hf
  cases hf
  exact hk _ _ dX12_appends_21
set_option maxHeartbeats 4000000 in
set_option maxRecDepth 100000 in
theorem w_X12_appends {X : CX} {T : List Dsc} {R : RM} {c e : Nat} {n1 n2 : Nat} {x0 : Int64} {x2 : Int32} {m : M2} {r : (Int64 × M2)} (hX : XR X 1 n1 n2) (hG : Geo T R c e) (hf : F_X12_appends x0 x2 m = some r) (hk : FnJ X cX12_appends RX12 3 T n1 n2 (r.1, mk r.2 R)) : Wp X cX12_appends RX12 3 T (mk m R) n1 n2 0 [(0, .long x0), (2, .int x2)] [] := by
  unfold F_X12_appends at hf
  refine Wp.iload_n (pc := 0) 1 rfl rfl dX12_appends_0 ?_
  refine Wp.if_ne (pc := 1) 8 dX12_appends_1 (by decide) (fun hc1 => ?_) (fun hc1 => ?_)
  · rw [if_neg hc1] at hf
    refine Wp.ldc2 (pc := 8) (v := (27 : Int64)) (gw_tb 1041 (by decide +kernel) rfl) dX12_appends_8 ?_
    refine Wp.lload_n (pc := 11) 0 rfl rfl dX12_appends_11 ?_
    refine Wp.lmul (pc := 12) dX12_appends_12 ?_
    refine Wp.iload_n (pc := 13) 1 rfl rfl dX12_appends_13 ?_
    refine Wp.bipush (pc := 14) (97 : Int32) (by decide) dX12_appends_14 ?_
    refine Wp.isub (pc := 16) dX12_appends_16 ?_
    refine Wp.iconst (pc := 17) (1 : Int32) (by decide) dX12_appends_17 ?_
    refine Wp.iadd (pc := 18) dX12_appends_18 ?_
    refine Wp.i2l (pc := 19) dX12_appends_19 ?_
    refine Wp.ladd (pc := 20) dX12_appends_20 ?_
    refine Wp.lo' (lo' := []) [] rfl ?_
    exact w_X12_appends_21 hX hG hf hk
  · rw [if_pos hc1] at hf
    refine Wp.lload_n (pc := 4) 0 rfl rfl dX12_appends_4 ?_
    refine Wp.goto (pc := 5) 21 dX12_appends_5 (by decide) ?_
    refine Wp.lo' (lo' := []) [] rfl ?_
    exact w_X12_appends_21 hX hG hf hk
theorem c_X12_appends {T : List Dsc} {R : RM} {c e : Nat} {x0 : Int64} {x2 : Int32} {m : M2} {r : (Int64 × M2)} (hG : Geo T R c e) (hf : F_X12_appends x0 x2 m = some r) : Ct 1 yX12_appends cX12_appends 3 (some .long) T (mk m R) [.long x0, .int x2] (some (.long r.1)) (mk r.2 R) := Ct.ofJ (r := (r.1, mk r.2 R)) (by decide +kernel) (Nat.le_of_ble_eq_true rfl) (fun X hX hk => w_X12_appends hX hG hf hk)
theorem dX12_word_0 : decode cX12_word 0 = .ok (.lconst 0, 1) := by decide +kernel
theorem dX12_word_1 : decode cX12_word 1 = .ok (.iload_n 0, 1) := by decide +kernel
theorem dX12_word_2 : decode cX12_word 2 = .ok (.invokestatic 228, 3) := by decide +kernel
theorem dX12_word_5 : decode cX12_word 5 = .ok (.iload_n 1, 1) := by decide +kernel
theorem dX12_word_6 : decode cX12_word 6 = .ok (.invokestatic 228, 3) := by decide +kernel
theorem dX12_word_9 : decode cX12_word 9 = .ok (.iload_n 2, 1) := by decide +kernel
theorem dX12_word_10 : decode cX12_word 10 = .ok (.invokestatic 228, 3) := by decide +kernel
theorem dX12_word_13 : decode cX12_word 13 = .ok (.iload_n 3, 1) := by decide +kernel
theorem dX12_word_14 : decode cX12_word 14 = .ok (.invokestatic 228, 3) := by decide +kernel
theorem dX12_word_17 : decode cX12_word 17 = .ok (.iload 4, 2) := by decide +kernel
theorem dX12_word_19 : decode cX12_word 19 = .ok (.invokestatic 228, 3) := by decide +kernel
theorem dX12_word_22 : decode cX12_word 22 = .ok (.iload 5, 2) := by decide +kernel
theorem dX12_word_24 : decode cX12_word 24 = .ok (.invokestatic 228, 3) := by decide +kernel
theorem dX12_word_27 : decode cX12_word 27 = .ok (.iload 6, 2) := by decide +kernel
theorem dX12_word_29 : decode cX12_word 29 = .ok (.invokestatic 228, 3) := by decide +kernel
theorem dX12_word_32 : decode cX12_word 32 = .ok (.lreturn, 1) := by decide +kernel
set_option maxHeartbeats 4000000 in
set_option maxRecDepth 100000 in
theorem w_X12_word {X : CX} {T : List Dsc} {R : RM} {c e : Nat} {n1 n2 : Nat} {x0 : Int32} {x1 : Int32} {x2 : Int32} {x3 : Int32} {x4 : Int32} {x5 : Int32} {x6 : Int32} {m : M2} {r : (Int64 × M2)} (hX : XR X 2 n1 n2) (hG : Geo T R c e) (hf : F_X12_word x0 x1 x2 x3 x4 x5 x6 m = some r) (hk : FnJ X cX12_word RX12 7 T n1 n2 (r.1, mk r.2 R)) : Wp X cX12_word RX12 7 T (mk m R) n1 n2 0 [(0, .int x0), (1, .int x1), (2, .int x2), (3, .int x3), (4, .int x4), (5, .int x5), (6, .int x6)] [] := by
  unfold F_X12_word at hf
  refine Wp.lconst (pc := 0) (0 : Int64) (by decide) dX12_word_0 ?_
  refine Wp.iload_n (pc := 1) 0 rfl rfl dX12_word_1 ?_
  obtain ⟨c1, h2, hf⟩ := bnd hf
  refine Wp.callSl (pc := 2) (st := []) (as := [.long (0 : Int64), .int x0]) (c_X12_appends hG h2) ml_RX12_228 ms_X12_appends mb_X12_appends hX (Nat.le_of_ble_eq_true rfl) (by decide) rfl (by simp) dX12_word_2 rfl ?_
  refine Wp.iload_n (pc := 5) 1 rfl rfl dX12_word_5 ?_
  obtain ⟨c3, h4, hf⟩ := bnd hf
  refine Wp.callSl (pc := 6) (st := []) (as := [.long c1.1, .int x1]) (c_X12_appends hG h4) ml_RX12_228 ms_X12_appends mb_X12_appends hX (Nat.le_of_ble_eq_true rfl) (by decide) rfl (by simp) dX12_word_6 rfl ?_
  refine Wp.iload_n (pc := 9) 2 rfl rfl dX12_word_9 ?_
  obtain ⟨c5, h6, hf⟩ := bnd hf
  refine Wp.callSl (pc := 10) (st := []) (as := [.long c3.1, .int x2]) (c_X12_appends hG h6) ml_RX12_228 ms_X12_appends mb_X12_appends hX (Nat.le_of_ble_eq_true rfl) (by decide) rfl (by simp) dX12_word_10 rfl ?_
  refine Wp.iload_n (pc := 13) 3 rfl rfl dX12_word_13 ?_
  obtain ⟨c7, h8, hf⟩ := bnd hf
  refine Wp.callSl (pc := 14) (st := []) (as := [.long c5.1, .int x3]) (c_X12_appends hG h8) ml_RX12_228 ms_X12_appends mb_X12_appends hX (Nat.le_of_ble_eq_true rfl) (by decide) rfl (by simp) dX12_word_14 rfl ?_
  refine Wp.iload (pc := 17) 4 rfl dX12_word_17 ?_
  obtain ⟨c9, h10, hf⟩ := bnd hf
  refine Wp.callSl (pc := 19) (st := []) (as := [.long c7.1, .int x4]) (c_X12_appends hG h10) ml_RX12_228 ms_X12_appends mb_X12_appends hX (Nat.le_of_ble_eq_true rfl) (by decide) rfl (by simp) dX12_word_19 rfl ?_
  refine Wp.iload (pc := 22) 5 rfl dX12_word_22 ?_
  obtain ⟨c11, h12, hf⟩ := bnd hf
  refine Wp.callSl (pc := 24) (st := []) (as := [.long c9.1, .int x5]) (c_X12_appends hG h12) ml_RX12_228 ms_X12_appends mb_X12_appends hX (Nat.le_of_ble_eq_true rfl) (by decide) rfl (by simp) dX12_word_24 rfl ?_
  refine Wp.iload (pc := 27) 6 rfl dX12_word_27 ?_
  obtain ⟨c13, h14, hf⟩ := bnd hf
  refine Wp.callSl (pc := 29) (st := []) (as := [.long c11.1, .int x6]) (c_X12_appends hG h14) ml_RX12_228 ms_X12_appends mb_X12_appends hX (Nat.le_of_ble_eq_true rfl) (by decide) rfl (by simp) dX12_word_29 rfl ?_
  cases hf
  exact hk _ _ dX12_word_32
theorem c_X12_word {T : List Dsc} {R : RM} {c e : Nat} {x0 : Int32} {x1 : Int32} {x2 : Int32} {x3 : Int32} {x4 : Int32} {x5 : Int32} {x6 : Int32} {m : M2} {r : (Int64 × M2)} (hG : Geo T R c e) (hf : F_X12_word x0 x1 x2 x3 x4 x5 x6 m = some r) : Ct 2 yX12_word cX12_word 7 (some .long) T (mk m R) [.int x0, .int x1, .int x2, .int x3, .int x4, .int x5, .int x6] (some (.long r.1)) (mk r.2 R) := Ct.ofJ (r := (r.1, mk r.2 R)) (by decide +kernel) (Nat.le_of_ble_eq_true rfl) (fun X hX hk => w_X12_word hX hG hf hk)
theorem dX12_token_0 : decode cX12_token 0 = .ok (.aload_n 0, 1) := by decide +kernel
theorem dX12_token_1 : decode cX12_token 1 = .ok (.getfield 20, 3) := by decide +kernel
theorem dX12_token_4 : decode cX12_token 4 = .ok (.aload_n 0, 1) := by decide +kernel
theorem dX12_token_5 : decode cX12_token 5 = .ok (.getfield 232, 3) := by decide +kernel
theorem dX12_token_8 : decode cX12_token 8 = .ok (.iload_n 1, 1) := by decide +kernel
theorem dX12_token_9 : decode cX12_token 9 = .ok (.iastore, 1) := by decide +kernel
theorem dX12_token_10 : decode cX12_token 10 = .ok (.aload_n 0, 1) := by decide +kernel
theorem dX12_token_11 : decode cX12_token 11 = .ok (.getfield 24, 3) := by decide +kernel
theorem dX12_token_14 : decode cX12_token 14 = .ok (.aload_n 0, 1) := by decide +kernel
theorem dX12_token_15 : decode cX12_token 15 = .ok (.getfield 232, 3) := by decide +kernel
theorem dX12_token_18 : decode cX12_token 18 = .ok (.iload_n 2, 1) := by decide +kernel
theorem dX12_token_19 : decode cX12_token 19 = .ok (.iastore, 1) := by decide +kernel
theorem dX12_token_20 : decode cX12_token 20 = .ok (.aload_n 0, 1) := by decide +kernel
theorem dX12_token_21 : decode cX12_token 21 = .ok (.getfield 27, 3) := by decide +kernel
theorem dX12_token_24 : decode cX12_token 24 = .ok (.aload_n 0, 1) := by decide +kernel
theorem dX12_token_25 : decode cX12_token 25 = .ok (.getfield 232, 3) := by decide +kernel
theorem dX12_token_28 : decode cX12_token 28 = .ok (.iload_n 3, 1) := by decide +kernel
theorem dX12_token_29 : decode cX12_token 29 = .ok (.iastore, 1) := by decide +kernel
theorem dX12_token_30 : decode cX12_token 30 = .ok (.aload_n 0, 1) := by decide +kernel
theorem dX12_token_31 : decode cX12_token 31 = .ok (.getfield 30, 3) := by decide +kernel
theorem dX12_token_34 : decode cX12_token 34 = .ok (.aload_n 0, 1) := by decide +kernel
theorem dX12_token_35 : decode cX12_token 35 = .ok (.getfield 232, 3) := by decide +kernel
theorem dX12_token_38 : decode cX12_token 38 = .ok (.lload 4, 2) := by decide +kernel
theorem dX12_token_40 : decode cX12_token 40 = .ok (.lastore, 1) := by decide +kernel
theorem dX12_token_41 : decode cX12_token 41 = .ok (.aload_n 0, 1) := by decide +kernel
theorem dX12_token_42 : decode cX12_token 42 = .ok (.dup, 1) := by decide +kernel
theorem dX12_token_43 : decode cX12_token 43 = .ok (.getfield 232, 3) := by decide +kernel
theorem dX12_token_46 : decode cX12_token 46 = .ok (.iconst 1, 1) := by decide +kernel
theorem dX12_token_47 : decode cX12_token 47 = .ok (.iadd, 1) := by decide +kernel
theorem dX12_token_48 : decode cX12_token 48 = .ok (.putfield 232, 3) := by decide +kernel
theorem dX12_token_51 : decode cX12_token 51 = .ok (.return_, 1) := by decide +kernel
set_option maxHeartbeats 4000000 in
set_option maxRecDepth 100000 in
theorem w_X12_token {X : CX} {T : List Dsc} {R : RM} {c e : Nat} {n1 n2 : Nat} {x1 : Int32} {x2 : Int32} {x3 : Int32} {x4 : Int64} {m : M2} {r : M2} (hX : XR X 1 n1 n2) (hG : Geo T R c e) (hf : F_X12_token x1 x2 x3 x4 m = some r) (hk : FnV X cX12_token RX12 6 T n1 n2 (mk r R)) : Wp X cX12_token RX12 6 T (mk m R) n1 n2 0 [(0, .ref 56), (1, .int x1), (2, .int x2), (3, .int x3), (4, .long x4)] [] := by
  unfold F_X12_token at hf
  refine Wp.aload_n (pc := 0) 0 rfl rfl dX12_token_0 ?_
  refine Wp.getR2 (pc := 1) (hG.r 56 5 rfl) (hG.t 56 rfl) fk_RX12_20 rfl dX12_token_1 ?_
  refine Wp.aload_n (pc := 4) 0 rfl rfl dX12_token_4 ?_
  refine Wp.getI2 (pc := 5) (hG.t 56 rfl) fk_RX12_232 rfl dX12_token_5 ?_
  refine Wp.iload_n (pc := 8) 1 rfl rfl dX12_token_8 ?_
  obtain ⟨m1, h2, hf⟩ := bnd hf
  refine Wp.iast2 (pc := 9) h2 (hG.a 59 0 rfl) dX12_token_9 ?_
  refine Wp.aload_n (pc := 10) 0 rfl rfl dX12_token_10 ?_
  refine Wp.getR2 (pc := 11) (hG.r 56 6 rfl) (hG.t 56 rfl) fk_RX12_24 rfl dX12_token_11 ?_
  refine Wp.aload_n (pc := 14) 0 rfl rfl dX12_token_14 ?_
  refine Wp.getI2 (pc := 15) (hG.t 56 rfl) fk_RX12_232 rfl dX12_token_15 ?_
  refine Wp.iload_n (pc := 18) 2 rfl rfl dX12_token_18 ?_
  obtain ⟨m3, h4, hf⟩ := bnd hf
  refine Wp.iast2 (pc := 19) h4 (hG.a 60 0 rfl) dX12_token_19 ?_
  refine Wp.aload_n (pc := 20) 0 rfl rfl dX12_token_20 ?_
  refine Wp.getR2 (pc := 21) (hG.r 56 7 rfl) (hG.t 56 rfl) fk_RX12_27 rfl dX12_token_21 ?_
  refine Wp.aload_n (pc := 24) 0 rfl rfl dX12_token_24 ?_
  refine Wp.getI2 (pc := 25) (hG.t 56 rfl) fk_RX12_232 rfl dX12_token_25 ?_
  refine Wp.iload_n (pc := 28) 3 rfl rfl dX12_token_28 ?_
  obtain ⟨m5, h6, hf⟩ := bnd hf
  refine Wp.iast2 (pc := 29) h6 (hG.a 61 0 rfl) dX12_token_29 ?_
  refine Wp.aload_n (pc := 30) 0 rfl rfl dX12_token_30 ?_
  refine Wp.getR2 (pc := 31) (hG.r 56 8 rfl) (hG.t 56 rfl) fk_RX12_30 rfl dX12_token_31 ?_
  refine Wp.aload_n (pc := 34) 0 rfl rfl dX12_token_34 ?_
  refine Wp.getI2 (pc := 35) (hG.t 56 rfl) fk_RX12_232 rfl dX12_token_35 ?_
  refine Wp.lload (pc := 38) 4 rfl dX12_token_38 ?_
  obtain ⟨m7, h8, hf⟩ := bnd hf
  refine Wp.last2 (pc := 40) h8 (hG.a 62 1 rfl) dX12_token_40 ?_
  refine Wp.aload_n (pc := 41) 0 rfl rfl dX12_token_41 ?_
  refine Wp.dup (pc := 42) rfl dX12_token_42 ?_
  refine Wp.getI2 (pc := 43) (hG.t 56 rfl) fk_RX12_232 rfl dX12_token_43 ?_
  refine Wp.iconst (pc := 46) (1 : Int32) (by decide) dX12_token_46 ?_
  refine Wp.iadd (pc := 47) dX12_token_47 ?_
  obtain ⟨m9, h10, hf⟩ := bnd hf
  refine Wp.ptI2 (pc := 48) h10 (hG.t 56 rfl) fk_RX12_232 ff_RX12_11_10 rfl dX12_token_48 ?_
  cases hf
  exact hk _ _ dX12_token_51
theorem c_X12_token {T : List Dsc} {R : RM} {c e : Nat} {x1 : Int32} {x2 : Int32} {x3 : Int32} {x4 : Int64} {m : M2} {r : M2} (hG : Geo T R c e) (hf : F_X12_token x1 x2 x3 x4 m = some r) : Ct 1 yX12_token cX12_token 6 none T (mk m R) [.ref 56, .int x1, .int x2, .int x3, .long x4] none (mk r R) := Ct.ofV (r := mk r R) (by decide +kernel) (Nat.le_of_ble_eq_true rfl) (fun X hX hk => w_X12_token hX hG hf hk)
theorem dX12_sign_0 : decode cX12_sign 0 = .ok (.iload_n 3, 1) := by decide +kernel
theorem dX12_sign_1 : decode cX12_sign 1 = .ok (.bipush 61, 2) := by decide +kernel
theorem dX12_sign_3 : decode cX12_sign 3 = .ok (.if_icmp .eq 7, 3) := by decide +kernel
theorem dX12_sign_6 : decode cX12_sign 6 = .ok (.iconst 0, 1) := by decide +kernel
theorem dX12_sign_7 : decode cX12_sign 7 = .ok (.goto 37, 3) := by decide +kernel
theorem dX12_sign_10 : decode cX12_sign 10 = .ok (.iload_n 2, 1) := by decide +kernel
theorem dX12_sign_11 : decode cX12_sign 11 = .ok (.bipush 61, 2) := by decide +kernel
theorem dX12_sign_13 : decode cX12_sign 13 = .ok (.if_icmp .ne 8, 3) := by decide +kernel
theorem dX12_sign_16 : decode cX12_sign 16 = .ok (.bipush 11, 2) := by decide +kernel
theorem dX12_sign_18 : decode cX12_sign 18 = .ok (.goto 26, 3) := by decide +kernel
theorem dX12_sign_21 : decode cX12_sign 21 = .ok (.iload_n 2, 1) := by decide +kernel
theorem dX12_sign_22 : decode cX12_sign 22 = .ok (.bipush 33, 2) := by decide +kernel
theorem dX12_sign_24 : decode cX12_sign 24 = .ok (.if_icmp .ne 8, 3) := by decide +kernel
theorem dX12_sign_27 : decode cX12_sign 27 = .ok (.bipush 12, 2) := by decide +kernel
theorem dX12_sign_29 : decode cX12_sign 29 = .ok (.goto 15, 3) := by decide +kernel
theorem dX12_sign_32 : decode cX12_sign 32 = .ok (.iload_n 2, 1) := by decide +kernel
theorem dX12_sign_33 : decode cX12_sign 33 = .ok (.bipush 60, 2) := by decide +kernel
theorem dX12_sign_35 : decode cX12_sign 35 = .ok (.if_icmp .ne 8, 3) := by decide +kernel
theorem dX12_sign_38 : decode cX12_sign 38 = .ok (.bipush 14, 2) := by decide +kernel
theorem dX12_sign_40 : decode cX12_sign 40 = .ok (.goto 4, 3) := by decide +kernel
theorem dX12_sign_43 : decode cX12_sign 43 = .ok (.iconst 0, 1) := by decide +kernel
theorem dX12_sign_44 : decode cX12_sign 44 = .ok (.istore 4, 2) := by decide +kernel
theorem dX12_sign_46 : decode cX12_sign 46 = .ok (.iconst 3, 1) := by decide +kernel
theorem dX12_sign_47 : decode cX12_sign 47 = .ok (.istore 5, 2) := by decide +kernel
theorem dX12_sign_49 : decode cX12_sign 49 = .ok (.iload 4, 2) := by decide +kernel
theorem dX12_sign_51 : decode cX12_sign 51 = .ok (.ifCond .le 10, 3) := by decide +kernel
theorem dX12_sign_54 : decode cX12_sign 54 = .ok (.iload 4, 2) := by decide +kernel
theorem dX12_sign_56 : decode cX12_sign 56 = .ok (.istore 5, 2) := by decide +kernel
theorem dX12_sign_58 : decode cX12_sign 58 = .ok (.goto 128, 3) := by decide +kernel
theorem dX12_sign_61 : decode cX12_sign 61 = .ok (.iload_n 2, 1) := by decide +kernel
theorem dX12_sign_62 : decode cX12_sign 62 = .ok (.bipush 59, 2) := by decide +kernel
theorem dX12_sign_64 : decode cX12_sign 64 = .ok (.if_icmp .ne 9, 3) := by decide +kernel
theorem dX12_sign_67 : decode cX12_sign 67 = .ok (.iconst 4, 1) := by decide +kernel
theorem dX12_sign_68 : decode cX12_sign 68 = .ok (.istore 5, 2) := by decide +kernel
theorem dX12_sign_70 : decode cX12_sign 70 = .ok (.goto 116, 3) := by decide +kernel
theorem dX12_sign_73 : decode cX12_sign 73 = .ok (.iload_n 2, 1) := by decide +kernel
theorem dX12_sign_74 : decode cX12_sign 74 = .ok (.bipush 40, 2) := by decide +kernel
theorem dX12_sign_76 : decode cX12_sign 76 = .ok (.if_icmp .ne 10, 3) := by decide +kernel
theorem dX12_sign_79 : decode cX12_sign 79 = .ok (.bipush 6, 2) := by decide +kernel
theorem dX12_sign_81 : decode cX12_sign 81 = .ok (.istore 5, 2) := by decide +kernel
theorem dX12_sign_83 : decode cX12_sign 83 = .ok (.goto 103, 3) := by decide +kernel
theorem dX12_sign_86 : decode cX12_sign 86 = .ok (.iload_n 2, 1) := by decide +kernel
theorem dX12_sign_87 : decode cX12_sign 87 = .ok (.bipush 41, 2) := by decide +kernel
theorem dX12_sign_89 : decode cX12_sign 89 = .ok (.if_icmp .ne 10, 3) := by decide +kernel
theorem dX12_sign_92 : decode cX12_sign 92 = .ok (.bipush 7, 2) := by decide +kernel
theorem dX12_sign_94 : decode cX12_sign 94 = .ok (.istore 5, 2) := by decide +kernel
theorem dX12_sign_96 : decode cX12_sign 96 = .ok (.goto 90, 3) := by decide +kernel
theorem dX12_sign_99 : decode cX12_sign 99 = .ok (.iload_n 2, 1) := by decide +kernel
theorem dX12_sign_100 : decode cX12_sign 100 = .ok (.bipush 43, 2) := by decide +kernel
theorem dX12_sign_102 : decode cX12_sign 102 = .ok (.if_icmp .ne 10, 3) := by decide +kernel
theorem dX12_sign_105 : decode cX12_sign 105 = .ok (.bipush 8, 2) := by decide +kernel
theorem dX12_sign_107 : decode cX12_sign 107 = .ok (.istore 5, 2) := by decide +kernel
theorem dX12_sign_109 : decode cX12_sign 109 = .ok (.goto 77, 3) := by decide +kernel
theorem dX12_sign_112 : decode cX12_sign 112 = .ok (.iload_n 2, 1) := by decide +kernel
theorem dX12_sign_113 : decode cX12_sign 113 = .ok (.bipush 45, 2) := by decide +kernel
theorem dX12_sign_115 : decode cX12_sign 115 = .ok (.if_icmp .ne 10, 3) := by decide +kernel
theorem dX12_sign_118 : decode cX12_sign 118 = .ok (.bipush 9, 2) := by decide +kernel
theorem dX12_sign_120 : decode cX12_sign 120 = .ok (.istore 5, 2) := by decide +kernel
theorem dX12_sign_122 : decode cX12_sign 122 = .ok (.goto 64, 3) := by decide +kernel
theorem dX12_sign_125 : decode cX12_sign 125 = .ok (.iload_n 2, 1) := by decide +kernel
theorem dX12_sign_126 : decode cX12_sign 126 = .ok (.bipush 42, 2) := by decide +kernel
theorem dX12_sign_128 : decode cX12_sign 128 = .ok (.if_icmp .ne 10, 3) := by decide +kernel
theorem dX12_sign_131 : decode cX12_sign 131 = .ok (.bipush 10, 2) := by decide +kernel
theorem dX12_sign_133 : decode cX12_sign 133 = .ok (.istore 5, 2) := by decide +kernel
theorem dX12_sign_135 : decode cX12_sign 135 = .ok (.goto 51, 3) := by decide +kernel
theorem dX12_sign_138 : decode cX12_sign 138 = .ok (.iload_n 2, 1) := by decide +kernel
theorem dX12_sign_139 : decode cX12_sign 139 = .ok (.bipush 60, 2) := by decide +kernel
theorem dX12_sign_141 : decode cX12_sign 141 = .ok (.if_icmp .ne 10, 3) := by decide +kernel
theorem dX12_sign_144 : decode cX12_sign 144 = .ok (.bipush 13, 2) := by decide +kernel
theorem dX12_sign_146 : decode cX12_sign 146 = .ok (.istore 5, 2) := by decide +kernel
theorem dX12_sign_148 : decode cX12_sign 148 = .ok (.goto 38, 3) := by decide +kernel
theorem dX12_sign_151 : decode cX12_sign 151 = .ok (.iload_n 2, 1) := by decide +kernel
theorem dX12_sign_152 : decode cX12_sign 152 = .ok (.bipush 47, 2) := by decide +kernel
theorem dX12_sign_154 : decode cX12_sign 154 = .ok (.if_icmp .ne 10, 3) := by decide +kernel
theorem dX12_sign_157 : decode cX12_sign 157 = .ok (.bipush 15, 2) := by decide +kernel
theorem dX12_sign_159 : decode cX12_sign 159 = .ok (.istore 5, 2) := by decide +kernel
theorem dX12_sign_161 : decode cX12_sign 161 = .ok (.goto 25, 3) := by decide +kernel
theorem dX12_sign_164 : decode cX12_sign 164 = .ok (.iload_n 2, 1) := by decide +kernel
theorem dX12_sign_165 : decode cX12_sign 165 = .ok (.bipush 44, 2) := by decide +kernel
theorem dX12_sign_167 : decode cX12_sign 167 = .ok (.if_icmp .ne 10, 3) := by decide +kernel
theorem dX12_sign_170 : decode cX12_sign 170 = .ok (.bipush 16, 2) := by decide +kernel
theorem dX12_sign_172 : decode cX12_sign 172 = .ok (.istore 5, 2) := by decide +kernel
theorem dX12_sign_174 : decode cX12_sign 174 = .ok (.goto 12, 3) := by decide +kernel
theorem dX12_sign_177 : decode cX12_sign 177 = .ok (.iload_n 2, 1) := by decide +kernel
theorem dX12_sign_178 : decode cX12_sign 178 = .ok (.bipush 61, 2) := by decide +kernel
theorem dX12_sign_180 : decode cX12_sign 180 = .ok (.if_icmp .ne 6, 3) := by decide +kernel
theorem dX12_sign_183 : decode cX12_sign 183 = .ok (.iconst 5, 1) := by decide +kernel
theorem dX12_sign_184 : decode cX12_sign 184 = .ok (.istore 5, 2) := by decide +kernel
theorem dX12_sign_186 : decode cX12_sign 186 = .ok (.aload_n 0, 1) := by decide +kernel
theorem dX12_sign_187 : decode cX12_sign 187 = .ok (.iload 5, 2) := by decide +kernel
theorem dX12_sign_189 : decode cX12_sign 189 = .ok (.iload_n 1, 1) := by decide +kernel
theorem dX12_sign_190 : decode cX12_sign 190 = .ok (.iconst 0, 1) := by decide +kernel
theorem dX12_sign_191 : decode cX12_sign 191 = .ok (.lconst 0, 1) := by decide +kernel
theorem dX12_sign_192 : decode cX12_sign 192 = .ok (.invokevirtual 239, 3) := by decide +kernel
theorem dX12_sign_195 : decode cX12_sign 195 = .ok (.iload 4, 2) := by decide +kernel
theorem dX12_sign_197 : decode cX12_sign 197 = .ok (.ifCond .le 7, 3) := by decide +kernel
theorem dX12_sign_200 : decode cX12_sign 200 = .ok (.iconst 2, 1) := by decide +kernel
theorem dX12_sign_201 : decode cX12_sign 201 = .ok (.goto 4, 3) := by decide +kernel
theorem dX12_sign_204 : decode cX12_sign 204 = .ok (.iconst 1, 1) := by decide +kernel
theorem dX12_sign_205 : decode cX12_sign 205 = .ok (.ireturn, 1) := by decide +kernel
set_option maxHeartbeats 4000000 in
set_option maxRecDepth 100000 in
theorem w_X12_sign_205 {X : CX} {T : List Dsc} {R : RM} {c e : Nat} {n1 n2 : Nat} {s0 : Int32} {m : M2} {r : (Int32 × M2)} (hX : XR X 2 n1 n2) (hG : Geo T R c e) (hf : f_X12_sign_205 s0 m = some r) (hk : FnI X cX12_sign RX12 6 T n1 n2 (r.1, mk r.2 R)) : Wp X cX12_sign RX12 6 T (mk m R) n1 n2 205 [] [.int s0] := by
  unfold f_X12_sign_205 at hf
  cases hf
  exact hk _ _ dX12_sign_205
set_option maxHeartbeats 4000000 in
set_option maxRecDepth 100000 in
theorem w_X12_sign_186 {X : CX} {T : List Dsc} {R : RM} {c e : Nat} {n1 n2 : Nat} {x1 : Int32} {x4 : Int32} {x5 : Int32} {m : M2} {r : (Int32 × M2)} (hX : XR X 2 n1 n2) (hG : Geo T R c e) (hf : f_X12_sign_186 x1 x4 x5 m = some r) (hk : FnI X cX12_sign RX12 6 T n1 n2 (r.1, mk r.2 R)) : Wp X cX12_sign RX12 6 T (mk m R) n1 n2 186 [(0, .ref 56), (1, .int x1), (4, .int x4), (5, .int x5)] [] := by
  unfold f_X12_sign_186 at hf
  refine Wp.aload_n (pc := 186) 0 rfl rfl dX12_sign_186 ?_
  refine Wp.iload (pc := 187) 3 rfl dX12_sign_187 ?_
  refine Wp.iload_n (pc := 189) 1 rfl rfl dX12_sign_189 ?_
  refine Wp.iconst (pc := 190) (0 : Int32) (by decide) dX12_sign_190 ?_
  refine Wp.lconst (pc := 191) (0 : Int64) (by decide) dX12_sign_191 ?_
  obtain ⟨c1, h2, hf⟩ := bnd hf
  refine Wp.callVv (pc := 192) (st := []) (as := [.int x5, .int x1, .int (0 : Int32), .long (0 : Int64)]) (c_X12_token hG h2) ml_RX12_239 mv_X12_token mb_X12_token hX (Nat.le_of_ble_eq_true rfl) (by decide) rfl (hG.t 56 rfl) rfl (by simp) dX12_sign_192 rfl ?_
  refine Wp.iload (pc := 195) 2 rfl dX12_sign_195 ?_
  refine Wp.if_le (pc := 197) 204 dX12_sign_197 (by decide) (fun hc3 => ?_) (fun hc3 => ?_)
  · rw [if_pos hc3] at hf
    refine Wp.iconst (pc := 204) (1 : Int32) (by decide) dX12_sign_204 ?_
    refine Wp.lo' (lo' := []) [] rfl ?_
    exact w_X12_sign_205 hX hG hf hk
  · rw [if_neg hc3] at hf
    refine Wp.iconst (pc := 200) (2 : Int32) (by decide) dX12_sign_200 ?_
    refine Wp.goto (pc := 201) 205 dX12_sign_201 (by decide) ?_
    refine Wp.lo' (lo' := []) [] rfl ?_
    exact w_X12_sign_205 hX hG hf hk
set_option maxHeartbeats 4000000 in
set_option maxRecDepth 100000 in
theorem w_X12_sign_44 {X : CX} {T : List Dsc} {R : RM} {c e : Nat} {n1 n2 : Nat} {x1 : Int32} {x2 : Int32} {s0 : Int32} {m : M2} {r : (Int32 × M2)} (hX : XR X 2 n1 n2) (hG : Geo T R c e) (hf : f_X12_sign_44 x1 x2 s0 m = some r) (hk : FnI X cX12_sign RX12 6 T n1 n2 (r.1, mk r.2 R)) : Wp X cX12_sign RX12 6 T (mk m R) n1 n2 44 [(0, .ref 56), (1, .int x1), (2, .int x2)] [.int s0] := by
  unfold f_X12_sign_44 at hf
  refine Wp.istore (pc := 44) (lo' := [(0, .ref 56), (1, .int x1), (2, .int x2), (4, .int s0)]) [1, 2, 3, 0] rfl (by decide) dX12_sign_44 ?_
  refine Wp.iconst (pc := 46) (3 : Int32) (by decide) dX12_sign_46 ?_
  refine Wp.istore (pc := 47) (lo' := [(0, .ref 56), (1, .int x1), (2, .int x2), (4, .int s0), (5, .int (3 : Int32))]) [1, 2, 3, 4, 0] rfl (by decide) dX12_sign_47 ?_
  refine Wp.iload (pc := 49) 3 rfl dX12_sign_49 ?_
  refine Wp.if_le (pc := 51) 61 dX12_sign_51 (by decide) (fun hc1 => ?_) (fun hc1 => ?_)
  · rw [if_pos hc1] at hf
    refine Wp.iload_n (pc := 61) 2 rfl rfl dX12_sign_61 ?_
    refine Wp.bipush (pc := 62) (59 : Int32) (by decide) dX12_sign_62 ?_
    refine Wp.icmp_ne (pc := 64) 73 dX12_sign_64 (by decide) (fun hc2 => ?_) (fun hc2 => ?_)
    · rw [if_neg hc2] at hf
      refine Wp.iload_n (pc := 73) 2 rfl rfl dX12_sign_73 ?_
      refine Wp.bipush (pc := 74) (40 : Int32) (by decide) dX12_sign_74 ?_
      refine Wp.icmp_ne (pc := 76) 86 dX12_sign_76 (by decide) (fun hc3 => ?_) (fun hc3 => ?_)
      · rw [if_neg hc3] at hf
        refine Wp.iload_n (pc := 86) 2 rfl rfl dX12_sign_86 ?_
        refine Wp.bipush (pc := 87) (41 : Int32) (by decide) dX12_sign_87 ?_
        refine Wp.icmp_ne (pc := 89) 99 dX12_sign_89 (by decide) (fun hc4 => ?_) (fun hc4 => ?_)
        · rw [if_neg hc4] at hf
          refine Wp.iload_n (pc := 99) 2 rfl rfl dX12_sign_99 ?_
          refine Wp.bipush (pc := 100) (43 : Int32) (by decide) dX12_sign_100 ?_
          refine Wp.icmp_ne (pc := 102) 112 dX12_sign_102 (by decide) (fun hc5 => ?_) (fun hc5 => ?_)
          · rw [if_neg hc5] at hf
            refine Wp.iload_n (pc := 112) 2 rfl rfl dX12_sign_112 ?_
            refine Wp.bipush (pc := 113) (45 : Int32) (by decide) dX12_sign_113 ?_
            refine Wp.icmp_ne (pc := 115) 125 dX12_sign_115 (by decide) (fun hc6 => ?_) (fun hc6 => ?_)
            · rw [if_neg hc6] at hf
              refine Wp.iload_n (pc := 125) 2 rfl rfl dX12_sign_125 ?_
              refine Wp.bipush (pc := 126) (42 : Int32) (by decide) dX12_sign_126 ?_
              refine Wp.icmp_ne (pc := 128) 138 dX12_sign_128 (by decide) (fun hc7 => ?_) (fun hc7 => ?_)
              · rw [if_neg hc7] at hf
                refine Wp.iload_n (pc := 138) 2 rfl rfl dX12_sign_138 ?_
                refine Wp.bipush (pc := 139) (60 : Int32) (by decide) dX12_sign_139 ?_
                refine Wp.icmp_ne (pc := 141) 151 dX12_sign_141 (by decide) (fun hc8 => ?_) (fun hc8 => ?_)
                · rw [if_neg hc8] at hf
                  refine Wp.iload_n (pc := 151) 2 rfl rfl dX12_sign_151 ?_
                  refine Wp.bipush (pc := 152) (47 : Int32) (by decide) dX12_sign_152 ?_
                  refine Wp.icmp_ne (pc := 154) 164 dX12_sign_154 (by decide) (fun hc9 => ?_) (fun hc9 => ?_)
                  · rw [if_neg hc9] at hf
                    refine Wp.iload_n (pc := 164) 2 rfl rfl dX12_sign_164 ?_
                    refine Wp.bipush (pc := 165) (44 : Int32) (by decide) dX12_sign_165 ?_
                    refine Wp.icmp_ne (pc := 167) 177 dX12_sign_167 (by decide) (fun hc10 => ?_) (fun hc10 => ?_)
                    · rw [if_neg hc10] at hf
                      refine Wp.iload_n (pc := 177) 2 rfl rfl dX12_sign_177 ?_
                      refine Wp.bipush (pc := 178) (61 : Int32) (by decide) dX12_sign_178 ?_
                      refine Wp.icmp_ne (pc := 180) 186 dX12_sign_180 (by decide) (fun hc11 => ?_) (fun hc11 => ?_)
                      · rw [if_neg hc11] at hf
                        refine Wp.lo' (lo' := [(0, .ref 56), (1, .int x1), (4, .int s0), (5, .int (3 : Int32))]) [0, 1, 3, 4] rfl ?_
                        exact w_X12_sign_186 hX hG hf hk
                      · rw [if_pos hc11] at hf
                        refine Wp.iconst (pc := 183) (5 : Int32) (by decide) dX12_sign_183 ?_
                        refine Wp.istore (pc := 184) (lo' := [(0, .ref 56), (1, .int x1), (4, .int s0), (5, .int (5 : Int32))]) [1, 2, 4, 0] rfl (by decide) dX12_sign_184 ?_
                        exact w_X12_sign_186 hX hG hf hk
                    · rw [if_pos hc10] at hf
                      refine Wp.bipush (pc := 170) (16 : Int32) (by decide) dX12_sign_170 ?_
                      refine Wp.istore (pc := 172) (lo' := [(0, .ref 56), (1, .int x1), (4, .int s0), (5, .int (16 : Int32))]) [1, 2, 4, 0] rfl (by decide) dX12_sign_172 ?_
                      refine Wp.goto (pc := 174) 186 dX12_sign_174 (by decide) ?_
                      exact w_X12_sign_186 hX hG hf hk
                  · rw [if_pos hc9] at hf
                    refine Wp.bipush (pc := 157) (15 : Int32) (by decide) dX12_sign_157 ?_
                    refine Wp.istore (pc := 159) (lo' := [(0, .ref 56), (1, .int x1), (4, .int s0), (5, .int (15 : Int32))]) [1, 2, 4, 0] rfl (by decide) dX12_sign_159 ?_
                    refine Wp.goto (pc := 161) 186 dX12_sign_161 (by decide) ?_
                    exact w_X12_sign_186 hX hG hf hk
                · rw [if_pos hc8] at hf
                  refine Wp.bipush (pc := 144) (13 : Int32) (by decide) dX12_sign_144 ?_
                  refine Wp.istore (pc := 146) (lo' := [(0, .ref 56), (1, .int x1), (4, .int s0), (5, .int (13 : Int32))]) [1, 2, 4, 0] rfl (by decide) dX12_sign_146 ?_
                  refine Wp.goto (pc := 148) 186 dX12_sign_148 (by decide) ?_
                  exact w_X12_sign_186 hX hG hf hk
              · rw [if_pos hc7] at hf
                refine Wp.bipush (pc := 131) (10 : Int32) (by decide) dX12_sign_131 ?_
                refine Wp.istore (pc := 133) (lo' := [(0, .ref 56), (1, .int x1), (4, .int s0), (5, .int (10 : Int32))]) [1, 2, 4, 0] rfl (by decide) dX12_sign_133 ?_
                refine Wp.goto (pc := 135) 186 dX12_sign_135 (by decide) ?_
                exact w_X12_sign_186 hX hG hf hk
            · rw [if_pos hc6] at hf
              refine Wp.bipush (pc := 118) (9 : Int32) (by decide) dX12_sign_118 ?_
              refine Wp.istore (pc := 120) (lo' := [(0, .ref 56), (1, .int x1), (4, .int s0), (5, .int (9 : Int32))]) [1, 2, 4, 0] rfl (by decide) dX12_sign_120 ?_
              refine Wp.goto (pc := 122) 186 dX12_sign_122 (by decide) ?_
              exact w_X12_sign_186 hX hG hf hk
          · rw [if_pos hc5] at hf
            refine Wp.bipush (pc := 105) (8 : Int32) (by decide) dX12_sign_105 ?_
            refine Wp.istore (pc := 107) (lo' := [(0, .ref 56), (1, .int x1), (4, .int s0), (5, .int (8 : Int32))]) [1, 2, 4, 0] rfl (by decide) dX12_sign_107 ?_
            refine Wp.goto (pc := 109) 186 dX12_sign_109 (by decide) ?_
            exact w_X12_sign_186 hX hG hf hk
        · rw [if_pos hc4] at hf
          refine Wp.bipush (pc := 92) (7 : Int32) (by decide) dX12_sign_92 ?_
          refine Wp.istore (pc := 94) (lo' := [(0, .ref 56), (1, .int x1), (4, .int s0), (5, .int (7 : Int32))]) [1, 2, 4, 0] rfl (by decide) dX12_sign_94 ?_
          refine Wp.goto (pc := 96) 186 dX12_sign_96 (by decide) ?_
          exact w_X12_sign_186 hX hG hf hk
      · rw [if_pos hc3] at hf
        refine Wp.bipush (pc := 79) (6 : Int32) (by decide) dX12_sign_79 ?_
        refine Wp.istore (pc := 81) (lo' := [(0, .ref 56), (1, .int x1), (4, .int s0), (5, .int (6 : Int32))]) [1, 2, 4, 0] rfl (by decide) dX12_sign_81 ?_
        refine Wp.goto (pc := 83) 186 dX12_sign_83 (by decide) ?_
        exact w_X12_sign_186 hX hG hf hk
    · rw [if_pos hc2] at hf
      refine Wp.iconst (pc := 67) (4 : Int32) (by decide) dX12_sign_67 ?_
      refine Wp.istore (pc := 68) (lo' := [(0, .ref 56), (1, .int x1), (4, .int s0), (5, .int (4 : Int32))]) [1, 2, 4, 0] rfl (by decide) dX12_sign_68 ?_
      refine Wp.goto (pc := 70) 186 dX12_sign_70 (by decide) ?_
      exact w_X12_sign_186 hX hG hf hk
  · rw [if_neg hc1] at hf
    refine Wp.iload (pc := 54) 3 rfl dX12_sign_54 ?_
    refine Wp.istore (pc := 56) (lo' := [(0, .ref 56), (1, .int x1), (4, .int s0), (5, .int s0)]) [1, 2, 4, 0] rfl (by decide) dX12_sign_56 ?_
    refine Wp.goto (pc := 58) 186 dX12_sign_58 (by decide) ?_
    exact w_X12_sign_186 hX hG hf hk
set_option maxHeartbeats 4000000 in
set_option maxRecDepth 100000 in
theorem w_X12_sign {X : CX} {T : List Dsc} {R : RM} {c e : Nat} {n1 n2 : Nat} {x1 : Int32} {x2 : Int32} {x3 : Int32} {m : M2} {r : (Int32 × M2)} (hX : XR X 2 n1 n2) (hG : Geo T R c e) (hf : F_X12_sign x1 x2 x3 m = some r) (hk : FnI X cX12_sign RX12 6 T n1 n2 (r.1, mk r.2 R)) : Wp X cX12_sign RX12 6 T (mk m R) n1 n2 0 [(0, .ref 56), (1, .int x1), (2, .int x2), (3, .int x3)] [] := by
  unfold F_X12_sign at hf
  refine Wp.iload_n (pc := 0) 3 rfl rfl dX12_sign_0 ?_
  refine Wp.bipush (pc := 1) (61 : Int32) (by decide) dX12_sign_1 ?_
  refine Wp.icmp_eq (pc := 3) 10 dX12_sign_3 (by decide) (fun hc1 => ?_) (fun hc1 => ?_)
  · rw [if_pos hc1] at hf
    refine Wp.iload_n (pc := 10) 2 rfl rfl dX12_sign_10 ?_
    refine Wp.bipush (pc := 11) (61 : Int32) (by decide) dX12_sign_11 ?_
    refine Wp.icmp_ne (pc := 13) 21 dX12_sign_13 (by decide) (fun hc2 => ?_) (fun hc2 => ?_)
    · rw [if_neg hc2] at hf
      refine Wp.iload_n (pc := 21) 2 rfl rfl dX12_sign_21 ?_
      refine Wp.bipush (pc := 22) (33 : Int32) (by decide) dX12_sign_22 ?_
      refine Wp.icmp_ne (pc := 24) 32 dX12_sign_24 (by decide) (fun hc3 => ?_) (fun hc3 => ?_)
      · rw [if_neg hc3] at hf
        refine Wp.iload_n (pc := 32) 2 rfl rfl dX12_sign_32 ?_
        refine Wp.bipush (pc := 33) (60 : Int32) (by decide) dX12_sign_33 ?_
        refine Wp.icmp_ne (pc := 35) 43 dX12_sign_35 (by decide) (fun hc4 => ?_) (fun hc4 => ?_)
        · rw [if_neg hc4] at hf
          refine Wp.iconst (pc := 43) (0 : Int32) (by decide) dX12_sign_43 ?_
          refine Wp.lo' (lo' := [(0, .ref 56), (1, .int x1), (2, .int x2)]) [0, 1, 2] rfl ?_
          exact w_X12_sign_44 hX hG hf hk
        · rw [if_pos hc4] at hf
          refine Wp.bipush (pc := 38) (14 : Int32) (by decide) dX12_sign_38 ?_
          refine Wp.goto (pc := 40) 44 dX12_sign_40 (by decide) ?_
          refine Wp.lo' (lo' := [(0, .ref 56), (1, .int x1), (2, .int x2)]) [0, 1, 2] rfl ?_
          exact w_X12_sign_44 hX hG hf hk
      · rw [if_pos hc3] at hf
        refine Wp.bipush (pc := 27) (12 : Int32) (by decide) dX12_sign_27 ?_
        refine Wp.goto (pc := 29) 44 dX12_sign_29 (by decide) ?_
        refine Wp.lo' (lo' := [(0, .ref 56), (1, .int x1), (2, .int x2)]) [0, 1, 2] rfl ?_
        exact w_X12_sign_44 hX hG hf hk
    · rw [if_pos hc2] at hf
      refine Wp.bipush (pc := 16) (11 : Int32) (by decide) dX12_sign_16 ?_
      refine Wp.goto (pc := 18) 44 dX12_sign_18 (by decide) ?_
      refine Wp.lo' (lo' := [(0, .ref 56), (1, .int x1), (2, .int x2)]) [0, 1, 2] rfl ?_
      exact w_X12_sign_44 hX hG hf hk
  · rw [if_neg hc1] at hf
    refine Wp.iconst (pc := 6) (0 : Int32) (by decide) dX12_sign_6 ?_
    refine Wp.goto (pc := 7) 44 dX12_sign_7 (by decide) ?_
    refine Wp.lo' (lo' := [(0, .ref 56), (1, .int x1), (2, .int x2)]) [0, 1, 2] rfl ?_
    exact w_X12_sign_44 hX hG hf hk
theorem c_X12_sign {T : List Dsc} {R : RM} {c e : Nat} {x1 : Int32} {x2 : Int32} {x3 : Int32} {m : M2} {r : (Int32 × M2)} (hG : Geo T R c e) (hf : F_X12_sign x1 x2 x3 m = some r) : Ct 2 yX12_sign cX12_sign 6 (some .int) T (mk m R) [.ref 56, .int x1, .int x2, .int x3] (some (.int r.1)) (mk r.2 R) := Ct.ofI (r := (r.1, mk r.2 R)) (by decide +kernel) (Nat.le_of_ble_eq_true rfl) (fun X hX hk => w_X12_sign hX hG hf hk)
