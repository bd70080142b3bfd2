theorem dX0_howMany_0 : decode cX0_howMany 0 = .ok (.iconst 1, 1) := by decide +kernel
theorem dX0_howMany_1 : decode cX0_howMany 1 = .ok (.istore_n 2, 1) := by decide +kernel
theorem dX0_howMany_2 : decode cX0_howMany 2 = .ok (.iconst 0, 1) := by decide +kernel
theorem dX0_howMany_3 : decode cX0_howMany 3 = .ok (.istore_n 3, 1) := by decide +kernel
theorem dX0_howMany_4 : decode cX0_howMany 4 = .ok (.iload_n 3, 1) := by decide +kernel
theorem dX0_howMany_5 : decode cX0_howMany 5 = .ok (.iload_n 1, 1) := by decide +kernel
theorem dX0_howMany_6 : decode cX0_howMany 6 = .ok (.if_icmp .ge 27, 3) := by decide +kernel
theorem dX0_howMany_9 : decode cX0_howMany 9 = .ok (.iload_n 3, 1) := by decide +kernel
theorem dX0_howMany_10 : decode cX0_howMany 10 = .ok (.iconst 4, 1) := by decide +kernel
theorem dX0_howMany_11 : decode cX0_howMany 11 = .ok (.if_icmp .ge 22, 3) := by decide +kernel
theorem dX0_howMany_14 : decode cX0_howMany 14 = .ok (.iload_n 2, 1) := by decide +kernel
theorem dX0_howMany_15 : decode cX0_howMany 15 = .ok (.aload_n 0, 1) := by decide +kernel
theorem dX0_howMany_16 : decode cX0_howMany 16 = .ok (.getfield 7, 3) := by decide +kernel
theorem dX0_howMany_19 : decode cX0_howMany 19 = .ok (.getfield 13, 3) := by decide +kernel
theorem dX0_howMany_22 : decode cX0_howMany 22 = .ok (.getfield 19, 3) := by decide +kernel
theorem dX0_howMany_25 : decode cX0_howMany 25 = .ok (.imul, 1) := by decide +kernel
theorem dX0_howMany_26 : decode cX0_howMany 26 = .ok (.istore_n 2, 1) := by decide +kernel
theorem dX0_howMany_27 : decode cX0_howMany 27 = .ok (.iinc 3 1, 3) := by decide +kernel
theorem dX0_howMany_30 : decode cX0_howMany 30 = .ok (.goto (-26), 3) := by decide +kernel
theorem dX0_howMany_33 : decode cX0_howMany 33 = .ok (.iload_n 2, 1) := by decide +kernel
theorem dX0_howMany_34 : decode cX0_howMany 34 = .ok (.ireturn, 1) := by decide +kernel
def k_X0_howMany_4 (X : CX) (T : List Dsc) (R : RM) (n1 n2 : Nat) (x1 : Int32) (r : ((Int32 × Int32 × M2) ⊕ ((Int32 × M2)))) : Prop := match r with
  | .inl s => Wp X cX0_howMany RX0 4 T (mk s.2.2 R) n1 n2 4 [(0, .ref 38), (1, .int x1), (2, .int s.1), (3, .int s.2.1)] []
  | .inr e => Wp X cX0_howMany RX0 4 T (mk e.2 R) n1 n2 33 [(2, .int e.1)] []
set_option maxHeartbeats 4000000 in
set_option maxRecDepth 100000 in
theorem w_X0_howMany_4 {X : CX} {T : List Dsc} {R : RM} {c e : Nat} {n1 n2 : Nat} {x1 : Int32} {x2 : Int32} {x3 : Int32} {m : M2} {r : ((Int32 × Int32 × M2) ⊕ ((Int32 × M2)))} (hX : XR X 1 n1 n2) (hG : Geo T R c e) (hf : f_X0_howMany_4 c x1 x2 x3 m = some r) (hk : k_X0_howMany_4 X T R n1 n2 x1 r) : Wp X cX0_howMany RX0 4 T (mk m R) n1 n2 4 [(0, .ref 38), (1, .int x1), (2, .int x2), (3, .int x3)] [] := by
  unfold f_X0_howMany_4 at hf
  refine Wp.iload_n (pc := 4) 3 rfl rfl dX0_howMany_4 ?_
  refine Wp.iload_n (pc := 5) 1 rfl rfl dX0_howMany_5 ?_
  refine Wp.icmp_ge (pc := 6) 33 dX0_howMany_6 (by decide) (fun hc1 => ?_) (fun hc1 => ?_)
  · rw [if_pos hc1] at hf
    refine Wp.lo' (lo' := [(2, .int x2)]) [2] rfl ?_
    cases hf
    exact hk
  · rw [if_neg hc1] at hf
    refine Wp.iload_n (pc := 9) 3 rfl rfl dX0_howMany_9 ?_
    refine Wp.iconst (pc := 10) (4 : Int32) (by decide) dX0_howMany_10 ?_
    refine Wp.icmp_ge (pc := 11) 33 dX0_howMany_11 (by decide) (fun hc2 => ?_) (fun hc2 => ?_)
    · rw [if_pos hc2] at hf
      refine Wp.lo' (lo' := [(2, .int x2)]) [2] rfl ?_
      cases hf
      exact hk
    · rw [if_neg hc2] at hf
      refine Wp.iload_n (pc := 14) 2 rfl rfl dX0_howMany_14 ?_
      refine Wp.aload_n (pc := 15) 0 rfl rfl dX0_howMany_15 ?_
      refine Wp.getR2 (pc := 16) (hG.r 38 0 rfl) (hG.t 38 rfl) fk_RX0_7 rfl dX0_howMany_16 ?_
      refine Wp.getR2 (pc := 19) hG.r2 (hG.t 23 rfl) fk_RX0_13 rfl dX0_howMany_19 ?_
      refine Wp.getI2 (pc := 22) (hG.tt hG.hc) fk_RX0_19 rfl dX0_howMany_22 ?_
      refine Wp.imul (pc := 25) dX0_howMany_25 ?_
      obtain ⟨v3, h4, hf⟩ := bnd hf
      refine Wp.nI' h4 ?_
      refine Wp.istore_n (pc := 26) (lo' := [(0, .ref 38), (1, .int x1), (2, .int v3), (3, .int x3)]) [1, 2, 0, 3] rfl (by decide) rfl dX0_howMany_26 ?_
      obtain ⟨v5, h6, hf⟩ := bnd hf
      refine Wp.iincN (pc := 27) (lo' := [(0, .ref 38), (1, .int x1), (2, .int v3), (3, .int v5)]) (1 : Int32) (by decide) h6 3 rfl [1, 2, 3, 0] rfl (by decide) dX0_howMany_27 ?_
      refine Wp.goto (pc := 30) 4 dX0_howMany_30 (by decide) ?_
      cases hf
      exact hk
theorem wl_X0_howMany_4 {X : CX} {T : List Dsc} {R : RM} {c e : Nat} {n1 n2 : Nat} {x1 : Int32} {x2 : Int32} {x3 : Int32} {m : M2} {e1 : ((Int32 × M2))} (hX : XR X 1 n1 n2) (hG : Geo T R c e) (h : loop (g_X0_howMany_4 c x1) (x2, x3, m) = some e1) (he : Wp X cX0_howMany RX0 4 T (mk e1.2 R) n1 n2 33 [(2, .int e1.1)] []) : Wp X cX0_howMany RX0 4 T (mk m R) n1 n2 4 [(0, .ref 38), (1, .int x1), (2, .int x2), (3, .int x3)] [] :=
  loop_ok (K := k_X0_howMany_4 X T R n1 n2 x1) (fun s r hf hk => w_X0_howMany_4 hX hG hf hk) h he
set_option maxHeartbeats 4000000 in
set_option maxRecDepth 100000 in
theorem w_X0_howMany_33 {X : CX} {T : List Dsc} {R : RM} {c e : Nat} {n1 n2 : Nat} {x2 : Int32} {m : M2} {r : (Int32 × M2)} (hX : XR X 1 n1 n2) (hG : Geo T R c e) (hf : f_X0_howMany_33 c x2 m = some r) (hk : FnI X cX0_howMany RX0 4 T n1 n2 (r.1, mk r.2 R)) : Wp X cX0_howMany RX0 4 T (mk m R) n1 n2 33 [(2, .int x2)] [] := by
  unfold f_X0_howMany_33 at hf
  refine Wp.iload_n (pc := 33) 0 rfl rfl dX0_howMany_33 ?_
  cases hf
  exact hk _ _ dX0_howMany_34
set_option maxHeartbeats 4000000 in
set_option maxRecDepth 100000 in
theorem w_X0_howMany {X : CX} {T : List Dsc} {R : RM} {c e : Nat} {n1 n2 : Nat} {x1 : Int32} {m : M2} {r : (Int32 × M2)} (hX : XR X 1 n1 n2) (hG : Geo T R c e) (hf : F_X0_howMany c x1 m = some r) (hk : FnI X cX0_howMany RX0 4 T n1 n2 (r.1, mk r.2 R)) : Wp X cX0_howMany RX0 4 T (mk m R) n1 n2 0 [(0, .ref 38), (1, .int x1)] [] := by
  unfold F_X0_howMany at hf
  refine Wp.iconst (pc := 0) (1 : Int32) (by decide) dX0_howMany_0 ?_
  refine Wp.istore_n (pc := 1) (lo' := [(0, .ref 38), (1, .int x1), (2, .int (1 : Int32))]) [1, 2, 0] rfl (by decide) rfl dX0_howMany_1 ?_
  refine Wp.iconst (pc := 2) (0 : Int32) (by decide) dX0_howMany_2 ?_
  refine Wp.istore_n (pc := 3) (lo' := [(0, .ref 38), (1, .int x1), (2, .int (1 : Int32)), (3, .int (0 : Int32))]) [1, 2, 3, 0] rfl (by decide) rfl dX0_howMany_3 ?_
  obtain ⟨e1, h2, hf⟩ := bnd hf
  refine wl_X0_howMany_4 hX hG h2 ?_
  exact w_X0_howMany_33 hX hG hf hk
theorem c_X0_howMany {T : List Dsc} {R : RM} {c e : Nat} {x1 : Int32} {m : M2} {r : (Int32 × M2)} (hG : Geo T R c e) (hf : F_X0_howMany c x1 m = some r) : Ct 1 yX0_howMany cX0_howMany 4 (some .int) T (mk m R) [.ref 38, .int x1] (some (.int r.1)) (mk r.2 R) := Ct.ofI (r := (r.1, mk r.2 R)) (by decide +kernel) (Nat.le_of_ble_eq_true rfl) (fun X hX hk => w_X0_howMany hX hG hf hk)
theorem dX5_heard_0 : decode cX5_heard 0 = .ok (.iload 4, 2) := by decide +kernel
theorem dX5_heard_2 : decode cX5_heard 2 = .ok (.ifCond .ne 7, 3) := by decide +kernel
theorem dX5_heard_5 : decode cX5_heard 5 = .ok (.iload_n 3, 1) := by decide +kernel
theorem dX5_heard_6 : decode cX5_heard 6 = .ok (.ifCond .ge 5, 3) := by decide +kernel
theorem dX5_heard_9 : decode cX5_heard 9 = .ok (.iload_n 2, 1) := by decide +kernel
theorem dX5_heard_10 : decode cX5_heard 10 = .ok (.ireturn, 1) := by decide +kernel
theorem dX5_heard_11 : decode cX5_heard 11 = .ok (.iload_n 3, 1) := by decide +kernel
theorem dX5_heard_12 : decode cX5_heard 12 = .ok (.aload_n 0, 1) := by decide +kernel
theorem dX5_heard_13 : decode cX5_heard 13 = .ok (.getfield 26, 3) := by decide +kernel
theorem dX5_heard_16 : decode cX5_heard 16 = .ok (.getfield 30, 3) := by decide +kernel
theorem dX5_heard_19 : decode cX5_heard 19 = .ok (.iload_n 1, 1) := by decide +kernel
theorem dX5_heard_20 : decode cX5_heard 20 = .ok (.imul, 1) := by decide +kernel
theorem dX5_heard_21 : decode cX5_heard 21 = .ok (.iadd, 1) := by decide +kernel
theorem dX5_heard_22 : decode cX5_heard 22 = .ok (.aload_n 0, 1) := by decide +kernel
theorem dX5_heard_23 : decode cX5_heard 23 = .ok (.getfield 26, 3) := by decide +kernel
theorem dX5_heard_26 : decode cX5_heard 26 = .ok (.getfield 36, 3) := by decide +kernel
theorem dX5_heard_29 : decode cX5_heard 29 = .ok (.irem, 1) := by decide +kernel
theorem dX5_heard_30 : decode cX5_heard 30 = .ok (.ireturn, 1) := by decide +kernel
set_option maxHeartbeats 4000000 in
set_option maxRecDepth 100000 in
theorem w_X5_heard_9 {X : CX} {T : List Dsc} {R : RM} {c e : Nat} {n1 n2 : Nat} {x2 : Int32} {m : M2} {r : (Int32 × M2)} (hX : XR X 1 n1 n2) (hG : Geo T R c e) (hf : f_X5_heard_9 c x2 m = some r) (hk : FnI X cX5_heard RX5 5 T n1 n2 (r.1, mk r.2 R)) : Wp X cX5_heard RX5 5 T (mk m R) n1 n2 9 [(2, .int x2)] [] := by
  unfold f_X5_heard_9 at hf
  refine Wp.iload_n (pc := 9) 0 rfl rfl dX5_heard_9 ?_
  cases hf
  exact hk _ _ dX5_heard_10
set_option maxHeartbeats 4000000 in
set_option maxRecDepth 100000 in
theorem w_X5_heard {X : CX} {T : List Dsc} {R : RM} {c e : Nat} {n1 n2 : Nat} {x1 : Int32} {x2 : Int32} {x3 : Int32} {x4 : Int32} {m : M2} {r : (Int32 × M2)} (hX : XR X 1 n1 n2) (hG : Geo T R c e) (hf : F_X5_heard c x1 x2 x3 x4 m = some r) (hk : FnI X cX5_heard RX5 5 T n1 n2 (r.1, mk r.2 R)) : Wp X cX5_heard RX5 5 T (mk m R) n1 n2 0 [(0, .ref 23), (1, .int x1), (2, .int x2), (3, .int x3), (4, .int x4)] [] := by
  unfold F_X5_heard at hf
  refine Wp.iload (pc := 0) 4 rfl dX5_heard_0 ?_
  refine Wp.if_ne (pc := 2) 9 dX5_heard_2 (by decide) (fun hc1 => ?_) (fun hc1 => ?_)
  · rw [if_neg hc1] at hf
    refine Wp.lo' (lo' := [(2, .int x2)]) [2] rfl ?_
    exact w_X5_heard_9 hX hG hf hk
  · rw [if_pos hc1] at hf
    refine Wp.iload_n (pc := 5) 3 rfl rfl dX5_heard_5 ?_
    refine Wp.if_ge (pc := 6) 11 dX5_heard_6 (by decide) (fun hc2 => ?_) (fun hc2 => ?_)
    · rw [if_pos hc2] at hf
      refine Wp.iload_n (pc := 11) 3 rfl rfl dX5_heard_11 ?_
      refine Wp.aload_n (pc := 12) 0 rfl rfl dX5_heard_12 ?_
      refine Wp.getR2 (pc := 13) hG.r2 (hG.t 23 rfl) fk_RX5_26 rfl dX5_heard_13 ?_
      refine Wp.getI2 (pc := 16) (hG.tt hG.hc) fk_RX5_30 rfl dX5_heard_16 ?_
      refine Wp.iload_n (pc := 19) 1 rfl rfl dX5_heard_19 ?_
      refine Wp.imul (pc := 20) dX5_heard_20 ?_
      refine Wp.iadd (pc := 21) dX5_heard_21 ?_
      refine Wp.aload_n (pc := 22) 0 rfl rfl dX5_heard_22 ?_
      refine Wp.getR2 (pc := 23) hG.r2 (hG.t 23 rfl) fk_RX5_26 rfl dX5_heard_23 ?_
      refine Wp.getI2 (pc := 26) (hG.tt hG.hc) fk_RX5_36 rfl dX5_heard_26 ?_
      obtain ⟨v3, h4, hf⟩ := bnd hf
      refine Wp.rm (pc := 29) h4 dX5_heard_29 ?_
      cases hf
      exact hk _ _ dX5_heard_30
    · rw [if_neg hc2] at hf
      refine Wp.lo' (lo' := [(2, .int x2)]) [2] rfl ?_
      exact w_X5_heard_9 hX hG hf hk
theorem c_X5_heard {T : List Dsc} {R : RM} {c e : Nat} {x1 : Int32} {x2 : Int32} {x3 : Int32} {x4 : Int32} {m : M2} {r : (Int32 × M2)} (hG : Geo T R c e) (hf : F_X5_heard c x1 x2 x3 x4 m = some r) : Ct 1 yX5_heard cX5_heard 5 (some .int) T (mk m R) [.ref 23, .int x1, .int x2, .int x3, .int x4] (some (.int r.1)) (mk r.2 R) := Ct.ofI (r := (r.1, mk r.2 R)) (by decide +kernel) (Nat.le_of_ble_eq_true rfl) (fun X hX hk => w_X5_heard hX hG hf hk)
theorem dX5_gap_0 : decode cX5_gap 0 = .ok (.iload_n 1, 1) := by decide +kernel
theorem dX5_gap_1 : decode cX5_gap 1 = .ok (.iload_n 2, 1) := by decide +kernel
theorem dX5_gap_2 : decode cX5_gap 2 = .ok (.isub, 1) := by decide +kernel
theorem dX5_gap_3 : decode cX5_gap 3 = .ok (.aload_n 0, 1) := by decide +kernel
theorem dX5_gap_4 : decode cX5_gap 4 = .ok (.getfield 26, 3) := by decide +kernel
theorem dX5_gap_7 : decode cX5_gap 7 = .ok (.getfield 36, 3) := by decide +kernel
theorem dX5_gap_10 : decode cX5_gap 10 = .ok (.irem, 1) := by decide +kernel
theorem dX5_gap_11 : decode cX5_gap 11 = .ok (.istore_n 3, 1) := by decide +kernel
theorem dX5_gap_12 : decode cX5_gap 12 = .ok (.iload_n 3, 1) := by decide +kernel
theorem dX5_gap_13 : decode cX5_gap 13 = .ok (.ifCond .ge 13, 3) := by decide +kernel
theorem dX5_gap_16 : decode cX5_gap 16 = .ok (.iload_n 3, 1) := by decide +kernel
theorem dX5_gap_17 : decode cX5_gap 17 = .ok (.aload_n 0, 1) := by decide +kernel
theorem dX5_gap_18 : decode cX5_gap 18 = .ok (.getfield 26, 3) := by decide +kernel
theorem dX5_gap_21 : decode cX5_gap 21 = .ok (.getfield 36, 3) := by decide +kernel
theorem dX5_gap_24 : decode cX5_gap 24 = .ok (.iadd, 1) := by decide +kernel
theorem dX5_gap_25 : decode cX5_gap 25 = .ok (.istore_n 3, 1) := by decide +kernel
theorem dX5_gap_26 : decode cX5_gap 26 = .ok (.iconst 2, 1) := by decide +kernel
theorem dX5_gap_27 : decode cX5_gap 27 = .ok (.iload_n 3, 1) := by decide +kernel
theorem dX5_gap_28 : decode cX5_gap 28 = .ok (.imul, 1) := by decide +kernel
theorem dX5_gap_29 : decode cX5_gap 29 = .ok (.aload_n 0, 1) := by decide +kernel
theorem dX5_gap_30 : decode cX5_gap 30 = .ok (.getfield 26, 3) := by decide +kernel
theorem dX5_gap_33 : decode cX5_gap 33 = .ok (.getfield 36, 3) := by decide +kernel
theorem dX5_gap_36 : decode cX5_gap 36 = .ok (.if_icmp .le 15, 3) := by decide +kernel
theorem dX5_gap_39 : decode cX5_gap 39 = .ok (.iload_n 3, 1) := by decide +kernel
theorem dX5_gap_40 : decode cX5_gap 40 = .ok (.aload_n 0, 1) := by decide +kernel
theorem dX5_gap_41 : decode cX5_gap 41 = .ok (.getfield 26, 3) := by decide +kernel
theorem dX5_gap_44 : decode cX5_gap 44 = .ok (.getfield 36, 3) := by decide +kernel
theorem dX5_gap_47 : decode cX5_gap 47 = .ok (.isub, 1) := by decide +kernel
theorem dX5_gap_48 : decode cX5_gap 48 = .ok (.goto 4, 3) := by decide +kernel
theorem dX5_gap_51 : decode cX5_gap 51 = .ok (.iload_n 3, 1) := by decide +kernel
theorem dX5_gap_52 : decode cX5_gap 52 = .ok (.ireturn, 1) := by decide +kernel
set_option maxHeartbeats 4000000 in
set_option maxRecDepth 100000 in
theorem w_X5_gap_52 {X : CX} {T : List Dsc} {R : RM} {c e : Nat} {n1 n2 : Nat} {s0 : Int32} {m : M2} {r : (Int32 × M2)} (hX : XR X 1 n1 n2) (hG : Geo T R c e) (hf : f_X5_gap_52 c s0 m = some r) (hk : FnI X cX5_gap RX5 4 T n1 n2 (r.1, mk r.2 R)) : Wp X cX5_gap RX5 4 T (mk m R) n1 n2 52 [] [.int s0] := by
  unfold f_X5_gap_52 at hf
  cases hf
  exact hk _ _ dX5_gap_52
set_option maxHeartbeats 4000000 in
set_option maxRecDepth 100000 in
theorem w_X5_gap_26 {X : CX} {T : List Dsc} {R : RM} {c e : Nat} {n1 n2 : Nat} {x3 : Int32} {m : M2} {r : (Int32 × M2)} (hX : XR X 1 n1 n2) (hG : Geo T R c e) (hf : f_X5_gap_26 c x3 m = some r) (hk : FnI X cX5_gap RX5 4 T n1 n2 (r.1, mk r.2 R)) : Wp X cX5_gap RX5 4 T (mk m R) n1 n2 26 [(0, .ref 23), (3, .int x3)] [] := by
  unfold f_X5_gap_26 at hf
  refine Wp.iconst (pc := 26) (2 : Int32) (by decide) dX5_gap_26 ?_
  refine Wp.iload_n (pc := 27) 1 rfl rfl dX5_gap_27 ?_
  refine Wp.imul (pc := 28) dX5_gap_28 ?_
  refine Wp.aload_n (pc := 29) 0 rfl rfl dX5_gap_29 ?_
  refine Wp.getR2 (pc := 30) hG.r2 (hG.t 23 rfl) fk_RX5_26 rfl dX5_gap_30 ?_
  refine Wp.getI2 (pc := 33) (hG.tt hG.hc) fk_RX5_36 rfl dX5_gap_33 ?_
  refine Wp.icmp_le (pc := 36) 51 dX5_gap_36 (by decide) (fun hc1 => ?_) (fun hc1 => ?_)
  · rw [if_pos hc1] at hf
    refine Wp.iload_n (pc := 51) 1 rfl rfl dX5_gap_51 ?_
    refine Wp.lo' (lo' := []) [] rfl ?_
    exact w_X5_gap_52 hX hG hf hk
  · rw [if_neg hc1] at hf
    refine Wp.iload_n (pc := 39) 1 rfl rfl dX5_gap_39 ?_
    refine Wp.aload_n (pc := 40) 0 rfl rfl dX5_gap_40 ?_
    refine Wp.getR2 (pc := 41) hG.r2 (hG.t 23 rfl) fk_RX5_26 rfl dX5_gap_41 ?_
    refine Wp.getI2 (pc := 44) (hG.tt hG.hc) fk_RX5_36 rfl dX5_gap_44 ?_
    refine Wp.isub (pc := 47) dX5_gap_47 ?_
    refine Wp.goto (pc := 48) 52 dX5_gap_48 (by decide) ?_
    refine Wp.lo' (lo' := []) [] rfl ?_
    exact w_X5_gap_52 hX hG hf hk
set_option maxHeartbeats 4000000 in
set_option maxRecDepth 100000 in
theorem w_X5_gap {X : CX} {T : List Dsc} {R : RM} {c e : Nat} {n1 n2 : Nat} {x1 : Int32} {x2 : Int32} {m : M2} {r : (Int32 × M2)} (hX : XR X 1 n1 n2) (hG : Geo T R c e) (hf : F_X5_gap c x1 x2 m = some r) (hk : FnI X cX5_gap RX5 4 T n1 n2 (r.1, mk r.2 R)) : Wp X cX5_gap RX5 4 T (mk m R) n1 n2 0 [(0, .ref 23), (1, .int x1), (2, .int x2)] [] := by
  unfold F_X5_gap at hf
  refine Wp.iload_n (pc := 0) 1 rfl rfl dX5_gap_0 ?_
  refine Wp.iload_n (pc := 1) 2 rfl rfl dX5_gap_1 ?_
  refine Wp.isub (pc := 2) dX5_gap_2 ?_
  refine Wp.aload_n (pc := 3) 0 rfl rfl dX5_gap_3 ?_
  refine Wp.getR2 (pc := 4) hG.r2 (hG.t 23 rfl) fk_RX5_26 rfl dX5_gap_4 ?_
  refine Wp.getI2 (pc := 7) (hG.tt hG.hc) fk_RX5_36 rfl dX5_gap_7 ?_
  obtain ⟨v1, h2, hf⟩ := bnd hf
  refine Wp.rm (pc := 10) h2 dX5_gap_10 ?_
  refine Wp.istore_n (pc := 11) (lo' := [(0, .ref 23), (3, .int v1)]) [1, 0] rfl (by decide) rfl dX5_gap_11 ?_
  refine Wp.iload_n (pc := 12) 1 rfl rfl dX5_gap_12 ?_
  refine Wp.if_ge (pc := 13) 26 dX5_gap_13 (by decide) (fun hc3 => ?_) (fun hc3 => ?_)
  · rw [if_pos hc3] at hf
    exact w_X5_gap_26 hX hG hf hk
  · rw [if_neg hc3] at hf
    refine Wp.iload_n (pc := 16) 1 rfl rfl dX5_gap_16 ?_
    refine Wp.aload_n (pc := 17) 0 rfl rfl dX5_gap_17 ?_
    refine Wp.getR2 (pc := 18) hG.r2 (hG.t 23 rfl) fk_RX5_26 rfl dX5_gap_18 ?_
    refine Wp.getI2 (pc := 21) (hG.tt hG.hc) fk_RX5_36 rfl dX5_gap_21 ?_
    refine Wp.iadd (pc := 24) dX5_gap_24 ?_
    obtain ⟨v4, h5, hf⟩ := bnd hf
    refine Wp.nI' h5 ?_
    refine Wp.istore_n (pc := 25) (lo' := [(0, .ref 23), (3, .int v4)]) [1, 0] rfl (by decide) rfl dX5_gap_25 ?_
    exact w_X5_gap_26 hX hG hf hk
theorem c_X5_gap {T : List Dsc} {R : RM} {c e : Nat} {x1 : Int32} {x2 : Int32} {m : M2} {r : (Int32 × M2)} (hG : Geo T R c e) (hf : F_X5_gap c x1 x2 m = some r) : Ct 1 yX5_gap cX5_gap 4 (some .int) T (mk m R) [.ref 23, .int x1, .int x2] (some (.int r.1)) (mk r.2 R) := Ct.ofI (r := (r.1, mk r.2 R)) (by decide +kernel) (Nat.le_of_ble_eq_true rfl) (fun X hX hk => w_X5_gap hX hG hf hk)
theorem dX5_joined_0 : decode cX5_joined 0 = .ok (.iload_n 1, 1) := by decide +kernel
theorem dX5_joined_1 : decode cX5_joined 1 = .ok (.tableswitch 115 7 14 #[47, 51, 55, 59, 71, 82, 93, 104], 47) := by decide +kernel
theorem dX5_joined_48 : decode cX5_joined 48 = .ok (.iload_n 2, 1) := by decide +kernel
theorem dX5_joined_49 : decode cX5_joined 49 = .ok (.iload_n 3, 1) := by decide +kernel
theorem dX5_joined_50 : decode cX5_joined 50 = .ok (.iadd, 1) := by decide +kernel
theorem dX5_joined_51 : decode cX5_joined 51 = .ok (.ireturn, 1) := by decide +kernel
theorem dX5_joined_52 : decode cX5_joined 52 = .ok (.iload_n 2, 1) := by decide +kernel
theorem dX5_joined_53 : decode cX5_joined 53 = .ok (.iload_n 3, 1) := by decide +kernel
theorem dX5_joined_54 : decode cX5_joined 54 = .ok (.isub, 1) := by decide +kernel
theorem dX5_joined_55 : decode cX5_joined 55 = .ok (.ireturn, 1) := by decide +kernel
theorem dX5_joined_56 : decode cX5_joined 56 = .ok (.iload_n 2, 1) := by decide +kernel
theorem dX5_joined_57 : decode cX5_joined 57 = .ok (.iload_n 3, 1) := by decide +kernel
theorem dX5_joined_58 : decode cX5_joined 58 = .ok (.imul, 1) := by decide +kernel
theorem dX5_joined_59 : decode cX5_joined 59 = .ok (.ireturn, 1) := by decide +kernel
theorem dX5_joined_60 : decode cX5_joined 60 = .ok (.iload_n 3, 1) := by decide +kernel
theorem dX5_joined_61 : decode cX5_joined 61 = .ok (.ifCond .ne 7, 3) := by decide +kernel
theorem dX5_joined_64 : decode cX5_joined 64 = .ok (.iconst 0, 1) := by decide +kernel
theorem dX5_joined_65 : decode cX5_joined 65 = .ok (.goto 6, 3) := by decide +kernel
theorem dX5_joined_68 : decode cX5_joined 68 = .ok (.iload_n 2, 1) := by decide +kernel
theorem dX5_joined_69 : decode cX5_joined 69 = .ok (.iload_n 3, 1) := by decide +kernel
theorem dX5_joined_70 : decode cX5_joined 70 = .ok (.idiv, 1) := by decide +kernel
theorem dX5_joined_71 : decode cX5_joined 71 = .ok (.ireturn, 1) := by decide +kernel
theorem dX5_joined_72 : decode cX5_joined 72 = .ok (.iload_n 2, 1) := by decide +kernel
theorem dX5_joined_73 : decode cX5_joined 73 = .ok (.iload_n 3, 1) := by decide +kernel
theorem dX5_joined_74 : decode cX5_joined 74 = .ok (.if_icmp .ne 7, 3) := by decide +kernel
theorem dX5_joined_77 : decode cX5_joined 77 = .ok (.iconst 1, 1) := by decide +kernel
theorem dX5_joined_78 : decode cX5_joined 78 = .ok (.goto 4, 3) := by decide +kernel
theorem dX5_joined_81 : decode cX5_joined 81 = .ok (.iconst 0, 1) := by decide +kernel
theorem dX5_joined_82 : decode cX5_joined 82 = .ok (.ireturn, 1) := by decide +kernel
theorem dX5_joined_83 : decode cX5_joined 83 = .ok (.iload_n 2, 1) := by decide +kernel
theorem dX5_joined_84 : decode cX5_joined 84 = .ok (.iload_n 3, 1) := by decide +kernel
theorem dX5_joined_85 : decode cX5_joined 85 = .ok (.if_icmp .eq 7, 3) := by decide +kernel
theorem dX5_joined_88 : decode cX5_joined 88 = .ok (.iconst 1, 1) := by decide +kernel
theorem dX5_joined_89 : decode cX5_joined 89 = .ok (.goto 4, 3) := by decide +kernel
theorem dX5_joined_92 : decode cX5_joined 92 = .ok (.iconst 0, 1) := by decide +kernel
theorem dX5_joined_93 : decode cX5_joined 93 = .ok (.ireturn, 1) := by decide +kernel
theorem dX5_joined_94 : decode cX5_joined 94 = .ok (.iload_n 2, 1) := by decide +kernel
theorem dX5_joined_95 : decode cX5_joined 95 = .ok (.iload_n 3, 1) := by decide +kernel
theorem dX5_joined_96 : decode cX5_joined 96 = .ok (.if_icmp .ge 7, 3) := by decide +kernel
theorem dX5_joined_99 : decode cX5_joined 99 = .ok (.iconst 1, 1) := by decide +kernel
theorem dX5_joined_100 : decode cX5_joined 100 = .ok (.goto 4, 3) := by decide +kernel
theorem dX5_joined_103 : decode cX5_joined 103 = .ok (.iconst 0, 1) := by decide +kernel
theorem dX5_joined_104 : decode cX5_joined 104 = .ok (.ireturn, 1) := by decide +kernel
theorem dX5_joined_105 : decode cX5_joined 105 = .ok (.iload_n 2, 1) := by decide +kernel
theorem dX5_joined_106 : decode cX5_joined 106 = .ok (.iload_n 3, 1) := by decide +kernel
theorem dX5_joined_107 : decode cX5_joined 107 = .ok (.if_icmp .gt 7, 3) := by decide +kernel
theorem dX5_joined_110 : decode cX5_joined 110 = .ok (.iconst 1, 1) := by decide +kernel
theorem dX5_joined_111 : decode cX5_joined 111 = .ok (.goto 4, 3) := by decide +kernel
theorem dX5_joined_114 : decode cX5_joined 114 = .ok (.iconst 0, 1) := by decide +kernel
theorem dX5_joined_115 : decode cX5_joined 115 = .ok (.ireturn, 1) := by decide +kernel
theorem dX5_joined_116 : decode cX5_joined 116 = .ok (.aload_n 0, 1) := by decide +kernel
theorem dX5_joined_117 : decode cX5_joined 117 = .ok (.iload_n 2, 1) := by decide +kernel
theorem dX5_joined_118 : decode cX5_joined 118 = .ok (.iload_n 3, 1) := by decide +kernel
theorem dX5_joined_119 : decode cX5_joined 119 = .ok (.invokevirtual 87, 3) := by decide +kernel
theorem dX5_joined_122 : decode cX5_joined 122 = .ok (.ireturn, 1) := by decide +kernel
set_option maxHeartbeats 4000000 in
set_option maxRecDepth 100000 in
theorem w_X5_joined_71 {X : CX} {T : List Dsc} {R : RM} {c e : Nat} {n1 n2 : Nat} {s0 : Int32} {m : M2} {r : (Int32 × M2)} (hX : XR X 2 n1 n2) (hG : Geo T R c e) (hf : f_X5_joined_71 c s0 m = some r) (hk : FnI X cX5_joined RX5 4 T n1 n2 (r.1, mk r.2 R)) : Wp X cX5_joined RX5 4 T (mk m R) n1 n2 71 [] [.int s0] := by
  unfold f_X5_joined_71 at hf
  cases hf
  exact hk _ _ dX5_joined_71
set_option maxHeartbeats 4000000 in
set_option maxRecDepth 100000 in
theorem w_X5_joined_82 {X : CX} {T : List Dsc} {R : RM} {c e : Nat} {n1 n2 : Nat} {s0 : Int32} {m : M2} {r : (Int32 × M2)} (hX : XR X 2 n1 n2) (hG : Geo T R c e) (hf : f_X5_joined_82 c s0 m = some r) (hk : FnI X cX5_joined RX5 4 T n1 n2 (r.1, mk r.2 R)) : Wp X cX5_joined RX5 4 T (mk m R) n1 n2 82 [] [.int s0] := by
  unfold f_X5_joined_82 at hf
  cases hf
  exact hk _ _ dX5_joined_82
set_option maxHeartbeats 4000000 in
set_option maxRecDepth 100000 in
theorem w_X5_joined_93 {X : CX} {T : List Dsc} {R : RM} {c e : Nat} {n1 n2 : Nat} {s0 : Int32} {m : M2} {r : (Int32 × M2)} (hX : XR X 2 n1 n2) (hG : Geo T R c e) (hf : f_X5_joined_93 c s0 m = some r) (hk : FnI X cX5_joined RX5 4 T n1 n2 (r.1, mk r.2 R)) : Wp X cX5_joined RX5 4 T (mk m R) n1 n2 93 [] [.int s0] := by
  unfold f_X5_joined_93 at hf
  cases hf
  exact hk _ _ dX5_joined_93
set_option maxHeartbeats 4000000 in
set_option maxRecDepth 100000 in
theorem w_X5_joined_104 {X : CX} {T : List Dsc} {R : RM} {c e : Nat} {n1 n2 : Nat} {s0 : Int32} {m : M2} {r : (Int32 × M2)} (hX : XR X 2 n1 n2) (hG : Geo T R c e) (hf : f_X5_joined_104 c s0 m = some r) (hk : FnI X cX5_joined RX5 4 T n1 n2 (r.1, mk r.2 R)) : Wp X cX5_joined RX5 4 T (mk m R) n1 n2 104 [] [.int s0] := by
  unfold f_X5_joined_104 at hf
  cases hf
  exact hk _ _ dX5_joined_104
set_option maxHeartbeats 4000000 in
set_option maxRecDepth 100000 in
theorem w_X5_joined_115 {X : CX} {T : List Dsc} {R : RM} {c e : Nat} {n1 n2 : Nat} {s0 : Int32} {m : M2} {r : (Int32 × M2)} (hX : XR X 2 n1 n2) (hG : Geo T R c e) (hf : f_X5_joined_115 c s0 m = some r) (hk : FnI X cX5_joined RX5 4 T n1 n2 (r.1, mk r.2 R)) : Wp X cX5_joined RX5 4 T (mk m R) n1 n2 115 [] [.int s0] := by
  unfold f_X5_joined_115 at hf
  cases hf
  exact hk _ _ dX5_joined_115
set_option maxHeartbeats 4000000 in
set_option maxRecDepth 100000 in
theorem w_X5_joined {X : CX} {T : List Dsc} {R : RM} {c e : Nat} {n1 n2 : Nat} {x1 : Int32} {x2 : Int32} {x3 : Int32} {m : M2} {r : (Int32 × M2)} (hX : XR X 2 n1 n2) (hG : Geo T R c e) (hf : F_X5_joined c x1 x2 x3 m = some r) (hk : FnI X cX5_joined RX5 4 T n1 n2 (r.1, mk r.2 R)) : Wp X cX5_joined RX5 4 T (mk m R) n1 n2 0 [(0, .ref 23), (1, .int x1), (2, .int x2), (3, .int x3)] [] := by
  unfold F_X5_joined at hf
  refine Wp.iload_n (pc := 0) 1 rfl rfl dX5_joined_0 ?_
  by_cases hc1 : x1 = (7 : Int32)
  · rw [if_pos hc1] at hf
    refine Wp.swIn (pc := 1) 48 dX5_joined_1 hc1 (by decide) (by decide) rfl (by decide) ?_
    refine Wp.iload_n (pc := 48) 2 rfl rfl dX5_joined_48 ?_
    refine Wp.iload_n (pc := 49) 3 rfl rfl dX5_joined_49 ?_
    refine Wp.iadd (pc := 50) dX5_joined_50 ?_
    cases hf
    exact hk _ _ dX5_joined_51
  · rw [if_neg hc1] at hf
    by_cases hc2 : x1 = (8 : Int32)
    · rw [if_pos hc2] at hf
      refine Wp.swIn (pc := 1) 52 dX5_joined_1 hc2 (by decide) (by decide) rfl (by decide) ?_
      refine Wp.iload_n (pc := 52) 2 rfl rfl dX5_joined_52 ?_
      refine Wp.iload_n (pc := 53) 3 rfl rfl dX5_joined_53 ?_
      refine Wp.isub (pc := 54) dX5_joined_54 ?_
      cases hf
      exact hk _ _ dX5_joined_55
    · rw [if_neg hc2] at hf
      by_cases hc3 : x1 = (9 : Int32)
      · rw [if_pos hc3] at hf
        refine Wp.swIn (pc := 1) 56 dX5_joined_1 hc3 (by decide) (by decide) rfl (by decide) ?_
        refine Wp.iload_n (pc := 56) 2 rfl rfl dX5_joined_56 ?_
        refine Wp.iload_n (pc := 57) 3 rfl rfl dX5_joined_57 ?_
        refine Wp.imul (pc := 58) dX5_joined_58 ?_
        cases hf
        exact hk _ _ dX5_joined_59
      · rw [if_neg hc3] at hf
        by_cases hc4 : x1 = (10 : Int32)
        · rw [if_pos hc4] at hf
          refine Wp.swIn (pc := 1) 60 dX5_joined_1 hc4 (by decide) (by decide) rfl (by decide) ?_
          refine Wp.iload_n (pc := 60) 3 rfl rfl dX5_joined_60 ?_
          refine Wp.if_ne (pc := 61) 68 dX5_joined_61 (by decide) (fun hc5 => ?_) (fun hc5 => ?_)
          · rw [if_neg hc5] at hf
            refine Wp.iload_n (pc := 68) 2 rfl rfl dX5_joined_68 ?_
            refine Wp.iload_n (pc := 69) 3 rfl rfl dX5_joined_69 ?_
            obtain ⟨v6, h7, hf⟩ := bnd hf
            refine Wp.dv (pc := 70) h7 dX5_joined_70 ?_
            refine Wp.lo' (lo' := []) [] rfl ?_
            exact w_X5_joined_71 hX hG hf hk
          · rw [if_pos hc5] at hf
            refine Wp.iconst (pc := 64) (0 : Int32) (by decide) dX5_joined_64 ?_
            refine Wp.goto (pc := 65) 71 dX5_joined_65 (by decide) ?_
            refine Wp.lo' (lo' := []) [] rfl ?_
            exact w_X5_joined_71 hX hG hf hk
        · rw [if_neg hc4] at hf
          by_cases hc8 : x1 = (11 : Int32)
          · rw [if_pos hc8] at hf
            refine Wp.swIn (pc := 1) 72 dX5_joined_1 hc8 (by decide) (by decide) rfl (by decide) ?_
            refine Wp.iload_n (pc := 72) 2 rfl rfl dX5_joined_72 ?_
            refine Wp.iload_n (pc := 73) 3 rfl rfl dX5_joined_73 ?_
            refine Wp.icmp_ne (pc := 74) 81 dX5_joined_74 (by decide) (fun hc9 => ?_) (fun hc9 => ?_)
            · rw [if_neg hc9] at hf
              refine Wp.iconst (pc := 81) (0 : Int32) (by decide) dX5_joined_81 ?_
              refine Wp.lo' (lo' := []) [] rfl ?_
              exact w_X5_joined_82 hX hG hf hk
            · rw [if_pos hc9] at hf
              refine Wp.iconst (pc := 77) (1 : Int32) (by decide) dX5_joined_77 ?_
              refine Wp.goto (pc := 78) 82 dX5_joined_78 (by decide) ?_
              refine Wp.lo' (lo' := []) [] rfl ?_
              exact w_X5_joined_82 hX hG hf hk
          · rw [if_neg hc8] at hf
            by_cases hc10 : x1 = (12 : Int32)
            · rw [if_pos hc10] at hf
              refine Wp.swIn (pc := 1) 83 dX5_joined_1 hc10 (by decide) (by decide) rfl (by decide) ?_
              refine Wp.iload_n (pc := 83) 2 rfl rfl dX5_joined_83 ?_
              refine Wp.iload_n (pc := 84) 3 rfl rfl dX5_joined_84 ?_
              refine Wp.icmp_eq (pc := 85) 92 dX5_joined_85 (by decide) (fun hc11 => ?_) (fun hc11 => ?_)
              · rw [if_pos hc11] at hf
                refine Wp.iconst (pc := 92) (0 : Int32) (by decide) dX5_joined_92 ?_
                refine Wp.lo' (lo' := []) [] rfl ?_
                exact w_X5_joined_93 hX hG hf hk
              · rw [if_neg hc11] at hf
                refine Wp.iconst (pc := 88) (1 : Int32) (by decide) dX5_joined_88 ?_
                refine Wp.goto (pc := 89) 93 dX5_joined_89 (by decide) ?_
                refine Wp.lo' (lo' := []) [] rfl ?_
                exact w_X5_joined_93 hX hG hf hk
            · rw [if_neg hc10] at hf
              by_cases hc12 : x1 = (13 : Int32)
              · rw [if_pos hc12] at hf
                refine Wp.swIn (pc := 1) 94 dX5_joined_1 hc12 (by decide) (by decide) rfl (by decide) ?_
                refine Wp.iload_n (pc := 94) 2 rfl rfl dX5_joined_94 ?_
                refine Wp.iload_n (pc := 95) 3 rfl rfl dX5_joined_95 ?_
                refine Wp.icmp_ge (pc := 96) 103 dX5_joined_96 (by decide) (fun hc13 => ?_) (fun hc13 => ?_)
                · rw [if_pos hc13] at hf
                  refine Wp.iconst (pc := 103) (0 : Int32) (by decide) dX5_joined_103 ?_
                  refine Wp.lo' (lo' := []) [] rfl ?_
                  exact w_X5_joined_104 hX hG hf hk
                · rw [if_neg hc13] at hf
                  refine Wp.iconst (pc := 99) (1 : Int32) (by decide) dX5_joined_99 ?_
                  refine Wp.goto (pc := 100) 104 dX5_joined_100 (by decide) ?_
                  refine Wp.lo' (lo' := []) [] rfl ?_
                  exact w_X5_joined_104 hX hG hf hk
              · rw [if_neg hc12] at hf
                by_cases hc14 : x1 = (14 : Int32)
                · rw [if_pos hc14] at hf
                  refine Wp.swIn (pc := 1) 105 dX5_joined_1 hc14 (by decide) (by decide) rfl (by decide) ?_
                  refine Wp.iload_n (pc := 105) 2 rfl rfl dX5_joined_105 ?_
                  refine Wp.iload_n (pc := 106) 3 rfl rfl dX5_joined_106 ?_
                  refine Wp.icmp_gt (pc := 107) 114 dX5_joined_107 (by decide) (fun hc15 => ?_) (fun hc15 => ?_)
                  · rw [if_pos hc15] at hf
                    refine Wp.iconst (pc := 114) (0 : Int32) (by decide) dX5_joined_114 ?_
                    refine Wp.lo' (lo' := []) [] rfl ?_
                    exact w_X5_joined_115 hX hG hf hk
                  · rw [if_neg hc15] at hf
                    refine Wp.iconst (pc := 110) (1 : Int32) (by decide) dX5_joined_110 ?_
                    refine Wp.goto (pc := 111) 115 dX5_joined_111 (by decide) ?_
                    refine Wp.lo' (lo' := []) [] rfl ?_
                    exact w_X5_joined_115 hX hG hf hk
                · rw [if_neg hc14] at hf
                  refine Wp.swOut (pc := 1) 116 dX5_joined_1 (swx (fun k h1 h2 => ?_)) (by decide) ?_
                  · have z0 := lv_neT hc1 (a := 7) (by decide); have z1 := lv_neT hc2 (a := 8) (by decide); have z2 := lv_neT hc3 (a := 9) (by decide); have z3 := lv_neT hc4 (a := 10) (by decide); have z4 := lv_neT hc8 (a := 11) (by decide); have z5 := lv_neT hc10 (a := 12) (by decide); have z6 := lv_neT hc12 (a := 13) (by decide); have z7 := lv_neT hc14 (a := 14) (by decide); omega
                  · skip
                    refine Wp.aload_n (pc := 116) 0 rfl rfl dX5_joined_116 ?_
                    refine Wp.iload_n (pc := 117) 2 rfl rfl dX5_joined_117 ?_
                    refine Wp.iload_n (pc := 118) 3 rfl rfl dX5_joined_118 ?_
                    obtain ⟨c16, h17, hf⟩ := bnd hf
                    refine Wp.callVi (pc := 119) (st := []) (as := [.int x2, .int x3]) (c_X5_gap hG h17) ml_RX5_87 mv_X5_gap mb_X5_gap hX (Nat.le_of_ble_eq_true rfl) (by decide) rfl (hG.t 23 rfl) rfl (by simp) dX5_joined_119 rfl ?_
                    cases hf
                    exact hk _ _ dX5_joined_122
theorem c_X5_joined {T : List Dsc} {R : RM} {c e : Nat} {x1 : Int32} {x2 : Int32} {x3 : Int32} {m : M2} {r : (Int32 × M2)} (hG : Geo T R c e) (hf : F_X5_joined c x1 x2 x3 m = some r) : Ct 2 yX5_joined cX5_joined 4 (some .int) T (mk m R) [.ref 23, .int x1, .int x2, .int x3] (some (.int r.1)) (mk r.2 R) := Ct.ofI (r := (r.1, mk r.2 R)) (by decide +kernel) (Nat.le_of_ble_eq_true rfl) (fun X hX hk => w_X5_joined hX hG hf hk)
theorem dX5_worked_0 : decode cX5_worked 0 = .ok (.iload_n 1, 1) := by decide +kernel
theorem dX5_worked_1 : decode cX5_worked 1 = .ok (.istore_n 3, 1) := by decide +kernel
theorem dX5_worked_2 : decode cX5_worked 2 = .ok (.iconst 0, 1) := by decide +kernel
theorem dX5_worked_3 : decode cX5_worked 3 = .ok (.istore 4, 2) := by decide +kernel
theorem dX5_worked_5 : decode cX5_worked 5 = .ok (.iconst 0, 1) := by decide +kernel
theorem dX5_worked_6 : decode cX5_worked 6 = .ok (.istore 5, 2) := by decide +kernel
theorem dX5_worked_8 : decode cX5_worked 8 = .ok (.iload 5, 2) := by decide +kernel
theorem dX5_worked_10 : decode cX5_worked 10 = .ok (.aload_n 0, 1) := by decide +kernel
theorem dX5_worked_11 : decode cX5_worked 11 = .ok (.getfield 26, 3) := by decide +kernel
theorem dX5_worked_14 : decode cX5_worked 14 = .ok (.getfield 75, 3) := by decide +kernel
theorem dX5_worked_17 : decode cX5_worked 17 = .ok (.if_icmp .ge 329, 3) := by decide +kernel
theorem dX5_worked_20 : decode cX5_worked 20 = .ok (.iload_n 3, 1) := by decide +kernel
theorem dX5_worked_21 : decode cX5_worked 21 = .ok (.aload_n 0, 1) := by decide +kernel
theorem dX5_worked_22 : decode cX5_worked 22 = .ok (.getfield 26, 3) := by decide +kernel
theorem dX5_worked_25 : decode cX5_worked 25 = .ok (.getfield 75, 3) := by decide +kernel
theorem dX5_worked_28 : decode cX5_worked 28 = .ok (.if_icmp .ge 318, 3) := by decide +kernel
theorem dX5_worked_31 : decode cX5_worked 31 = .ok (.aload_n 0, 1) := by decide +kernel
theorem dX5_worked_32 : decode cX5_worked 32 = .ok (.getfield 26, 3) := by decide +kernel
theorem dX5_worked_35 : decode cX5_worked 35 = .ok (.getfield 78, 3) := by decide +kernel
theorem dX5_worked_38 : decode cX5_worked 38 = .ok (.iload_n 3, 1) := by decide +kernel
theorem dX5_worked_39 : decode cX5_worked 39 = .ok (.iaload, 1) := by decide +kernel
theorem dX5_worked_40 : decode cX5_worked 40 = .ok (.istore 6, 2) := by decide +kernel
theorem dX5_worked_42 : decode cX5_worked 42 = .ok (.iload 6, 2) := by decide +kernel
theorem dX5_worked_44 : decode cX5_worked 44 = .ok (.bipush 63, 2) := by decide +kernel
theorem dX5_worked_46 : decode cX5_worked 46 = .ok (.iand, 1) := by decide +kernel
theorem dX5_worked_47 : decode cX5_worked 47 = .ok (.istore 7, 2) := by decide +kernel
theorem dX5_worked_49 : decode cX5_worked 49 = .ok (.iload 6, 2) := by decide +kernel
theorem dX5_worked_51 : decode cX5_worked 51 = .ok (.bipush 6, 2) := by decide +kernel
theorem dX5_worked_53 : decode cX5_worked 53 = .ok (.ishr, 1) := by decide +kernel
theorem dX5_worked_54 : decode cX5_worked 54 = .ok (.istore 8, 2) := by decide +kernel
theorem dX5_worked_56 : decode cX5_worked 56 = .ok (.iinc 3 1, 3) := by decide +kernel
theorem dX5_worked_59 : decode cX5_worked 59 = .ok (.iload 7, 2) := by decide +kernel
theorem dX5_worked_61 : decode cX5_worked 61 = .ok (.iconst 3, 1) := by decide +kernel
theorem dX5_worked_62 : decode cX5_worked 62 = .ok (.if_icmp .ne 21, 3) := by decide +kernel
theorem dX5_worked_65 : decode cX5_worked 65 = .ok (.iinc 4 1, 3) := by decide +kernel
theorem dX5_worked_68 : decode cX5_worked 68 = .ok (.aload_n 0, 1) := by decide +kernel
theorem dX5_worked_69 : decode cX5_worked 69 = .ok (.getfield 11, 3) := by decide +kernel
theorem dX5_worked_72 : decode cX5_worked 72 = .ok (.iload 4, 2) := by decide +kernel
theorem dX5_worked_74 : decode cX5_worked 74 = .ok (.bipush 63, 2) := by decide +kernel
theorem dX5_worked_76 : decode cX5_worked 76 = .ok (.iand, 1) := by decide +kernel
theorem dX5_worked_77 : decode cX5_worked 77 = .ok (.iload 8, 2) := by decide +kernel
theorem dX5_worked_79 : decode cX5_worked 79 = .ok (.iastore, 1) := by decide +kernel
theorem dX5_worked_80 : decode cX5_worked 80 = .ok (.goto 260, 3) := by decide +kernel
theorem dX5_worked_83 : decode cX5_worked 83 = .ok (.iload 7, 2) := by decide +kernel
theorem dX5_worked_85 : decode cX5_worked 85 = .ok (.bipush 28, 2) := by decide +kernel
theorem dX5_worked_87 : decode cX5_worked 87 = .ok (.if_icmp .lt 29, 3) := by decide +kernel
theorem dX5_worked_90 : decode cX5_worked 90 = .ok (.iinc 4 1, 3) := by decide +kernel
theorem dX5_worked_93 : decode cX5_worked 93 = .ok (.aload_n 0, 1) := by decide +kernel
theorem dX5_worked_94 : decode cX5_worked 94 = .ok (.getfield 11, 3) := by decide +kernel
theorem dX5_worked_97 : decode cX5_worked 97 = .ok (.iload 4, 2) := by decide +kernel
theorem dX5_worked_99 : decode cX5_worked 99 = .ok (.bipush 63, 2) := by decide +kernel
theorem dX5_worked_101 : decode cX5_worked 101 = .ok (.iand, 1) := by decide +kernel
theorem dX5_worked_102 : decode cX5_worked 102 = .ok (.aload_n 0, 1) := by decide +kernel
theorem dX5_worked_103 : decode cX5_worked 103 = .ok (.getfield 17, 3) := by decide +kernel
theorem dX5_worked_106 : decode cX5_worked 106 = .ok (.iload 7, 2) := by decide +kernel
theorem dX5_worked_108 : decode cX5_worked 108 = .ok (.bipush 28, 2) := by decide +kernel
theorem dX5_worked_110 : decode cX5_worked 110 = .ok (.isub, 1) := by decide +kernel
theorem dX5_worked_111 : decode cX5_worked 111 = .ok (.iaload, 1) := by decide +kernel
theorem dX5_worked_112 : decode cX5_worked 112 = .ok (.iastore, 1) := by decide +kernel
theorem dX5_worked_113 : decode cX5_worked 113 = .ok (.goto 227, 3) := by decide +kernel
theorem dX5_worked_116 : decode cX5_worked 116 = .ok (.iload 7, 2) := by decide +kernel
theorem dX5_worked_118 : decode cX5_worked 118 = .ok (.bipush 23, 2) := by decide +kernel
theorem dX5_worked_120 : decode cX5_worked 120 = .ok (.if_icmp .ne 14, 3) := by decide +kernel
theorem dX5_worked_123 : decode cX5_worked 123 = .ok (.aload_n 0, 1) := by decide +kernel
theorem dX5_worked_124 : decode cX5_worked 124 = .ok (.getfield 11, 3) := by decide +kernel
theorem dX5_worked_127 : decode cX5_worked 127 = .ok (.iload 4, 2) := by decide +kernel
theorem dX5_worked_129 : decode cX5_worked 129 = .ok (.bipush 63, 2) := by decide +kernel
theorem dX5_worked_131 : decode cX5_worked 131 = .ok (.iand, 1) := by decide +kernel
theorem dX5_worked_132 : decode cX5_worked 132 = .ok (.iaload, 1) := by decide +kernel
theorem dX5_worked_133 : decode cX5_worked 133 = .ok (.ireturn, 1) := by decide +kernel
theorem dX5_worked_134 : decode cX5_worked 134 = .ok (.iload 7, 2) := by decide +kernel
theorem dX5_worked_136 : decode cX5_worked 136 = .ok (.bipush 26, 2) := by decide +kernel
theorem dX5_worked_138 : decode cX5_worked 138 = .ok (.if_icmp .ne 28, 3) := by decide +kernel
theorem dX5_worked_141 : decode cX5_worked 141 = .ok (.aload_n 0, 1) := by decide +kernel
theorem dX5_worked_142 : decode cX5_worked 142 = .ok (.getfield 11, 3) := by decide +kernel
theorem dX5_worked_145 : decode cX5_worked 145 = .ok (.iload 4, 2) := by decide +kernel
theorem dX5_worked_147 : decode cX5_worked 147 = .ok (.bipush 63, 2) := by decide +kernel
theorem dX5_worked_149 : decode cX5_worked 149 = .ok (.iand, 1) := by decide +kernel
theorem dX5_worked_150 : decode cX5_worked 150 = .ok (.iconst 1, 1) := by decide +kernel
theorem dX5_worked_151 : decode cX5_worked 151 = .ok (.aload_n 0, 1) := by decide +kernel
theorem dX5_worked_152 : decode cX5_worked 152 = .ok (.getfield 11, 3) := by decide +kernel
theorem dX5_worked_155 : decode cX5_worked 155 = .ok (.iload 4, 2) := by decide +kernel
theorem dX5_worked_157 : decode cX5_worked 157 = .ok (.bipush 63, 2) := by decide +kernel
theorem dX5_worked_159 : decode cX5_worked 159 = .ok (.iand, 1) := by decide +kernel
theorem dX5_worked_160 : decode cX5_worked 160 = .ok (.iaload, 1) := by decide +kernel
theorem dX5_worked_161 : decode cX5_worked 161 = .ok (.isub, 1) := by decide +kernel
theorem dX5_worked_162 : decode cX5_worked 162 = .ok (.iastore, 1) := by decide +kernel
theorem dX5_worked_163 : decode cX5_worked 163 = .ok (.goto 177, 3) := by decide +kernel
theorem dX5_worked_166 : decode cX5_worked 166 = .ok (.iload 7, 2) := by decide +kernel
theorem dX5_worked_168 : decode cX5_worked 168 = .ok (.bipush 21, 2) := by decide +kernel
theorem dX5_worked_170 : decode cX5_worked 170 = .ok (.if_icmp .ne 29, 3) := by decide +kernel
theorem dX5_worked_173 : decode cX5_worked 173 = .ok (.aload_n 0, 1) := by decide +kernel
theorem dX5_worked_174 : decode cX5_worked 174 = .ok (.getfield 11, 3) := by decide +kernel
theorem dX5_worked_177 : decode cX5_worked 177 = .ok (.iload 4, 2) := by decide +kernel
theorem dX5_worked_179 : decode cX5_worked 179 = .ok (.bipush 63, 2) := by decide +kernel
theorem dX5_worked_181 : decode cX5_worked 181 = .ok (.iand, 1) := by decide +kernel
theorem dX5_worked_182 : decode cX5_worked 182 = .ok (.iaload, 1) := by decide +kernel
theorem dX5_worked_183 : decode cX5_worked 183 = .ok (.ifCond .ne 8, 3) := by decide +kernel
theorem dX5_worked_186 : decode cX5_worked 186 = .ok (.iload 8, 2) := by decide +kernel
theorem dX5_worked_188 : decode cX5_worked 188 = .ok (.goto 4, 3) := by decide +kernel
theorem dX5_worked_191 : decode cX5_worked 191 = .ok (.iload_n 3, 1) := by decide +kernel
theorem dX5_worked_192 : decode cX5_worked 192 = .ok (.istore_n 3, 1) := by decide +kernel
theorem dX5_worked_193 : decode cX5_worked 193 = .ok (.iinc 4 (-1), 3) := by decide +kernel
theorem dX5_worked_196 : decode cX5_worked 196 = .ok (.goto 144, 3) := by decide +kernel
theorem dX5_worked_199 : decode cX5_worked 199 = .ok (.iload 7, 2) := by decide +kernel
theorem dX5_worked_201 : decode cX5_worked 201 = .ok (.bipush 25, 2) := by decide +kernel
theorem dX5_worked_203 : decode cX5_worked 203 = .ok (.if_icmp .eq 10, 3) := by decide +kernel
theorem dX5_worked_206 : decode cX5_worked 206 = .ok (.iload 7, 2) := by decide +kernel
theorem dX5_worked_208 : decode cX5_worked 208 = .ok (.bipush 24, 2) := by decide +kernel
theorem dX5_worked_210 : decode cX5_worked 210 = .ok (.if_icmp .ne 73, 3) := by decide +kernel
theorem dX5_worked_213 : decode cX5_worked 213 = .ok (.aload_n 0, 1) := by decide +kernel
theorem dX5_worked_214 : decode cX5_worked 214 = .ok (.getfield 11, 3) := by decide +kernel
theorem dX5_worked_217 : decode cX5_worked 217 = .ok (.iload 4, 2) := by decide +kernel
theorem dX5_worked_219 : decode cX5_worked 219 = .ok (.bipush 63, 2) := by decide +kernel
theorem dX5_worked_221 : decode cX5_worked 221 = .ok (.iand, 1) := by decide +kernel
theorem dX5_worked_222 : decode cX5_worked 222 = .ok (.iaload, 1) := by decide +kernel
theorem dX5_worked_223 : decode cX5_worked 223 = .ok (.ifCond .ne 7, 3) := by decide +kernel
theorem dX5_worked_226 : decode cX5_worked 226 = .ok (.iconst 1, 1) := by decide +kernel
theorem dX5_worked_227 : decode cX5_worked 227 = .ok (.goto 4, 3) := by decide +kernel
theorem dX5_worked_230 : decode cX5_worked 230 = .ok (.iconst 0, 1) := by decide +kernel
theorem dX5_worked_231 : decode cX5_worked 231 = .ok (.iload 7, 2) := by decide +kernel
theorem dX5_worked_233 : decode cX5_worked 233 = .ok (.bipush 25, 2) := by decide +kernel
theorem dX5_worked_235 : decode cX5_worked 235 = .ok (.if_icmp .ne 7, 3) := by decide +kernel
theorem dX5_worked_238 : decode cX5_worked 238 = .ok (.iconst 1, 1) := by decide +kernel
theorem dX5_worked_239 : decode cX5_worked 239 = .ok (.goto 4, 3) := by decide +kernel
theorem dX5_worked_242 : decode cX5_worked 242 = .ok (.iconst 0, 1) := by decide +kernel
theorem dX5_worked_243 : decode cX5_worked 243 = .ok (.if_icmp .ne 7, 3) := by decide +kernel
theorem dX5_worked_246 : decode cX5_worked 246 = .ok (.iconst 1, 1) := by decide +kernel
theorem dX5_worked_247 : decode cX5_worked 247 = .ok (.goto 4, 3) := by decide +kernel
theorem dX5_worked_250 : decode cX5_worked 250 = .ok (.iconst 0, 1) := by decide +kernel
theorem dX5_worked_251 : decode cX5_worked 251 = .ok (.istore 9, 2) := by decide +kernel
theorem dX5_worked_253 : decode cX5_worked 253 = .ok (.iload 9, 2) := by decide +kernel
theorem dX5_worked_255 : decode cX5_worked 255 = .ok (.ifCond .eq 8, 3) := by decide +kernel
theorem dX5_worked_258 : decode cX5_worked 258 = .ok (.iload 8, 2) := by decide +kernel
theorem dX5_worked_260 : decode cX5_worked 260 = .ok (.goto 4, 3) := by decide +kernel
theorem dX5_worked_263 : decode cX5_worked 263 = .ok (.iload_n 3, 1) := by decide +kernel
theorem dX5_worked_264 : decode cX5_worked 264 = .ok (.istore_n 3, 1) := by decide +kernel
theorem dX5_worked_265 : decode cX5_worked 265 = .ok (.iload 4, 2) := by decide +kernel
theorem dX5_worked_267 : decode cX5_worked 267 = .ok (.iload 9, 2) := by decide +kernel
theorem dX5_worked_269 : decode cX5_worked 269 = .ok (.ifCond .eq 7, 3) := by decide +kernel
theorem dX5_worked_272 : decode cX5_worked 272 = .ok (.iconst 0, 1) := by decide +kernel
theorem dX5_worked_273 : decode cX5_worked 273 = .ok (.goto 4, 3) := by decide +kernel
theorem dX5_worked_276 : decode cX5_worked 276 = .ok (.iconst 1, 1) := by decide +kernel
theorem dX5_worked_277 : decode cX5_worked 277 = .ok (.isub, 1) := by decide +kernel
theorem dX5_worked_278 : decode cX5_worked 278 = .ok (.istore 4, 2) := by decide +kernel
theorem dX5_worked_280 : decode cX5_worked 280 = .ok (.goto 60, 3) := by decide +kernel
theorem dX5_worked_283 : decode cX5_worked 283 = .ok (.aload_n 0, 1) := by decide +kernel
theorem dX5_worked_284 : decode cX5_worked 284 = .ok (.getfield 11, 3) := by decide +kernel
theorem dX5_worked_287 : decode cX5_worked 287 = .ok (.iload 4, 2) := by decide +kernel
theorem dX5_worked_289 : decode cX5_worked 289 = .ok (.bipush 63, 2) := by decide +kernel
theorem dX5_worked_291 : decode cX5_worked 291 = .ok (.iand, 1) := by decide +kernel
theorem dX5_worked_292 : decode cX5_worked 292 = .ok (.iaload, 1) := by decide +kernel
theorem dX5_worked_293 : decode cX5_worked 293 = .ok (.istore 9, 2) := by decide +kernel
theorem dX5_worked_295 : decode cX5_worked 295 = .ok (.iinc 4 (-1), 3) := by decide +kernel
theorem dX5_worked_298 : decode cX5_worked 298 = .ok (.iload 7, 2) := by decide +kernel
theorem dX5_worked_300 : decode cX5_worked 300 = .ok (.bipush 10, 2) := by decide +kernel
theorem dX5_worked_302 : decode cX5_worked 302 = .ok (.if_icmp .ne 10, 3) := by decide +kernel
theorem dX5_worked_305 : decode cX5_worked 305 = .ok (.iload 9, 2) := by decide +kernel
theorem dX5_worked_307 : decode cX5_worked 307 = .ok (.ifCond .ne 5, 3) := by decide +kernel
theorem dX5_worked_310 : decode cX5_worked 310 = .ok (.iload_n 2, 1) := by decide +kernel
theorem dX5_worked_311 : decode cX5_worked 311 = .ok (.ireturn, 1) := by decide +kernel
theorem dX5_worked_312 : decode cX5_worked 312 = .ok (.aload_n 0, 1) := by decide +kernel
theorem dX5_worked_313 : decode cX5_worked 313 = .ok (.getfield 11, 3) := by decide +kernel
theorem dX5_worked_316 : decode cX5_worked 316 = .ok (.iload 4, 2) := by decide +kernel
theorem dX5_worked_318 : decode cX5_worked 318 = .ok (.bipush 63, 2) := by decide +kernel
theorem dX5_worked_320 : decode cX5_worked 320 = .ok (.iand, 1) := by decide +kernel
theorem dX5_worked_321 : decode cX5_worked 321 = .ok (.aload_n 0, 1) := by decide +kernel
theorem dX5_worked_322 : decode cX5_worked 322 = .ok (.iload 7, 2) := by decide +kernel
theorem dX5_worked_324 : decode cX5_worked 324 = .ok (.aload_n 0, 1) := by decide +kernel
theorem dX5_worked_325 : decode cX5_worked 325 = .ok (.getfield 11, 3) := by decide +kernel
theorem dX5_worked_328 : decode cX5_worked 328 = .ok (.iload 4, 2) := by decide +kernel
theorem dX5_worked_330 : decode cX5_worked 330 = .ok (.bipush 63, 2) := by decide +kernel
theorem dX5_worked_332 : decode cX5_worked 332 = .ok (.iand, 1) := by decide +kernel
theorem dX5_worked_333 : decode cX5_worked 333 = .ok (.iaload, 1) := by decide +kernel
theorem dX5_worked_334 : decode cX5_worked 334 = .ok (.iload 9, 2) := by decide +kernel
theorem dX5_worked_336 : decode cX5_worked 336 = .ok (.invokevirtual 83, 3) := by decide +kernel
theorem dX5_worked_339 : decode cX5_worked 339 = .ok (.iastore, 1) := by decide +kernel
theorem dX5_worked_340 : decode cX5_worked 340 = .ok (.iinc 5 1, 3) := by decide +kernel
theorem dX5_worked_343 : decode cX5_worked 343 = .ok (.goto (-335), 3) := by decide +kernel
theorem dX5_worked_346 : decode cX5_worked 346 = .ok (.iload_n 2, 1) := by decide +kernel
theorem dX5_worked_347 : decode cX5_worked 347 = .ok (.ireturn, 1) := by decide +kernel
def k_X5_worked_8 (X : CX) (T : List Dsc) (R : RM) (n1 n2 : Nat) (x2 : Int32) (r : ((Int32 × Int32 × Int32 × M2) ⊕ ((Int32 × M2) ⊕ (M2) ⊕ (M2)))) : Prop := match r with
  | .inl s => Wp X cX5_worked RX5 10 T (mk s.2.2.2 R) n1 n2 8 [(0, .ref 23), (2, .int x2), (3, .int s.1), (4, .int s.2.1), (5, .int s.2.2.1)] []
  | .inr (.inl e) => Wp X cX5_worked RX5 10 T (mk e.2 R) n1 n2 123 [(0, .ref 23), (4, .int e.1)] []
  | .inr (.inr (.inl e)) => Wp X cX5_worked RX5 10 T (mk e R) n1 n2 310 [(2, .int x2)] []
  | .inr (.inr (.inr e)) => Wp X cX5_worked RX5 10 T (mk e R) n1 n2 346 [(2, .int x2)] []
set_option maxHeartbeats 4000000 in
set_option maxRecDepth 100000 in
theorem w_X5_worked_340 {X : CX} {T : List Dsc} {R : RM} {c e : Nat} {n1 n2 : Nat} {x2 : Int32} {x3 : Int32} {x4 : Int32} {x5 : Int32} {m : M2} {r : ((Int32 × Int32 × Int32 × M2) ⊕ ((Int32 × M2) ⊕ (M2) ⊕ (M2)))} (hX : XR X 3 n1 n2) (hG : Geo T R c e) (hf : f_X5_worked_340 c x2 x3 x4 x5 m = some r) (hk : k_X5_worked_8 X T R n1 n2 x2 r) : Wp X cX5_worked RX5 10 T (mk m R) n1 n2 340 [(0, .ref 23), (2, .int x2), (3, .int x3), (4, .int x4), (5, .int x5)] [] := by
  unfold f_X5_worked_340 at hf
  obtain ⟨v1, h2, hf⟩ := bnd hf
  refine Wp.iincN (pc := 340) (lo' := [(0, .ref 23), (2, .int x2), (3, .int x3), (4, .int x4), (5, .int v1)]) (1 : Int32) (by decide) h2 4 rfl [1, 2, 3, 4, 0] rfl (by decide) dX5_worked_340 ?_
  refine Wp.goto (pc := 343) 8 dX5_worked_343 (by decide) ?_
  cases hf
  exact hk
set_option maxHeartbeats 4000000 in
set_option maxRecDepth 100000 in
theorem w_X5_worked_192 {X : CX} {T : List Dsc} {R : RM} {c e : Nat} {n1 n2 : Nat} {x2 : Int32} {x4 : Int32} {x5 : Int32} {s0 : Int32} {m : M2} {r : ((Int32 × Int32 × Int32 × M2) ⊕ ((Int32 × M2) ⊕ (M2) ⊕ (M2)))} (hX : XR X 3 n1 n2) (hG : Geo T R c e) (hf : f_X5_worked_192 c x2 x4 x5 s0 m = some r) (hk : k_X5_worked_8 X T R n1 n2 x2 r) : Wp X cX5_worked RX5 10 T (mk m R) n1 n2 192 [(0, .ref 23), (2, .int x2), (4, .int x4), (5, .int x5)] [.int s0] := by
  unfold f_X5_worked_192 at hf
  refine Wp.istore_n (pc := 192) (lo' := [(0, .ref 23), (2, .int x2), (3, .int s0), (4, .int x4), (5, .int x5)]) [1, 2, 0, 3, 4] rfl (by decide) rfl dX5_worked_192 ?_
  obtain ⟨v1, h2, hf⟩ := bnd hf
  refine Wp.iincN (pc := 193) (lo' := [(0, .ref 23), (2, .int x2), (3, .int s0), (4, .int v1), (5, .int x5)]) (-1 : Int32) (by decide) h2 3 rfl [1, 2, 3, 0, 4] rfl (by decide) dX5_worked_193 ?_
  refine Wp.goto (pc := 196) 340 dX5_worked_196 (by decide) ?_
  exact w_X5_worked_340 hX hG hf hk
set_option maxHeartbeats 4000000 in
set_option maxRecDepth 100000 in
theorem w_X5_worked_277 {X : CX} {T : List Dsc} {R : RM} {c e : Nat} {n1 n2 : Nat} {x2 : Int32} {x3 : Int32} {x5 : Int32} {s0 : Int32} {s1 : Int32} {m : M2} {r : ((Int32 × Int32 × Int32 × M2) ⊕ ((Int32 × M2) ⊕ (M2) ⊕ (M2)))} (hX : XR X 3 n1 n2) (hG : Geo T R c e) (hf : f_X5_worked_277 c x2 x3 x5 s0 s1 m = some r) (hk : k_X5_worked_8 X T R n1 n2 x2 r) : Wp X cX5_worked RX5 10 T (mk m R) n1 n2 277 [(0, .ref 23), (2, .int x2), (3, .int x3), (5, .int x5)] [.int s1, .int s0] := by
  unfold f_X5_worked_277 at hf
  refine Wp.isub (pc := 277) dX5_worked_277 ?_
  obtain ⟨v1, h2, hf⟩ := bnd hf
  refine Wp.nI' h2 ?_
  refine Wp.istore (pc := 278) (lo' := [(0, .ref 23), (2, .int x2), (3, .int x3), (4, .int v1), (5, .int x5)]) [1, 2, 3, 0, 4] rfl (by decide) dX5_worked_278 ?_
  refine Wp.goto (pc := 280) 340 dX5_worked_280 (by decide) ?_
  exact w_X5_worked_340 hX hG hf hk
set_option maxHeartbeats 4000000 in
set_option maxRecDepth 100000 in
theorem w_X5_worked_264 {X : CX} {T : List Dsc} {R : RM} {c e : Nat} {n1 n2 : Nat} {x2 : Int32} {x4 : Int32} {x5 : Int32} {x9 : Int32} {s0 : Int32} {m : M2} {r : ((Int32 × Int32 × Int32 × M2) ⊕ ((Int32 × M2) ⊕ (M2) ⊕ (M2)))} (hX : XR X 3 n1 n2) (hG : Geo T R c e) (hf : f_X5_worked_264 c x2 x4 x5 x9 s0 m = some r) (hk : k_X5_worked_8 X T R n1 n2 x2 r) : Wp X cX5_worked RX5 10 T (mk m R) n1 n2 264 [(0, .ref 23), (2, .int x2), (4, .int x4), (5, .int x5), (9, .int x9)] [.int s0] := by
  unfold f_X5_worked_264 at hf
  refine Wp.istore_n (pc := 264) (lo' := [(0, .ref 23), (2, .int x2), (3, .int s0), (4, .int x4), (5, .int x5), (9, .int x9)]) [1, 2, 0, 3, 4, 5] rfl (by decide) rfl dX5_worked_264 ?_
  refine Wp.iload (pc := 265) 3 rfl dX5_worked_265 ?_
  refine Wp.iload (pc := 267) 5 rfl dX5_worked_267 ?_
  refine Wp.if_eq (pc := 269) 276 dX5_worked_269 (by decide) (fun hc1 => ?_) (fun hc1 => ?_)
  · rw [if_pos hc1] at hf
    refine Wp.iconst (pc := 276) (1 : Int32) (by decide) dX5_worked_276 ?_
    refine Wp.lo' (lo' := [(0, .ref 23), (2, .int x2), (3, .int s0), (5, .int x5)]) [0, 1, 2, 4] rfl ?_
    exact w_X5_worked_277 hX hG hf hk
  · rw [if_neg hc1] at hf
    refine Wp.iconst (pc := 272) (0 : Int32) (by decide) dX5_worked_272 ?_
    refine Wp.goto (pc := 273) 277 dX5_worked_273 (by decide) ?_
    refine Wp.lo' (lo' := [(0, .ref 23), (2, .int x2), (3, .int s0), (5, .int x5)]) [0, 1, 2, 4] rfl ?_
    exact w_X5_worked_277 hX hG hf hk
set_option maxHeartbeats 4000000 in
set_option maxRecDepth 100000 in
theorem w_X5_worked_251 {X : CX} {T : List Dsc} {R : RM} {c e : Nat} {n1 n2 : Nat} {x2 : Int32} {x3 : Int32} {x4 : Int32} {x5 : Int32} {x8 : Int32} {s0 : Int32} {m : M2} {r : ((Int32 × Int32 × Int32 × M2) ⊕ ((Int32 × M2) ⊕ (M2) ⊕ (M2)))} (hX : XR X 3 n1 n2) (hG : Geo T R c e) (hf : f_X5_worked_251 c x2 x3 x4 x5 x8 s0 m = some r) (hk : k_X5_worked_8 X T R n1 n2 x2 r) : Wp X cX5_worked RX5 10 T (mk m R) n1 n2 251 [(0, .ref 23), (2, .int x2), (3, .int x3), (4, .int x4), (5, .int x5), (8, .int x8)] [.int s0] := by
  unfold f_X5_worked_251 at hf
  refine Wp.istore (pc := 251) (lo' := [(0, .ref 23), (2, .int x2), (3, .int x3), (4, .int x4), (5, .int x5), (8, .int x8), (9, .int s0)]) [1, 2, 3, 4, 5, 6, 0] rfl (by decide) dX5_worked_251 ?_
  refine Wp.iload (pc := 253) 6 rfl dX5_worked_253 ?_
  refine Wp.if_eq (pc := 255) 263 dX5_worked_255 (by decide) (fun hc1 => ?_) (fun hc1 => ?_)
  · rw [if_pos hc1] at hf
    refine Wp.iload_n (pc := 263) 2 rfl rfl dX5_worked_263 ?_
    refine Wp.lo' (lo' := [(0, .ref 23), (2, .int x2), (4, .int x4), (5, .int x5), (9, .int s0)]) [0, 1, 3, 4, 6] rfl ?_
    exact w_X5_worked_264 hX hG hf hk
  · rw [if_neg hc1] at hf
    refine Wp.iload (pc := 258) 5 rfl dX5_worked_258 ?_
    refine Wp.goto (pc := 260) 264 dX5_worked_260 (by decide) ?_
    refine Wp.lo' (lo' := [(0, .ref 23), (2, .int x2), (4, .int x4), (5, .int x5), (9, .int s0)]) [0, 1, 3, 4, 6] rfl ?_
    exact w_X5_worked_264 hX hG hf hk
set_option maxHeartbeats 4000000 in
set_option maxRecDepth 100000 in
theorem w_X5_worked_243 {X : CX} {T : List Dsc} {R : RM} {c e : Nat} {n1 n2 : Nat} {x2 : Int32} {x3 : Int32} {x4 : Int32} {x5 : Int32} {x8 : Int32} {s0 : Int32} {s1 : Int32} {m : M2} {r : ((Int32 × Int32 × Int32 × M2) ⊕ ((Int32 × M2) ⊕ (M2) ⊕ (M2)))} (hX : XR X 3 n1 n2) (hG : Geo T R c e) (hf : f_X5_worked_243 c x2 x3 x4 x5 x8 s0 s1 m = some r) (hk : k_X5_worked_8 X T R n1 n2 x2 r) : Wp X cX5_worked RX5 10 T (mk m R) n1 n2 243 [(0, .ref 23), (2, .int x2), (3, .int x3), (4, .int x4), (5, .int x5), (8, .int x8)] [.int s1, .int s0] := by
  unfold f_X5_worked_243 at hf
  refine Wp.icmp_ne (pc := 243) 250 dX5_worked_243 (by decide) (fun hc1 => ?_) (fun hc1 => ?_)
  · rw [if_neg hc1] at hf
    refine Wp.iconst (pc := 250) (0 : Int32) (by decide) dX5_worked_250 ?_
    exact w_X5_worked_251 hX hG hf hk
  · rw [if_pos hc1] at hf
    refine Wp.iconst (pc := 246) (1 : Int32) (by decide) dX5_worked_246 ?_
    refine Wp.goto (pc := 247) 251 dX5_worked_247 (by decide) ?_
    exact w_X5_worked_251 hX hG hf hk
set_option maxHeartbeats 4000000 in
set_option maxRecDepth 100000 in
theorem w_X5_worked_231 {X : CX} {T : List Dsc} {R : RM} {c e : Nat} {n1 n2 : Nat} {x2 : Int32} {x3 : Int32} {x4 : Int32} {x5 : Int32} {x7 : Int32} {x8 : Int32} {s0 : Int32} {m : M2} {r : ((Int32 × Int32 × Int32 × M2) ⊕ ((Int32 × M2) ⊕ (M2) ⊕ (M2)))} (hX : XR X 3 n1 n2) (hG : Geo T R c e) (hf : f_X5_worked_231 c x2 x3 x4 x5 x7 x8 s0 m = some r) (hk : k_X5_worked_8 X T R n1 n2 x2 r) : Wp X cX5_worked RX5 10 T (mk m R) n1 n2 231 [(0, .ref 23), (2, .int x2), (3, .int x3), (4, .int x4), (5, .int x5), (7, .int x7), (8, .int x8)] [.int s0] := by
  unfold f_X5_worked_231 at hf
  refine Wp.iload (pc := 231) 5 rfl dX5_worked_231 ?_
  refine Wp.bipush (pc := 233) (25 : Int32) (by decide) dX5_worked_233 ?_
  refine Wp.icmp_ne (pc := 235) 242 dX5_worked_235 (by decide) (fun hc1 => ?_) (fun hc1 => ?_)
  · rw [if_neg hc1] at hf
    refine Wp.iconst (pc := 242) (0 : Int32) (by decide) dX5_worked_242 ?_
    refine Wp.lo' (lo' := [(0, .ref 23), (2, .int x2), (3, .int x3), (4, .int x4), (5, .int x5), (8, .int x8)]) [0, 1, 2, 3, 4, 6] rfl ?_
    exact w_X5_worked_243 hX hG hf hk
  · rw [if_pos hc1] at hf
    refine Wp.iconst (pc := 238) (1 : Int32) (by decide) dX5_worked_238 ?_
    refine Wp.goto (pc := 239) 243 dX5_worked_239 (by decide) ?_
    refine Wp.lo' (lo' := [(0, .ref 23), (2, .int x2), (3, .int x3), (4, .int x4), (5, .int x5), (8, .int x8)]) [0, 1, 2, 3, 4, 6] rfl ?_
    exact w_X5_worked_243 hX hG hf hk
set_option maxHeartbeats 4000000 in
set_option maxRecDepth 100000 in
theorem w_X5_worked_213 {X : CX} {T : List Dsc} {R : RM} {c e : Nat} {n1 n2 : Nat} {x2 : Int32} {x3 : Int32} {x4 : Int32} {x5 : Int32} {x7 : Int32} {x8 : Int32} {m : M2} {r : ((Int32 × Int32 × Int32 × M2) ⊕ ((Int32 × M2) ⊕ (M2) ⊕ (M2)))} (hX : XR X 3 n1 n2) (hG : Geo T R c e) (hf : f_X5_worked_213 c x2 x3 x4 x5 x7 x8 m = some r) (hk : k_X5_worked_8 X T R n1 n2 x2 r) : Wp X cX5_worked RX5 10 T (mk m R) n1 n2 213 [(0, .ref 23), (2, .int x2), (3, .int x3), (4, .int x4), (5, .int x5), (7, .int x7), (8, .int x8)] [] := by
  unfold f_X5_worked_213 at hf
  refine Wp.aload_n (pc := 213) 0 rfl rfl dX5_worked_213 ?_
  refine Wp.getR2 (pc := 214) (hG.r 23 1 rfl) (hG.t 23 rfl) fk_RX5_11 rfl dX5_worked_214 ?_
  refine Wp.iload (pc := 217) 3 rfl dX5_worked_217 ?_
  refine Wp.bipush (pc := 219) (63 : Int32) (by decide) dX5_worked_219 ?_
  refine Wp.iand (pc := 221) dX5_worked_221 ?_
  obtain ⟨v1, h2, hf⟩ := bnd hf
  refine Wp.iald2 (pc := 222) h2 (hG.a 24 0 rfl) dX5_worked_222 ?_
  refine Wp.if_ne (pc := 223) 230 dX5_worked_223 (by decide) (fun hc3 => ?_) (fun hc3 => ?_)
  · rw [if_neg hc3] at hf
    refine Wp.iconst (pc := 230) (0 : Int32) (by decide) dX5_worked_230 ?_
    exact w_X5_worked_231 hX hG hf hk
  · rw [if_pos hc3] at hf
    refine Wp.iconst (pc := 226) (1 : Int32) (by decide) dX5_worked_226 ?_
    refine Wp.goto (pc := 227) 231 dX5_worked_227 (by decide) ?_
    exact w_X5_worked_231 hX hG hf hk
set_option maxHeartbeats 4000000 in
set_option maxRecDepth 100000 in
theorem w_X5_worked_312 {X : CX} {T : List Dsc} {R : RM} {c e : Nat} {n1 n2 : Nat} {x2 : Int32} {x3 : Int32} {x4 : Int32} {x5 : Int32} {x7 : Int32} {x9 : Int32} {m : M2} {r : ((Int32 × Int32 × Int32 × M2) ⊕ ((Int32 × M2) ⊕ (M2) ⊕ (M2)))} (hX : XR X 3 n1 n2) (hG : Geo T R c e) (hf : f_X5_worked_312 c x2 x3 x4 x5 x7 x9 m = some r) (hk : k_X5_worked_8 X T R n1 n2 x2 r) : Wp X cX5_worked RX5 10 T (mk m R) n1 n2 312 [(0, .ref 23), (2, .int x2), (3, .int x3), (4, .int x4), (5, .int x5), (7, .int x7), (9, .int x9)] [] := by
  unfold f_X5_worked_312 at hf
  refine Wp.aload_n (pc := 312) 0 rfl rfl dX5_worked_312 ?_
  refine Wp.getR2 (pc := 313) (hG.r 23 1 rfl) (hG.t 23 rfl) fk_RX5_11 rfl dX5_worked_313 ?_
  refine Wp.iload (pc := 316) 3 rfl dX5_worked_316 ?_
  refine Wp.bipush (pc := 318) (63 : Int32) (by decide) dX5_worked_318 ?_
  refine Wp.iand (pc := 320) dX5_worked_320 ?_
  refine Wp.aload_n (pc := 321) 0 rfl rfl dX5_worked_321 ?_
  refine Wp.iload (pc := 322) 5 rfl dX5_worked_322 ?_
  refine Wp.aload_n (pc := 324) 0 rfl rfl dX5_worked_324 ?_
  refine Wp.getR2 (pc := 325) (hG.r 23 1 rfl) (hG.t 23 rfl) fk_RX5_11 rfl dX5_worked_325 ?_
  refine Wp.iload (pc := 328) 3 rfl dX5_worked_328 ?_
  refine Wp.bipush (pc := 330) (63 : Int32) (by decide) dX5_worked_330 ?_
  refine Wp.iand (pc := 332) dX5_worked_332 ?_
  obtain ⟨v1, h2, hf⟩ := bnd hf
  refine Wp.iald2 (pc := 333) h2 (hG.a 24 0 rfl) dX5_worked_333 ?_
  refine Wp.iload (pc := 334) 6 rfl dX5_worked_334 ?_
  obtain ⟨c3, h4, hf⟩ := bnd hf
  refine Wp.callVi (pc := 336) (st := [.int (x4 &&& (63 : Int32)), .ref 24]) (as := [.int x7, .int v1, .int x9]) (c_X5_joined hG h4) ml_RX5_83 mv_X5_joined mb_X5_joined hX (Nat.le_of_ble_eq_true rfl) (by decide) rfl (hG.t 23 rfl) rfl (by simp [Value.category]) dX5_worked_336 rfl ?_
  obtain ⟨m5, h6, hf⟩ := bnd hf
  refine Wp.iast2 (pc := 339) h6 (hG.a 24 0 rfl) dX5_worked_339 ?_
  refine Wp.lo' (lo' := [(0, .ref 23), (2, .int x2), (3, .int x3), (4, .int x4), (5, .int x5)]) [0, 1, 2, 3, 4] rfl ?_
  exact w_X5_worked_340 hX hG hf hk
set_option maxHeartbeats 4000000 in
set_option maxRecDepth 100000 in
theorem w_X5_worked_8 {X : CX} {T : List Dsc} {R : RM} {c e : Nat} {n1 n2 : Nat} {x2 : Int32} {x3 : Int32} {x4 : Int32} {x5 : Int32} {m : M2} {r : ((Int32 × Int32 × Int32 × M2) ⊕ ((Int32 × M2) ⊕ (M2) ⊕ (M2)))} (hX : XR X 3 n1 n2) (hG : Geo T R c e) (hf : f_X5_worked_8 c x2 x3 x4 x5 m = some r) (hk : k_X5_worked_8 X T R n1 n2 x2 r) : Wp X cX5_worked RX5 10 T (mk m R) n1 n2 8 [(0, .ref 23), (2, .int x2), (3, .int x3), (4, .int x4), (5, .int x5)] [] := by
  unfold f_X5_worked_8 at hf
  refine Wp.iload (pc := 8) 4 rfl dX5_worked_8 ?_
  refine Wp.aload_n (pc := 10) 0 rfl rfl dX5_worked_10 ?_
  refine Wp.getR2 (pc := 11) hG.r2 (hG.t 23 rfl) fk_RX5_26 rfl dX5_worked_11 ?_
  refine Wp.getI2 (pc := 14) (hG.tt hG.hc) fk_RX5_75 rfl dX5_worked_14 ?_
  refine Wp.icmp_ge (pc := 17) 346 dX5_worked_17 (by decide) (fun hc1 => ?_) (fun hc1 => ?_)
  · rw [if_pos hc1] at hf
    refine Wp.lo' (lo' := [(2, .int x2)]) [1] rfl ?_
    cases hf
    exact hk
  · rw [if_neg hc1] at hf
    refine Wp.iload_n (pc := 20) 2 rfl rfl dX5_worked_20 ?_
    refine Wp.aload_n (pc := 21) 0 rfl rfl dX5_worked_21 ?_
    refine Wp.getR2 (pc := 22) hG.r2 (hG.t 23 rfl) fk_RX5_26 rfl dX5_worked_22 ?_
    refine Wp.getI2 (pc := 25) (hG.tt hG.hc) fk_RX5_75 rfl dX5_worked_25 ?_
    refine Wp.icmp_ge (pc := 28) 346 dX5_worked_28 (by decide) (fun hc2 => ?_) (fun hc2 => ?_)
    · rw [if_pos hc2] at hf
      refine Wp.lo' (lo' := [(2, .int x2)]) [1] rfl ?_
      cases hf
      exact hk
    · rw [if_neg hc2] at hf
      refine Wp.aload_n (pc := 31) 0 rfl rfl dX5_worked_31 ?_
      refine Wp.getR2 (pc := 32) hG.r2 (hG.t 23 rfl) fk_RX5_26 rfl dX5_worked_32 ?_
      refine Wp.getR2 (pc := 35) (hG.tr hG.hc 3 2 rfl rfl) (hG.tt hG.hc) fk_RX5_78 rfl dX5_worked_35 ?_
      refine Wp.iload_n (pc := 38) 2 rfl rfl dX5_worked_38 ?_
      obtain ⟨v3, h4, hf⟩ := bnd hf
      refine Wp.iald2 (pc := 39) h4 (hG.ta hG.hc 2 400 rfl rfl) dX5_worked_39 ?_
      refine Wp.istore (pc := 40) (lo' := [(0, .ref 23), (2, .int x2), (3, .int x3), (4, .int x4), (5, .int x5), (6, .int v3)]) [1, 2, 3, 4, 5, 0] rfl (by decide) dX5_worked_40 ?_
      refine Wp.iload (pc := 42) 5 rfl dX5_worked_42 ?_
      refine Wp.bipush (pc := 44) (63 : Int32) (by decide) dX5_worked_44 ?_
      refine Wp.iand (pc := 46) dX5_worked_46 ?_
      obtain ⟨v5, h6, hf⟩ := bnd hf
      refine Wp.nI' h6 ?_
      refine Wp.istore (pc := 47) (lo' := [(0, .ref 23), (2, .int x2), (3, .int x3), (4, .int x4), (5, .int x5), (6, .int v3), (7, .int v5)]) [1, 2, 3, 4, 5, 6, 0] rfl (by decide) dX5_worked_47 ?_
      refine Wp.iload (pc := 49) 5 rfl dX5_worked_49 ?_
      refine Wp.bipush (pc := 51) (6 : Int32) (by decide) dX5_worked_51 ?_
      refine Wp.ishr (pc := 53) dX5_worked_53 ?_
      obtain ⟨v7, h8, hf⟩ := bnd hf
      refine Wp.nI' h8 ?_
      refine Wp.istore (pc := 54) (lo' := [(0, .ref 23), (2, .int x2), (3, .int x3), (4, .int x4), (5, .int x5), (7, .int v5), (8, .int v7)]) [1, 2, 3, 4, 5, 7, 0] rfl (by decide) dX5_worked_54 ?_
      obtain ⟨v9, h10, hf⟩ := bnd hf
      refine Wp.iincN (pc := 56) (lo' := [(0, .ref 23), (2, .int x2), (3, .int v9), (4, .int x4), (5, .int x5), (7, .int v5), (8, .int v7)]) (1 : Int32) (by decide) h10 2 rfl [1, 2, 0, 3, 4, 5, 6] rfl (by decide) dX5_worked_56 ?_
      refine Wp.iload (pc := 59) 5 rfl dX5_worked_59 ?_
      refine Wp.iconst (pc := 61) (3 : Int32) (by decide) dX5_worked_61 ?_
      refine Wp.icmp_ne (pc := 62) 83 dX5_worked_62 (by decide) (fun hc11 => ?_) (fun hc11 => ?_)
      · rw [if_neg hc11] at hf
        refine Wp.iload (pc := 83) 5 rfl dX5_worked_83 ?_
        refine Wp.bipush (pc := 85) (28 : Int32) (by decide) dX5_worked_85 ?_
        refine Wp.icmp_lt (pc := 87) 116 dX5_worked_87 (by decide) (fun hc12 => ?_) (fun hc12 => ?_)
        · rw [if_pos hc12] at hf
          refine Wp.iload (pc := 116) 5 rfl dX5_worked_116 ?_
          refine Wp.bipush (pc := 118) (23 : Int32) (by decide) dX5_worked_118 ?_
          refine Wp.icmp_ne (pc := 120) 134 dX5_worked_120 (by decide) (fun hc13 => ?_) (fun hc13 => ?_)
          · rw [if_neg hc13] at hf
            refine Wp.iload (pc := 134) 5 rfl dX5_worked_134 ?_
            refine Wp.bipush (pc := 136) (26 : Int32) (by decide) dX5_worked_136 ?_
            refine Wp.icmp_ne (pc := 138) 166 dX5_worked_138 (by decide) (fun hc14 => ?_) (fun hc14 => ?_)
            · rw [if_neg hc14] at hf
              refine Wp.iload (pc := 166) 5 rfl dX5_worked_166 ?_
              refine Wp.bipush (pc := 168) (21 : Int32) (by decide) dX5_worked_168 ?_
              refine Wp.icmp_ne (pc := 170) 199 dX5_worked_170 (by decide) (fun hc15 => ?_) (fun hc15 => ?_)
              · rw [if_neg hc15] at hf
                refine Wp.iload (pc := 199) 5 rfl dX5_worked_199 ?_
                refine Wp.bipush (pc := 201) (25 : Int32) (by decide) dX5_worked_201 ?_
                refine Wp.icmp_eq (pc := 203) 213 dX5_worked_203 (by decide) (fun hc16 => ?_) (fun hc16 => ?_)
                · rw [if_pos hc16] at hf
                  exact w_X5_worked_213 hX hG hf hk
                · rw [if_neg hc16] at hf
                  refine Wp.iload (pc := 206) 5 rfl dX5_worked_206 ?_
                  refine Wp.bipush (pc := 208) (24 : Int32) (by decide) dX5_worked_208 ?_
                  refine Wp.icmp_ne (pc := 210) 283 dX5_worked_210 (by decide) (fun hc17 => ?_) (fun hc17 => ?_)
                  · rw [if_neg hc17] at hf
                    refine Wp.aload_n (pc := 283) 0 rfl rfl dX5_worked_283 ?_
                    refine Wp.getR2 (pc := 284) (hG.r 23 1 rfl) (hG.t 23 rfl) fk_RX5_11 rfl dX5_worked_284 ?_
                    refine Wp.iload (pc := 287) 3 rfl dX5_worked_287 ?_
                    refine Wp.bipush (pc := 289) (63 : Int32) (by decide) dX5_worked_289 ?_
                    refine Wp.iand (pc := 291) dX5_worked_291 ?_
                    obtain ⟨v18, h19, hf⟩ := bnd hf
                    refine Wp.iald2 (pc := 292) h19 (hG.a 24 0 rfl) dX5_worked_292 ?_
                    refine Wp.istore (pc := 293) (lo' := [(0, .ref 23), (2, .int x2), (3, .int v9), (4, .int x4), (5, .int x5), (7, .int v5), (9, .int v18)]) [1, 2, 3, 4, 5, 6, 0] rfl (by decide) dX5_worked_293 ?_
                    obtain ⟨v20, h21, hf⟩ := bnd hf
                    refine Wp.iincN (pc := 295) (lo' := [(0, .ref 23), (2, .int x2), (3, .int v9), (4, .int v20), (5, .int x5), (7, .int v5), (9, .int v18)]) (-1 : Int32) (by decide) h21 3 rfl [1, 2, 3, 0, 4, 5, 6] rfl (by decide) dX5_worked_295 ?_
                    refine Wp.iload (pc := 298) 5 rfl dX5_worked_298 ?_
                    refine Wp.bipush (pc := 300) (10 : Int32) (by decide) dX5_worked_300 ?_
                    refine Wp.icmp_ne (pc := 302) 312 dX5_worked_302 (by decide) (fun hc22 => ?_) (fun hc22 => ?_)
                    · rw [if_neg hc22] at hf
                      exact w_X5_worked_312 hX hG hf hk
                    · rw [if_pos hc22] at hf
                      refine Wp.iload (pc := 305) 6 rfl dX5_worked_305 ?_
                      refine Wp.if_ne (pc := 307) 312 dX5_worked_307 (by decide) (fun hc23 => ?_) (fun hc23 => ?_)
                      · rw [if_neg hc23] at hf
                        exact w_X5_worked_312 hX hG hf hk
                      · rw [if_pos hc23] at hf
                        refine Wp.lo' (lo' := [(2, .int x2)]) [1] rfl ?_
                        cases hf
                        exact hk
                  · rw [if_pos hc17] at hf
                    exact w_X5_worked_213 hX hG hf hk
              · rw [if_pos hc15] at hf
                refine Wp.aload_n (pc := 173) 0 rfl rfl dX5_worked_173 ?_
                refine Wp.getR2 (pc := 174) (hG.r 23 1 rfl) (hG.t 23 rfl) fk_RX5_11 rfl dX5_worked_174 ?_
                refine Wp.iload (pc := 177) 3 rfl dX5_worked_177 ?_
                refine Wp.bipush (pc := 179) (63 : Int32) (by decide) dX5_worked_179 ?_
                refine Wp.iand (pc := 181) dX5_worked_181 ?_
                obtain ⟨v24, h25, hf⟩ := bnd hf
                refine Wp.iald2 (pc := 182) h25 (hG.a 24 0 rfl) dX5_worked_182 ?_
                refine Wp.if_ne (pc := 183) 191 dX5_worked_183 (by decide) (fun hc26 => ?_) (fun hc26 => ?_)
                · rw [if_neg hc26] at hf
                  refine Wp.iload_n (pc := 191) 2 rfl rfl dX5_worked_191 ?_
                  refine Wp.lo' (lo' := [(0, .ref 23), (2, .int x2), (4, .int x4), (5, .int x5)]) [0, 1, 3, 4] rfl ?_
                  exact w_X5_worked_192 hX hG hf hk
                · rw [if_pos hc26] at hf
                  refine Wp.iload (pc := 186) 6 rfl dX5_worked_186 ?_
                  refine Wp.goto (pc := 188) 192 dX5_worked_188 (by decide) ?_
                  refine Wp.lo' (lo' := [(0, .ref 23), (2, .int x2), (4, .int x4), (5, .int x5)]) [0, 1, 3, 4] rfl ?_
                  exact w_X5_worked_192 hX hG hf hk
            · rw [if_pos hc14] at hf
              refine Wp.aload_n (pc := 141) 0 rfl rfl dX5_worked_141 ?_
              refine Wp.getR2 (pc := 142) (hG.r 23 1 rfl) (hG.t 23 rfl) fk_RX5_11 rfl dX5_worked_142 ?_
              refine Wp.iload (pc := 145) 3 rfl dX5_worked_145 ?_
              refine Wp.bipush (pc := 147) (63 : Int32) (by decide) dX5_worked_147 ?_
              refine Wp.iand (pc := 149) dX5_worked_149 ?_
              refine Wp.iconst (pc := 150) (1 : Int32) (by decide) dX5_worked_150 ?_
              refine Wp.aload_n (pc := 151) 0 rfl rfl dX5_worked_151 ?_
              refine Wp.getR2 (pc := 152) (hG.r 23 1 rfl) (hG.t 23 rfl) fk_RX5_11 rfl dX5_worked_152 ?_
              refine Wp.iload (pc := 155) 3 rfl dX5_worked_155 ?_
              refine Wp.bipush (pc := 157) (63 : Int32) (by decide) dX5_worked_157 ?_
              refine Wp.iand (pc := 159) dX5_worked_159 ?_
              obtain ⟨v27, h28, hf⟩ := bnd hf
              refine Wp.iald2 (pc := 160) h28 (hG.a 24 0 rfl) dX5_worked_160 ?_
              refine Wp.isub (pc := 161) dX5_worked_161 ?_
              obtain ⟨m29, h30, hf⟩ := bnd hf
              refine Wp.iast2 (pc := 162) h30 (hG.a 24 0 rfl) dX5_worked_162 ?_
              refine Wp.goto (pc := 163) 340 dX5_worked_163 (by decide) ?_
              refine Wp.lo' (lo' := [(0, .ref 23), (2, .int x2), (3, .int v9), (4, .int x4), (5, .int x5)]) [0, 1, 2, 3, 4] rfl ?_
              exact w_X5_worked_340 hX hG hf hk
          · rw [if_pos hc13] at hf
            refine Wp.lo' (lo' := [(0, .ref 23), (4, .int x4)]) [0, 3] rfl ?_
            cases hf
            exact hk
        · rw [if_neg hc12] at hf
          obtain ⟨v31, h32, hf⟩ := bnd hf
          refine Wp.iincN (pc := 90) (lo' := [(0, .ref 23), (2, .int x2), (3, .int v9), (4, .int v31), (5, .int x5), (7, .int v5)]) (1 : Int32) (by decide) h32 3 rfl [1, 2, 3, 0, 4, 5] rfl (by decide) dX5_worked_90 ?_
          refine Wp.aload_n (pc := 93) 0 rfl rfl dX5_worked_93 ?_
          refine Wp.getR2 (pc := 94) (hG.r 23 1 rfl) (hG.t 23 rfl) fk_RX5_11 rfl dX5_worked_94 ?_
          refine Wp.iload (pc := 97) 3 rfl dX5_worked_97 ?_
          refine Wp.bipush (pc := 99) (63 : Int32) (by decide) dX5_worked_99 ?_
          refine Wp.iand (pc := 101) dX5_worked_101 ?_
          refine Wp.aload_n (pc := 102) 0 rfl rfl dX5_worked_102 ?_
          refine Wp.getR2 (pc := 103) (hG.r 23 2 rfl) (hG.t 23 rfl) fk_RX5_17 rfl dX5_worked_103 ?_
          refine Wp.iload (pc := 106) 5 rfl dX5_worked_106 ?_
          refine Wp.bipush (pc := 108) (28 : Int32) (by decide) dX5_worked_108 ?_
          refine Wp.isub (pc := 110) dX5_worked_110 ?_
          obtain ⟨v33, h34, hf⟩ := bnd hf
          refine Wp.iald2 (pc := 111) h34 (hG.a 25 0 rfl) dX5_worked_111 ?_
          obtain ⟨m35, h36, hf⟩ := bnd hf
          refine Wp.iast2 (pc := 112) h36 (hG.a 24 0 rfl) dX5_worked_112 ?_
          refine Wp.goto (pc := 113) 340 dX5_worked_113 (by decide) ?_
          refine Wp.lo' (lo' := [(0, .ref 23), (2, .int x2), (3, .int v9), (4, .int v31), (5, .int x5)]) [0, 1, 2, 3, 4] rfl ?_
          exact w_X5_worked_340 hX hG hf hk
      · rw [if_pos hc11] at hf
        obtain ⟨v37, h38, hf⟩ := bnd hf
        refine Wp.iincN (pc := 65) (lo' := [(0, .ref 23), (2, .int x2), (3, .int v9), (4, .int v37), (5, .int x5), (8, .int v7)]) (1 : Int32) (by decide) h38 3 rfl [1, 2, 3, 0, 4, 6] rfl (by decide) dX5_worked_65 ?_
        refine Wp.aload_n (pc := 68) 0 rfl rfl dX5_worked_68 ?_
        refine Wp.getR2 (pc := 69) (hG.r 23 1 rfl) (hG.t 23 rfl) fk_RX5_11 rfl dX5_worked_69 ?_
        refine Wp.iload (pc := 72) 3 rfl dX5_worked_72 ?_
        refine Wp.bipush (pc := 74) (63 : Int32) (by decide) dX5_worked_74 ?_
        refine Wp.iand (pc := 76) dX5_worked_76 ?_
        refine Wp.iload (pc := 77) 5 rfl dX5_worked_77 ?_
        obtain ⟨m39, h40, hf⟩ := bnd hf
        refine Wp.iast2 (pc := 79) h40 (hG.a 24 0 rfl) dX5_worked_79 ?_
        refine Wp.goto (pc := 80) 340 dX5_worked_80 (by decide) ?_
        refine Wp.lo' (lo' := [(0, .ref 23), (2, .int x2), (3, .int v9), (4, .int v37), (5, .int x5)]) [0, 1, 2, 3, 4] rfl ?_
        exact w_X5_worked_340 hX hG hf hk
theorem wl_X5_worked_8 {X : CX} {T : List Dsc} {R : RM} {c e : Nat} {n1 n2 : Nat} {x2 : Int32} {x3 : Int32} {x4 : Int32} {x5 : Int32} {m : M2} {e1 : ((Int32 × M2) ⊕ (M2) ⊕ (M2))} (hX : XR X 3 n1 n2) (hG : Geo T R c e) (h : loop (g_X5_worked_8 c x2) (x3, x4, x5, m) = some e1) (he0 : ∀ e_, e1 = (Sum.inl e_) → Wp X cX5_worked RX5 10 T (mk e_.2 R) n1 n2 123 [(0, .ref 23), (4, .int e_.1)] []) (he1 : ∀ e_, e1 = (Sum.inr (Sum.inl e_)) → Wp X cX5_worked RX5 10 T (mk e_ R) n1 n2 310 [(2, .int x2)] []) (he2 : ∀ e_, e1 = (Sum.inr (Sum.inr e_)) → Wp X cX5_worked RX5 10 T (mk e_ R) n1 n2 346 [(2, .int x2)] []) : Wp X cX5_worked RX5 10 T (mk m R) n1 n2 8 [(0, .ref 23), (2, .int x2), (3, .int x3), (4, .int x4), (5, .int x5)] [] :=
  loop_ok (K := k_X5_worked_8 X T R n1 n2 x2) (fun s r hf hk => w_X5_worked_8 hX hG hf hk) h (by rcases e1 with e_ | e_ | e_ <;> first | exact he0 _ rfl | exact he1 _ rfl | exact he2 _ rfl)
set_option maxHeartbeats 4000000 in
set_option maxRecDepth 100000 in
theorem w_X5_worked_346 {X : CX} {T : List Dsc} {R : RM} {c e : Nat} {n1 n2 : Nat} {x2 : Int32} {m : M2} {r : (Int32 × M2)} (hX : XR X 3 n1 n2) (hG : Geo T R c e) (hf : f_X5_worked_346 c x2 m = some r) (hk : FnI X cX5_worked RX5 10 T n1 n2 (r.1, mk r.2 R)) : Wp X cX5_worked RX5 10 T (mk m R) n1 n2 346 [(2, .int x2)] [] := by
  unfold f_X5_worked_346 at hf
  refine Wp.iload_n (pc := 346) 0 rfl rfl dX5_worked_346 ?_
  cases hf
  exact hk _ _ dX5_worked_347
set_option maxHeartbeats 4000000 in
set_option maxRecDepth 100000 in
theorem w_X5_worked {X : CX} {T : List Dsc} {R : RM} {c e : Nat} {n1 n2 : Nat} {x1 : Int32} {x2 : Int32} {m : M2} {r : (Int32 × M2)} (hX : XR X 3 n1 n2) (hG : Geo T R c e) (hf : F_X5_worked c x1 x2 m = some r) (hk : FnI X cX5_worked RX5 10 T n1 n2 (r.1, mk r.2 R)) : Wp X cX5_worked RX5 10 T (mk m R) n1 n2 0 [(0, .ref 23), (1, .int x1), (2, .int x2)] [] := by
  unfold F_X5_worked at hf
  refine Wp.iload_n (pc := 0) 1 rfl rfl dX5_worked_0 ?_
  refine Wp.istore_n (pc := 1) (lo' := [(0, .ref 23), (2, .int x2), (3, .int x1)]) [1, 3, 0] rfl (by decide) rfl dX5_worked_1 ?_
  refine Wp.iconst (pc := 2) (0 : Int32) (by decide) dX5_worked_2 ?_
  refine Wp.istore (pc := 3) (lo' := [(0, .ref 23), (2, .int x2), (3, .int x1), (4, .int (0 : Int32))]) [1, 2, 3, 0] rfl (by decide) dX5_worked_3 ?_
  refine Wp.iconst (pc := 5) (0 : Int32) (by decide) dX5_worked_5 ?_
  refine Wp.istore (pc := 6) (lo' := [(0, .ref 23), (2, .int x2), (3, .int x1), (4, .int (0 : Int32)), (5, .int (0 : Int32))]) [1, 2, 3, 4, 0] rfl (by decide) dX5_worked_6 ?_
  obtain ⟨e1, h2, hf⟩ := bnd hf
  refine wl_X5_worked_8 hX hG h2 (fun e1_0 hq => ?_) (fun e1_1 hq => ?_) (fun e1_2 hq => ?_)
  · rw [hq, Sum.elim_inl] at hf
    refine Wp.aload_n (pc := 123) 0 rfl rfl dX5_worked_123 ?_
    refine Wp.getR2 (pc := 124) (hG.r 23 1 rfl) (hG.t 23 rfl) fk_RX5_11 rfl dX5_worked_124 ?_
    refine Wp.iload (pc := 127) 1 rfl dX5_worked_127 ?_
    refine Wp.bipush (pc := 129) (63 : Int32) (by decide) dX5_worked_129 ?_
    refine Wp.iand (pc := 131) dX5_worked_131 ?_
    obtain ⟨v3, h4, hf⟩ := bnd hf
    refine Wp.iald2 (pc := 132) h4 (hG.a 24 0 rfl) dX5_worked_132 ?_
    cases hf
    exact hk _ _ dX5_worked_133
  · rw [hq, Sum.elim_inr, Sum.elim_inl] at hf
    refine Wp.iload_n (pc := 310) 0 rfl rfl dX5_worked_310 ?_
    cases hf
    exact hk _ _ dX5_worked_311
  · rw [hq, Sum.elim_inr, Sum.elim_inr] at hf
    exact w_X5_worked_346 hX hG hf hk
theorem c_X5_worked {T : List Dsc} {R : RM} {c e : Nat} {x1 : Int32} {x2 : Int32} {m : M2} {r : (Int32 × M2)} (hG : Geo T R c e) (hf : F_X5_worked c x1 x2 m = some r) : Ct 3 yX5_worked cX5_worked 10 (some .int) T (mk m R) [.ref 23, .int x1, .int x2] (some (.int r.1)) (mk r.2 R) := Ct.ofI (r := (r.1, mk r.2 R)) (by decide +kernel) (Nat.le_of_ble_eq_true rfl) (fun X hX hk => w_X5_worked hX hG hf hk)
theorem dX5_rest_0 : decode cX5_rest 0 = .ok (.iload_n 1, 1) := by decide +kernel
theorem dX5_rest_1 : decode cX5_rest 1 = .ok (.aload_n 0, 1) := by decide +kernel
theorem dX5_rest_2 : decode cX5_rest 2 = .ok (.getfield 26, 3) := by decide +kernel
theorem dX5_rest_5 : decode cX5_rest 5 = .ok (.getfield 36, 3) := by decide +kernel
theorem dX5_rest_8 : decode cX5_rest 8 = .ok (.irem, 1) := by decide +kernel
theorem dX5_rest_9 : decode cX5_rest 9 = .ok (.istore_n 2, 1) := by decide +kernel
theorem dX5_rest_10 : decode cX5_rest 10 = .ok (.iload_n 2, 1) := by decide +kernel
theorem dX5_rest_11 : decode cX5_rest 11 = .ok (.ifCond .ge 15, 3) := by decide +kernel
theorem dX5_rest_14 : decode cX5_rest 14 = .ok (.iload_n 2, 1) := by decide +kernel
theorem dX5_rest_15 : decode cX5_rest 15 = .ok (.aload_n 0, 1) := by decide +kernel
theorem dX5_rest_16 : decode cX5_rest 16 = .ok (.getfield 26, 3) := by decide +kernel
theorem dX5_rest_19 : decode cX5_rest 19 = .ok (.getfield 36, 3) := by decide +kernel
theorem dX5_rest_22 : decode cX5_rest 22 = .ok (.iadd, 1) := by decide +kernel
theorem dX5_rest_23 : decode cX5_rest 23 = .ok (.goto 4, 3) := by decide +kernel
theorem dX5_rest_26 : decode cX5_rest 26 = .ok (.iload_n 2, 1) := by decide +kernel
theorem dX5_rest_27 : decode cX5_rest 27 = .ok (.ireturn, 1) := by decide +kernel
set_option maxHeartbeats 4000000 in
set_option maxRecDepth 100000 in
theorem w_X5_rest_27 {X : CX} {T : List Dsc} {R : RM} {c e : Nat} {n1 n2 : Nat} {s0 : Int32} {m : M2} {r : (Int32 × M2)} (hX : XR X 1 n1 n2) (hG : Geo T R c e) (hf : f_X5_rest_27 c s0 m = some r) (hk : FnI X cX5_rest RX5 3 T n1 n2 (r.1, mk r.2 R)) : Wp X cX5_rest RX5 3 T (mk m R) n1 n2 27 [] [.int s0] := by
  unfold f_X5_rest_27 at hf
  cases hf
  exact hk _ _ dX5_rest_27
set_option maxHeartbeats 4000000 in
set_option maxRecDepth 100000 in
theorem w_X5_rest {X : CX} {T : List Dsc} {R : RM} {c e : Nat} {n1 n2 : Nat} {x1 : Int32} {m : M2} {r : (Int32 × M2)} (hX : XR X 1 n1 n2) (hG : Geo T R c e) (hf : F_X5_rest c x1 m = some r) (hk : FnI X cX5_rest RX5 3 T n1 n2 (r.1, mk r.2 R)) : Wp X cX5_rest RX5 3 T (mk m R) n1 n2 0 [(0, .ref 23), (1, .int x1)] [] := by
  unfold F_X5_rest at hf
  refine Wp.iload_n (pc := 0) 1 rfl rfl dX5_rest_0 ?_
  refine Wp.aload_n (pc := 1) 0 rfl rfl dX5_rest_1 ?_
  refine Wp.getR2 (pc := 2) hG.r2 (hG.t 23 rfl) fk_RX5_26 rfl dX5_rest_2 ?_
  refine Wp.getI2 (pc := 5) (hG.tt hG.hc) fk_RX5_36 rfl dX5_rest_5 ?_
  obtain ⟨v1, h2, hf⟩ := bnd hf
  refine Wp.rm (pc := 8) h2 dX5_rest_8 ?_
  refine Wp.istore_n (pc := 9) (lo' := [(0, .ref 23), (2, .int v1)]) [1, 0] rfl (by decide) rfl dX5_rest_9 ?_
  refine Wp.iload_n (pc := 10) 1 rfl rfl dX5_rest_10 ?_
  refine Wp.if_ge (pc := 11) 26 dX5_rest_11 (by decide) (fun hc3 => ?_) (fun hc3 => ?_)
  · rw [if_pos hc3] at hf
    refine Wp.iload_n (pc := 26) 1 rfl rfl dX5_rest_26 ?_
    refine Wp.lo' (lo' := []) [] rfl ?_
    exact w_X5_rest_27 hX hG hf hk
  · rw [if_neg hc3] at hf
    refine Wp.iload_n (pc := 14) 1 rfl rfl dX5_rest_14 ?_
    refine Wp.aload_n (pc := 15) 0 rfl rfl dX5_rest_15 ?_
    refine Wp.getR2 (pc := 16) hG.r2 (hG.t 23 rfl) fk_RX5_26 rfl dX5_rest_16 ?_
    refine Wp.getI2 (pc := 19) (hG.tt hG.hc) fk_RX5_36 rfl dX5_rest_19 ?_
    refine Wp.iadd (pc := 22) dX5_rest_22 ?_
    refine Wp.goto (pc := 23) 27 dX5_rest_23 (by decide) ?_
    refine Wp.lo' (lo' := []) [] rfl ?_
    exact w_X5_rest_27 hX hG hf hk
theorem c_X5_rest {T : List Dsc} {R : RM} {c e : Nat} {x1 : Int32} {m : M2} {r : (Int32 × M2)} (hG : Geo T R c e) (hf : F_X5_rest c x1 m = some r) : Ct 1 yX5_rest cX5_rest 3 (some .int) T (mk m R) [.ref 23, .int x1] (some (.int r.1)) (mk r.2 R) := Ct.ofI (r := (r.1, mk r.2 R)) (by decide +kernel) (Nat.le_of_ble_eq_true rfl) (fun X hX hk => w_X5_rest hX hG hf hk)
theorem dX5_turned_0 : decode cX5_turned 0 = .ok (.iload_n 1, 1) := by decide +kernel
theorem dX5_turned_1 : decode cX5_turned 1 = .ok (.ifCond .lt 14, 3) := by decide +kernel
theorem dX5_turned_4 : decode cX5_turned 4 = .ok (.iload_n 1, 1) := by decide +kernel
theorem dX5_turned_5 : decode cX5_turned 5 = .ok (.aload_n 0, 1) := by decide +kernel
theorem dX5_turned_6 : decode cX5_turned 6 = .ok (.getfield 26, 3) := by decide +kernel
theorem dX5_turned_9 : decode cX5_turned 9 = .ok (.getfield 54, 3) := by decide +kernel
theorem dX5_turned_12 : decode cX5_turned 12 = .ok (.if_icmp .lt 5, 3) := by decide +kernel
theorem dX5_turned_15 : decode cX5_turned 15 = .ok (.iload_n 3, 1) := by decide +kernel
theorem dX5_turned_16 : decode cX5_turned 16 = .ok (.ireturn, 1) := by decide +kernel
theorem dX5_turned_17 : decode cX5_turned 17 = .ok (.aload_n 0, 1) := by decide +kernel
theorem dX5_turned_18 : decode cX5_turned 18 = .ok (.getfield 17, 3) := by decide +kernel
theorem dX5_turned_21 : decode cX5_turned 21 = .ok (.iconst 0, 1) := by decide +kernel
theorem dX5_turned_22 : decode cX5_turned 22 = .ok (.iload_n 3, 1) := by decide +kernel
theorem dX5_turned_23 : decode cX5_turned 23 = .ok (.iastore, 1) := by decide +kernel
theorem dX5_turned_24 : decode cX5_turned 24 = .ok (.aload_n 0, 1) := by decide +kernel
theorem dX5_turned_25 : decode cX5_turned 25 = .ok (.getfield 17, 3) := by decide +kernel
theorem dX5_turned_28 : decode cX5_turned 28 = .ok (.iconst 1, 1) := by decide +kernel
theorem dX5_turned_29 : decode cX5_turned 29 = .ok (.iload 4, 2) := by decide +kernel
theorem dX5_turned_31 : decode cX5_turned 31 = .ok (.iastore, 1) := by decide +kernel
theorem dX5_turned_32 : decode cX5_turned 32 = .ok (.aload_n 0, 1) := by decide +kernel
theorem dX5_turned_33 : decode cX5_turned 33 = .ok (.getfield 17, 3) := by decide +kernel
theorem dX5_turned_36 : decode cX5_turned 36 = .ok (.iconst 2, 1) := by decide +kernel
theorem dX5_turned_37 : decode cX5_turned 37 = .ok (.iload 5, 2) := by decide +kernel
theorem dX5_turned_39 : decode cX5_turned 39 = .ok (.iastore, 1) := by decide +kernel
theorem dX5_turned_40 : decode cX5_turned 40 = .ok (.aload_n 0, 1) := by decide +kernel
theorem dX5_turned_41 : decode cX5_turned 41 = .ok (.getfield 17, 3) := by decide +kernel
theorem dX5_turned_44 : decode cX5_turned 44 = .ok (.iconst 3, 1) := by decide +kernel
theorem dX5_turned_45 : decode cX5_turned 45 = .ok (.aload_n 0, 1) := by decide +kernel
theorem dX5_turned_46 : decode cX5_turned 46 = .ok (.iload_n 2, 1) := by decide +kernel
theorem dX5_turned_47 : decode cX5_turned 47 = .ok (.iload_n 3, 1) := by decide +kernel
theorem dX5_turned_48 : decode cX5_turned 48 = .ok (.iload 6, 2) := by decide +kernel
theorem dX5_turned_50 : decode cX5_turned 50 = .ok (.iload 7, 2) := by decide +kernel
theorem dX5_turned_52 : decode cX5_turned 52 = .ok (.invokevirtual 57, 3) := by decide +kernel
theorem dX5_turned_55 : decode cX5_turned 55 = .ok (.iastore, 1) := by decide +kernel
theorem dX5_turned_56 : decode cX5_turned 56 = .ok (.aload_n 0, 1) := by decide +kernel
theorem dX5_turned_57 : decode cX5_turned 57 = .ok (.getfield 17, 3) := by decide +kernel
theorem dX5_turned_60 : decode cX5_turned 60 = .ok (.iconst 4, 1) := by decide +kernel
theorem dX5_turned_61 : decode cX5_turned 61 = .ok (.iload_n 2, 1) := by decide +kernel
theorem dX5_turned_62 : decode cX5_turned 62 = .ok (.iastore, 1) := by decide +kernel
theorem dX5_turned_63 : decode cX5_turned 63 = .ok (.aload_n 0, 1) := by decide +kernel
theorem dX5_turned_64 : decode cX5_turned 64 = .ok (.getfield 17, 3) := by decide +kernel
theorem dX5_turned_67 : decode cX5_turned 67 = .ok (.iconst 5, 1) := by decide +kernel
theorem dX5_turned_68 : decode cX5_turned 68 = .ok (.aload_n 0, 1) := by decide +kernel
theorem dX5_turned_69 : decode cX5_turned 69 = .ok (.getfield 26, 3) := by decide +kernel
theorem dX5_turned_72 : decode cX5_turned 72 = .ok (.getfield 61, 3) := by decide +kernel
theorem dX5_turned_75 : decode cX5_turned 75 = .ok (.ifCond .ge 7, 3) := by decide +kernel
theorem dX5_turned_78 : decode cX5_turned 78 = .ok (.iload_n 3, 1) := by decide +kernel
theorem dX5_turned_79 : decode cX5_turned 79 = .ok (.goto 10, 3) := by decide +kernel
theorem dX5_turned_82 : decode cX5_turned 82 = .ok (.aload_n 0, 1) := by decide +kernel
theorem dX5_turned_83 : decode cX5_turned 83 = .ok (.getfield 26, 3) := by decide +kernel
theorem dX5_turned_86 : decode cX5_turned 86 = .ok (.getfield 61, 3) := by decide +kernel
theorem dX5_turned_89 : decode cX5_turned 89 = .ok (.iastore, 1) := by decide +kernel
theorem dX5_turned_90 : decode cX5_turned 90 = .ok (.aload_n 0, 1) := by decide +kernel
theorem dX5_turned_91 : decode cX5_turned 91 = .ok (.aload_n 0, 1) := by decide +kernel
theorem dX5_turned_92 : decode cX5_turned 92 = .ok (.aload_n 0, 1) := by decide +kernel
theorem dX5_turned_93 : decode cX5_turned 93 = .ok (.getfield 26, 3) := by decide +kernel
theorem dX5_turned_96 : decode cX5_turned 96 = .ok (.getfield 64, 3) := by decide +kernel
theorem dX5_turned_99 : decode cX5_turned 99 = .ok (.iload_n 1, 1) := by decide +kernel
theorem dX5_turned_100 : decode cX5_turned 100 = .ok (.iaload, 1) := by decide +kernel
theorem dX5_turned_101 : decode cX5_turned 101 = .ok (.iload_n 3, 1) := by decide +kernel
theorem dX5_turned_102 : decode cX5_turned 102 = .ok (.invokevirtual 67, 3) := by decide +kernel
theorem dX5_turned_105 : decode cX5_turned 105 = .ok (.invokevirtual 71, 3) := by decide +kernel
theorem dX5_turned_108 : decode cX5_turned 108 = .ok (.ireturn, 1) := by decide +kernel
set_option maxHeartbeats 4000000 in
set_option maxRecDepth 100000 in
theorem w_X5_turned_15 {X : CX} {T : List Dsc} {R : RM} {c e : Nat} {n1 n2 : Nat} {x3 : Int32} {m : M2} {r : (Int32 × M2)} (hX : XR X 4 n1 n2) (hG : Geo T R c e) (hf : f_X5_turned_15 c x3 m = some r) (hk : FnI X cX5_turned RX5 8 T n1 n2 (r.1, mk r.2 R)) : Wp X cX5_turned RX5 8 T (mk m R) n1 n2 15 [(3, .int x3)] [] := by
  unfold f_X5_turned_15 at hf
  refine Wp.iload_n (pc := 15) 0 rfl rfl dX5_turned_15 ?_
  cases hf
  exact hk _ _ dX5_turned_16
set_option maxHeartbeats 4000000 in
set_option maxRecDepth 100000 in
theorem w_X5_turned_89 {X : CX} {T : List Dsc} {R : RM} {c e : Nat} {n1 n2 : Nat} {x1 : Int32} {x3 : Int32} {s1 : Int32} {s2 : Int32} {m : M2} {r : (Int32 × M2)} (hX : XR X 4 n1 n2) (hG : Geo T R c e) (hf : f_X5_turned_89 c x1 x3 s1 s2 m = some r) (hk : FnI X cX5_turned RX5 8 T n1 n2 (r.1, mk r.2 R)) : Wp X cX5_turned RX5 8 T (mk m R) n1 n2 89 [(0, .ref 23), (1, .int x1), (3, .int x3)] [.int s2, .int s1, .ref 25] := by
  unfold f_X5_turned_89 at hf
  obtain ⟨m1, h2, hf⟩ := bnd hf
  refine Wp.iast2 (pc := 89) h2 (hG.a 25 0 rfl) dX5_turned_89 ?_
  refine Wp.aload_n (pc := 90) 0 rfl rfl dX5_turned_90 ?_
  refine Wp.aload_n (pc := 91) 0 rfl rfl dX5_turned_91 ?_
  refine Wp.aload_n (pc := 92) 0 rfl rfl dX5_turned_92 ?_
  refine Wp.getR2 (pc := 93) hG.r2 (hG.t 23 rfl) fk_RX5_26 rfl dX5_turned_93 ?_
  refine Wp.getR2 (pc := 96) (hG.tr hG.hc 2 1 rfl rfl) (hG.tt hG.hc) fk_RX5_64 rfl dX5_turned_96 ?_
  refine Wp.iload_n (pc := 99) 1 rfl rfl dX5_turned_99 ?_
  obtain ⟨v3, h4, hf⟩ := bnd hf
  refine Wp.iald2 (pc := 100) h4 (hG.ta hG.hc 1 6 rfl rfl) dX5_turned_100 ?_
  refine Wp.iload_n (pc := 101) 2 rfl rfl dX5_turned_101 ?_
  obtain ⟨c5, h6, hf⟩ := bnd hf
  refine Wp.callVi (pc := 102) (st := [.ref 23]) (as := [.int v3, .int x3]) (c_X5_worked hG h6) ml_RX5_67 mv_X5_worked mb_X5_worked hX (Nat.le_of_ble_eq_true rfl) (by decide) rfl (hG.t 23 rfl) rfl (by simp [Value.category]) dX5_turned_102 rfl ?_
  obtain ⟨c7, h8, hf⟩ := bnd hf
  refine Wp.callVi (pc := 105) (st := []) (as := [.int c5.1]) (c_X5_rest hG h8) ml_RX5_71 mv_X5_rest mb_X5_rest hX (Nat.le_of_ble_eq_true rfl) (by decide) rfl (hG.t 23 rfl) rfl (by simp) dX5_turned_105 rfl ?_
  cases hf
  exact hk _ _ dX5_turned_108
set_option maxHeartbeats 4000000 in
set_option maxRecDepth 100000 in
theorem w_X5_turned {X : CX} {T : List Dsc} {R : RM} {c e : Nat} {n1 n2 : Nat} {x1 : Int32} {x2 : Int32} {x3 : Int32} {x4 : Int32} {x5 : Int32} {x6 : Int32} {x7 : Int32} {m : M2} {r : (Int32 × M2)} (hX : XR X 4 n1 n2) (hG : Geo T R c e) (hf : F_X5_turned c x1 x2 x3 x4 x5 x6 x7 m = some r) (hk : FnI X cX5_turned RX5 8 T n1 n2 (r.1, mk r.2 R)) : Wp X cX5_turned RX5 8 T (mk m R) n1 n2 0 [(0, .ref 23), (1, .int x1), (2, .int x2), (3, .int x3), (4, .int x4), (5, .int x5), (6, .int x6), (7, .int x7)] [] := by
  unfold F_X5_turned at hf
  refine Wp.iload_n (pc := 0) 1 rfl rfl dX5_turned_0 ?_
  refine Wp.if_lt (pc := 1) 15 dX5_turned_1 (by decide) (fun hc1 => ?_) (fun hc1 => ?_)
  · rw [if_pos hc1] at hf
    refine Wp.lo' (lo' := [(3, .int x3)]) [3] rfl ?_
    exact w_X5_turned_15 hX hG hf hk
  · rw [if_neg hc1] at hf
    refine Wp.iload_n (pc := 4) 1 rfl rfl dX5_turned_4 ?_
    refine Wp.aload_n (pc := 5) 0 rfl rfl dX5_turned_5 ?_
    refine Wp.getR2 (pc := 6) hG.r2 (hG.t 23 rfl) fk_RX5_26 rfl dX5_turned_6 ?_
    refine Wp.getI2 (pc := 9) (hG.tt hG.hc) fk_RX5_54 rfl dX5_turned_9 ?_
    refine Wp.icmp_lt (pc := 12) 17 dX5_turned_12 (by decide) (fun hc2 => ?_) (fun hc2 => ?_)
    · rw [if_pos hc2] at hf
      refine Wp.aload_n (pc := 17) 0 rfl rfl dX5_turned_17 ?_
      refine Wp.getR2 (pc := 18) (hG.r 23 2 rfl) (hG.t 23 rfl) fk_RX5_17 rfl dX5_turned_18 ?_
      refine Wp.iconst (pc := 21) (0 : Int32) (by decide) dX5_turned_21 ?_
      refine Wp.iload_n (pc := 22) 3 rfl rfl dX5_turned_22 ?_
      obtain ⟨m3, h4, hf⟩ := bnd hf
      refine Wp.iast2 (pc := 23) h4 (hG.a 25 0 rfl) dX5_turned_23 ?_
      refine Wp.aload_n (pc := 24) 0 rfl rfl dX5_turned_24 ?_
      refine Wp.getR2 (pc := 25) (hG.r 23 2 rfl) (hG.t 23 rfl) fk_RX5_17 rfl dX5_turned_25 ?_
      refine Wp.iconst (pc := 28) (1 : Int32) (by decide) dX5_turned_28 ?_
      refine Wp.iload (pc := 29) 4 rfl dX5_turned_29 ?_
      obtain ⟨m5, h6, hf⟩ := bnd hf
      refine Wp.iast2 (pc := 31) h6 (hG.a 25 0 rfl) dX5_turned_31 ?_
      refine Wp.aload_n (pc := 32) 0 rfl rfl dX5_turned_32 ?_
      refine Wp.getR2 (pc := 33) (hG.r 23 2 rfl) (hG.t 23 rfl) fk_RX5_17 rfl dX5_turned_33 ?_
      refine Wp.iconst (pc := 36) (2 : Int32) (by decide) dX5_turned_36 ?_
      refine Wp.iload (pc := 37) 5 rfl dX5_turned_37 ?_
      obtain ⟨m7, h8, hf⟩ := bnd hf
      refine Wp.iast2 (pc := 39) h8 (hG.a 25 0 rfl) dX5_turned_39 ?_
      refine Wp.aload_n (pc := 40) 0 rfl rfl dX5_turned_40 ?_
      refine Wp.getR2 (pc := 41) (hG.r 23 2 rfl) (hG.t 23 rfl) fk_RX5_17 rfl dX5_turned_41 ?_
      refine Wp.iconst (pc := 44) (3 : Int32) (by decide) dX5_turned_44 ?_
      refine Wp.aload_n (pc := 45) 0 rfl rfl dX5_turned_45 ?_
      refine Wp.iload_n (pc := 46) 2 rfl rfl dX5_turned_46 ?_
      refine Wp.iload_n (pc := 47) 3 rfl rfl dX5_turned_47 ?_
      refine Wp.iload (pc := 48) 6 rfl dX5_turned_48 ?_
      refine Wp.iload (pc := 50) 7 rfl dX5_turned_50 ?_
      obtain ⟨c9, h10, hf⟩ := bnd hf
      refine Wp.callVi (pc := 52) (st := [.int (3 : Int32), .ref 25]) (as := [.int x2, .int x3, .int x6, .int x7]) (c_X5_heard hG h10) ml_RX5_57 mv_X5_heard mb_X5_heard hX (Nat.le_of_ble_eq_true rfl) (by decide) rfl (hG.t 23 rfl) rfl (by simp [Value.category]) dX5_turned_52 rfl ?_
      obtain ⟨m11, h12, hf⟩ := bnd hf
      refine Wp.iast2 (pc := 55) h12 (hG.a 25 0 rfl) dX5_turned_55 ?_
      refine Wp.aload_n (pc := 56) 0 rfl rfl dX5_turned_56 ?_
      refine Wp.getR2 (pc := 57) (hG.r 23 2 rfl) (hG.t 23 rfl) fk_RX5_17 rfl dX5_turned_57 ?_
      refine Wp.iconst (pc := 60) (4 : Int32) (by decide) dX5_turned_60 ?_
      refine Wp.iload_n (pc := 61) 2 rfl rfl dX5_turned_61 ?_
      obtain ⟨m13, h14, hf⟩ := bnd hf
      refine Wp.iast2 (pc := 62) h14 (hG.a 25 0 rfl) dX5_turned_62 ?_
      refine Wp.aload_n (pc := 63) 0 rfl rfl dX5_turned_63 ?_
      refine Wp.getR2 (pc := 64) (hG.r 23 2 rfl) (hG.t 23 rfl) fk_RX5_17 rfl dX5_turned_64 ?_
      refine Wp.iconst (pc := 67) (5 : Int32) (by decide) dX5_turned_67 ?_
      refine Wp.aload_n (pc := 68) 0 rfl rfl dX5_turned_68 ?_
      refine Wp.getR2 (pc := 69) hG.r2 (hG.t 23 rfl) fk_RX5_26 rfl dX5_turned_69 ?_
      refine Wp.getI2 (pc := 72) (hG.tt hG.hc) fk_RX5_61 rfl dX5_turned_72 ?_
      refine Wp.if_ge (pc := 75) 82 dX5_turned_75 (by decide) (fun hc15 => ?_) (fun hc15 => ?_)
      · rw [if_pos hc15] at hf
        refine Wp.aload_n (pc := 82) 0 rfl rfl dX5_turned_82 ?_
        refine Wp.getR2 (pc := 83) hG.r2 (hG.t 23 rfl) fk_RX5_26 rfl dX5_turned_83 ?_
        refine Wp.getI2 (pc := 86) (hG.tt hG.hc) fk_RX5_61 rfl dX5_turned_86 ?_
        refine Wp.lo' (lo' := [(0, .ref 23), (1, .int x1), (3, .int x3)]) [0, 1, 3] rfl ?_
        exact w_X5_turned_89 hX hG hf hk
      · rw [if_neg hc15] at hf
        refine Wp.iload_n (pc := 78) 3 rfl rfl dX5_turned_78 ?_
        refine Wp.goto (pc := 79) 89 dX5_turned_79 (by decide) ?_
        refine Wp.lo' (lo' := [(0, .ref 23), (1, .int x1), (3, .int x3)]) [0, 1, 3] rfl ?_
        exact w_X5_turned_89 hX hG hf hk
    · rw [if_neg hc2] at hf
      refine Wp.lo' (lo' := [(3, .int x3)]) [3] rfl ?_
      exact w_X5_turned_15 hX hG hf hk
theorem c_X5_turned {T : List Dsc} {R : RM} {c e : Nat} {x1 : Int32} {x2 : Int32} {x3 : Int32} {x4 : Int32} {x5 : Int32} {x6 : Int32} {x7 : Int32} {m : M2} {r : (Int32 × M2)} (hG : Geo T R c e) (hf : F_X5_turned c x1 x2 x3 x4 x5 x6 x7 m = some r) : Ct 4 yX5_turned cX5_turned 8 (some .int) T (mk m R) [.ref 23, .int x1, .int x2, .int x3, .int x4, .int x5, .int x6, .int x7] (some (.int r.1)) (mk r.2 R) := Ct.ofI (r := (r.1, mk r.2 R)) (by decide +kernel) (Nat.le_of_ble_eq_true rfl) (fun X hX hk => w_X5_turned hX hG hf hk)
theorem dX0_addBench_0 : decode cX0_addBench 0 = .ok (.aload_n 0, 1) := by decide +kernel
theorem dX0_addBench_1 : decode cX0_addBench 1 = .ok (.getfield 7, 3) := by decide +kernel
theorem dX0_addBench_4 : decode cX0_addBench 4 = .ok (.getfield 13, 3) := by decide +kernel
theorem dX0_addBench_7 : decode cX0_addBench 7 = .ok (.getfield 19, 3) := by decide +kernel
theorem dX0_addBench_10 : decode cX0_addBench 10 = .ok (.istore 4, 2) := by decide +kernel
theorem dX0_addBench_12 : decode cX0_addBench 12 = .ok (.aload_n 0, 1) := by decide +kernel
theorem dX0_addBench_13 : decode cX0_addBench 13 = .ok (.iload_n 2, 1) := by decide +kernel
theorem dX0_addBench_14 : decode cX0_addBench 14 = .ok (.iconst 1, 1) := by decide +kernel
theorem dX0_addBench_15 : decode cX0_addBench 15 = .ok (.iadd, 1) := by decide +kernel
theorem dX0_addBench_16 : decode cX0_addBench 16 = .ok (.iconst 3, 1) := by decide +kernel
theorem dX0_addBench_17 : decode cX0_addBench 17 = .ok (.invokestatic 40, 3) := by decide +kernel
theorem dX0_addBench_20 : decode cX0_addBench 20 = .ok (.invokevirtual 36, 3) := by decide +kernel
theorem dX0_addBench_23 : decode cX0_addBench 23 = .ok (.sipush 20736, 3) := by decide +kernel
theorem dX0_addBench_26 : decode cX0_addBench 26 = .ok (.invokestatic 40, 3) := by decide +kernel
theorem dX0_addBench_29 : decode cX0_addBench 29 = .ok (.istore 5, 2) := by decide +kernel
theorem dX0_addBench_31 : decode cX0_addBench 31 = .ok (.iconst 0, 1) := by decide +kernel
theorem dX0_addBench_32 : decode cX0_addBench 32 = .ok (.istore 6, 2) := by decide +kernel
theorem dX0_addBench_34 : decode cX0_addBench 34 = .ok (.iload 6, 2) := by decide +kernel
theorem dX0_addBench_36 : decode cX0_addBench 36 = .ok (.iload 5, 2) := by decide +kernel
theorem dX0_addBench_38 : decode cX0_addBench 38 = .ok (.if_icmp .ge 79, 3) := by decide +kernel
theorem dX0_addBench_41 : decode cX0_addBench 41 = .ok (.iload 6, 2) := by decide +kernel
theorem dX0_addBench_43 : decode cX0_addBench 43 = .ok (.iload 4, 2) := by decide +kernel
theorem dX0_addBench_45 : decode cX0_addBench 45 = .ok (.irem, 1) := by decide +kernel
theorem dX0_addBench_46 : decode cX0_addBench 46 = .ok (.istore 7, 2) := by decide +kernel
theorem dX0_addBench_48 : decode cX0_addBench 48 = .ok (.iload_n 2, 1) := by decide +kernel
theorem dX0_addBench_49 : decode cX0_addBench 49 = .ok (.ifCond .ne 8, 3) := by decide +kernel
theorem dX0_addBench_52 : decode cX0_addBench 52 = .ok (.iload 7, 2) := by decide +kernel
theorem dX0_addBench_54 : decode cX0_addBench 54 = .ok (.goto 11, 3) := by decide +kernel
theorem dX0_addBench_57 : decode cX0_addBench 57 = .ok (.iload 6, 2) := by decide +kernel
theorem dX0_addBench_59 : decode cX0_addBench 59 = .ok (.iload 4, 2) := by decide +kernel
theorem dX0_addBench_61 : decode cX0_addBench 61 = .ok (.idiv, 1) := by decide +kernel
theorem dX0_addBench_62 : decode cX0_addBench 62 = .ok (.iload 4, 2) := by decide +kernel
theorem dX0_addBench_64 : decode cX0_addBench 64 = .ok (.irem, 1) := by decide +kernel
theorem dX0_addBench_65 : decode cX0_addBench 65 = .ok (.istore 8, 2) := by decide +kernel
theorem dX0_addBench_67 : decode cX0_addBench 67 = .ok (.iload_n 2, 1) := by decide +kernel
theorem dX0_addBench_68 : decode cX0_addBench 68 = .ok (.iconst 2, 1) := by decide +kernel
theorem dX0_addBench_69 : decode cX0_addBench 69 = .ok (.if_icmp .ge 8, 3) := by decide +kernel
theorem dX0_addBench_72 : decode cX0_addBench 72 = .ok (.iload 8, 2) := by decide +kernel
theorem dX0_addBench_74 : decode cX0_addBench 74 = .ok (.goto 11, 3) := by decide +kernel
theorem dX0_addBench_77 : decode cX0_addBench 77 = .ok (.iload 6, 2) := by decide +kernel
theorem dX0_addBench_79 : decode cX0_addBench 79 = .ok (.iload 4, 2) := by decide +kernel
theorem dX0_addBench_81 : decode cX0_addBench 81 = .ok (.idiv, 1) := by decide +kernel
theorem dX0_addBench_82 : decode cX0_addBench 82 = .ok (.iload 4, 2) := by decide +kernel
theorem dX0_addBench_84 : decode cX0_addBench 84 = .ok (.idiv, 1) := by decide +kernel
theorem dX0_addBench_85 : decode cX0_addBench 85 = .ok (.istore 9, 2) := by decide +kernel
theorem dX0_addBench_87 : decode cX0_addBench 87 = .ok (.aload_n 0, 1) := by decide +kernel
theorem dX0_addBench_88 : decode cX0_addBench 88 = .ok (.getfield 29, 3) := by decide +kernel
theorem dX0_addBench_91 : decode cX0_addBench 91 = .ok (.iload 6, 2) := by decide +kernel
theorem dX0_addBench_93 : decode cX0_addBench 93 = .ok (.aload_n 0, 1) := by decide +kernel
theorem dX0_addBench_94 : decode cX0_addBench 94 = .ok (.getfield 7, 3) := by decide +kernel
theorem dX0_addBench_97 : decode cX0_addBench 97 = .ok (.iload_n 1, 1) := by decide +kernel
theorem dX0_addBench_98 : decode cX0_addBench 98 = .ok (.iload_n 2, 1) := by decide +kernel
theorem dX0_addBench_99 : decode cX0_addBench 99 = .ok (.iload 7, 2) := by decide +kernel
theorem dX0_addBench_101 : decode cX0_addBench 101 = .ok (.iload 8, 2) := by decide +kernel
theorem dX0_addBench_103 : decode cX0_addBench 103 = .ok (.iload 9, 2) := by decide +kernel
theorem dX0_addBench_105 : decode cX0_addBench 105 = .ok (.iload_n 3, 1) := by decide +kernel
theorem dX0_addBench_106 : decode cX0_addBench 106 = .ok (.iconst 0, 1) := by decide +kernel
theorem dX0_addBench_107 : decode cX0_addBench 107 = .ok (.invokevirtual 65, 3) := by decide +kernel
theorem dX0_addBench_110 : decode cX0_addBench 110 = .ok (.iastore, 1) := by decide +kernel
theorem dX0_addBench_111 : decode cX0_addBench 111 = .ok (.iinc 6 1, 3) := by decide +kernel
theorem dX0_addBench_114 : decode cX0_addBench 114 = .ok (.goto (-80), 3) := by decide +kernel
theorem dX0_addBench_117 : decode cX0_addBench 117 = .ok (.aload_n 0, 1) := by decide +kernel
theorem dX0_addBench_118 : decode cX0_addBench 118 = .ok (.iload_n 2, 1) := by decide +kernel
theorem dX0_addBench_119 : decode cX0_addBench 119 = .ok (.iconst 1, 1) := by decide +kernel
theorem dX0_addBench_120 : decode cX0_addBench 120 = .ok (.iadd, 1) := by decide +kernel
theorem dX0_addBench_121 : decode cX0_addBench 121 = .ok (.invokevirtual 36, 3) := by decide +kernel
theorem dX0_addBench_124 : decode cX0_addBench 124 = .ok (.sipush 20736, 3) := by decide +kernel
theorem dX0_addBench_127 : decode cX0_addBench 127 = .ok (.invokestatic 40, 3) := by decide +kernel
theorem dX0_addBench_130 : decode cX0_addBench 130 = .ok (.iconst 1, 1) := by decide +kernel
theorem dX0_addBench_131 : decode cX0_addBench 131 = .ok (.isub, 1) := by decide +kernel
theorem dX0_addBench_132 : decode cX0_addBench 132 = .ok (.istore 6, 2) := by decide +kernel
theorem dX0_addBench_134 : decode cX0_addBench 134 = .ok (.iload 6, 2) := by decide +kernel
theorem dX0_addBench_136 : decode cX0_addBench 136 = .ok (.ifCond .lt 40, 3) := by decide +kernel
theorem dX0_addBench_139 : decode cX0_addBench 139 = .ok (.aload_n 0, 1) := by decide +kernel
theorem dX0_addBench_140 : decode cX0_addBench 140 = .ok (.getfield 25, 3) := by decide +kernel
theorem dX0_addBench_143 : decode cX0_addBench 143 = .ok (.iload 6, 2) := by decide +kernel
theorem dX0_addBench_145 : decode cX0_addBench 145 = .ok (.aload_n 0, 1) := by decide +kernel
theorem dX0_addBench_146 : decode cX0_addBench 146 = .ok (.getfield 25, 3) := by decide +kernel
theorem dX0_addBench_149 : decode cX0_addBench 149 = .ok (.iload 6, 2) := by decide +kernel
theorem dX0_addBench_151 : decode cX0_addBench 151 = .ok (.iload 4, 2) := by decide +kernel
theorem dX0_addBench_153 : decode cX0_addBench 153 = .ok (.idiv, 1) := by decide +kernel
theorem dX0_addBench_154 : decode cX0_addBench 154 = .ok (.iaload, 1) := by decide +kernel
theorem dX0_addBench_155 : decode cX0_addBench 155 = .ok (.iload 4, 2) := by decide +kernel
theorem dX0_addBench_157 : decode cX0_addBench 157 = .ok (.imul, 1) := by decide +kernel
theorem dX0_addBench_158 : decode cX0_addBench 158 = .ok (.aload_n 0, 1) := by decide +kernel
theorem dX0_addBench_159 : decode cX0_addBench 159 = .ok (.getfield 29, 3) := by decide +kernel
theorem dX0_addBench_162 : decode cX0_addBench 162 = .ok (.iload 6, 2) := by decide +kernel
theorem dX0_addBench_164 : decode cX0_addBench 164 = .ok (.iload 5, 2) := by decide +kernel
theorem dX0_addBench_166 : decode cX0_addBench 166 = .ok (.irem, 1) := by decide +kernel
theorem dX0_addBench_167 : decode cX0_addBench 167 = .ok (.iaload, 1) := by decide +kernel
theorem dX0_addBench_168 : decode cX0_addBench 168 = .ok (.iadd, 1) := by decide +kernel
theorem dX0_addBench_169 : decode cX0_addBench 169 = .ok (.iastore, 1) := by decide +kernel
theorem dX0_addBench_170 : decode cX0_addBench 170 = .ok (.iinc 6 (-1), 3) := by decide +kernel
theorem dX0_addBench_173 : decode cX0_addBench 173 = .ok (.goto (-39), 3) := by decide +kernel
theorem dX0_addBench_176 : decode cX0_addBench 176 = .ok (.return_, 1) := by decide +kernel
def k_X0_addBench_34 (X : CX) (T : List Dsc) (R : RM) (n1 n2 : Nat) (x1 : Int32) (x2 : Int32) (x3 : Int32) (x4 : Int32) (x5 : Int32) (r : ((Int32 × M2) ⊕ ((M2)))) : Prop := match r with
  | .inl s => Wp X cX0_addBench RX0 10 T (mk s.2 R) n1 n2 34 [(0, .ref 38), (1, .int x1), (2, .int x2), (3, .int x3), (4, .int x4), (5, .int x5), (6, .int s.1)] []
  | .inr e => Wp X cX0_addBench RX0 10 T (mk e R) n1 n2 117 [(0, .ref 38), (2, .int x2), (4, .int x4), (5, .int x5)] []
def k_X0_addBench_134 (X : CX) (T : List Dsc) (R : RM) (n1 n2 : Nat) (x4 : Int32) (x5 : Int32) (r : ((Int32 × M2) ⊕ ((M2)))) : Prop := match r with
  | .inl s => Wp X cX0_addBench RX0 10 T (mk s.2 R) n1 n2 134 [(0, .ref 38), (4, .int x4), (5, .int x5), (6, .int s.1)] []
  | .inr e => Wp X cX0_addBench RX0 10 T (mk e R) n1 n2 176 [] []
set_option maxHeartbeats 4000000 in
set_option maxRecDepth 100000 in
theorem w_X0_addBench_85 {X : CX} {T : List Dsc} {R : RM} {c e : Nat} {n1 n2 : Nat} {x1 : Int32} {x2 : Int32} {x3 : Int32} {x4 : Int32} {x5 : Int32} {x6 : Int32} {x7 : Int32} {x8 : Int32} {s0 : Int32} {m : M2} {r : ((Int32 × M2) ⊕ ((M2)))} (hX : XR X 5 n1 n2) (hG : Geo T R c e) (hB : GeoB T R) (hf : f_X0_addBench_85 c x1 x2 x3 x4 x5 x6 x7 x8 s0 m = some r) (hk : k_X0_addBench_34 X T R n1 n2 x1 x2 x3 x4 x5 r) : Wp X cX0_addBench RX0 10 T (mk m R) n1 n2 85 [(0, .ref 38), (1, .int x1), (2, .int x2), (3, .int x3), (4, .int x4), (5, .int x5), (6, .int x6), (7, .int x7), (8, .int x8)] [.int s0] := by
  unfold f_X0_addBench_85 at hf
  refine Wp.istore (pc := 85) (lo' := [(0, .ref 38), (1, .int x1), (2, .int x2), (3, .int x3), (4, .int x4), (5, .int x5), (6, .int x6), (7, .int x7), (8, .int x8), (9, .int s0)]) [1, 2, 3, 4, 5, 6, 7, 8, 9, 0] rfl (by decide) dX0_addBench_85 ?_
  refine Wp.aload_n (pc := 87) 0 rfl rfl dX0_addBench_87 ?_
  refine Wp.getR2 (pc := 88) hB.2.1 (hG.t 38 rfl) fk_RX0_29 rfl dX0_addBench_88 ?_
  refine Wp.iload (pc := 91) 6 rfl dX0_addBench_91 ?_
  refine Wp.aload_n (pc := 93) 0 rfl rfl dX0_addBench_93 ?_
  refine Wp.getR2 (pc := 94) (hG.r 38 0 rfl) (hG.t 38 rfl) fk_RX0_7 rfl dX0_addBench_94 ?_
  refine Wp.iload_n (pc := 97) 1 rfl rfl dX0_addBench_97 ?_
  refine Wp.iload_n (pc := 98) 2 rfl rfl dX0_addBench_98 ?_
  refine Wp.iload (pc := 99) 7 rfl dX0_addBench_99 ?_
  refine Wp.iload (pc := 101) 8 rfl dX0_addBench_101 ?_
  refine Wp.iload (pc := 103) 9 rfl dX0_addBench_103 ?_
  refine Wp.iload_n (pc := 105) 3 rfl rfl dX0_addBench_105 ?_
  refine Wp.iconst (pc := 106) (0 : Int32) (by decide) dX0_addBench_106 ?_
  obtain ⟨c1, h2, hf⟩ := bnd hf
  refine Wp.callVi (pc := 107) (st := [.int x6, .ref 121]) (as := [.int x1, .int x2, .int x7, .int x8, .int s0, .int x3, .int (0 : Int32)]) (c_X5_turned hG h2) ml_RX0_65 mv_X5_turned mb_X5_turned hX (Nat.le_of_ble_eq_true rfl) (by decide) rfl (hG.t 23 rfl) rfl (by simp [Value.category]) dX0_addBench_107 rfl ?_
  obtain ⟨m3, h4, hf⟩ := bnd hf
  refine Wp.iast2 (pc := 110) h4 hB.2.2.2 dX0_addBench_110 ?_
  obtain ⟨v5, h6, hf⟩ := bnd hf
  refine Wp.iincN (pc := 111) (lo' := [(0, .ref 38), (1, .int x1), (2, .int x2), (3, .int x3), (4, .int x4), (5, .int x5), (6, .int v5)]) (1 : Int32) (by decide) h6 6 rfl [1, 2, 3, 4, 5, 6, 0] rfl (by decide) dX0_addBench_111 ?_
  refine Wp.goto (pc := 114) 34 dX0_addBench_114 (by decide) ?_
  cases hf
  exact hk
set_option maxHeartbeats 4000000 in
set_option maxRecDepth 100000 in
theorem w_X0_addBench_65 {X : CX} {T : List Dsc} {R : RM} {c e : Nat} {n1 n2 : Nat} {x1 : Int32} {x2 : Int32} {x3 : Int32} {x4 : Int32} {x5 : Int32} {x6 : Int32} {x7 : Int32} {s0 : Int32} {m : M2} {r : ((Int32 × M2) ⊕ ((M2)))} (hX : XR X 5 n1 n2) (hG : Geo T R c e) (hB : GeoB T R) (hf : f_X0_addBench_65 c x1 x2 x3 x4 x5 x6 x7 s0 m = some r) (hk : k_X0_addBench_34 X T R n1 n2 x1 x2 x3 x4 x5 r) : Wp X cX0_addBench RX0 10 T (mk m R) n1 n2 65 [(0, .ref 38), (1, .int x1), (2, .int x2), (3, .int x3), (4, .int x4), (5, .int x5), (6, .int x6), (7, .int x7)] [.int s0] := by
  unfold f_X0_addBench_65 at hf
  refine Wp.istore (pc := 65) (lo' := [(0, .ref 38), (1, .int x1), (2, .int x2), (3, .int x3), (4, .int x4), (5, .int x5), (6, .int x6), (7, .int x7), (8, .int s0)]) [1, 2, 3, 4, 5, 6, 7, 8, 0] rfl (by decide) dX0_addBench_65 ?_
  refine Wp.iload_n (pc := 67) 2 rfl rfl dX0_addBench_67 ?_
  refine Wp.iconst (pc := 68) (2 : Int32) (by decide) dX0_addBench_68 ?_
  refine Wp.icmp_ge (pc := 69) 77 dX0_addBench_69 (by decide) (fun hc1 => ?_) (fun hc1 => ?_)
  · rw [if_pos hc1] at hf
    refine Wp.iload (pc := 77) 6 rfl dX0_addBench_77 ?_
    refine Wp.iload (pc := 79) 4 rfl dX0_addBench_79 ?_
    obtain ⟨v2, h3, hf⟩ := bnd hf
    refine Wp.dv (pc := 81) h3 dX0_addBench_81 ?_
    refine Wp.iload (pc := 82) 4 rfl dX0_addBench_82 ?_
    obtain ⟨v4, h5, hf⟩ := bnd hf
    refine Wp.dv (pc := 84) h5 dX0_addBench_84 ?_
    exact w_X0_addBench_85 hX hG hB hf hk
  · rw [if_neg hc1] at hf
    refine Wp.iload (pc := 72) 8 rfl dX0_addBench_72 ?_
    refine Wp.goto (pc := 74) 85 dX0_addBench_74 (by decide) ?_
    exact w_X0_addBench_85 hX hG hB hf hk
set_option maxHeartbeats 4000000 in
set_option maxRecDepth 100000 in
theorem w_X0_addBench_34 {X : CX} {T : List Dsc} {R : RM} {c e : Nat} {n1 n2 : Nat} {x1 : Int32} {x2 : Int32} {x3 : Int32} {x4 : Int32} {x5 : Int32} {x6 : Int32} {m : M2} {r : ((Int32 × M2) ⊕ ((M2)))} (hX : XR X 5 n1 n2) (hG : Geo T R c e) (hB : GeoB T R) (hf : f_X0_addBench_34 c x1 x2 x3 x4 x5 x6 m = some r) (hk : k_X0_addBench_34 X T R n1 n2 x1 x2 x3 x4 x5 r) : Wp X cX0_addBench RX0 10 T (mk m R) n1 n2 34 [(0, .ref 38), (1, .int x1), (2, .int x2), (3, .int x3), (4, .int x4), (5, .int x5), (6, .int x6)] [] := by
  unfold f_X0_addBench_34 at hf
  refine Wp.iload (pc := 34) 6 rfl dX0_addBench_34 ?_
  refine Wp.iload (pc := 36) 5 rfl dX0_addBench_36 ?_
  refine Wp.icmp_ge (pc := 38) 117 dX0_addBench_38 (by decide) (fun hc1 => ?_) (fun hc1 => ?_)
  · rw [if_pos hc1] at hf
    refine Wp.lo' (lo' := [(0, .ref 38), (2, .int x2), (4, .int x4), (5, .int x5)]) [0, 2, 4, 5] rfl ?_
    cases hf
    exact hk
  · rw [if_neg hc1] at hf
    refine Wp.iload (pc := 41) 6 rfl dX0_addBench_41 ?_
    refine Wp.iload (pc := 43) 4 rfl dX0_addBench_43 ?_
    obtain ⟨v2, h3, hf⟩ := bnd hf
    refine Wp.rm (pc := 45) h3 dX0_addBench_45 ?_
    refine Wp.istore (pc := 46) (lo' := [(0, .ref 38), (1, .int x1), (2, .int x2), (3, .int x3), (4, .int x4), (5, .int x5), (6, .int x6), (7, .int v2)]) [1, 2, 3, 4, 5, 6, 7, 0] rfl (by decide) dX0_addBench_46 ?_
    refine Wp.iload_n (pc := 48) 2 rfl rfl dX0_addBench_48 ?_
    refine Wp.if_ne (pc := 49) 57 dX0_addBench_49 (by decide) (fun hc4 => ?_) (fun hc4 => ?_)
    · rw [if_neg hc4] at hf
      refine Wp.iload (pc := 57) 6 rfl dX0_addBench_57 ?_
      refine Wp.iload (pc := 59) 4 rfl dX0_addBench_59 ?_
      obtain ⟨v5, h6, hf⟩ := bnd hf
      refine Wp.dv (pc := 61) h6 dX0_addBench_61 ?_
      refine Wp.iload (pc := 62) 4 rfl dX0_addBench_62 ?_
      obtain ⟨v7, h8, hf⟩ := bnd hf
      refine Wp.rm (pc := 64) h8 dX0_addBench_64 ?_
      exact w_X0_addBench_65 hX hG hB hf hk
    · rw [if_pos hc4] at hf
      refine Wp.iload (pc := 52) 7 rfl dX0_addBench_52 ?_
      refine Wp.goto (pc := 54) 65 dX0_addBench_54 (by decide) ?_
      exact w_X0_addBench_65 hX hG hB hf hk
theorem wl_X0_addBench_34 {X : CX} {T : List Dsc} {R : RM} {c e : Nat} {n1 n2 : Nat} {x1 : Int32} {x2 : Int32} {x3 : Int32} {x4 : Int32} {x5 : Int32} {x6 : Int32} {m : M2} {e1 : ((M2))} (hX : XR X 5 n1 n2) (hG : Geo T R c e) (hB : GeoB T R) (h : loop (g_X0_addBench_34 c x1 x2 x3 x4 x5) (x6, m) = some e1) (he : Wp X cX0_addBench RX0 10 T (mk e1 R) n1 n2 117 [(0, .ref 38), (2, .int x2), (4, .int x4), (5, .int x5)] []) : Wp X cX0_addBench RX0 10 T (mk m R) n1 n2 34 [(0, .ref 38), (1, .int x1), (2, .int x2), (3, .int x3), (4, .int x4), (5, .int x5), (6, .int x6)] [] :=
  loop_ok (K := k_X0_addBench_34 X T R n1 n2 x1 x2 x3 x4 x5) (fun s r hf hk => w_X0_addBench_34 hX hG hB hf hk) h he
set_option maxHeartbeats 4000000 in
set_option maxRecDepth 100000 in
theorem w_X0_addBench_134 {X : CX} {T : List Dsc} {R : RM} {c e : Nat} {n1 n2 : Nat} {x4 : Int32} {x5 : Int32} {x6 : Int32} {m : M2} {r : ((Int32 × M2) ⊕ ((M2)))} (hX : XR X 5 n1 n2) (hG : Geo T R c e) (hB : GeoB T R) (hf : f_X0_addBench_134 c x4 x5 x6 m = some r) (hk : k_X0_addBench_134 X T R n1 n2 x4 x5 r) : Wp X cX0_addBench RX0 10 T (mk m R) n1 n2 134 [(0, .ref 38), (4, .int x4), (5, .int x5), (6, .int x6)] [] := by
  unfold f_X0_addBench_134 at hf
  refine Wp.iload (pc := 134) 3 rfl dX0_addBench_134 ?_
  refine Wp.if_lt (pc := 136) 176 dX0_addBench_136 (by decide) (fun hc1 => ?_) (fun hc1 => ?_)
  · rw [if_pos hc1] at hf
    refine Wp.lo' (lo' := []) [] rfl ?_
    cases hf
    exact hk
  · rw [if_neg hc1] at hf
    refine Wp.aload_n (pc := 139) 0 rfl rfl dX0_addBench_139 ?_
    refine Wp.getR2 (pc := 140) hB.1 (hG.t 38 rfl) fk_RX0_25 rfl dX0_addBench_140 ?_
    refine Wp.iload (pc := 143) 3 rfl dX0_addBench_143 ?_
    refine Wp.aload_n (pc := 145) 0 rfl rfl dX0_addBench_145 ?_
    refine Wp.getR2 (pc := 146) hB.1 (hG.t 38 rfl) fk_RX0_25 rfl dX0_addBench_146 ?_
    refine Wp.iload (pc := 149) 3 rfl dX0_addBench_149 ?_
    refine Wp.iload (pc := 151) 1 rfl dX0_addBench_151 ?_
    obtain ⟨v2, h3, hf⟩ := bnd hf
    refine Wp.dv (pc := 153) h3 dX0_addBench_153 ?_
    obtain ⟨v4, h5, hf⟩ := bnd hf
    refine Wp.iald2 (pc := 154) h5 hB.2.2.1 dX0_addBench_154 ?_
    refine Wp.iload (pc := 155) 1 rfl dX0_addBench_155 ?_
    refine Wp.imul (pc := 157) dX0_addBench_157 ?_
    refine Wp.aload_n (pc := 158) 0 rfl rfl dX0_addBench_158 ?_
    refine Wp.getR2 (pc := 159) hB.2.1 (hG.t 38 rfl) fk_RX0_29 rfl dX0_addBench_159 ?_
    refine Wp.iload (pc := 162) 3 rfl dX0_addBench_162 ?_
    refine Wp.iload (pc := 164) 2 rfl dX0_addBench_164 ?_
    obtain ⟨v6, h7, hf⟩ := bnd hf
    refine Wp.rm (pc := 166) h7 dX0_addBench_166 ?_
    obtain ⟨v8, h9, hf⟩ := bnd hf
    refine Wp.iald2 (pc := 167) h9 hB.2.2.2 dX0_addBench_167 ?_
    refine Wp.iadd (pc := 168) dX0_addBench_168 ?_
    obtain ⟨m10, h11, hf⟩ := bnd hf
    refine Wp.iast2 (pc := 169) h11 hB.2.2.1 dX0_addBench_169 ?_
    obtain ⟨v12, h13, hf⟩ := bnd hf
    refine Wp.iincN (pc := 170) (lo' := [(0, .ref 38), (4, .int x4), (5, .int x5), (6, .int v12)]) (-1 : Int32) (by decide) h13 3 rfl [1, 2, 3, 0] rfl (by decide) dX0_addBench_170 ?_
    refine Wp.goto (pc := 173) 134 dX0_addBench_173 (by decide) ?_
    cases hf
    exact hk
theorem wl_X0_addBench_134 {X : CX} {T : List Dsc} {R : RM} {c e : Nat} {n1 n2 : Nat} {x4 : Int32} {x5 : Int32} {x6 : Int32} {m : M2} {e1 : ((M2))} (hX : XR X 5 n1 n2) (hG : Geo T R c e) (hB : GeoB T R) (h : loop (g_X0_addBench_134 c x4 x5) (x6, m) = some e1) (he : Wp X cX0_addBench RX0 10 T (mk e1 R) n1 n2 176 [] []) : Wp X cX0_addBench RX0 10 T (mk m R) n1 n2 134 [(0, .ref 38), (4, .int x4), (5, .int x5), (6, .int x6)] [] :=
  loop_ok (K := k_X0_addBench_134 X T R n1 n2 x4 x5) (fun s r hf hk => w_X0_addBench_134 hX hG hB hf hk) h he
set_option maxHeartbeats 4000000 in
set_option maxRecDepth 100000 in
theorem w_X0_addBench {X : CX} {T : List Dsc} {R : RM} {c e : Nat} {n1 n2 : Nat} {x1 : Int32} {x2 : Int32} {x3 : Int32} {m : M2} {r : M2} (hX : XR X 5 n1 n2) (hG : Geo T R c e) (hB : GeoB T R) (hf : F_X0_addBench c x1 x2 x3 m = some r) (hk : FnV X cX0_addBench RX0 10 T n1 n2 (mk r R)) : Wp X cX0_addBench RX0 10 T (mk m R) n1 n2 0 [(0, .ref 38), (1, .int x1), (2, .int x2), (3, .int x3)] [] := by
  unfold F_X0_addBench at hf
  refine Wp.aload_n (pc := 0) 0 rfl rfl dX0_addBench_0 ?_
  refine Wp.getR2 (pc := 1) (hG.r 38 0 rfl) (hG.t 38 rfl) fk_RX0_7 rfl dX0_addBench_1 ?_
  refine Wp.getR2 (pc := 4) hG.r2 (hG.t 23 rfl) fk_RX0_13 rfl dX0_addBench_4 ?_
  refine Wp.getI2 (pc := 7) (hG.tt hG.hc) fk_RX0_19 rfl dX0_addBench_7 ?_
  obtain ⟨v1, h2, hf⟩ := bnd hf
  refine Wp.nI' h2 ?_
  refine Wp.istore (pc := 10) (lo' := [(0, .ref 38), (1, .int x1), (2, .int x2), (3, .int x3), (4, .int v1)]) [1, 2, 3, 4, 0] rfl (by decide) dX0_addBench_10 ?_
  refine Wp.aload_n (pc := 12) 0 rfl rfl dX0_addBench_12 ?_
  refine Wp.iload_n (pc := 13) 2 rfl rfl dX0_addBench_13 ?_
  refine Wp.iconst (pc := 14) (1 : Int32) (by decide) dX0_addBench_14 ?_
  refine Wp.iadd (pc := 15) dX0_addBench_15 ?_
  refine Wp.iconst (pc := 16) (3 : Int32) (by decide) dX0_addBench_16 ?_
  refine Wp.mmin (pc := 17) mm_RX0_40 hX (Nat.le_of_ble_eq_true rfl) (by simp [Value.category]) dX0_addBench_17 ?_
  obtain ⟨c3, h4, hf⟩ := bnd hf
  refine Wp.callVi (pc := 20) (st := []) (as := [.int (mnI (x2 + (1 : Int32)) (3 : Int32))]) (c_X0_howMany hG h4) ml_RX0_36 mv_X0_howMany mb_X0_howMany hX (Nat.le_of_ble_eq_true rfl) (by decide) rfl (hG.t 38 rfl) rfl (by simp) dX0_addBench_20 rfl ?_
  refine Wp.sipush (pc := 23) (20736 : Int32) (by decide) dX0_addBench_23 ?_
  refine Wp.mmin (pc := 26) mm_RX0_40 hX (Nat.le_of_ble_eq_true rfl) (by simp) dX0_addBench_26 ?_
  obtain ⟨v5, h6, hf⟩ := bnd hf
  refine Wp.nI' h6 ?_
  refine Wp.istore (pc := 29) (lo' := [(0, .ref 38), (1, .int x1), (2, .int x2), (3, .int x3), (4, .int v1), (5, .int v5)]) [1, 2, 3, 4, 5, 0] rfl (by decide) dX0_addBench_29 ?_
  refine Wp.iconst (pc := 31) (0 : Int32) (by decide) dX0_addBench_31 ?_
  refine Wp.istore (pc := 32) (lo' := [(0, .ref 38), (1, .int x1), (2, .int x2), (3, .int x3), (4, .int v1), (5, .int v5), (6, .int (0 : Int32))]) [1, 2, 3, 4, 5, 6, 0] rfl (by decide) dX0_addBench_32 ?_
  obtain ⟨e7, h8, hf⟩ := bnd hf
  refine wl_X0_addBench_34 hX hG hB h8 ?_
  refine Wp.aload_n (pc := 117) 0 rfl rfl dX0_addBench_117 ?_
  refine Wp.iload_n (pc := 118) 1 rfl rfl dX0_addBench_118 ?_
  refine Wp.iconst (pc := 119) (1 : Int32) (by decide) dX0_addBench_119 ?_
  refine Wp.iadd (pc := 120) dX0_addBench_120 ?_
  obtain ⟨c9, h10, hf⟩ := bnd hf
  refine Wp.callVi (pc := 121) (st := []) (as := [.int (x2 + (1 : Int32))]) (c_X0_howMany hG h10) ml_RX0_36 mv_X0_howMany mb_X0_howMany hX (Nat.le_of_ble_eq_true rfl) (by decide) rfl (hG.t 38 rfl) rfl (by simp) dX0_addBench_121 rfl ?_
  refine Wp.sipush (pc := 124) (20736 : Int32) (by decide) dX0_addBench_124 ?_
  refine Wp.mmin (pc := 127) mm_RX0_40 hX (Nat.le_of_ble_eq_true rfl) (by simp) dX0_addBench_127 ?_
  refine Wp.iconst (pc := 130) (1 : Int32) (by decide) dX0_addBench_130 ?_
  refine Wp.isub (pc := 131) dX0_addBench_131 ?_
  obtain ⟨v11, h12, hf⟩ := bnd hf
  refine Wp.nI' h12 ?_
  refine Wp.istore (pc := 132) (lo' := [(0, .ref 38), (4, .int v1), (5, .int v5), (6, .int v11)]) [1, 3, 4, 0] rfl (by decide) dX0_addBench_132 ?_
  obtain ⟨e13, h14, hf⟩ := bnd hf
  refine wl_X0_addBench_134 hX hG hB h14 ?_
  cases hf
  exact hk _ _ dX0_addBench_176
theorem c_X0_addBench {T : List Dsc} {R : RM} {c e : Nat} {x1 : Int32} {x2 : Int32} {x3 : Int32} {m : M2} {r : M2} (hG : Geo T R c e) (hB : GeoB T R) (hf : F_X0_addBench c x1 x2 x3 m = some r) : Ct 5 yX0_addBench cX0_addBench 10 none T (mk m R) [.ref 38, .int x1, .int x2, .int x3] none (mk r R) := Ct.ofV (r := mk r R) (by decide +kernel) (Nat.le_of_ble_eq_true rfl) (fun X hX hk => w_X0_addBench hX hG hB hf hk)
theorem dX0_follow_0 : decode cX0_follow 0 = .ok (.iload_n 1, 1) := by decide +kernel
theorem dX0_follow_1 : decode cX0_follow 1 = .ok (.istore_n 2, 1) := by decide +kernel
theorem dX0_follow_2 : decode cX0_follow 2 = .ok (.iconst 0, 1) := by decide +kernel
theorem dX0_follow_3 : decode cX0_follow 3 = .ok (.istore_n 3, 1) := by decide +kernel
theorem dX0_follow_4 : decode cX0_follow 4 = .ok (.iload_n 3, 1) := by decide +kernel
theorem dX0_follow_5 : decode cX0_follow 5 = .ok (.sipush 20736, 3) := by decide +kernel
theorem dX0_follow_8 : decode cX0_follow 8 = .ok (.if_icmp .ge 44, 3) := by decide +kernel
theorem dX0_follow_11 : decode cX0_follow 11 = .ok (.aload_n 0, 1) := by decide +kernel
theorem dX0_follow_12 : decode cX0_follow 12 = .ok (.getfield 29, 3) := by decide +kernel
theorem dX0_follow_15 : decode cX0_follow 15 = .ok (.iload_n 2, 1) := by decide +kernel
theorem dX0_follow_16 : decode cX0_follow 16 = .ok (.iaload, 1) := by decide +kernel
theorem dX0_follow_17 : decode cX0_follow 17 = .ok (.iconst (-1), 1) := by decide +kernel
theorem dX0_follow_18 : decode cX0_follow 18 = .ok (.if_icmp .ne 34, 3) := by decide +kernel
theorem dX0_follow_21 : decode cX0_follow 21 = .ok (.aload_n 0, 1) := by decide +kernel
theorem dX0_follow_22 : decode cX0_follow 22 = .ok (.getfield 25, 3) := by decide +kernel
theorem dX0_follow_25 : decode cX0_follow 25 = .ok (.iload_n 2, 1) := by decide +kernel
theorem dX0_follow_26 : decode cX0_follow 26 = .ok (.iaload, 1) := by decide +kernel
theorem dX0_follow_27 : decode cX0_follow 27 = .ok (.iload_n 2, 1) := by decide +kernel
theorem dX0_follow_28 : decode cX0_follow 28 = .ok (.if_icmp .eq 24, 3) := by decide +kernel
theorem dX0_follow_31 : decode cX0_follow 31 = .ok (.aload_n 0, 1) := by decide +kernel
theorem dX0_follow_32 : decode cX0_follow 32 = .ok (.getfield 29, 3) := by decide +kernel
theorem dX0_follow_35 : decode cX0_follow 35 = .ok (.iload_n 2, 1) := by decide +kernel
theorem dX0_follow_36 : decode cX0_follow 36 = .ok (.bipush (-2), 2) := by decide +kernel
theorem dX0_follow_38 : decode cX0_follow 38 = .ok (.iastore, 1) := by decide +kernel
theorem dX0_follow_39 : decode cX0_follow 39 = .ok (.aload_n 0, 1) := by decide +kernel
theorem dX0_follow_40 : decode cX0_follow 40 = .ok (.getfield 25, 3) := by decide +kernel
theorem dX0_follow_43 : decode cX0_follow 43 = .ok (.iload_n 2, 1) := by decide +kernel
theorem dX0_follow_44 : decode cX0_follow 44 = .ok (.iaload, 1) := by decide +kernel
theorem dX0_follow_45 : decode cX0_follow 45 = .ok (.istore_n 2, 1) := by decide +kernel
theorem dX0_follow_46 : decode cX0_follow 46 = .ok (.iinc 3 1, 3) := by decide +kernel
theorem dX0_follow_49 : decode cX0_follow 49 = .ok (.goto (-45), 3) := by decide +kernel
theorem dX0_follow_52 : decode cX0_follow 52 = .ok (.aload_n 0, 1) := by decide +kernel
theorem dX0_follow_53 : decode cX0_follow 53 = .ok (.getfield 29, 3) := by decide +kernel
theorem dX0_follow_56 : decode cX0_follow 56 = .ok (.iload_n 2, 1) := by decide +kernel
theorem dX0_follow_57 : decode cX0_follow 57 = .ok (.iaload, 1) := by decide +kernel
theorem dX0_follow_58 : decode cX0_follow 58 = .ok (.iconst (-1), 1) := by decide +kernel
theorem dX0_follow_59 : decode cX0_follow 59 = .ok (.if_icmp .ne 10, 3) := by decide +kernel
theorem dX0_follow_62 : decode cX0_follow 62 = .ok (.aload_n 0, 1) := by decide +kernel
theorem dX0_follow_63 : decode cX0_follow 63 = .ok (.getfield 29, 3) := by decide +kernel
theorem dX0_follow_66 : decode cX0_follow 66 = .ok (.iload_n 2, 1) := by decide +kernel
theorem dX0_follow_67 : decode cX0_follow 67 = .ok (.iconst 0, 1) := by decide +kernel
theorem dX0_follow_68 : decode cX0_follow 68 = .ok (.iastore, 1) := by decide +kernel
theorem dX0_follow_69 : decode cX0_follow 69 = .ok (.aload_n 0, 1) := by decide +kernel
theorem dX0_follow_70 : decode cX0_follow 70 = .ok (.getfield 29, 3) := by decide +kernel
theorem dX0_follow_73 : decode cX0_follow 73 = .ok (.iload_n 2, 1) := by decide +kernel
theorem dX0_follow_74 : decode cX0_follow 74 = .ok (.iaload, 1) := by decide +kernel
theorem dX0_follow_75 : decode cX0_follow 75 = .ok (.istore 4, 2) := by decide +kernel
theorem dX0_follow_77 : decode cX0_follow 77 = .ok (.iload_n 1, 1) := by decide +kernel
theorem dX0_follow_78 : decode cX0_follow 78 = .ok (.istore_n 2, 1) := by decide +kernel
theorem dX0_follow_79 : decode cX0_follow 79 = .ok (.iconst 0, 1) := by decide +kernel
theorem dX0_follow_80 : decode cX0_follow 80 = .ok (.istore 5, 2) := by decide +kernel
theorem dX0_follow_82 : decode cX0_follow 82 = .ok (.iload 5, 2) := by decide +kernel
theorem dX0_follow_84 : decode cX0_follow 84 = .ok (.iload_n 3, 1) := by decide +kernel
theorem dX0_follow_85 : decode cX0_follow 85 = .ok (.if_icmp .ge 39, 3) := by decide +kernel
theorem dX0_follow_88 : decode cX0_follow 88 = .ok (.aload_n 0, 1) := by decide +kernel
theorem dX0_follow_89 : decode cX0_follow 89 = .ok (.getfield 29, 3) := by decide +kernel
theorem dX0_follow_92 : decode cX0_follow 92 = .ok (.iload_n 2, 1) := by decide +kernel
theorem dX0_follow_93 : decode cX0_follow 93 = .ok (.iload 4, 2) := by decide +kernel
theorem dX0_follow_95 : decode cX0_follow 95 = .ok (.ifCond .lt 13, 3) := by decide +kernel
theorem dX0_follow_98 : decode cX0_follow 98 = .ok (.iload 4, 2) := by decide +kernel
theorem dX0_follow_100 : decode cX0_follow 100 = .ok (.iload_n 3, 1) := by decide +kernel
theorem dX0_follow_101 : decode cX0_follow 101 = .ok (.iadd, 1) := by decide +kernel
theorem dX0_follow_102 : decode cX0_follow 102 = .ok (.iload 5, 2) := by decide +kernel
theorem dX0_follow_104 : decode cX0_follow 104 = .ok (.isub, 1) := by decide +kernel
theorem dX0_follow_105 : decode cX0_follow 105 = .ok (.goto 5, 3) := by decide +kernel
theorem dX0_follow_108 : decode cX0_follow 108 = .ok (.bipush (-3), 2) := by decide +kernel
theorem dX0_follow_110 : decode cX0_follow 110 = .ok (.iastore, 1) := by decide +kernel
theorem dX0_follow_111 : decode cX0_follow 111 = .ok (.aload_n 0, 1) := by decide +kernel
theorem dX0_follow_112 : decode cX0_follow 112 = .ok (.getfield 25, 3) := by decide +kernel
theorem dX0_follow_115 : decode cX0_follow 115 = .ok (.iload_n 2, 1) := by decide +kernel
theorem dX0_follow_116 : decode cX0_follow 116 = .ok (.iaload, 1) := by decide +kernel
theorem dX0_follow_117 : decode cX0_follow 117 = .ok (.istore_n 2, 1) := by decide +kernel
theorem dX0_follow_118 : decode cX0_follow 118 = .ok (.iinc 5 1, 3) := by decide +kernel
theorem dX0_follow_121 : decode cX0_follow 121 = .ok (.goto (-39), 3) := by decide +kernel
theorem dX0_follow_124 : decode cX0_follow 124 = .ok (.return_, 1) := by decide +kernel
def k_X0_follow_4 (X : CX) (T : List Dsc) (R : RM) (n1 n2 : Nat) (x1 : Int32) (r : ((Int32 × Int32 × M2) ⊕ ((Int32 × Int32 × M2)))) : Prop := match r with
  | .inl s => Wp X cX0_follow RX0 6 T (mk s.2.2 R) n1 n2 4 [(0, .ref 38), (1, .int x1), (2, .int s.1), (3, .int s.2.1)] []
  | .inr e => Wp X cX0_follow RX0 6 T (mk e.2.2 R) n1 n2 52 [(0, .ref 38), (1, .int x1), (2, .int e.1), (3, .int e.2.1)] []
def k_X0_follow_82 (X : CX) (T : List Dsc) (R : RM) (n1 n2 : Nat) (x3 : Int32) (x4 : Int32) (r : ((Int32 × Int32 × M2) ⊕ ((M2)))) : Prop := match r with
  | .inl s => Wp X cX0_follow RX0 6 T (mk s.2.2 R) n1 n2 82 [(0, .ref 38), (2, .int s.1), (3, .int x3), (4, .int x4), (5, .int s.2.1)] []
  | .inr e => Wp X cX0_follow RX0 6 T (mk e R) n1 n2 124 [] []
set_option maxHeartbeats 4000000 in
set_option maxRecDepth 100000 in
theorem w_X0_follow_4 {X : CX} {T : List Dsc} {R : RM} {c e : Nat} {n1 n2 : Nat} {x1 : Int32} {x2 : Int32} {x3 : Int32} {m : M2} {r : ((Int32 × Int32 × M2) ⊕ ((Int32 × Int32 × M2)))} (hX : XR X 1 n1 n2) (hG : Geo T R c e) (hB : GeoB T R) (hf : f_X0_follow_4 c x1 x2 x3 m = some r) (hk : k_X0_follow_4 X T R n1 n2 x1 r) : Wp X cX0_follow RX0 6 T (mk m R) n1 n2 4 [(0, .ref 38), (1, .int x1), (2, .int x2), (3, .int x3)] [] := by
  unfold f_X0_follow_4 at hf
  refine Wp.iload_n (pc := 4) 3 rfl rfl dX0_follow_4 ?_
  refine Wp.sipush (pc := 5) (20736 : Int32) (by decide) dX0_follow_5 ?_
  refine Wp.icmp_ge (pc := 8) 52 dX0_follow_8 (by decide) (fun hc1 => ?_) (fun hc1 => ?_)
  · rw [if_pos hc1] at hf
    cases hf
    exact hk
  · rw [if_neg hc1] at hf
    refine Wp.aload_n (pc := 11) 0 rfl rfl dX0_follow_11 ?_
    refine Wp.getR2 (pc := 12) hB.2.1 (hG.t 38 rfl) fk_RX0_29 rfl dX0_follow_12 ?_
    refine Wp.iload_n (pc := 15) 2 rfl rfl dX0_follow_15 ?_
    obtain ⟨v2, h3, hf⟩ := bnd hf
    refine Wp.iald2 (pc := 16) h3 hB.2.2.2 dX0_follow_16 ?_
    refine Wp.iconst (pc := 17) (-1 : Int32) (by decide) dX0_follow_17 ?_
    refine Wp.icmp_ne (pc := 18) 52 dX0_follow_18 (by decide) (fun hc4 => ?_) (fun hc4 => ?_)
    · rw [if_neg hc4] at hf
      cases hf
      exact hk
    · rw [if_pos hc4] at hf
      refine Wp.aload_n (pc := 21) 0 rfl rfl dX0_follow_21 ?_
      refine Wp.getR2 (pc := 22) hB.1 (hG.t 38 rfl) fk_RX0_25 rfl dX0_follow_22 ?_
      refine Wp.iload_n (pc := 25) 2 rfl rfl dX0_follow_25 ?_
      obtain ⟨v5, h6, hf⟩ := bnd hf
      refine Wp.iald2 (pc := 26) h6 hB.2.2.1 dX0_follow_26 ?_
      refine Wp.iload_n (pc := 27) 2 rfl rfl dX0_follow_27 ?_
      refine Wp.icmp_eq (pc := 28) 52 dX0_follow_28 (by decide) (fun hc7 => ?_) (fun hc7 => ?_)
      · rw [if_pos hc7] at hf
        cases hf
        exact hk
      · rw [if_neg hc7] at hf
        refine Wp.aload_n (pc := 31) 0 rfl rfl dX0_follow_31 ?_
        refine Wp.getR2 (pc := 32) hB.2.1 (hG.t 38 rfl) fk_RX0_29 rfl dX0_follow_32 ?_
        refine Wp.iload_n (pc := 35) 2 rfl rfl dX0_follow_35 ?_
        refine Wp.bipush (pc := 36) (-2 : Int32) (by decide) dX0_follow_36 ?_
        obtain ⟨m8, h9, hf⟩ := bnd hf
        refine Wp.iast2 (pc := 38) h9 hB.2.2.2 dX0_follow_38 ?_
        refine Wp.aload_n (pc := 39) 0 rfl rfl dX0_follow_39 ?_
        refine Wp.getR2 (pc := 40) hB.1 (hG.t 38 rfl) fk_RX0_25 rfl dX0_follow_40 ?_
        refine Wp.iload_n (pc := 43) 2 rfl rfl dX0_follow_43 ?_
        obtain ⟨v10, h11, hf⟩ := bnd hf
        refine Wp.iald2 (pc := 44) h11 hB.2.2.1 dX0_follow_44 ?_
        refine Wp.istore_n (pc := 45) (lo' := [(0, .ref 38), (1, .int x1), (2, .int v10), (3, .int x3)]) [1, 2, 0, 3] rfl (by decide) rfl dX0_follow_45 ?_
        obtain ⟨v12, h13, hf⟩ := bnd hf
        refine Wp.iincN (pc := 46) (lo' := [(0, .ref 38), (1, .int x1), (2, .int v10), (3, .int v12)]) (1 : Int32) (by decide) h13 3 rfl [1, 2, 3, 0] rfl (by decide) dX0_follow_46 ?_
        refine Wp.goto (pc := 49) 4 dX0_follow_49 (by decide) ?_
        cases hf
        exact hk
theorem wl_X0_follow_4 {X : CX} {T : List Dsc} {R : RM} {c e : Nat} {n1 n2 : Nat} {x1 : Int32} {x2 : Int32} {x3 : Int32} {m : M2} {e1 : ((Int32 × Int32 × M2))} (hX : XR X 1 n1 n2) (hG : Geo T R c e) (hB : GeoB T R) (h : loop (g_X0_follow_4 c x1) (x2, x3, m) = some e1) (he : Wp X cX0_follow RX0 6 T (mk e1.2.2 R) n1 n2 52 [(0, .ref 38), (1, .int x1), (2, .int e1.1), (3, .int e1.2.1)] []) : Wp X cX0_follow RX0 6 T (mk m R) n1 n2 4 [(0, .ref 38), (1, .int x1), (2, .int x2), (3, .int x3)] [] :=
  loop_ok (K := k_X0_follow_4 X T R n1 n2 x1) (fun s r hf hk => w_X0_follow_4 hX hG hB hf hk) h he
set_option maxHeartbeats 4000000 in
set_option maxRecDepth 100000 in
theorem w_X0_follow_110 {X : CX} {T : List Dsc} {R : RM} {c e : Nat} {n1 n2 : Nat} {x2 : Int32} {x3 : Int32} {x4 : Int32} {x5 : Int32} {s1 : Int32} {s2 : Int32} {m : M2} {r : ((Int32 × Int32 × M2) ⊕ ((M2)))} (hX : XR X 1 n1 n2) (hG : Geo T R c e) (hB : GeoB T R) (hf : f_X0_follow_110 c x2 x3 x4 x5 s1 s2 m = some r) (hk : k_X0_follow_82 X T R n1 n2 x3 x4 r) : Wp X cX0_follow RX0 6 T (mk m R) n1 n2 110 [(0, .ref 38), (2, .int x2), (3, .int x3), (4, .int x4), (5, .int x5)] [.int s2, .int s1, .ref 121] := by
  unfold f_X0_follow_110 at hf
  obtain ⟨m1, h2, hf⟩ := bnd hf
  refine Wp.iast2 (pc := 110) h2 hB.2.2.2 dX0_follow_110 ?_
  refine Wp.aload_n (pc := 111) 0 rfl rfl dX0_follow_111 ?_
  refine Wp.getR2 (pc := 112) hB.1 (hG.t 38 rfl) fk_RX0_25 rfl dX0_follow_112 ?_
  refine Wp.iload_n (pc := 115) 1 rfl rfl dX0_follow_115 ?_
  obtain ⟨v3, h4, hf⟩ := bnd hf
  refine Wp.iald2 (pc := 116) h4 hB.2.2.1 dX0_follow_116 ?_
  refine Wp.istore_n (pc := 117) (lo' := [(0, .ref 38), (2, .int v3), (3, .int x3), (4, .int x4), (5, .int x5)]) [1, 0, 2, 3, 4] rfl (by decide) rfl dX0_follow_117 ?_
  obtain ⟨v5, h6, hf⟩ := bnd hf
  refine Wp.iincN (pc := 118) (lo' := [(0, .ref 38), (2, .int v3), (3, .int x3), (4, .int x4), (5, .int v5)]) (1 : Int32) (by decide) h6 4 rfl [1, 2, 3, 4, 0] rfl (by decide) dX0_follow_118 ?_
  refine Wp.goto (pc := 121) 82 dX0_follow_121 (by decide) ?_
  cases hf
  exact hk
set_option maxHeartbeats 4000000 in
set_option maxRecDepth 100000 in
theorem w_X0_follow_82 {X : CX} {T : List Dsc} {R : RM} {c e : Nat} {n1 n2 : Nat} {x2 : Int32} {x3 : Int32} {x4 : Int32} {x5 : Int32} {m : M2} {r : ((Int32 × Int32 × M2) ⊕ ((M2)))} (hX : XR X 1 n1 n2) (hG : Geo T R c e) (hB : GeoB T R) (hf : f_X0_follow_82 c x2 x3 x4 x5 m = some r) (hk : k_X0_follow_82 X T R n1 n2 x3 x4 r) : Wp X cX0_follow RX0 6 T (mk m R) n1 n2 82 [(0, .ref 38), (2, .int x2), (3, .int x3), (4, .int x4), (5, .int x5)] [] := by
  unfold f_X0_follow_82 at hf
  refine Wp.iload (pc := 82) 4 rfl dX0_follow_82 ?_
  refine Wp.iload_n (pc := 84) 2 rfl rfl dX0_follow_84 ?_
  refine Wp.icmp_ge (pc := 85) 124 dX0_follow_85 (by decide) (fun hc1 => ?_) (fun hc1 => ?_)
  · rw [if_pos hc1] at hf
    refine Wp.lo' (lo' := []) [] rfl ?_
    cases hf
    exact hk
  · rw [if_neg hc1] at hf
    refine Wp.aload_n (pc := 88) 0 rfl rfl dX0_follow_88 ?_
    refine Wp.getR2 (pc := 89) hB.2.1 (hG.t 38 rfl) fk_RX0_29 rfl dX0_follow_89 ?_
    refine Wp.iload_n (pc := 92) 1 rfl rfl dX0_follow_92 ?_
    refine Wp.iload (pc := 93) 3 rfl dX0_follow_93 ?_
    refine Wp.if_lt (pc := 95) 108 dX0_follow_95 (by decide) (fun hc2 => ?_) (fun hc2 => ?_)
    · rw [if_pos hc2] at hf
      refine Wp.bipush (pc := 108) (-3 : Int32) (by decide) dX0_follow_108 ?_
      exact w_X0_follow_110 hX hG hB hf hk
    · rw [if_neg hc2] at hf
      refine Wp.iload (pc := 98) 3 rfl dX0_follow_98 ?_
      refine Wp.iload_n (pc := 100) 2 rfl rfl dX0_follow_100 ?_
      refine Wp.iadd (pc := 101) dX0_follow_101 ?_
      refine Wp.iload (pc := 102) 4 rfl dX0_follow_102 ?_
      refine Wp.isub (pc := 104) dX0_follow_104 ?_
      refine Wp.goto (pc := 105) 110 dX0_follow_105 (by decide) ?_
      exact w_X0_follow_110 hX hG hB hf hk
theorem wl_X0_follow_82 {X : CX} {T : List Dsc} {R : RM} {c e : Nat} {n1 n2 : Nat} {x2 : Int32} {x3 : Int32} {x4 : Int32} {x5 : Int32} {m : M2} {e1 : ((M2))} (hX : XR X 1 n1 n2) (hG : Geo T R c e) (hB : GeoB T R) (h : loop (g_X0_follow_82 c x3 x4) (x2, x5, m) = some e1) (he : Wp X cX0_follow RX0 6 T (mk e1 R) n1 n2 124 [] []) : Wp X cX0_follow RX0 6 T (mk m R) n1 n2 82 [(0, .ref 38), (2, .int x2), (3, .int x3), (4, .int x4), (5, .int x5)] [] :=
  loop_ok (K := k_X0_follow_82 X T R n1 n2 x3 x4) (fun s r hf hk => w_X0_follow_82 hX hG hB hf hk) h he
set_option maxHeartbeats 4000000 in
set_option maxRecDepth 100000 in
theorem w_X0_follow_69 {X : CX} {T : List Dsc} {R : RM} {c e : Nat} {n1 n2 : Nat} {x1 : Int32} {x2 : Int32} {x3 : Int32} {m : M2} {r : M2} (hX : XR X 1 n1 n2) (hG : Geo T R c e) (hB : GeoB T R) (hf : f_X0_follow_69 c x1 x2 x3 m = some r) (hk : FnV X cX0_follow RX0 6 T n1 n2 (mk r R)) : Wp X cX0_follow RX0 6 T (mk m R) n1 n2 69 [(0, .ref 38), (1, .int x1), (2, .int x2), (3, .int x3)] [] := by
  unfold f_X0_follow_69 at hf
  refine Wp.aload_n (pc := 69) 0 rfl rfl dX0_follow_69 ?_
  refine Wp.getR2 (pc := 70) hB.2.1 (hG.t 38 rfl) fk_RX0_29 rfl dX0_follow_70 ?_
  refine Wp.iload_n (pc := 73) 2 rfl rfl dX0_follow_73 ?_
  obtain ⟨v1, h2, hf⟩ := bnd hf
  refine Wp.iald2 (pc := 74) h2 hB.2.2.2 dX0_follow_74 ?_
  refine Wp.istore (pc := 75) (lo' := [(0, .ref 38), (1, .int x1), (3, .int x3), (4, .int v1)]) [1, 2, 4, 0] rfl (by decide) dX0_follow_75 ?_
  refine Wp.iload_n (pc := 77) 1 rfl rfl dX0_follow_77 ?_
  refine Wp.istore_n (pc := 78) (lo' := [(0, .ref 38), (2, .int x1), (3, .int x3), (4, .int v1)]) [1, 0, 3, 4] rfl (by decide) rfl dX0_follow_78 ?_
  refine Wp.iconst (pc := 79) (0 : Int32) (by decide) dX0_follow_79 ?_
  refine Wp.istore (pc := 80) (lo' := [(0, .ref 38), (2, .int x1), (3, .int x3), (4, .int v1), (5, .int (0 : Int32))]) [1, 2, 3, 4, 0] rfl (by decide) dX0_follow_80 ?_
  obtain ⟨e3, h4, hf⟩ := bnd hf
  refine wl_X0_follow_82 hX hG hB h4 ?_
  cases hf
  exact hk _ _ dX0_follow_124
set_option maxHeartbeats 4000000 in
set_option maxRecDepth 100000 in
theorem w_X0_follow_52 {X : CX} {T : List Dsc} {R : RM} {c e : Nat} {n1 n2 : Nat} {x1 : Int32} {x2 : Int32} {x3 : Int32} {m : M2} {r : M2} (hX : XR X 1 n1 n2) (hG : Geo T R c e) (hB : GeoB T R) (hf : f_X0_follow_52 c x1 x2 x3 m = some r) (hk : FnV X cX0_follow RX0 6 T n1 n2 (mk r R)) : Wp X cX0_follow RX0 6 T (mk m R) n1 n2 52 [(0, .ref 38), (1, .int x1), (2, .int x2), (3, .int x3)] [] := by
  unfold f_X0_follow_52 at hf
  refine Wp.aload_n (pc := 52) 0 rfl rfl dX0_follow_52 ?_
  refine Wp.getR2 (pc := 53) hB.2.1 (hG.t 38 rfl) fk_RX0_29 rfl dX0_follow_53 ?_
  refine Wp.iload_n (pc := 56) 2 rfl rfl dX0_follow_56 ?_
  obtain ⟨v1, h2, hf⟩ := bnd hf
  refine Wp.iald2 (pc := 57) h2 hB.2.2.2 dX0_follow_57 ?_
  refine Wp.iconst (pc := 58) (-1 : Int32) (by decide) dX0_follow_58 ?_
  refine Wp.icmp_ne (pc := 59) 69 dX0_follow_59 (by decide) (fun hc3 => ?_) (fun hc3 => ?_)
  · rw [if_neg hc3] at hf
    exact w_X0_follow_69 hX hG hB hf hk
  · rw [if_pos hc3] at hf
    refine Wp.aload_n (pc := 62) 0 rfl rfl dX0_follow_62 ?_
    refine Wp.getR2 (pc := 63) hB.2.1 (hG.t 38 rfl) fk_RX0_29 rfl dX0_follow_63 ?_
    refine Wp.iload_n (pc := 66) 2 rfl rfl dX0_follow_66 ?_
    refine Wp.iconst (pc := 67) (0 : Int32) (by decide) dX0_follow_67 ?_
    obtain ⟨m4, h5, hf⟩ := bnd hf
    refine Wp.iast2 (pc := 68) h5 hB.2.2.2 dX0_follow_68 ?_
    exact w_X0_follow_69 hX hG hB hf hk
set_option maxHeartbeats 4000000 in
set_option maxRecDepth 100000 in
theorem w_X0_follow {X : CX} {T : List Dsc} {R : RM} {c e : Nat} {n1 n2 : Nat} {x1 : Int32} {m : M2} {r : M2} (hX : XR X 1 n1 n2) (hG : Geo T R c e) (hB : GeoB T R) (hf : F_X0_follow c x1 m = some r) (hk : FnV X cX0_follow RX0 6 T n1 n2 (mk r R)) : Wp X cX0_follow RX0 6 T (mk m R) n1 n2 0 [(0, .ref 38), (1, .int x1)] [] := by
  unfold F_X0_follow at hf
  refine Wp.iload_n (pc := 0) 1 rfl rfl dX0_follow_0 ?_
  refine Wp.istore_n (pc := 1) (lo' := [(0, .ref 38), (1, .int x1), (2, .int x1)]) [1, 2, 0] rfl (by decide) rfl dX0_follow_1 ?_
  refine Wp.iconst (pc := 2) (0 : Int32) (by decide) dX0_follow_2 ?_
  refine Wp.istore_n (pc := 3) (lo' := [(0, .ref 38), (1, .int x1), (2, .int x1), (3, .int (0 : Int32))]) [1, 2, 3, 0] rfl (by decide) rfl dX0_follow_3 ?_
  obtain ⟨e1, h2, hf⟩ := bnd hf
  refine wl_X0_follow_4 hX hG hB h2 ?_
  exact w_X0_follow_52 hX hG hB hf hk
theorem c_X0_follow {T : List Dsc} {R : RM} {c e : Nat} {x1 : Int32} {m : M2} {r : M2} (hG : Geo T R c e) (hB : GeoB T R) (hf : F_X0_follow c x1 m = some r) : Ct 1 yX0_follow cX0_follow 6 none T (mk m R) [.ref 38, .int x1] none (mk r R) := Ct.ofV (r := mk r R) (by decide +kernel) (Nat.le_of_ble_eq_true rfl) (fun X hX hk => w_X0_follow hX hG hB hf hk)
theorem dX1_begin_0 : decode cX1_begin 0 = .ok (.aload_n 0, 1) := by decide +kernel
theorem dX1_begin_1 : decode cX1_begin 1 = .ok (.aload_n 1, 1) := by decide +kernel
theorem dX1_begin_2 : decode cX1_begin 2 = .ok (.getfield 22, 3) := by decide +kernel
theorem dX1_begin_5 : decode cX1_begin 5 = .ok (.putfield 28, 3) := by decide +kernel
theorem dX1_begin_8 : decode cX1_begin 8 = .ok (.aload_n 0, 1) := by decide +kernel
theorem dX1_begin_9 : decode cX1_begin 9 = .ok (.aload_n 1, 1) := by decide +kernel
theorem dX1_begin_10 : decode cX1_begin 10 = .ok (.getfield 31, 3) := by decide +kernel
theorem dX1_begin_13 : decode cX1_begin 13 = .ok (.putfield 18, 3) := by decide +kernel
theorem dX1_begin_16 : decode cX1_begin 16 = .ok (.aload_n 0, 1) := by decide +kernel
theorem dX1_begin_17 : decode cX1_begin 17 = .ok (.iconst 0, 1) := by decide +kernel
theorem dX1_begin_18 : decode cX1_begin 18 = .ok (.putfield 32, 3) := by decide +kernel
theorem dX1_begin_21 : decode cX1_begin 21 = .ok (.iconst 0, 1) := by decide +kernel
theorem dX1_begin_22 : decode cX1_begin 22 = .ok (.istore_n 2, 1) := by decide +kernel
theorem dX1_begin_23 : decode cX1_begin 23 = .ok (.iload_n 2, 1) := by decide +kernel
theorem dX1_begin_24 : decode cX1_begin 24 = .ok (.aload_n 1, 1) := by decide +kernel
theorem dX1_begin_25 : decode cX1_begin 25 = .ok (.getfield 35, 3) := by decide +kernel
theorem dX1_begin_28 : decode cX1_begin 28 = .ok (.if_icmp .ge 28, 3) := by decide +kernel
theorem dX1_begin_31 : decode cX1_begin 31 = .ok (.aload_n 0, 1) := by decide +kernel
theorem dX1_begin_32 : decode cX1_begin 32 = .ok (.getfield 9, 3) := by decide +kernel
theorem dX1_begin_35 : decode cX1_begin 35 = .ok (.iload_n 2, 1) := by decide +kernel
theorem dX1_begin_36 : decode cX1_begin 36 = .ok (.iload_n 2, 1) := by decide +kernel
theorem dX1_begin_37 : decode cX1_begin 37 = .ok (.iastore, 1) := by decide +kernel
theorem dX1_begin_38 : decode cX1_begin 38 = .ok (.aload_n 0, 1) := by decide +kernel
theorem dX1_begin_39 : decode cX1_begin 39 = .ok (.getfield 15, 3) := by decide +kernel
theorem dX1_begin_42 : decode cX1_begin 42 = .ok (.iload_n 2, 1) := by decide +kernel
theorem dX1_begin_43 : decode cX1_begin 43 = .ok (.aload_n 1, 1) := by decide +kernel
theorem dX1_begin_44 : decode cX1_begin 44 = .ok (.getfield 37, 3) := by decide +kernel
theorem dX1_begin_47 : decode cX1_begin 47 = .ok (.iload_n 2, 1) := by decide +kernel
theorem dX1_begin_48 : decode cX1_begin 48 = .ok (.iaload, 1) := by decide +kernel
theorem dX1_begin_49 : decode cX1_begin 49 = .ok (.iastore, 1) := by decide +kernel
theorem dX1_begin_50 : decode cX1_begin 50 = .ok (.iinc 2 1, 3) := by decide +kernel
theorem dX1_begin_53 : decode cX1_begin 53 = .ok (.goto (-30), 3) := by decide +kernel
theorem dX1_begin_56 : decode cX1_begin 56 = .ok (.return_, 1) := by decide +kernel
def k_X1_begin_23 (X : CX) (T : List Dsc) (R : RM) (n1 n2 : Nat) (x0 : Nat) (x1 : Nat) (r : ((Int32 × M2) ⊕ ((M2)))) : Prop := match r with
  | .inl s => Wp X cX1_begin RX1 3 T (mk s.2 R) n1 n2 23 [(0, .ref x0), (1, .ref x1), (2, .int s.1)] []
  | .inr e => Wp X cX1_begin RX1 3 T (mk e R) n1 n2 56 [] []
set_option maxHeartbeats 4000000 in
set_option maxRecDepth 100000 in
theorem w_X1_begin_23 {X : CX} {T : List Dsc} {R : RM} {c e : Nat} {n1 n2 : Nat} {x0 : Nat} {x1 : Nat} {x2 : Int32} {m : M2} {r : ((Int32 × M2) ⊕ ((M2)))} (hX : XR X 1 n1 n2) (hG : Geo T R c e) (hx0 : cw x0) (hx1 : tx x1) (hf : f_X1_begin_23 x0 x1 x2 m = some r) (hk : k_X1_begin_23 X T R n1 n2 x0 x1 r) : Wp X cX1_begin RX1 3 T (mk m R) n1 n2 23 [(0, .ref x0), (1, .ref x1), (2, .int x2)] [] := by
  unfold f_X1_begin_23 at hf
  refine Wp.iload_n (pc := 23) 2 rfl rfl dX1_begin_23 ?_
  refine Wp.aload_n (pc := 24) 1 rfl rfl dX1_begin_24 ?_
  refine Wp.getI2 (pc := 25) (hG.tt hx1) fk_RX1_35 rfl dX1_begin_25 ?_
  refine Wp.icmp_ge (pc := 28) 56 dX1_begin_28 (by decide) (fun hc1 => ?_) (fun hc1 => ?_)
  · rw [if_pos hc1] at hf
    refine Wp.lo' (lo' := []) [] rfl ?_
    cases hf
    exact hk
  · rw [if_neg hc1] at hf
    refine Wp.aload_n (pc := 31) 0 rfl rfl dX1_begin_31 ?_
    refine Wp.getR2 (pc := 32) (hG.wr hx0 1 (Or.inl rfl)) (hG.wt hx0) fk_RX1_9 rfl dX1_begin_32 ?_
    refine Wp.iload_n (pc := 35) 2 rfl rfl dX1_begin_35 ?_
    refine Wp.iload_n (pc := 36) 2 rfl rfl dX1_begin_36 ?_
    obtain ⟨m2, h3, hf⟩ := bnd hf
    refine Wp.iast2 (pc := 37) h3 (hG.wa hx0 1 (Or.inl rfl)) dX1_begin_37 ?_
    refine Wp.aload_n (pc := 38) 0 rfl rfl dX1_begin_38 ?_
    refine Wp.getR2 (pc := 39) (hG.wr hx0 2 (Or.inr rfl)) (hG.wt hx0) fk_RX1_15 rfl dX1_begin_39 ?_
    refine Wp.iload_n (pc := 42) 2 rfl rfl dX1_begin_42 ?_
    refine Wp.aload_n (pc := 43) 1 rfl rfl dX1_begin_43 ?_
    refine Wp.getR2 (pc := 44) (hG.tr hx1 6 3 rfl rfl) (hG.tt hx1) fk_RX1_37 rfl dX1_begin_44 ?_
    refine Wp.iload_n (pc := 47) 2 rfl rfl dX1_begin_47 ?_
    obtain ⟨v4, h5, hf⟩ := bnd hf
    refine Wp.iald2 (pc := 48) h5 (hG.ta hx1 3 12 rfl rfl) dX1_begin_48 ?_
    obtain ⟨m6, h7, hf⟩ := bnd hf
    refine Wp.iast2 (pc := 49) h7 (hG.wa hx0 2 (Or.inr rfl)) dX1_begin_49 ?_
    obtain ⟨v8, h9, hf⟩ := bnd hf
    refine Wp.iincN (pc := 50) (lo' := [(0, .ref x0), (1, .ref x1), (2, .int v8)]) (1 : Int32) (by decide) h9 2 rfl [1, 2, 0] rfl (by decide) dX1_begin_50 ?_
    refine Wp.goto (pc := 53) 23 dX1_begin_53 (by decide) ?_
    cases hf
    exact hk
theorem wl_X1_begin_23 {X : CX} {T : List Dsc} {R : RM} {c e : Nat} {n1 n2 : Nat} {x0 : Nat} {x1 : Nat} {x2 : Int32} {m : M2} {e1 : ((M2))} (hX : XR X 1 n1 n2) (hG : Geo T R c e) (hx0 : cw x0) (hx1 : tx x1) (h : loop (g_X1_begin_23 x0 x1) (x2, m) = some e1) (he : Wp X cX1_begin RX1 3 T (mk e1 R) n1 n2 56 [] []) : Wp X cX1_begin RX1 3 T (mk m R) n1 n2 23 [(0, .ref x0), (1, .ref x1), (2, .int x2)] [] :=
  loop_ok (K := k_X1_begin_23 X T R n1 n2 x0 x1) (fun s r hf hk => w_X1_begin_23 hX hG hx0 hx1 hf hk) h he
set_option maxHeartbeats 4000000 in
set_option maxRecDepth 100000 in
theorem w_X1_begin {X : CX} {T : List Dsc} {R : RM} {c e : Nat} {n1 n2 : Nat} {x0 : Nat} {x1 : Nat} {m : M2} {r : M2} (hX : XR X 1 n1 n2) (hG : Geo T R c e) (hx0 : cw x0) (hx1 : tx x1) (hf : F_X1_begin x0 x1 m = some r) (hk : FnV X cX1_begin RX1 3 T n1 n2 (mk r R)) : Wp X cX1_begin RX1 3 T (mk m R) n1 n2 0 [(0, .ref x0), (1, .ref x1)] [] := by
  unfold F_X1_begin at hf
  refine Wp.aload_n (pc := 0) 0 rfl rfl dX1_begin_0 ?_
  refine Wp.aload_n (pc := 1) 1 rfl rfl dX1_begin_1 ?_
  refine Wp.getJ2 (pc := 2) (hG.tt hx1) fk_RX1_22 rfl dX1_begin_2 ?_
  obtain ⟨m1, h2, hf⟩ := bnd hf
  refine Wp.ptJ2 (pc := 5) h2 (hG.wt hx0) fk_RX1_28 ff_RX1_1_0 rfl dX1_begin_5 ?_
  refine Wp.aload_n (pc := 8) 0 rfl rfl dX1_begin_8 ?_
  refine Wp.aload_n (pc := 9) 1 rfl rfl dX1_begin_9 ?_
  refine Wp.getI2 (pc := 10) (hG.tt hx1) fk_RX1_31 rfl dX1_begin_10 ?_
  obtain ⟨m3, h4, hf⟩ := bnd hf
  refine Wp.ptI2 (pc := 13) h4 (hG.wt hx0) fk_RX1_18 ff_RX1_1_3 rfl dX1_begin_13 ?_
  refine Wp.aload_n (pc := 16) 0 rfl rfl dX1_begin_16 ?_
  refine Wp.iconst (pc := 17) (0 : Int32) (by decide) dX1_begin_17 ?_
  obtain ⟨m5, h6, hf⟩ := bnd hf
  refine Wp.ptI2 (pc := 18) h6 (hG.wt hx0) fk_RX1_32 ff_RX1_1_4 rfl dX1_begin_18 ?_
  refine Wp.iconst (pc := 21) (0 : Int32) (by decide) dX1_begin_21 ?_
  refine Wp.istore_n (pc := 22) (lo' := [(0, .ref x0), (1, .ref x1), (2, .int (0 : Int32))]) [1, 2, 0] rfl (by decide) rfl dX1_begin_22 ?_
  obtain ⟨e7, h8, hf⟩ := bnd hf
  refine wl_X1_begin_23 hX hG hx0 hx1 h8 ?_
  cases hf
  exact hk _ _ dX1_begin_56
theorem c_X1_begin {T : List Dsc} {R : RM} {c e : Nat} {x0 : Nat} {x1 : Nat} {m : M2} {r : M2} (hG : Geo T R c e) (hx0 : cw x0) (hx1 : tx x1) (hf : F_X1_begin x0 x1 m = some r) : Ct 1 yX1_begin cX1_begin 3 none T (mk m R) [.ref x0, .ref x1] none (mk r R) := Ct.ofV (r := mk r R) (by decide +kernel) (Nat.le_of_ble_eq_true rfl) (fun X hX hk => w_X1_begin hX hG hx0 hx1 hf hk)
theorem dX1_take_0 : decode cX1_take 0 = .ok (.aload_n 0, 1) := by decide +kernel
theorem dX1_take_1 : decode cX1_take 1 = .ok (.aload_n 1, 1) := by decide +kernel
theorem dX1_take_2 : decode cX1_take 2 = .ok (.getfield 28, 3) := by decide +kernel
theorem dX1_take_5 : decode cX1_take 5 = .ok (.putfield 28, 3) := by decide +kernel
theorem dX1_take_8 : decode cX1_take 8 = .ok (.aload_n 0, 1) := by decide +kernel
theorem dX1_take_9 : decode cX1_take 9 = .ok (.aload_n 1, 1) := by decide +kernel
theorem dX1_take_10 : decode cX1_take 10 = .ok (.getfield 18, 3) := by decide +kernel
theorem dX1_take_13 : decode cX1_take 13 = .ok (.putfield 18, 3) := by decide +kernel
theorem dX1_take_16 : decode cX1_take 16 = .ok (.aload_n 0, 1) := by decide +kernel
theorem dX1_take_17 : decode cX1_take 17 = .ok (.aload_n 1, 1) := by decide +kernel
theorem dX1_take_18 : decode cX1_take 18 = .ok (.getfield 32, 3) := by decide +kernel
theorem dX1_take_21 : decode cX1_take 21 = .ok (.putfield 32, 3) := by decide +kernel
theorem dX1_take_24 : decode cX1_take 24 = .ok (.aload_n 1, 1) := by decide +kernel
theorem dX1_take_25 : decode cX1_take 25 = .ok (.getfield 9, 3) := by decide +kernel
theorem dX1_take_28 : decode cX1_take 28 = .ok (.iconst 0, 1) := by decide +kernel
theorem dX1_take_29 : decode cX1_take 29 = .ok (.aload_n 0, 1) := by decide +kernel
theorem dX1_take_30 : decode cX1_take 30 = .ok (.getfield 9, 3) := by decide +kernel
theorem dX1_take_33 : decode cX1_take 33 = .ok (.iconst 0, 1) := by decide +kernel
theorem dX1_take_34 : decode cX1_take 34 = .ok (.bipush 12, 2) := by decide +kernel
theorem dX1_take_36 : decode cX1_take 36 = .ok (.invokestatic 40, 3) := by decide +kernel
theorem dX1_take_39 : decode cX1_take 39 = .ok (.aload_n 1, 1) := by decide +kernel
theorem dX1_take_40 : decode cX1_take 40 = .ok (.getfield 15, 3) := by decide +kernel
theorem dX1_take_43 : decode cX1_take 43 = .ok (.iconst 0, 1) := by decide +kernel
theorem dX1_take_44 : decode cX1_take 44 = .ok (.aload_n 0, 1) := by decide +kernel
theorem dX1_take_45 : decode cX1_take 45 = .ok (.getfield 15, 3) := by decide +kernel
theorem dX1_take_48 : decode cX1_take 48 = .ok (.iconst 0, 1) := by decide +kernel
theorem dX1_take_49 : decode cX1_take 49 = .ok (.bipush 12, 2) := by decide +kernel
theorem dX1_take_51 : decode cX1_take 51 = .ok (.invokestatic 40, 3) := by decide +kernel
theorem dX1_take_54 : decode cX1_take 54 = .ok (.return_, 1) := by decide +kernel
set_option maxHeartbeats 4000000 in
set_option maxRecDepth 100000 in
theorem w_X1_take {X : CX} {T : List Dsc} {R : RM} {c e : Nat} {n1 n2 : Nat} {x0 : Nat} {x1 : Nat} {m : M2} {r : M2} (hX : XR X 1 n1 n2) (hG : Geo T R c e) (hx0 : cw x0) (hx1 : cw x1) (hf : F_X1_take x0 x1 m = some r) (hk : FnV X cX1_take RX1 2 T n1 n2 (mk r R)) : Wp X cX1_take RX1 2 T (mk m R) n1 n2 0 [(0, .ref x0), (1, .ref x1)] [] := by
  unfold F_X1_take at hf
  refine Wp.aload_n (pc := 0) 0 rfl rfl dX1_take_0 ?_
  refine Wp.aload_n (pc := 1) 1 rfl rfl dX1_take_1 ?_
  refine Wp.getJ2 (pc := 2) (hG.wt hx1) fk_RX1_28 rfl dX1_take_2 ?_
  obtain ⟨m1, h2, hf⟩ := bnd hf
  refine Wp.ptJ2 (pc := 5) h2 (hG.wt hx0) fk_RX1_28 ff_RX1_1_0 rfl dX1_take_5 ?_
  refine Wp.aload_n (pc := 8) 0 rfl rfl dX1_take_8 ?_
  refine Wp.aload_n (pc := 9) 1 rfl rfl dX1_take_9 ?_
  refine Wp.getI2 (pc := 10) (hG.wt hx1) fk_RX1_18 rfl dX1_take_10 ?_
  obtain ⟨m3, h4, hf⟩ := bnd hf
  refine Wp.ptI2 (pc := 13) h4 (hG.wt hx0) fk_RX1_18 ff_RX1_1_3 rfl dX1_take_13 ?_
  refine Wp.aload_n (pc := 16) 0 rfl rfl dX1_take_16 ?_
  refine Wp.aload_n (pc := 17) 1 rfl rfl dX1_take_17 ?_
  refine Wp.getI2 (pc := 18) (hG.wt hx1) fk_RX1_32 rfl dX1_take_18 ?_
  obtain ⟨m5, h6, hf⟩ := bnd hf
  refine Wp.ptI2 (pc := 21) h6 (hG.wt hx0) fk_RX1_32 ff_RX1_1_4 rfl dX1_take_21 ?_
  refine Wp.aload_n (pc := 24) 1 rfl rfl dX1_take_24 ?_
  refine Wp.getR2 (pc := 25) (hG.wr hx1 1 (Or.inl rfl)) (hG.wt hx1) fk_RX1_9 rfl dX1_take_25 ?_
  refine Wp.iconst (pc := 28) (0 : Int32) (by decide) dX1_take_28 ?_
  refine Wp.aload_n (pc := 29) 0 rfl rfl dX1_take_29 ?_
  refine Wp.getR2 (pc := 30) (hG.wr hx0 1 (Or.inl rfl)) (hG.wt hx0) fk_RX1_9 rfl dX1_take_30 ?_
  refine Wp.iconst (pc := 33) (0 : Int32) (by decide) dX1_take_33 ?_
  refine Wp.bipush (pc := 34) (12 : Int32) (by decide) dX1_take_34 ?_
  obtain ⟨m7, h8, hf⟩ := bnd hf
  refine Wp.acopy2 (pc := 36) h8 (hG.wa hx1 1 (Or.inl rfl)) (hG.wa hx0 1 (Or.inl rfl)) ac_RX1_40 ac_nat ac_stat ac_ini hX (Nat.le_of_ble_eq_true rfl) (by simp) dX1_take_36 ?_
  refine Wp.aload_n (pc := 39) 1 rfl rfl dX1_take_39 ?_
  refine Wp.getR2 (pc := 40) (hG.wr hx1 2 (Or.inr rfl)) (hG.wt hx1) fk_RX1_15 rfl dX1_take_40 ?_
  refine Wp.iconst (pc := 43) (0 : Int32) (by decide) dX1_take_43 ?_
  refine Wp.aload_n (pc := 44) 0 rfl rfl dX1_take_44 ?_
  refine Wp.getR2 (pc := 45) (hG.wr hx0 2 (Or.inr rfl)) (hG.wt hx0) fk_RX1_15 rfl dX1_take_45 ?_
  refine Wp.iconst (pc := 48) (0 : Int32) (by decide) dX1_take_48 ?_
  refine Wp.bipush (pc := 49) (12 : Int32) (by decide) dX1_take_49 ?_
  obtain ⟨m9, h10, hf⟩ := bnd hf
  refine Wp.acopy2 (pc := 51) h10 (hG.wa hx1 2 (Or.inr rfl)) (hG.wa hx0 2 (Or.inr rfl)) ac_RX1_40 ac_nat ac_stat ac_ini hX (Nat.le_of_ble_eq_true rfl) (by simp) dX1_take_51 ?_
  cases hf
  exact hk _ _ dX1_take_54
theorem c_X1_take {T : List Dsc} {R : RM} {c e : Nat} {x0 : Nat} {x1 : Nat} {m : M2} {r : M2} (hG : Geo T R c e) (hx0 : cw x0) (hx1 : cw x1) (hf : F_X1_take x0 x1 m = some r) : Ct 1 yX1_take cX1_take 2 none T (mk m R) [.ref x0, .ref x1] none (mk r R) := Ct.ofV (r := mk r R) (by decide +kernel) (Nat.le_of_ble_eq_true rfl) (fun X hX hk => w_X1_take hX hG hx0 hx1 hf hk)
theorem dX11_timeAt_0 : decode cX11_timeAt 0 = .ok (.lload_n 0, 1) := by decide +kernel
theorem dX11_timeAt_1 : decode cX11_timeAt 1 = .ok (.iconst 5, 1) := by decide +kernel
theorem dX11_timeAt_2 : decode cX11_timeAt 2 = .ok (.iload_n 2, 1) := by decide +kernel
theorem dX11_timeAt_3 : decode cX11_timeAt 3 = .ok (.imul, 1) := by decide +kernel
theorem dX11_timeAt_4 : decode cX11_timeAt 4 = .ok (.lushr, 1) := by decide +kernel
theorem dX11_timeAt_5 : decode cX11_timeAt 5 = .ok (.l2i, 1) := by decide +kernel
theorem dX11_timeAt_6 : decode cX11_timeAt 6 = .ok (.bipush 31, 2) := by decide +kernel
theorem dX11_timeAt_8 : decode cX11_timeAt 8 = .ok (.iand, 1) := by decide +kernel
theorem dX11_timeAt_9 : decode cX11_timeAt 9 = .ok (.ireturn, 1) := by decide +kernel
set_option maxHeartbeats 4000000 in
set_option maxRecDepth 100000 in
theorem w_X11_timeAt {X : CX} {T : List Dsc} {R : RM} {c e : Nat} {n1 n2 : Nat} {x0 : Int64} {x2 : Int32} {m : M2} {r : (Int32 × M2)} (hX : XR X 1 n1 n2) (hG : Geo T R c e) (hf : F_X11_timeAt x0 x2 m = some r) (hk : FnI X cX11_timeAt RX11 3 T n1 n2 (r.1, mk r.2 R)) : Wp X cX11_timeAt RX11 3 T (mk m R) n1 n2 0 [(0, .long x0), (2, .int x2)] [] := by
  unfold F_X11_timeAt at hf
  refine Wp.lload_n (pc := 0) 0 rfl rfl dX11_timeAt_0 ?_
  refine Wp.iconst (pc := 1) (5 : Int32) (by decide) dX11_timeAt_1 ?_
  refine Wp.iload_n (pc := 2) 1 rfl rfl dX11_timeAt_2 ?_
  refine Wp.imul (pc := 3) dX11_timeAt_3 ?_
  refine Wp.lushr (pc := 4) dX11_timeAt_4 ?_
  refine Wp.l2i (pc := 5) dX11_timeAt_5 ?_
  refine Wp.bipush (pc := 6) (31 : Int32) (by decide) dX11_timeAt_6 ?_
  refine Wp.iand (pc := 8) dX11_timeAt_8 ?_
  cases hf
  exact hk _ _ dX11_timeAt_9
theorem c_X11_timeAt {T : List Dsc} {R : RM} {c e : Nat} {x0 : Int64} {x2 : Int32} {m : M2} {r : (Int32 × M2)} (hG : Geo T R c e) (hf : F_X11_timeAt x0 x2 m = some r) : Ct 1 yX11_timeAt cX11_timeAt 3 (some .int) T (mk m R) [.long x0, .int x2] (some (.int r.1)) (mk r.2 R) := Ct.ofI (r := (r.1, mk r.2 R)) (by decide +kernel) (Nat.le_of_ble_eq_true rfl) (fun X hX hk => w_X11_timeAt hX hG hf hk)
theorem dX11_withTime_0 : decode cX11_withTime 0 = .ok (.iconst 5, 1) := by decide +kernel
theorem dX11_withTime_1 : decode cX11_withTime 1 = .ok (.iload_n 2, 1) := by decide +kernel
theorem dX11_withTime_2 : decode cX11_withTime 2 = .ok (.imul, 1) := by decide +kernel
theorem dX11_withTime_3 : decode cX11_withTime 3 = .ok (.istore 4, 2) := by decide +kernel
theorem dX11_withTime_5 : decode cX11_withTime 5 = .ok (.lload_n 0, 1) := by decide +kernel
theorem dX11_withTime_6 : decode cX11_withTime 6 = .ok (.ldc2_w 300, 3) := by decide +kernel
theorem dX11_withTime_9 : decode cX11_withTime 9 = .ok (.iload 4, 2) := by decide +kernel
theorem dX11_withTime_11 : decode cX11_withTime 11 = .ok (.lshl, 1) := by decide +kernel
theorem dX11_withTime_12 : decode cX11_withTime 12 = .ok (.ldc2_w 253, 3) := by decide +kernel
theorem dX11_withTime_15 : decode cX11_withTime 15 = .ok (.lxor, 1) := by decide +kernel
theorem dX11_withTime_16 : decode cX11_withTime 16 = .ok (.land, 1) := by decide +kernel
theorem dX11_withTime_17 : decode cX11_withTime 17 = .ok (.iload_n 3, 1) := by decide +kernel
theorem dX11_withTime_18 : decode cX11_withTime 18 = .ok (.bipush 31, 2) := by decide +kernel
theorem dX11_withTime_20 : decode cX11_withTime 20 = .ok (.iand, 1) := by decide +kernel
theorem dX11_withTime_21 : decode cX11_withTime 21 = .ok (.i2l, 1) := by decide +kernel
theorem dX11_withTime_22 : decode cX11_withTime 22 = .ok (.iload 4, 2) := by decide +kernel
theorem dX11_withTime_24 : decode cX11_withTime 24 = .ok (.lshl, 1) := by decide +kernel
theorem dX11_withTime_25 : decode cX11_withTime 25 = .ok (.lor, 1) := by decide +kernel
theorem dX11_withTime_26 : decode cX11_withTime 26 = .ok (.lreturn, 1) := by decide +kernel
set_option maxHeartbeats 4000000 in
set_option maxRecDepth 100000 in
theorem w_X11_withTime {X : CX} {T : List Dsc} {R : RM} {c e : Nat} {n1 n2 : Nat} {x0 : Int64} {x2 : Int32} {x3 : Int32} {m : M2} {r : (Int64 × M2)} (hX : XR X 1 n1 n2) (hG : Geo T R c e) (hf : F_X11_withTime x0 x2 x3 m = some r) (hk : FnJ X cX11_withTime RX11 5 T n1 n2 (r.1, mk r.2 R)) : Wp X cX11_withTime RX11 5 T (mk m R) n1 n2 0 [(0, .long x0), (2, .int x2), (3, .int x3)] [] := by
  unfold F_X11_withTime at hf
  refine Wp.iconst (pc := 0) (5 : Int32) (by decide) dX11_withTime_0 ?_
  refine Wp.iload_n (pc := 1) 1 rfl rfl dX11_withTime_1 ?_
  refine Wp.imul (pc := 2) dX11_withTime_2 ?_
  obtain ⟨v1, h2, hf⟩ := bnd hf
  refine Wp.nI' h2 ?_
  refine Wp.istore (pc := 3) (lo' := [(0, .long x0), (3, .int x3), (4, .int v1)]) [1, 3, 0] rfl (by decide) dX11_withTime_3 ?_
  refine Wp.lload_n (pc := 5) 0 rfl rfl dX11_withTime_5 ?_
  refine Wp.ldc2 (pc := 6) (v := (31 : Int64)) (gw_tb 635 (by decide +kernel) rfl) dX11_withTime_6 ?_
  refine Wp.iload (pc := 9) 2 rfl dX11_withTime_9 ?_
  refine Wp.lshl (pc := 11) dX11_withTime_11 ?_
  refine Wp.ldc2 (pc := 12) (v := (-1 : Int64)) (gw_tb 636 (by decide +kernel) rfl) dX11_withTime_12 ?_
  refine Wp.lxor (pc := 15) dX11_withTime_15 ?_
  refine Wp.land (pc := 16) dX11_withTime_16 ?_
  refine Wp.iload_n (pc := 17) 1 rfl rfl dX11_withTime_17 ?_
  refine Wp.bipush (pc := 18) (31 : Int32) (by decide) dX11_withTime_18 ?_
  refine Wp.iand (pc := 20) dX11_withTime_20 ?_
  refine Wp.i2l (pc := 21) dX11_withTime_21 ?_
  refine Wp.iload (pc := 22) 2 rfl dX11_withTime_22 ?_
  refine Wp.lshl (pc := 24) dX11_withTime_24 ?_
  refine Wp.lor (pc := 25) dX11_withTime_25 ?_
  cases hf
  exact hk _ _ dX11_withTime_26
theorem c_X11_withTime {T : List Dsc} {R : RM} {c e : Nat} {x0 : Int64} {x2 : Int32} {x3 : Int32} {m : M2} {r : (Int64 × M2)} (hG : Geo T R c e) (hf : F_X11_withTime x0 x2 x3 m = some r) : Ct 1 yX11_withTime cX11_withTime 5 (some .long) T (mk m R) [.long x0, .int x2, .int x3] (some (.long r.1)) (mk r.2 R) := Ct.ofJ (r := (r.1, mk r.2 R)) (by decide +kernel) (Nat.le_of_ble_eq_true rfl) (fun X hX hk => w_X11_withTime hX hG hf hk)
theorem dX1_exchange_0 : decode cX1_exchange 0 = .ok (.aload_n 0, 1) := by decide +kernel
theorem dX1_exchange_1 : decode cX1_exchange 1 = .ok (.getfield 9, 3) := by decide +kernel
theorem dX1_exchange_4 : decode cX1_exchange 4 = .ok (.iload_n 1, 1) := by decide +kernel
theorem dX1_exchange_5 : decode cX1_exchange 5 = .ok (.iaload, 1) := by decide +kernel
theorem dX1_exchange_6 : decode cX1_exchange 6 = .ok (.istore_n 3, 1) := by decide +kernel
theorem dX1_exchange_7 : decode cX1_exchange 7 = .ok (.aload_n 0, 1) := by decide +kernel
theorem dX1_exchange_8 : decode cX1_exchange 8 = .ok (.getfield 9, 3) := by decide +kernel
theorem dX1_exchange_11 : decode cX1_exchange 11 = .ok (.iload_n 1, 1) := by decide +kernel
theorem dX1_exchange_12 : decode cX1_exchange 12 = .ok (.aload_n 0, 1) := by decide +kernel
theorem dX1_exchange_13 : decode cX1_exchange 13 = .ok (.getfield 9, 3) := by decide +kernel
theorem dX1_exchange_16 : decode cX1_exchange 16 = .ok (.iload_n 2, 1) := by decide +kernel
theorem dX1_exchange_17 : decode cX1_exchange 17 = .ok (.iaload, 1) := by decide +kernel
theorem dX1_exchange_18 : decode cX1_exchange 18 = .ok (.iastore, 1) := by decide +kernel
theorem dX1_exchange_19 : decode cX1_exchange 19 = .ok (.aload_n 0, 1) := by decide +kernel
theorem dX1_exchange_20 : decode cX1_exchange 20 = .ok (.getfield 9, 3) := by decide +kernel
theorem dX1_exchange_23 : decode cX1_exchange 23 = .ok (.iload_n 2, 1) := by decide +kernel
theorem dX1_exchange_24 : decode cX1_exchange 24 = .ok (.iload_n 3, 1) := by decide +kernel
theorem dX1_exchange_25 : decode cX1_exchange 25 = .ok (.iastore, 1) := by decide +kernel
theorem dX1_exchange_26 : decode cX1_exchange 26 = .ok (.aload_n 0, 1) := by decide +kernel
theorem dX1_exchange_27 : decode cX1_exchange 27 = .ok (.getfield 15, 3) := by decide +kernel
theorem dX1_exchange_30 : decode cX1_exchange 30 = .ok (.iload_n 1, 1) := by decide +kernel
theorem dX1_exchange_31 : decode cX1_exchange 31 = .ok (.iaload, 1) := by decide +kernel
theorem dX1_exchange_32 : decode cX1_exchange 32 = .ok (.istore 4, 2) := by decide +kernel
theorem dX1_exchange_34 : decode cX1_exchange 34 = .ok (.aload_n 0, 1) := by decide +kernel
theorem dX1_exchange_35 : decode cX1_exchange 35 = .ok (.getfield 15, 3) := by decide +kernel
theorem dX1_exchange_38 : decode cX1_exchange 38 = .ok (.iload_n 1, 1) := by decide +kernel
theorem dX1_exchange_39 : decode cX1_exchange 39 = .ok (.aload_n 0, 1) := by decide +kernel
theorem dX1_exchange_40 : decode cX1_exchange 40 = .ok (.getfield 15, 3) := by decide +kernel
theorem dX1_exchange_43 : decode cX1_exchange 43 = .ok (.iload_n 2, 1) := by decide +kernel
theorem dX1_exchange_44 : decode cX1_exchange 44 = .ok (.iaload, 1) := by decide +kernel
theorem dX1_exchange_45 : decode cX1_exchange 45 = .ok (.iastore, 1) := by decide +kernel
theorem dX1_exchange_46 : decode cX1_exchange 46 = .ok (.aload_n 0, 1) := by decide +kernel
theorem dX1_exchange_47 : decode cX1_exchange 47 = .ok (.getfield 15, 3) := by decide +kernel
theorem dX1_exchange_50 : decode cX1_exchange 50 = .ok (.iload_n 2, 1) := by decide +kernel
theorem dX1_exchange_51 : decode cX1_exchange 51 = .ok (.iload 4, 2) := by decide +kernel
theorem dX1_exchange_53 : decode cX1_exchange 53 = .ok (.iastore, 1) := by decide +kernel
theorem dX1_exchange_54 : decode cX1_exchange 54 = .ok (.aload_n 0, 1) := by decide +kernel
theorem dX1_exchange_55 : decode cX1_exchange 55 = .ok (.getfield 28, 3) := by decide +kernel
theorem dX1_exchange_58 : decode cX1_exchange 58 = .ok (.iload_n 1, 1) := by decide +kernel
theorem dX1_exchange_59 : decode cX1_exchange 59 = .ok (.invokestatic 46, 3) := by decide +kernel
theorem dX1_exchange_62 : decode cX1_exchange 62 = .ok (.istore 5, 2) := by decide +kernel
theorem dX1_exchange_64 : decode cX1_exchange 64 = .ok (.aload_n 0, 1) := by decide +kernel
theorem dX1_exchange_65 : decode cX1_exchange 65 = .ok (.aload_n 0, 1) := by decide +kernel
theorem dX1_exchange_66 : decode cX1_exchange 66 = .ok (.getfield 28, 3) := by decide +kernel
theorem dX1_exchange_69 : decode cX1_exchange 69 = .ok (.iload_n 1, 1) := by decide +kernel
theorem dX1_exchange_70 : decode cX1_exchange 70 = .ok (.aload_n 0, 1) := by decide +kernel
theorem dX1_exchange_71 : decode cX1_exchange 71 = .ok (.getfield 28, 3) := by decide +kernel
theorem dX1_exchange_74 : decode cX1_exchange 74 = .ok (.iload_n 2, 1) := by decide +kernel
theorem dX1_exchange_75 : decode cX1_exchange 75 = .ok (.invokestatic 46, 3) := by decide +kernel
theorem dX1_exchange_78 : decode cX1_exchange 78 = .ok (.invokestatic 50, 3) := by decide +kernel
theorem dX1_exchange_81 : decode cX1_exchange 81 = .ok (.putfield 28, 3) := by decide +kernel
theorem dX1_exchange_84 : decode cX1_exchange 84 = .ok (.aload_n 0, 1) := by decide +kernel
theorem dX1_exchange_85 : decode cX1_exchange 85 = .ok (.aload_n 0, 1) := by decide +kernel
theorem dX1_exchange_86 : decode cX1_exchange 86 = .ok (.getfield 28, 3) := by decide +kernel
theorem dX1_exchange_89 : decode cX1_exchange 89 = .ok (.iload_n 2, 1) := by decide +kernel
theorem dX1_exchange_90 : decode cX1_exchange 90 = .ok (.iload 5, 2) := by decide +kernel
theorem dX1_exchange_92 : decode cX1_exchange 92 = .ok (.invokestatic 50, 3) := by decide +kernel
theorem dX1_exchange_95 : decode cX1_exchange 95 = .ok (.putfield 28, 3) := by decide +kernel
theorem dX1_exchange_98 : decode cX1_exchange 98 = .ok (.return_, 1) := by decide +kernel
set_option maxHeartbeats 4000000 in
set_option maxRecDepth 100000 in
theorem w_X1_exchange {X : CX} {T : List Dsc} {R : RM} {c e : Nat} {n1 n2 : Nat} {x0 : Nat} {x1 : Int32} {x2 : Int32} {m : M2} {r : M2} (hX : XR X 2 n1 n2) (hG : Geo T R c e) (hx0 : cw x0) (hf : F_X1_exchange x0 x1 x2 m = some r) (hk : FnV X cX1_exchange RX1 6 T n1 n2 (mk r R)) : Wp X cX1_exchange RX1 6 T (mk m R) n1 n2 0 [(0, .ref x0), (1, .int x1), (2, .int x2)] [] := by
  unfold F_X1_exchange at hf
  refine Wp.aload_n (pc := 0) 0 rfl rfl dX1_exchange_0 ?_
  refine Wp.getR2 (pc := 1) (hG.wr hx0 1 (Or.inl rfl)) (hG.wt hx0) fk_RX1_9 rfl dX1_exchange_1 ?_
  refine Wp.iload_n (pc := 4) 1 rfl rfl dX1_exchange_4 ?_
  obtain ⟨v1, h2, hf⟩ := bnd hf
  refine Wp.iald2 (pc := 5) h2 (hG.wa hx0 1 (Or.inl rfl)) dX1_exchange_5 ?_
  refine Wp.istore_n (pc := 6) (lo' := [(0, .ref x0), (1, .int x1), (2, .int x2), (3, .int v1)]) [1, 2, 3, 0] rfl (by decide) rfl dX1_exchange_6 ?_
  refine Wp.aload_n (pc := 7) 0 rfl rfl dX1_exchange_7 ?_
  refine Wp.getR2 (pc := 8) (hG.wr hx0 1 (Or.inl rfl)) (hG.wt hx0) fk_RX1_9 rfl dX1_exchange_8 ?_
  refine Wp.iload_n (pc := 11) 1 rfl rfl dX1_exchange_11 ?_
  refine Wp.aload_n (pc := 12) 0 rfl rfl dX1_exchange_12 ?_
  refine Wp.getR2 (pc := 13) (hG.wr hx0 1 (Or.inl rfl)) (hG.wt hx0) fk_RX1_9 rfl dX1_exchange_13 ?_
  refine Wp.iload_n (pc := 16) 2 rfl rfl dX1_exchange_16 ?_
  obtain ⟨v3, h4, hf⟩ := bnd hf
  refine Wp.iald2 (pc := 17) h4 (hG.wa hx0 1 (Or.inl rfl)) dX1_exchange_17 ?_
  obtain ⟨m5, h6, hf⟩ := bnd hf
  refine Wp.iast2 (pc := 18) h6 (hG.wa hx0 1 (Or.inl rfl)) dX1_exchange_18 ?_
  refine Wp.aload_n (pc := 19) 0 rfl rfl dX1_exchange_19 ?_
  refine Wp.getR2 (pc := 20) (hG.wr hx0 1 (Or.inl rfl)) (hG.wt hx0) fk_RX1_9 rfl dX1_exchange_20 ?_
  refine Wp.iload_n (pc := 23) 2 rfl rfl dX1_exchange_23 ?_
  refine Wp.iload_n (pc := 24) 3 rfl rfl dX1_exchange_24 ?_
  obtain ⟨m7, h8, hf⟩ := bnd hf
  refine Wp.iast2 (pc := 25) h8 (hG.wa hx0 1 (Or.inl rfl)) dX1_exchange_25 ?_
  refine Wp.aload_n (pc := 26) 0 rfl rfl dX1_exchange_26 ?_
  refine Wp.getR2 (pc := 27) (hG.wr hx0 2 (Or.inr rfl)) (hG.wt hx0) fk_RX1_15 rfl dX1_exchange_27 ?_
  refine Wp.iload_n (pc := 30) 1 rfl rfl dX1_exchange_30 ?_
  obtain ⟨v9, h10, hf⟩ := bnd hf
  refine Wp.iald2 (pc := 31) h10 (hG.wa hx0 2 (Or.inr rfl)) dX1_exchange_31 ?_
  refine Wp.istore (pc := 32) (lo' := [(0, .ref x0), (1, .int x1), (2, .int x2), (4, .int v9)]) [1, 2, 3, 0] rfl (by decide) dX1_exchange_32 ?_
  refine Wp.aload_n (pc := 34) 0 rfl rfl dX1_exchange_34 ?_
  refine Wp.getR2 (pc := 35) (hG.wr hx0 2 (Or.inr rfl)) (hG.wt hx0) fk_RX1_15 rfl dX1_exchange_35 ?_
  refine Wp.iload_n (pc := 38) 1 rfl rfl dX1_exchange_38 ?_
  refine Wp.aload_n (pc := 39) 0 rfl rfl dX1_exchange_39 ?_
  refine Wp.getR2 (pc := 40) (hG.wr hx0 2 (Or.inr rfl)) (hG.wt hx0) fk_RX1_15 rfl dX1_exchange_40 ?_
  refine Wp.iload_n (pc := 43) 2 rfl rfl dX1_exchange_43 ?_
  obtain ⟨v11, h12, hf⟩ := bnd hf
  refine Wp.iald2 (pc := 44) h12 (hG.wa hx0 2 (Or.inr rfl)) dX1_exchange_44 ?_
  obtain ⟨m13, h14, hf⟩ := bnd hf
  refine Wp.iast2 (pc := 45) h14 (hG.wa hx0 2 (Or.inr rfl)) dX1_exchange_45 ?_
  refine Wp.aload_n (pc := 46) 0 rfl rfl dX1_exchange_46 ?_
  refine Wp.getR2 (pc := 47) (hG.wr hx0 2 (Or.inr rfl)) (hG.wt hx0) fk_RX1_15 rfl dX1_exchange_47 ?_
  refine Wp.iload_n (pc := 50) 2 rfl rfl dX1_exchange_50 ?_
  refine Wp.iload (pc := 51) 3 rfl dX1_exchange_51 ?_
  obtain ⟨m15, h16, hf⟩ := bnd hf
  refine Wp.iast2 (pc := 53) h16 (hG.wa hx0 2 (Or.inr rfl)) dX1_exchange_53 ?_
  refine Wp.aload_n (pc := 54) 0 rfl rfl dX1_exchange_54 ?_
  refine Wp.getJ2 (pc := 55) (hG.wt hx0) fk_RX1_28 rfl dX1_exchange_55 ?_
  refine Wp.iload_n (pc := 58) 1 rfl rfl dX1_exchange_58 ?_
  obtain ⟨c17, h18, hf⟩ := bnd hf
  refine Wp.callSNi (pc := 59) (st := []) (as := [.long (hJ m15 x0 0), .int x1]) (c_X11_timeAt hG h18) ml_RX1_46 ms_X11_timeAt mb_X11_timeAt hX (Nat.le_of_ble_eq_true rfl) (by decide) rfl (by simp) dX1_exchange_59 rfl ?_
  refine Wp.istore (pc := 62) (lo' := [(0, .ref x0), (1, .int x1), (2, .int x2), (5, .int c17.1)]) [1, 2, 3, 0] rfl (by decide) dX1_exchange_62 ?_
  refine Wp.aload_n (pc := 64) 0 rfl rfl dX1_exchange_64 ?_
  refine Wp.aload_n (pc := 65) 0 rfl rfl dX1_exchange_65 ?_
  refine Wp.getJ2 (pc := 66) (hG.wt hx0) fk_RX1_28 rfl dX1_exchange_66 ?_
  refine Wp.iload_n (pc := 69) 1 rfl rfl dX1_exchange_69 ?_
  refine Wp.aload_n (pc := 70) 0 rfl rfl dX1_exchange_70 ?_
  refine Wp.getJ2 (pc := 71) (hG.wt hx0) fk_RX1_28 rfl dX1_exchange_71 ?_
  refine Wp.iload_n (pc := 74) 2 rfl rfl dX1_exchange_74 ?_
  obtain ⟨c19, h20, hf⟩ := bnd hf
  refine Wp.callSNi (pc := 75) (st := [.int x1, .long (hJ c17.2 x0 0), .ref x0]) (as := [.long (hJ c17.2 x0 0), .int x2]) (c_X11_timeAt hG h20) ml_RX1_46 ms_X11_timeAt mb_X11_timeAt hX (Nat.le_of_ble_eq_true rfl) (by decide) rfl (by simp [Value.category]) dX1_exchange_75 rfl ?_
  obtain ⟨c21, h22, hf⟩ := bnd hf
  refine Wp.callSNl (pc := 78) (st := [.ref x0]) (as := [.long (hJ c17.2 x0 0), .int x1, .int c19.1]) (c_X11_withTime hG h22) ml_RX1_50 ms_X11_withTime mb_X11_withTime hX (Nat.le_of_ble_eq_true rfl) (by decide) rfl (by simp [Value.category]) dX1_exchange_78 rfl ?_
  obtain ⟨m23, h24, hf⟩ := bnd hf
  refine Wp.ptJ2 (pc := 81) h24 (hG.wt hx0) fk_RX1_28 ff_RX1_1_0 rfl dX1_exchange_81 ?_
  refine Wp.aload_n (pc := 84) 0 rfl rfl dX1_exchange_84 ?_
  refine Wp.aload_n (pc := 85) 0 rfl rfl dX1_exchange_85 ?_
  refine Wp.getJ2 (pc := 86) (hG.wt hx0) fk_RX1_28 rfl dX1_exchange_86 ?_
  refine Wp.iload_n (pc := 89) 2 rfl rfl dX1_exchange_89 ?_
  refine Wp.iload (pc := 90) 3 rfl dX1_exchange_90 ?_
  obtain ⟨c25, h26, hf⟩ := bnd hf
  refine Wp.callSNl (pc := 92) (st := [.ref x0]) (as := [.long (hJ m23 x0 0), .int x2, .int c17.1]) (c_X11_withTime hG h26) ml_RX1_50 ms_X11_withTime mb_X11_withTime hX (Nat.le_of_ble_eq_true rfl) (by decide) rfl (by simp [Value.category]) dX1_exchange_92 rfl ?_
  obtain ⟨m27, h28, hf⟩ := bnd hf
  refine Wp.ptJ2 (pc := 95) h28 (hG.wt hx0) fk_RX1_28 ff_RX1_1_0 rfl dX1_exchange_95 ?_
  cases hf
  exact hk _ _ dX1_exchange_98
theorem c_X1_exchange {T : List Dsc} {R : RM} {c e : Nat} {x0 : Nat} {x1 : Int32} {x2 : Int32} {m : M2} {r : M2} (hG : Geo T R c e) (hx0 : cw x0) (hf : F_X1_exchange x0 x1 x2 m = some r) : Ct 2 yX1_exchange cX1_exchange 6 none T (mk m R) [.ref x0, .int x1, .int x2] none (mk r R) := Ct.ofV (r := mk r R) (by decide +kernel) (Nat.le_of_ble_eq_true rfl) (fun X hX hk => w_X1_exchange hX hG hx0 hf hk)
theorem dX3_clear_0 : decode cX3_clear 0 = .ok (.aload_n 0, 1) := by decide +kernel
theorem dX3_clear_1 : decode cX3_clear 1 = .ok (.iconst 0, 1) := by decide +kernel
theorem dX3_clear_2 : decode cX3_clear 2 = .ok (.putfield 15, 3) := by decide +kernel
theorem dX3_clear_5 : decode cX3_clear 5 = .ok (.aload_n 0, 1) := by decide +kernel
theorem dX3_clear_6 : decode cX3_clear 6 = .ok (.iconst 0, 1) := by decide +kernel
theorem dX3_clear_7 : decode cX3_clear 7 = .ok (.putfield 19, 3) := by decide +kernel
theorem dX3_clear_10 : decode cX3_clear 10 = .ok (.return_, 1) := by decide +kernel
set_option maxHeartbeats 4000000 in
set_option maxRecDepth 100000 in
theorem w_X3_clear {X : CX} {T : List Dsc} {R : RM} {c e : Nat} {n1 n2 : Nat} {m : M2} {r : M2} (hX : XR X 1 n1 n2) (hG : Geo T R c e) (hf : F_X3_clear m = some r) (hk : FnV X cX3_clear RX3 1 T n1 n2 (mk r R)) : Wp X cX3_clear RX3 1 T (mk m R) n1 n2 0 [(0, .ref 32)] [] := by
  unfold F_X3_clear at hf
  refine Wp.aload_n (pc := 0) 0 rfl rfl dX3_clear_0 ?_
  refine Wp.iconst (pc := 1) (0 : Int32) (by decide) dX3_clear_1 ?_
  obtain ⟨m1, h2, hf⟩ := bnd hf
  refine Wp.ptI2 (pc := 2) h2 (hG.t 32 rfl) fk_RX3_15 ff_RX3_2_1 rfl dX3_clear_2 ?_
  refine Wp.aload_n (pc := 5) 0 rfl rfl dX3_clear_5 ?_
  refine Wp.iconst (pc := 6) (0 : Int32) (by decide) dX3_clear_6 ?_
  obtain ⟨m3, h4, hf⟩ := bnd hf
  refine Wp.ptI2 (pc := 7) h4 (hG.t 32 rfl) fk_RX3_19 ff_RX3_2_2 rfl dX3_clear_7 ?_
  cases hf
  exact hk _ _ dX3_clear_10
theorem c_X3_clear {T : List Dsc} {R : RM} {c e : Nat} {m : M2} {r : M2} (hG : Geo T R c e) (hf : F_X3_clear m = some r) : Ct 1 yX3_clear cX3_clear 1 none T (mk m R) [.ref 32] none (mk r R) := Ct.ofV (r := mk r R) (by decide +kernel) (Nat.le_of_ble_eq_true rfl) (fun X hX hk => w_X3_clear hX hG hf hk)
theorem dX3_keep_0 : decode cX3_keep 0 = .ok (.aload_n 0, 1) := by decide +kernel
theorem dX3_keep_1 : decode cX3_keep 1 = .ok (.getfield 9, 3) := by decide +kernel
theorem dX3_keep_4 : decode cX3_keep 4 = .ok (.aload_n 0, 1) := by decide +kernel
theorem dX3_keep_5 : decode cX3_keep 5 = .ok (.getfield 19, 3) := by decide +kernel
theorem dX3_keep_8 : decode cX3_keep 8 = .ok (.lload_n 1, 1) := by decide +kernel
theorem dX3_keep_9 : decode cX3_keep 9 = .ok (.lastore, 1) := by decide +kernel
theorem dX3_keep_10 : decode cX3_keep 10 = .ok (.aload_n 0, 1) := by decide +kernel
theorem dX3_keep_11 : decode cX3_keep 11 = .ok (.aload_n 0, 1) := by decide +kernel
theorem dX3_keep_12 : decode cX3_keep 12 = .ok (.getfield 19, 3) := by decide +kernel
theorem dX3_keep_15 : decode cX3_keep 15 = .ok (.iconst 1, 1) := by decide +kernel
theorem dX3_keep_16 : decode cX3_keep 16 = .ok (.iadd, 1) := by decide +kernel
theorem dX3_keep_17 : decode cX3_keep 17 = .ok (.bipush 100, 2) := by decide +kernel
theorem dX3_keep_19 : decode cX3_keep 19 = .ok (.irem, 1) := by decide +kernel
theorem dX3_keep_20 : decode cX3_keep 20 = .ok (.putfield 19, 3) := by decide +kernel
theorem dX3_keep_23 : decode cX3_keep 23 = .ok (.aload_n 0, 1) := by decide +kernel
theorem dX3_keep_24 : decode cX3_keep 24 = .ok (.aload_n 0, 1) := by decide +kernel
theorem dX3_keep_25 : decode cX3_keep 25 = .ok (.getfield 15, 3) := by decide +kernel
theorem dX3_keep_28 : decode cX3_keep 28 = .ok (.iconst 1, 1) := by decide +kernel
theorem dX3_keep_29 : decode cX3_keep 29 = .ok (.iadd, 1) := by decide +kernel
theorem dX3_keep_30 : decode cX3_keep 30 = .ok (.bipush 100, 2) := by decide +kernel
theorem dX3_keep_32 : decode cX3_keep 32 = .ok (.invokestatic 22, 3) := by decide +kernel
theorem dX3_keep_35 : decode cX3_keep 35 = .ok (.putfield 15, 3) := by decide +kernel
theorem dX3_keep_38 : decode cX3_keep 38 = .ok (.return_, 1) := by decide +kernel
set_option maxHeartbeats 4000000 in
set_option maxRecDepth 100000 in
theorem w_X3_keep {X : CX} {T : List Dsc} {R : RM} {c e : Nat} {n1 n2 : Nat} {x1 : Int64} {m : M2} {r : M2} (hX : XR X 1 n1 n2) (hG : Geo T R c e) (hf : F_X3_keep x1 m = some r) (hk : FnV X cX3_keep RX3 3 T n1 n2 (mk r R)) : Wp X cX3_keep RX3 3 T (mk m R) n1 n2 0 [(0, .ref 32), (1, .long x1)] [] := by
  unfold F_X3_keep at hf
  refine Wp.aload_n (pc := 0) 0 rfl rfl dX3_keep_0 ?_
  refine Wp.getR2 (pc := 1) (hG.r 32 0 rfl) (hG.t 32 rfl) fk_RX3_9 rfl dX3_keep_1 ?_
  refine Wp.aload_n (pc := 4) 0 rfl rfl dX3_keep_4 ?_
  refine Wp.getI2 (pc := 5) (hG.t 32 rfl) fk_RX3_19 rfl dX3_keep_5 ?_
  refine Wp.lload_n (pc := 8) 1 rfl rfl dX3_keep_8 ?_
  obtain ⟨m1, h2, hf⟩ := bnd hf
  refine Wp.last2 (pc := 9) h2 (hG.a 33 1 rfl) dX3_keep_9 ?_
  refine Wp.aload_n (pc := 10) 0 rfl rfl dX3_keep_10 ?_
  refine Wp.aload_n (pc := 11) 0 rfl rfl dX3_keep_11 ?_
  refine Wp.getI2 (pc := 12) (hG.t 32 rfl) fk_RX3_19 rfl dX3_keep_12 ?_
  refine Wp.iconst (pc := 15) (1 : Int32) (by decide) dX3_keep_15 ?_
  refine Wp.iadd (pc := 16) dX3_keep_16 ?_
  refine Wp.bipush (pc := 17) (100 : Int32) (by decide) dX3_keep_17 ?_
  obtain ⟨v3, h4, hf⟩ := bnd hf
  refine Wp.rm (pc := 19) h4 dX3_keep_19 ?_
  obtain ⟨m5, h6, hf⟩ := bnd hf
  refine Wp.ptI2 (pc := 20) h6 (hG.t 32 rfl) fk_RX3_19 ff_RX3_2_2 rfl dX3_keep_20 ?_
  refine Wp.aload_n (pc := 23) 0 rfl rfl dX3_keep_23 ?_
  refine Wp.aload_n (pc := 24) 0 rfl rfl dX3_keep_24 ?_
  refine Wp.getI2 (pc := 25) (hG.t 32 rfl) fk_RX3_15 rfl dX3_keep_25 ?_
  refine Wp.iconst (pc := 28) (1 : Int32) (by decide) dX3_keep_28 ?_
  refine Wp.iadd (pc := 29) dX3_keep_29 ?_
  refine Wp.bipush (pc := 30) (100 : Int32) (by decide) dX3_keep_30 ?_
  refine Wp.mmin (pc := 32) mm_RX3_22 hX (Nat.le_of_ble_eq_true rfl) (by simp [Value.category]) dX3_keep_32 ?_
  obtain ⟨m7, h8, hf⟩ := bnd hf
  refine Wp.ptI2 (pc := 35) h8 (hG.t 32 rfl) fk_RX3_15 ff_RX3_2_1 rfl dX3_keep_35 ?_
  cases hf
  exact hk _ _ dX3_keep_38
theorem c_X3_keep {T : List Dsc} {R : RM} {c e : Nat} {x1 : Int64} {m : M2} {r : M2} (hG : Geo T R c e) (hf : F_X3_keep x1 m = some r) : Ct 1 yX3_keep cX3_keep 3 none T (mk m R) [.ref 32, .long x1] none (mk r R) := Ct.ofV (r := mk r R) (by decide +kernel) (Nat.le_of_ble_eq_true rfl) (fun X hX hk => w_X3_keep hX hG hf hk)
theorem dX3_takeLast_0 : decode cX3_takeLast 0 = .ok (.aload_n 0, 1) := by decide +kernel
theorem dX3_takeLast_1 : decode cX3_takeLast 1 = .ok (.aload_n 0, 1) := by decide +kernel
theorem dX3_takeLast_2 : decode cX3_takeLast 2 = .ok (.getfield 19, 3) := by decide +kernel
theorem dX3_takeLast_5 : decode cX3_takeLast 5 = .ok (.bipush 100, 2) := by decide +kernel
theorem dX3_takeLast_7 : decode cX3_takeLast 7 = .ok (.iadd, 1) := by decide +kernel
theorem dX3_takeLast_8 : decode cX3_takeLast 8 = .ok (.iconst 1, 1) := by decide +kernel
theorem dX3_takeLast_9 : decode cX3_takeLast 9 = .ok (.isub, 1) := by decide +kernel
theorem dX3_takeLast_10 : decode cX3_takeLast 10 = .ok (.bipush 100, 2) := by decide +kernel
theorem dX3_takeLast_12 : decode cX3_takeLast 12 = .ok (.irem, 1) := by decide +kernel
theorem dX3_takeLast_13 : decode cX3_takeLast 13 = .ok (.putfield 19, 3) := by decide +kernel
theorem dX3_takeLast_16 : decode cX3_takeLast 16 = .ok (.aload_n 0, 1) := by decide +kernel
theorem dX3_takeLast_17 : decode cX3_takeLast 17 = .ok (.aload_n 0, 1) := by decide +kernel
theorem dX3_takeLast_18 : decode cX3_takeLast 18 = .ok (.getfield 15, 3) := by decide +kernel
theorem dX3_takeLast_21 : decode cX3_takeLast 21 = .ok (.iconst 1, 1) := by decide +kernel
theorem dX3_takeLast_22 : decode cX3_takeLast 22 = .ok (.isub, 1) := by decide +kernel
theorem dX3_takeLast_23 : decode cX3_takeLast 23 = .ok (.iconst 0, 1) := by decide +kernel
theorem dX3_takeLast_24 : decode cX3_takeLast 24 = .ok (.invokestatic 28, 3) := by decide +kernel
theorem dX3_takeLast_27 : decode cX3_takeLast 27 = .ok (.putfield 15, 3) := by decide +kernel
theorem dX3_takeLast_30 : decode cX3_takeLast 30 = .ok (.aload_n 0, 1) := by decide +kernel
theorem dX3_takeLast_31 : decode cX3_takeLast 31 = .ok (.getfield 9, 3) := by decide +kernel
theorem dX3_takeLast_34 : decode cX3_takeLast 34 = .ok (.aload_n 0, 1) := by decide +kernel
theorem dX3_takeLast_35 : decode cX3_takeLast 35 = .ok (.getfield 19, 3) := by decide +kernel
theorem dX3_takeLast_38 : decode cX3_takeLast 38 = .ok (.laload, 1) := by decide +kernel
theorem dX3_takeLast_39 : decode cX3_takeLast 39 = .ok (.lreturn, 1) := by decide +kernel
set_option maxHeartbeats 4000000 in
set_option maxRecDepth 100000 in
theorem w_X3_takeLast {X : CX} {T : List Dsc} {R : RM} {c e : Nat} {n1 n2 : Nat} {m : M2} {r : (Int64 × M2)} (hX : XR X 1 n1 n2) (hG : Geo T R c e) (hf : F_X3_takeLast m = some r) (hk : FnJ X cX3_takeLast RX3 1 T n1 n2 (r.1, mk r.2 R)) : Wp X cX3_takeLast RX3 1 T (mk m R) n1 n2 0 [(0, .ref 32)] [] := by
  unfold F_X3_takeLast at hf
  refine Wp.aload_n (pc := 0) 0 rfl rfl dX3_takeLast_0 ?_
  refine Wp.aload_n (pc := 1) 0 rfl rfl dX3_takeLast_1 ?_
  refine Wp.getI2 (pc := 2) (hG.t 32 rfl) fk_RX3_19 rfl dX3_takeLast_2 ?_
  refine Wp.bipush (pc := 5) (100 : Int32) (by decide) dX3_takeLast_5 ?_
  refine Wp.iadd (pc := 7) dX3_takeLast_7 ?_
  refine Wp.iconst (pc := 8) (1 : Int32) (by decide) dX3_takeLast_8 ?_
  refine Wp.isub (pc := 9) dX3_takeLast_9 ?_
  refine Wp.bipush (pc := 10) (100 : Int32) (by decide) dX3_takeLast_10 ?_
  obtain ⟨v1, h2, hf⟩ := bnd hf
  refine Wp.rm (pc := 12) h2 dX3_takeLast_12 ?_
  obtain ⟨m3, h4, hf⟩ := bnd hf
  refine Wp.ptI2 (pc := 13) h4 (hG.t 32 rfl) fk_RX3_19 ff_RX3_2_2 rfl dX3_takeLast_13 ?_
  refine Wp.aload_n (pc := 16) 0 rfl rfl dX3_takeLast_16 ?_
  refine Wp.aload_n (pc := 17) 0 rfl rfl dX3_takeLast_17 ?_
  refine Wp.getI2 (pc := 18) (hG.t 32 rfl) fk_RX3_15 rfl dX3_takeLast_18 ?_
  refine Wp.iconst (pc := 21) (1 : Int32) (by decide) dX3_takeLast_21 ?_
  refine Wp.isub (pc := 22) dX3_takeLast_22 ?_
  refine Wp.iconst (pc := 23) (0 : Int32) (by decide) dX3_takeLast_23 ?_
  refine Wp.mmax (pc := 24) mm_RX3_28 hX (Nat.le_of_ble_eq_true rfl) (by simp [Value.category]) dX3_takeLast_24 ?_
  obtain ⟨m5, h6, hf⟩ := bnd hf
  refine Wp.ptI2 (pc := 27) h6 (hG.t 32 rfl) fk_RX3_15 ff_RX3_2_1 rfl dX3_takeLast_27 ?_
  refine Wp.aload_n (pc := 30) 0 rfl rfl dX3_takeLast_30 ?_
  refine Wp.getR2 (pc := 31) (hG.r 32 0 rfl) (hG.t 32 rfl) fk_RX3_9 rfl dX3_takeLast_31 ?_
  refine Wp.aload_n (pc := 34) 0 rfl rfl dX3_takeLast_34 ?_
  refine Wp.getI2 (pc := 35) (hG.t 32 rfl) fk_RX3_19 rfl dX3_takeLast_35 ?_
  obtain ⟨v7, h8, hf⟩ := bnd hf
  refine Wp.lald2 (pc := 38) h8 (hG.a 33 1 rfl) dX3_takeLast_38 ?_
  cases hf
  exact hk _ _ dX3_takeLast_39
theorem c_X3_takeLast {T : List Dsc} {R : RM} {c e : Nat} {m : M2} {r : (Int64 × M2)} (hG : Geo T R c e) (hf : F_X3_takeLast m = some r) : Ct 1 yX3_takeLast cX3_takeLast 1 (some .long) T (mk m R) [.ref 32] (some (.long r.1)) (mk r.2 R) := Ct.ofJ (r := (r.1, mk r.2 R)) (by decide +kernel) (Nat.le_of_ble_eq_true rfl) (fun X hX hk => w_X3_takeLast hX hG hf hk)
