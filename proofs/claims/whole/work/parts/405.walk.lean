theorem dX10_note_0 : decode cX10_note 0 = .ok (.aload_n 0, 1) := by decide +kernel
theorem dX10_note_1 : decode cX10_note 1 = .ok (.getfield 31, 3) := by decide +kernel
theorem dX10_note_4 : decode cX10_note 4 = .ok (.bipush 20, 2) := by decide +kernel
theorem dX10_note_6 : decode cX10_note 6 = .ok (.if_icmp .lt 5, 3) := by decide +kernel
theorem dX10_note_9 : decode cX10_note 9 = .ok (.iconst (-1), 1) := by decide +kernel
theorem dX10_note_10 : decode cX10_note 10 = .ok (.ireturn, 1) := by decide +kernel
theorem dX10_note_11 : decode cX10_note 11 = .ok (.aload_n 0, 1) := by decide +kernel
theorem dX10_note_12 : decode cX10_note 12 = .ok (.getfield 9, 3) := by decide +kernel
theorem dX10_note_15 : decode cX10_note 15 = .ok (.aload_n 0, 1) := by decide +kernel
theorem dX10_note_16 : decode cX10_note 16 = .ok (.getfield 31, 3) := by decide +kernel
theorem dX10_note_19 : decode cX10_note 19 = .ok (.iload_n 1, 1) := by decide +kernel
theorem dX10_note_20 : decode cX10_note 20 = .ok (.iastore, 1) := by decide +kernel
theorem dX10_note_21 : decode cX10_note 21 = .ok (.aload_n 0, 1) := by decide +kernel
theorem dX10_note_22 : decode cX10_note 22 = .ok (.getfield 15, 3) := by decide +kernel
theorem dX10_note_25 : decode cX10_note 25 = .ok (.aload_n 0, 1) := by decide +kernel
theorem dX10_note_26 : decode cX10_note 26 = .ok (.getfield 31, 3) := by decide +kernel
theorem dX10_note_29 : decode cX10_note 29 = .ok (.iload_n 2, 1) := by decide +kernel
theorem dX10_note_30 : decode cX10_note 30 = .ok (.iastore, 1) := by decide +kernel
theorem dX10_note_31 : decode cX10_note 31 = .ok (.aload_n 0, 1) := by decide +kernel
theorem dX10_note_32 : decode cX10_note 32 = .ok (.getfield 18, 3) := by decide +kernel
theorem dX10_note_35 : decode cX10_note 35 = .ok (.aload_n 0, 1) := by decide +kernel
theorem dX10_note_36 : decode cX10_note 36 = .ok (.getfield 31, 3) := by decide +kernel
theorem dX10_note_39 : decode cX10_note 39 = .ok (.iload_n 3, 1) := by decide +kernel
theorem dX10_note_40 : decode cX10_note 40 = .ok (.ifCond .eq 7, 3) := by decide +kernel
theorem dX10_note_43 : decode cX10_note 43 = .ok (.iconst 1, 1) := by decide +kernel
theorem dX10_note_44 : decode cX10_note 44 = .ok (.goto 4, 3) := by decide +kernel
theorem dX10_note_47 : decode cX10_note 47 = .ok (.iconst 0, 1) := by decide +kernel
theorem dX10_note_48 : decode cX10_note 48 = .ok (.iastore, 1) := by decide +kernel
theorem dX10_note_49 : decode cX10_note 49 = .ok (.aload_n 0, 1) := by decide +kernel
theorem dX10_note_50 : decode cX10_note 50 = .ok (.dup, 1) := by decide +kernel
theorem dX10_note_51 : decode cX10_note 51 = .ok (.getfield 31, 3) := by decide +kernel
theorem dX10_note_54 : decode cX10_note 54 = .ok (.iconst 1, 1) := by decide +kernel
theorem dX10_note_55 : decode cX10_note 55 = .ok (.iadd, 1) := by decide +kernel
theorem dX10_note_56 : decode cX10_note 56 = .ok (.putfield 31, 3) := by decide +kernel
theorem dX10_note_59 : decode cX10_note 59 = .ok (.aload_n 0, 1) := by decide +kernel
theorem dX10_note_60 : decode cX10_note 60 = .ok (.getfield 31, 3) := by decide +kernel
theorem dX10_note_63 : decode cX10_note 63 = .ok (.iconst 1, 1) := by decide +kernel
theorem dX10_note_64 : decode cX10_note 64 = .ok (.isub, 1) := by decide +kernel
theorem dX10_note_65 : decode cX10_note 65 = .ok (.ireturn, 1) := by decide +kernel
set_option maxHeartbeats 4000000 in
set_option maxRecDepth 100000 in
theorem w_X10_note_48 {X : CX} {T : List Dsc} {n1 n2 : Nat} {x0 : Nat} {s0 : Nat} {ms0 : Nat} {s1 : Int32} {s2 : Int32} {μ : Mem} {r : (Int32 × Mem)} (hX : XR X 1 n1 n2) (hx0 : T[x0]? = some (.inl 9)) (hs0 : aLen T s0 0 = some ms0) (hf : f_X10_note_48 T x0 s0 ms0 s1 s2 μ = some r) (hk : FnI X cX10_note RX10 4 T n1 n2 r) : Wp X cX10_note RX10 4 T μ n1 n2 48 [(0, .ref x0)] [.int s2, .int s1, .ref s0] := by
  unfold f_X10_note_48 at hf
  obtain ⟨μ1, h2, hf⟩ := bnd hf
  refine Wp.iast (pc := 48) h2 hs0 dX10_note_48 ?_
  refine Wp.aload_n (pc := 49) 0 rfl rfl dX10_note_49 ?_
  refine Wp.dup (pc := 50) rfl dX10_note_50 ?_
  refine Wp.getI (pc := 51) hx0 fk_RX10_31 rfl dX10_note_51 ?_
  refine Wp.iconst (pc := 54) (1 : Int32) (by decide) dX10_note_54 ?_
  refine Wp.iadd (pc := 55) dX10_note_55 ?_
  obtain ⟨μ3, h4, hf⟩ := bnd hf
  refine Wp.ptI (pc := 56) h4 hx0 fk_RX10_31 ff_RX10_9_1 rfl dX10_note_56 ?_
  refine Wp.aload_n (pc := 59) 0 rfl rfl dX10_note_59 ?_
  refine Wp.getI (pc := 60) hx0 fk_RX10_31 rfl dX10_note_60 ?_
  refine Wp.iconst (pc := 63) (1 : Int32) (by decide) dX10_note_63 ?_
  refine Wp.isub (pc := 64) dX10_note_64 ?_
  cases hf
  exact hk _ _ dX10_note_65
set_option maxHeartbeats 4000000 in
set_option maxRecDepth 100000 in
theorem w_X10_note {X : CX} {T : List Dsc} {n1 n2 : Nat} {x0 : Nat} {x1 : Int32} {x2 : Int32} {x3 : Int32} {μ : Mem} {r : (Int32 × Mem)} (hX : XR X 1 n1 n2) (hx0 : T[x0]? = some (.inl 9)) (hf : F_X10_note T x0 x1 x2 x3 μ = some r) (hk : FnI X cX10_note RX10 4 T n1 n2 r) : Wp X cX10_note RX10 4 T μ n1 n2 0 [(0, .ref x0), (1, .int x1), (2, .int x2), (3, .int x3)] [] := by
  unfold F_X10_note at hf
  refine Wp.aload_n (pc := 0) 0 rfl rfl dX10_note_0 ?_
  refine Wp.getI (pc := 1) hx0 fk_RX10_31 rfl dX10_note_1 ?_
  refine Wp.bipush (pc := 4) (20 : Int32) (by decide) dX10_note_4 ?_
  refine Wp.icmp_lt (pc := 6) 11 dX10_note_6 (by decide) (fun hc1 => ?_) (fun hc1 => ?_)
  · rw [if_pos hc1] at hf
    refine Wp.aload_n (pc := 11) 0 rfl rfl dX10_note_11 ?_
    obtain ⟨a2, h3, hf⟩ := bnd hf
    refine Wp.getR (pc := 12) (gA_R h3) hx0 fk_RX10_9 rfl dX10_note_12 ?_
    refine Wp.aload_n (pc := 15) 0 rfl rfl dX10_note_15 ?_
    refine Wp.getI (pc := 16) hx0 fk_RX10_31 rfl dX10_note_16 ?_
    refine Wp.iload_n (pc := 19) 1 rfl rfl dX10_note_19 ?_
    obtain ⟨μ4, h5, hf⟩ := bnd hf
    refine Wp.iast (pc := 20) h5 (gA_T h3) dX10_note_20 ?_
    refine Wp.aload_n (pc := 21) 0 rfl rfl dX10_note_21 ?_
    obtain ⟨a6, h7, hf⟩ := bnd hf
    refine Wp.getR (pc := 22) (gA_R h7) hx0 fk_RX10_15 rfl dX10_note_22 ?_
    refine Wp.aload_n (pc := 25) 0 rfl rfl dX10_note_25 ?_
    refine Wp.getI (pc := 26) hx0 fk_RX10_31 rfl dX10_note_26 ?_
    refine Wp.iload_n (pc := 29) 2 rfl rfl dX10_note_29 ?_
    obtain ⟨μ8, h9, hf⟩ := bnd hf
    refine Wp.iast (pc := 30) h9 (gA_T h7) dX10_note_30 ?_
    refine Wp.aload_n (pc := 31) 0 rfl rfl dX10_note_31 ?_
    obtain ⟨a10, h11, hf⟩ := bnd hf
    refine Wp.getR (pc := 32) (gA_R h11) hx0 fk_RX10_18 rfl dX10_note_32 ?_
    refine Wp.aload_n (pc := 35) 0 rfl rfl dX10_note_35 ?_
    refine Wp.getI (pc := 36) hx0 fk_RX10_31 rfl dX10_note_36 ?_
    refine Wp.iload_n (pc := 39) 3 rfl rfl dX10_note_39 ?_
    refine Wp.if_eq (pc := 40) 47 dX10_note_40 (by decide) (fun hc12 => ?_) (fun hc12 => ?_)
    · rw [if_pos hc12] at hf
      refine Wp.iconst (pc := 47) (0 : Int32) (by decide) dX10_note_47 ?_
      refine Wp.lo' (lo' := [(0, .ref x0)]) [0] rfl ?_
      exact w_X10_note_48 hX hx0 (gA_T h11) hf hk
    · rw [if_neg hc12] at hf
      refine Wp.iconst (pc := 43) (1 : Int32) (by decide) dX10_note_43 ?_
      refine Wp.goto (pc := 44) 48 dX10_note_44 (by decide) ?_
      refine Wp.lo' (lo' := [(0, .ref x0)]) [0] rfl ?_
      exact w_X10_note_48 hX hx0 (gA_T h11) hf hk
  · rw [if_neg hc1] at hf
    refine Wp.iconst (pc := 9) (-1 : Int32) (by decide) dX10_note_9 ?_
    cases hf
    exact hk _ _ dX10_note_10
theorem c_X10_note {T : List Dsc} {x0 : Nat} {x1 : Int32} {x2 : Int32} {x3 : Int32} {μ : Mem} {r : (Int32 × Mem)} (hx0 : T[x0]? = some (.inl 9)) (hf : F_X10_note T x0 x1 x2 x3 μ = some r) : Ct 1 yX10_note cX10_note 4 (some .int) T μ [.ref x0, .int x1, .int x2, .int x3] (some (.int r.1)) r.2 := Ct.ofI (by decide +kernel) (Nat.le_of_ble_eq_true rfl) (fun X hX hk => w_X10_note hX hx0 hf hk)
theorem dX10_breakMen_0 : decode cX10_breakMen 0 = .ok (.iconst 0, 1) := by decide +kernel
theorem dX10_breakMen_1 : decode cX10_breakMen 1 = .ok (.istore_n 2, 1) := by decide +kernel
theorem dX10_breakMen_2 : decode cX10_breakMen 2 = .ok (.iload_n 2, 1) := by decide +kernel
theorem dX10_breakMen_3 : decode cX10_breakMen 3 = .ok (.aload_n 0, 1) := by decide +kernel
theorem dX10_breakMen_4 : decode cX10_breakMen 4 = .ok (.getfield 27, 3) := by decide +kernel
theorem dX10_breakMen_7 : decode cX10_breakMen 7 = .ok (.getfield 35, 3) := by decide +kernel
theorem dX10_breakMen_10 : decode cX10_breakMen 10 = .ok (.getfield 41, 3) := by decide +kernel
theorem dX10_breakMen_13 : decode cX10_breakMen 13 = .ok (.if_icmp .ge 40, 3) := by decide +kernel
theorem dX10_breakMen_16 : decode cX10_breakMen 16 = .ok (.aload_n 0, 1) := by decide +kernel
theorem dX10_breakMen_17 : decode cX10_breakMen 17 = .ok (.getfield 21, 3) := by decide +kernel
theorem dX10_breakMen_20 : decode cX10_breakMen 20 = .ok (.iload_n 2, 1) := by decide +kernel
theorem dX10_breakMen_21 : decode cX10_breakMen 21 = .ok (.iload_n 1, 1) := by decide +kernel
theorem dX10_breakMen_22 : decode cX10_breakMen 22 = .ok (.iload_n 2, 1) := by decide +kernel
theorem dX10_breakMen_23 : decode cX10_breakMen 23 = .ok (.ishr, 1) := by decide +kernel
theorem dX10_breakMen_24 : decode cX10_breakMen 24 = .ok (.iconst 1, 1) := by decide +kernel
theorem dX10_breakMen_25 : decode cX10_breakMen 25 = .ok (.iand, 1) := by decide +kernel
theorem dX10_breakMen_26 : decode cX10_breakMen 26 = .ok (.iconst 1, 1) := by decide +kernel
theorem dX10_breakMen_27 : decode cX10_breakMen 27 = .ok (.if_icmp .ne 7, 3) := by decide +kernel
theorem dX10_breakMen_30 : decode cX10_breakMen 30 = .ok (.iconst (-1), 1) := by decide +kernel
theorem dX10_breakMen_31 : decode cX10_breakMen 31 = .ok (.goto 15, 3) := by decide +kernel
theorem dX10_breakMen_34 : decode cX10_breakMen 34 = .ok (.aload_n 0, 1) := by decide +kernel
theorem dX10_breakMen_35 : decode cX10_breakMen 35 = .ok (.getfield 27, 3) := by decide +kernel
theorem dX10_breakMen_38 : decode cX10_breakMen 38 = .ok (.getfield 35, 3) := by decide +kernel
theorem dX10_breakMen_41 : decode cX10_breakMen 41 = .ok (.getfield 103, 3) := by decide +kernel
theorem dX10_breakMen_44 : decode cX10_breakMen 44 = .ok (.iload_n 2, 1) := by decide +kernel
theorem dX10_breakMen_45 : decode cX10_breakMen 45 = .ok (.iaload, 1) := by decide +kernel
theorem dX10_breakMen_46 : decode cX10_breakMen 46 = .ok (.iastore, 1) := by decide +kernel
theorem dX10_breakMen_47 : decode cX10_breakMen 47 = .ok (.iinc 2 1, 3) := by decide +kernel
theorem dX10_breakMen_50 : decode cX10_breakMen 50 = .ok (.goto (-48), 3) := by decide +kernel
theorem dX10_breakMen_53 : decode cX10_breakMen 53 = .ok (.return_, 1) := by decide +kernel
def k_X10_breakMen_2 (X : CX) (T : List Dsc) (n1 n2 : Nat) (x0 : Nat) (x1 : Int32) (r : ((Int32 × Mem) ⊕ ((Mem)))) : Prop := match r with
  | .inl s => Wp X cX10_breakMen RX10 3 T s.2 n1 n2 2 [(0, .ref x0), (1, .int x1), (2, .int s.1)] []
  | .inr e => Wp X cX10_breakMen RX10 3 T e n1 n2 53 [] []
set_option maxHeartbeats 4000000 in
set_option maxRecDepth 100000 in
theorem w_X10_breakMen_46 {X : CX} {T : List Dsc} {n1 n2 : Nat} {x0 : Nat} {x1 : Int32} {x2 : Int32} {s0 : Nat} {ms0 : Nat} {s1 : Int32} {s2 : Int32} {μ : Mem} {r : ((Int32 × Mem) ⊕ ((Mem)))} (hX : XR X 1 n1 n2) (hx0 : T[x0]? = some (.inl 9)) (hs0 : aLen T s0 0 = some ms0) (hf : f_X10_breakMen_46 T x0 x1 x2 s0 ms0 s1 s2 μ = some r) (hk : k_X10_breakMen_2 X T n1 n2 x0 x1 r) : Wp X cX10_breakMen RX10 3 T μ n1 n2 46 [(0, .ref x0), (1, .int x1), (2, .int x2)] [.int s2, .int s1, .ref s0] := by
  unfold f_X10_breakMen_46 at hf
  obtain ⟨μ1, h2, hf⟩ := bnd hf
  refine Wp.iast (pc := 46) h2 hs0 dX10_breakMen_46 ?_
  obtain ⟨v3, h4, hf⟩ := bnd hf
  refine Wp.iincN (pc := 47) (lo' := [(0, .ref x0), (1, .int x1), (2, .int v3)]) (1 : Int32) (by decide) h4 2 rfl [1, 2, 0] rfl (by decide) dX10_breakMen_47 ?_
  refine Wp.goto (pc := 50) 2 dX10_breakMen_50 (by decide) ?_
  cases hf
  exact hk
set_option maxHeartbeats 4000000 in
set_option maxRecDepth 100000 in
theorem w_X10_breakMen_2 {X : CX} {T : List Dsc} {n1 n2 : Nat} {x0 : Nat} {x1 : Int32} {x2 : Int32} {μ : Mem} {r : ((Int32 × Mem) ⊕ ((Mem)))} (hX : XR X 1 n1 n2) (hx0 : T[x0]? = some (.inl 9)) (hf : f_X10_breakMen_2 T x0 x1 x2 μ = some r) (hk : k_X10_breakMen_2 X T n1 n2 x0 x1 r) : Wp X cX10_breakMen RX10 3 T μ n1 n2 2 [(0, .ref x0), (1, .int x1), (2, .int x2)] [] := by
  unfold f_X10_breakMen_2 at hf
  refine Wp.iload_n (pc := 2) 2 rfl rfl dX10_breakMen_2 ?_
  refine Wp.aload_n (pc := 3) 0 rfl rfl dX10_breakMen_3 ?_
  obtain ⟨r1, h2, hf⟩ := bnd hf
  refine Wp.getR (pc := 4) (gO_R h2) hx0 fk_RX10_27 rfl dX10_breakMen_4 ?_
  obtain ⟨r3, h4, hf⟩ := bnd hf
  refine Wp.getR (pc := 7) (gO_R h4) (gO_T h2) fk_RX10_35 rfl dX10_breakMen_7 ?_
  refine Wp.getI (pc := 10) (gO_T h4) fk_RX10_41 rfl dX10_breakMen_10 ?_
  refine Wp.icmp_ge (pc := 13) 53 dX10_breakMen_13 (by decide) (fun hc5 => ?_) (fun hc5 => ?_)
  · rw [if_pos hc5] at hf
    refine Wp.lo' (lo' := []) [] rfl ?_
    cases hf
    exact hk
  · rw [if_neg hc5] at hf
    refine Wp.aload_n (pc := 16) 0 rfl rfl dX10_breakMen_16 ?_
    obtain ⟨a6, h7, hf⟩ := bnd hf
    refine Wp.getR (pc := 17) (gA_R h7) hx0 fk_RX10_21 rfl dX10_breakMen_17 ?_
    refine Wp.iload_n (pc := 20) 2 rfl rfl dX10_breakMen_20 ?_
    refine Wp.iload_n (pc := 21) 1 rfl rfl dX10_breakMen_21 ?_
    refine Wp.iload_n (pc := 22) 2 rfl rfl dX10_breakMen_22 ?_
    refine Wp.ishr (pc := 23) dX10_breakMen_23 ?_
    refine Wp.iconst (pc := 24) (1 : Int32) (by decide) dX10_breakMen_24 ?_
    refine Wp.iand (pc := 25) dX10_breakMen_25 ?_
    refine Wp.iconst (pc := 26) (1 : Int32) (by decide) dX10_breakMen_26 ?_
    refine Wp.icmp_ne (pc := 27) 34 dX10_breakMen_27 (by decide) (fun hc8 => ?_) (fun hc8 => ?_)
    · rw [if_neg hc8] at hf
      refine Wp.aload_n (pc := 34) 0 rfl rfl dX10_breakMen_34 ?_
      obtain ⟨r9, h10, hf⟩ := bnd hf
      refine Wp.getR (pc := 35) (gO_R h10) hx0 fk_RX10_27 rfl dX10_breakMen_35 ?_
      obtain ⟨r11, h12, hf⟩ := bnd hf
      refine Wp.getR (pc := 38) (gO_R h12) (gO_T h10) fk_RX10_35 rfl dX10_breakMen_38 ?_
      obtain ⟨a13, h14, hf⟩ := bnd hf
      refine Wp.getR (pc := 41) (gA_R h14) (gO_T h12) fk_RX10_103 rfl dX10_breakMen_41 ?_
      refine Wp.iload_n (pc := 44) 2 rfl rfl dX10_breakMen_44 ?_
      obtain ⟨v15, h16, hf⟩ := bnd hf
      refine Wp.iald (pc := 45) h16 (gA_T h14) dX10_breakMen_45 ?_
      exact w_X10_breakMen_46 hX hx0 (gA_T h7) hf hk
    · rw [if_pos hc8] at hf
      refine Wp.iconst (pc := 30) (-1 : Int32) (by decide) dX10_breakMen_30 ?_
      refine Wp.goto (pc := 31) 46 dX10_breakMen_31 (by decide) ?_
      exact w_X10_breakMen_46 hX hx0 (gA_T h7) hf hk
theorem wl_X10_breakMen_2 {X : CX} {T : List Dsc} {n1 n2 : Nat} {x0 : Nat} {x1 : Int32} {x2 : Int32} {μ : Mem} {e : ((Mem))} (hX : XR X 1 n1 n2) (hx0 : T[x0]? = some (.inl 9)) (h : loop (g_X10_breakMen_2 T x0 x1) (x2, μ) = some e) (he : Wp X cX10_breakMen RX10 3 T e n1 n2 53 [] []) : Wp X cX10_breakMen RX10 3 T μ n1 n2 2 [(0, .ref x0), (1, .int x1), (2, .int x2)] [] :=
  loop_ok (K := k_X10_breakMen_2 X T n1 n2 x0 x1) (fun s r hf hk => w_X10_breakMen_2 hX hx0 hf hk) h he
set_option maxHeartbeats 4000000 in
set_option maxRecDepth 100000 in
theorem w_X10_breakMen {X : CX} {T : List Dsc} {n1 n2 : Nat} {x0 : Nat} {x1 : Int32} {μ : Mem} {r : Mem} (hX : XR X 1 n1 n2) (hx0 : T[x0]? = some (.inl 9)) (hf : F_X10_breakMen T x0 x1 μ = some r) (hk : FnV X cX10_breakMen RX10 3 T n1 n2 r) : Wp X cX10_breakMen RX10 3 T μ n1 n2 0 [(0, .ref x0), (1, .int x1)] [] := by
  unfold F_X10_breakMen at hf
  refine Wp.iconst (pc := 0) (0 : Int32) (by decide) dX10_breakMen_0 ?_
  refine Wp.istore_n (pc := 1) (lo' := [(0, .ref x0), (1, .int x1), (2, .int (0 : Int32))]) [1, 2, 0] rfl (by decide) rfl dX10_breakMen_1 ?_
  obtain ⟨e1, h2, hf⟩ := bnd hf
  refine wl_X10_breakMen_2 hX hx0 h2 ?_
  cases hf
  exact hk _ _ dX10_breakMen_53
theorem c_X10_breakMen {T : List Dsc} {x0 : Nat} {x1 : Int32} {μ : Mem} {r : Mem} (hx0 : T[x0]? = some (.inl 9)) (hf : F_X10_breakMen T x0 x1 μ = some r) : Ct 1 yX10_breakMen cX10_breakMen 3 none T μ [.ref x0, .int x1] none r := Ct.ofV (by decide +kernel) (Nat.le_of_ble_eq_true rfl) (fun X hX hk => w_X10_breakMen hX hx0 hf hk)
theorem dX10_lastKnown_0 : decode cX10_lastKnown 0 = .ok (.iconst (-1), 1) := by decide +kernel
theorem dX10_lastKnown_1 : decode cX10_lastKnown 1 = .ok (.istore_n 2, 1) := by decide +kernel
theorem dX10_lastKnown_2 : decode cX10_lastKnown 2 = .ok (.iconst 0, 1) := by decide +kernel
theorem dX10_lastKnown_3 : decode cX10_lastKnown 3 = .ok (.istore_n 3, 1) := by decide +kernel
theorem dX10_lastKnown_4 : decode cX10_lastKnown 4 = .ok (.iload_n 3, 1) := by decide +kernel
theorem dX10_lastKnown_5 : decode cX10_lastKnown 5 = .ok (.iload_n 1, 1) := by decide +kernel
theorem dX10_lastKnown_6 : decode cX10_lastKnown 6 = .ok (.if_icmp .ge 26, 3) := by decide +kernel
theorem dX10_lastKnown_9 : decode cX10_lastKnown 9 = .ok (.iload_n 3, 1) := by decide +kernel
theorem dX10_lastKnown_10 : decode cX10_lastKnown 10 = .ok (.bipush 20, 2) := by decide +kernel
theorem dX10_lastKnown_12 : decode cX10_lastKnown 12 = .ok (.if_icmp .ge 20, 3) := by decide +kernel
theorem dX10_lastKnown_15 : decode cX10_lastKnown 15 = .ok (.iload_n 2, 1) := by decide +kernel
theorem dX10_lastKnown_16 : decode cX10_lastKnown 16 = .ok (.aload_n 0, 1) := by decide +kernel
theorem dX10_lastKnown_17 : decode cX10_lastKnown 17 = .ok (.getfield 9, 3) := by decide +kernel
theorem dX10_lastKnown_20 : decode cX10_lastKnown 20 = .ok (.iload_n 3, 1) := by decide +kernel
theorem dX10_lastKnown_21 : decode cX10_lastKnown 21 = .ok (.iaload, 1) := by decide +kernel
theorem dX10_lastKnown_22 : decode cX10_lastKnown 22 = .ok (.invokestatic 63, 3) := by decide +kernel
theorem dX10_lastKnown_25 : decode cX10_lastKnown 25 = .ok (.istore_n 2, 1) := by decide +kernel
theorem dX10_lastKnown_26 : decode cX10_lastKnown 26 = .ok (.iinc 3 1, 3) := by decide +kernel
theorem dX10_lastKnown_29 : decode cX10_lastKnown 29 = .ok (.goto (-25), 3) := by decide +kernel
theorem dX10_lastKnown_32 : decode cX10_lastKnown 32 = .ok (.iload_n 2, 1) := by decide +kernel
theorem dX10_lastKnown_33 : decode cX10_lastKnown 33 = .ok (.ireturn, 1) := by decide +kernel
def k_X10_lastKnown_4 (X : CX) (T : List Dsc) (n1 n2 : Nat) (x0 : Nat) (x1 : Int32) (r : ((Int32 × Int32 × Mem) ⊕ ((Int32 × Mem)))) : Prop := match r with
  | .inl s => Wp X cX10_lastKnown RX10 4 T s.2.2 n1 n2 4 [(0, .ref x0), (1, .int x1), (2, .int s.1), (3, .int s.2.1)] []
  | .inr e => Wp X cX10_lastKnown RX10 4 T e.2 n1 n2 32 [(2, .int e.1)] []
set_option maxHeartbeats 4000000 in
set_option maxRecDepth 100000 in
theorem w_X10_lastKnown_4 {X : CX} {T : List Dsc} {n1 n2 : Nat} {x0 : Nat} {x1 : Int32} {x2 : Int32} {x3 : Int32} {μ : Mem} {r : ((Int32 × Int32 × Mem) ⊕ ((Int32 × Mem)))} (hX : XR X 1 n1 n2) (hx0 : T[x0]? = some (.inl 9)) (hf : f_X10_lastKnown_4 T x0 x1 x2 x3 μ = some r) (hk : k_X10_lastKnown_4 X T n1 n2 x0 x1 r) : Wp X cX10_lastKnown RX10 4 T μ n1 n2 4 [(0, .ref x0), (1, .int x1), (2, .int x2), (3, .int x3)] [] := by
  unfold f_X10_lastKnown_4 at hf
  refine Wp.iload_n (pc := 4) 3 rfl rfl dX10_lastKnown_4 ?_
  refine Wp.iload_n (pc := 5) 1 rfl rfl dX10_lastKnown_5 ?_
  refine Wp.icmp_ge (pc := 6) 32 dX10_lastKnown_6 (by decide) (fun hc1 => ?_) (fun hc1 => ?_)
  · rw [if_pos hc1] at hf
    refine Wp.lo' (lo' := [(2, .int x2)]) [2] rfl ?_
    cases hf
    exact hk
  · rw [if_neg hc1] at hf
    refine Wp.iload_n (pc := 9) 3 rfl rfl dX10_lastKnown_9 ?_
    refine Wp.bipush (pc := 10) (20 : Int32) (by decide) dX10_lastKnown_10 ?_
    refine Wp.icmp_ge (pc := 12) 32 dX10_lastKnown_12 (by decide) (fun hc2 => ?_) (fun hc2 => ?_)
    · rw [if_pos hc2] at hf
      refine Wp.lo' (lo' := [(2, .int x2)]) [2] rfl ?_
      cases hf
      exact hk
    · rw [if_neg hc2] at hf
      refine Wp.iload_n (pc := 15) 2 rfl rfl dX10_lastKnown_15 ?_
      refine Wp.aload_n (pc := 16) 0 rfl rfl dX10_lastKnown_16 ?_
      obtain ⟨a3, h4, hf⟩ := bnd hf
      refine Wp.getR (pc := 17) (gA_R h4) hx0 fk_RX10_9 rfl dX10_lastKnown_17 ?_
      refine Wp.iload_n (pc := 20) 3 rfl rfl dX10_lastKnown_20 ?_
      obtain ⟨v5, h6, hf⟩ := bnd hf
      refine Wp.iald (pc := 21) h6 (gA_T h4) dX10_lastKnown_21 ?_
      refine Wp.mmax (pc := 22) mm_RX10_63 hX (Nat.le_of_ble_eq_true rfl) (by simp) dX10_lastKnown_22 ?_
      obtain ⟨v7, h8, hf⟩ := bnd hf
      refine Wp.nI' h8 ?_
      refine Wp.istore_n (pc := 25) (lo' := [(0, .ref x0), (1, .int x1), (2, .int v7), (3, .int x3)]) [1, 2, 0, 3] rfl (by decide) rfl dX10_lastKnown_25 ?_
      obtain ⟨v9, h10, hf⟩ := bnd hf
      refine Wp.iincN (pc := 26) (lo' := [(0, .ref x0), (1, .int x1), (2, .int v7), (3, .int v9)]) (1 : Int32) (by decide) h10 3 rfl [1, 2, 3, 0] rfl (by decide) dX10_lastKnown_26 ?_
      refine Wp.goto (pc := 29) 4 dX10_lastKnown_29 (by decide) ?_
      cases hf
      exact hk
theorem wl_X10_lastKnown_4 {X : CX} {T : List Dsc} {n1 n2 : Nat} {x0 : Nat} {x1 : Int32} {x2 : Int32} {x3 : Int32} {μ : Mem} {e : ((Int32 × Mem))} (hX : XR X 1 n1 n2) (hx0 : T[x0]? = some (.inl 9)) (h : loop (g_X10_lastKnown_4 T x0 x1) (x2, x3, μ) = some e) (he : Wp X cX10_lastKnown RX10 4 T e.2 n1 n2 32 [(2, .int e.1)] []) : Wp X cX10_lastKnown RX10 4 T μ n1 n2 4 [(0, .ref x0), (1, .int x1), (2, .int x2), (3, .int x3)] [] :=
  loop_ok (K := k_X10_lastKnown_4 X T n1 n2 x0 x1) (fun s r hf hk => w_X10_lastKnown_4 hX hx0 hf hk) h he
set_option maxHeartbeats 4000000 in
set_option maxRecDepth 100000 in
theorem w_X10_lastKnown_32 {X : CX} {T : List Dsc} {n1 n2 : Nat} {x2 : Int32} {μ : Mem} {r : (Int32 × Mem)} (hX : XR X 1 n1 n2) (hf : f_X10_lastKnown_32 T x2 μ = some r) (hk : FnI X cX10_lastKnown RX10 4 T n1 n2 r) : Wp X cX10_lastKnown RX10 4 T μ n1 n2 32 [(2, .int x2)] [] := by
  unfold f_X10_lastKnown_32 at hf
  refine Wp.iload_n (pc := 32) 0 rfl rfl dX10_lastKnown_32 ?_
  cases hf
  exact hk _ _ dX10_lastKnown_33
set_option maxHeartbeats 4000000 in
set_option maxRecDepth 100000 in
theorem w_X10_lastKnown {X : CX} {T : List Dsc} {n1 n2 : Nat} {x0 : Nat} {x1 : Int32} {μ : Mem} {r : (Int32 × Mem)} (hX : XR X 1 n1 n2) (hx0 : T[x0]? = some (.inl 9)) (hf : F_X10_lastKnown T x0 x1 μ = some r) (hk : FnI X cX10_lastKnown RX10 4 T n1 n2 r) : Wp X cX10_lastKnown RX10 4 T μ n1 n2 0 [(0, .ref x0), (1, .int x1)] [] := by
  unfold F_X10_lastKnown at hf
  refine Wp.iconst (pc := 0) (-1 : Int32) (by decide) dX10_lastKnown_0 ?_
  refine Wp.istore_n (pc := 1) (lo' := [(0, .ref x0), (1, .int x1), (2, .int (-1 : Int32))]) [1, 2, 0] rfl (by decide) rfl dX10_lastKnown_1 ?_
  refine Wp.iconst (pc := 2) (0 : Int32) (by decide) dX10_lastKnown_2 ?_
  refine Wp.istore_n (pc := 3) (lo' := [(0, .ref x0), (1, .int x1), (2, .int (-1 : Int32)), (3, .int (0 : Int32))]) [1, 2, 3, 0] rfl (by decide) rfl dX10_lastKnown_3 ?_
  obtain ⟨e1, h2, hf⟩ := bnd hf
  refine wl_X10_lastKnown_4 hX hx0 h2 ?_
  exact w_X10_lastKnown_32 hX hf hk
theorem c_X10_lastKnown {T : List Dsc} {x0 : Nat} {x1 : Int32} {μ : Mem} {r : (Int32 × Mem)} (hx0 : T[x0]? = some (.inl 9)) (hf : F_X10_lastKnown T x0 x1 μ = some r) : Ct 1 yX10_lastKnown cX10_lastKnown 4 (some .int) T μ [.ref x0, .int x1] (some (.int r.1)) r.2 := Ct.ofI (by decide +kernel) (Nat.le_of_ble_eq_true rfl) (fun X hX hk => w_X10_lastKnown hX hx0 hf hk)
theorem dX10_agrees_0 : decode cX10_agrees 0 = .ok (.iconst 0, 1) := by decide +kernel
theorem dX10_agrees_1 : decode cX10_agrees 1 = .ok (.istore 4, 2) := by decide +kernel
theorem dX10_agrees_3 : decode cX10_agrees 3 = .ok (.iload 4, 2) := by decide +kernel
theorem dX10_agrees_5 : decode cX10_agrees 5 = .ok (.iload_n 3, 1) := by decide +kernel
theorem dX10_agrees_6 : decode cX10_agrees 6 = .ok (.if_icmp .ge 50, 3) := by decide +kernel
theorem dX10_agrees_9 : decode cX10_agrees 9 = .ok (.iload 4, 2) := by decide +kernel
theorem dX10_agrees_11 : decode cX10_agrees 11 = .ok (.bipush 20, 2) := by decide +kernel
theorem dX10_agrees_13 : decode cX10_agrees 13 = .ok (.if_icmp .ge 43, 3) := by decide +kernel
theorem dX10_agrees_16 : decode cX10_agrees 16 = .ok (.aload_n 0, 1) := by decide +kernel
theorem dX10_agrees_17 : decode cX10_agrees 17 = .ok (.getfield 9, 3) := by decide +kernel
theorem dX10_agrees_20 : decode cX10_agrees 20 = .ok (.iload 4, 2) := by decide +kernel
theorem dX10_agrees_22 : decode cX10_agrees 22 = .ok (.iaload, 1) := by decide +kernel
theorem dX10_agrees_23 : decode cX10_agrees 23 = .ok (.iload_n 2, 1) := by decide +kernel
theorem dX10_agrees_24 : decode cX10_agrees 24 = .ok (.if_icmp .ne 26, 3) := by decide +kernel
theorem dX10_agrees_27 : decode cX10_agrees 27 = .ok (.iload_n 1, 1) := by decide +kernel
theorem dX10_agrees_28 : decode cX10_agrees 28 = .ok (.aload_n 0, 1) := by decide +kernel
theorem dX10_agrees_29 : decode cX10_agrees 29 = .ok (.getfield 15, 3) := by decide +kernel
theorem dX10_agrees_32 : decode cX10_agrees 32 = .ok (.iload 4, 2) := by decide +kernel
theorem dX10_agrees_34 : decode cX10_agrees 34 = .ok (.iaload, 1) := by decide +kernel
theorem dX10_agrees_35 : decode cX10_agrees 35 = .ok (.ishr, 1) := by decide +kernel
theorem dX10_agrees_36 : decode cX10_agrees 36 = .ok (.iconst 1, 1) := by decide +kernel
theorem dX10_agrees_37 : decode cX10_agrees 37 = .ok (.iand, 1) := by decide +kernel
theorem dX10_agrees_38 : decode cX10_agrees 38 = .ok (.aload_n 0, 1) := by decide +kernel
theorem dX10_agrees_39 : decode cX10_agrees 39 = .ok (.getfield 18, 3) := by decide +kernel
theorem dX10_agrees_42 : decode cX10_agrees 42 = .ok (.iload 4, 2) := by decide +kernel
theorem dX10_agrees_44 : decode cX10_agrees 44 = .ok (.iaload, 1) := by decide +kernel
theorem dX10_agrees_45 : decode cX10_agrees 45 = .ok (.if_icmp .eq 5, 3) := by decide +kernel
theorem dX10_agrees_48 : decode cX10_agrees 48 = .ok (.iconst 0, 1) := by decide +kernel
theorem dX10_agrees_49 : decode cX10_agrees 49 = .ok (.ireturn, 1) := by decide +kernel
theorem dX10_agrees_50 : decode cX10_agrees 50 = .ok (.iinc 4 1, 3) := by decide +kernel
theorem dX10_agrees_53 : decode cX10_agrees 53 = .ok (.goto (-50), 3) := by decide +kernel
theorem dX10_agrees_56 : decode cX10_agrees 56 = .ok (.iconst 1, 1) := by decide +kernel
theorem dX10_agrees_57 : decode cX10_agrees 57 = .ok (.ireturn, 1) := by decide +kernel
def k_X10_agrees_3 (X : CX) (T : List Dsc) (n1 n2 : Nat) (x0 : Nat) (x1 : Int32) (x2 : Int32) (x3 : Int32) (r : ((Int32 × Mem) ⊕ ((Mem) ⊕ (Mem)))) : Prop := match r with
  | .inl s => Wp X cX10_agrees RX10 5 T s.2 n1 n2 3 [(0, .ref x0), (1, .int x1), (2, .int x2), (3, .int x3), (4, .int s.1)] []
  | .inr (.inl e) => Wp X cX10_agrees RX10 5 T e n1 n2 48 [] []
  | .inr (.inr e) => Wp X cX10_agrees RX10 5 T e n1 n2 56 [] []
set_option maxHeartbeats 4000000 in
set_option maxRecDepth 100000 in
theorem w_X10_agrees_50 {X : CX} {T : List Dsc} {n1 n2 : Nat} {x0 : Nat} {x1 : Int32} {x2 : Int32} {x3 : Int32} {x4 : Int32} {μ : Mem} {r : ((Int32 × Mem) ⊕ ((Mem) ⊕ (Mem)))} (hX : XR X 1 n1 n2) (hx0 : T[x0]? = some (.inl 9)) (hf : f_X10_agrees_50 T x0 x1 x2 x3 x4 μ = some r) (hk : k_X10_agrees_3 X T n1 n2 x0 x1 x2 x3 r) : Wp X cX10_agrees RX10 5 T μ n1 n2 50 [(0, .ref x0), (1, .int x1), (2, .int x2), (3, .int x3), (4, .int x4)] [] := by
  unfold f_X10_agrees_50 at hf
  obtain ⟨v1, h2, hf⟩ := bnd hf
  refine Wp.iincN (pc := 50) (lo' := [(0, .ref x0), (1, .int x1), (2, .int x2), (3, .int x3), (4, .int v1)]) (1 : Int32) (by decide) h2 4 rfl [1, 2, 3, 4, 0] rfl (by decide) dX10_agrees_50 ?_
  refine Wp.goto (pc := 53) 3 dX10_agrees_53 (by decide) ?_
  cases hf
  exact hk
set_option maxHeartbeats 4000000 in
set_option maxRecDepth 100000 in
theorem w_X10_agrees_3 {X : CX} {T : List Dsc} {n1 n2 : Nat} {x0 : Nat} {x1 : Int32} {x2 : Int32} {x3 : Int32} {x4 : Int32} {μ : Mem} {r : ((Int32 × Mem) ⊕ ((Mem) ⊕ (Mem)))} (hX : XR X 1 n1 n2) (hx0 : T[x0]? = some (.inl 9)) (hf : f_X10_agrees_3 T x0 x1 x2 x3 x4 μ = some r) (hk : k_X10_agrees_3 X T n1 n2 x0 x1 x2 x3 r) : Wp X cX10_agrees RX10 5 T μ n1 n2 3 [(0, .ref x0), (1, .int x1), (2, .int x2), (3, .int x3), (4, .int x4)] [] := by
  unfold f_X10_agrees_3 at hf
  refine Wp.iload (pc := 3) 4 rfl dX10_agrees_3 ?_
  refine Wp.iload_n (pc := 5) 3 rfl rfl dX10_agrees_5 ?_
  refine Wp.icmp_ge (pc := 6) 56 dX10_agrees_6 (by decide) (fun hc1 => ?_) (fun hc1 => ?_)
  · rw [if_pos hc1] at hf
    refine Wp.lo' (lo' := []) [] rfl ?_
    cases hf
    exact hk
  · rw [if_neg hc1] at hf
    refine Wp.iload (pc := 9) 4 rfl dX10_agrees_9 ?_
    refine Wp.bipush (pc := 11) (20 : Int32) (by decide) dX10_agrees_11 ?_
    refine Wp.icmp_ge (pc := 13) 56 dX10_agrees_13 (by decide) (fun hc2 => ?_) (fun hc2 => ?_)
    · rw [if_pos hc2] at hf
      refine Wp.lo' (lo' := []) [] rfl ?_
      cases hf
      exact hk
    · rw [if_neg hc2] at hf
      refine Wp.aload_n (pc := 16) 0 rfl rfl dX10_agrees_16 ?_
      obtain ⟨a3, h4, hf⟩ := bnd hf
      refine Wp.getR (pc := 17) (gA_R h4) hx0 fk_RX10_9 rfl dX10_agrees_17 ?_
      refine Wp.iload (pc := 20) 4 rfl dX10_agrees_20 ?_
      obtain ⟨v5, h6, hf⟩ := bnd hf
      refine Wp.iald (pc := 22) h6 (gA_T h4) dX10_agrees_22 ?_
      refine Wp.iload_n (pc := 23) 2 rfl rfl dX10_agrees_23 ?_
      refine Wp.icmp_ne (pc := 24) 50 dX10_agrees_24 (by decide) (fun hc7 => ?_) (fun hc7 => ?_)
      · rw [if_neg hc7] at hf
        exact w_X10_agrees_50 hX hx0 hf hk
      · rw [if_pos hc7] at hf
        refine Wp.iload_n (pc := 27) 1 rfl rfl dX10_agrees_27 ?_
        refine Wp.aload_n (pc := 28) 0 rfl rfl dX10_agrees_28 ?_
        obtain ⟨a8, h9, hf⟩ := bnd hf
        refine Wp.getR (pc := 29) (gA_R h9) hx0 fk_RX10_15 rfl dX10_agrees_29 ?_
        refine Wp.iload (pc := 32) 4 rfl dX10_agrees_32 ?_
        obtain ⟨v10, h11, hf⟩ := bnd hf
        refine Wp.iald (pc := 34) h11 (gA_T h9) dX10_agrees_34 ?_
        refine Wp.ishr (pc := 35) dX10_agrees_35 ?_
        refine Wp.iconst (pc := 36) (1 : Int32) (by decide) dX10_agrees_36 ?_
        refine Wp.iand (pc := 37) dX10_agrees_37 ?_
        refine Wp.aload_n (pc := 38) 0 rfl rfl dX10_agrees_38 ?_
        obtain ⟨a12, h13, hf⟩ := bnd hf
        refine Wp.getR (pc := 39) (gA_R h13) hx0 fk_RX10_18 rfl dX10_agrees_39 ?_
        refine Wp.iload (pc := 42) 4 rfl dX10_agrees_42 ?_
        obtain ⟨v14, h15, hf⟩ := bnd hf
        refine Wp.iald (pc := 44) h15 (gA_T h13) dX10_agrees_44 ?_
        refine Wp.icmp_eq (pc := 45) 50 dX10_agrees_45 (by decide) (fun hc16 => ?_) (fun hc16 => ?_)
        · rw [if_pos hc16] at hf
          exact w_X10_agrees_50 hX hx0 hf hk
        · rw [if_neg hc16] at hf
          refine Wp.lo' (lo' := []) [] rfl ?_
          cases hf
          exact hk
theorem wl_X10_agrees_3 {X : CX} {T : List Dsc} {n1 n2 : Nat} {x0 : Nat} {x1 : Int32} {x2 : Int32} {x3 : Int32} {x4 : Int32} {μ : Mem} {e : ((Mem) ⊕ (Mem))} (hX : XR X 1 n1 n2) (hx0 : T[x0]? = some (.inl 9)) (h : loop (g_X10_agrees_3 T x0 x1 x2 x3) (x4, μ) = some e) (he0 : ∀ e_, e = (Sum.inl e_) → Wp X cX10_agrees RX10 5 T e_ n1 n2 48 [] []) (he1 : ∀ e_, e = (Sum.inr e_) → Wp X cX10_agrees RX10 5 T e_ n1 n2 56 [] []) : Wp X cX10_agrees RX10 5 T μ n1 n2 3 [(0, .ref x0), (1, .int x1), (2, .int x2), (3, .int x3), (4, .int x4)] [] :=
  loop_ok (K := k_X10_agrees_3 X T n1 n2 x0 x1 x2 x3) (fun s r hf hk => w_X10_agrees_3 hX hx0 hf hk) h (by rcases e with e | e <;> first | exact he0 _ rfl | exact he1 _ rfl)
set_option maxHeartbeats 4000000 in
set_option maxRecDepth 100000 in
theorem w_X10_agrees_56 {X : CX} {T : List Dsc} {n1 n2 : Nat} {μ : Mem} {r : (Int32 × Mem)} (hX : XR X 1 n1 n2) (hf : f_X10_agrees_56 T μ = some r) (hk : FnZ X cX10_agrees RX10 5 T n1 n2 r) : Wp X cX10_agrees RX10 5 T μ n1 n2 56 [] [] := by
  unfold f_X10_agrees_56 at hf
  refine Wp.iconst (pc := 56) (1 : Int32) (by decide) dX10_agrees_56 ?_
  cases hf
  exact hk _ _ (Or.inr rfl) dX10_agrees_57
set_option maxHeartbeats 4000000 in
set_option maxRecDepth 100000 in
theorem w_X10_agrees {X : CX} {T : List Dsc} {n1 n2 : Nat} {x0 : Nat} {x1 : Int32} {x2 : Int32} {x3 : Int32} {μ : Mem} {r : (Int32 × Mem)} (hX : XR X 1 n1 n2) (hx0 : T[x0]? = some (.inl 9)) (hf : F_X10_agrees T x0 x1 x2 x3 μ = some r) (hk : FnZ X cX10_agrees RX10 5 T n1 n2 r) : Wp X cX10_agrees RX10 5 T μ n1 n2 0 [(0, .ref x0), (1, .int x1), (2, .int x2), (3, .int x3)] [] := by
  unfold F_X10_agrees at hf
  refine Wp.iconst (pc := 0) (0 : Int32) (by decide) dX10_agrees_0 ?_
  refine Wp.istore (pc := 1) (lo' := [(0, .ref x0), (1, .int x1), (2, .int x2), (3, .int x3), (4, .int (0 : Int32))]) [1, 2, 3, 4, 0] rfl (by decide) dX10_agrees_1 ?_
  obtain ⟨e1, h2, hf⟩ := bnd hf
  refine wl_X10_agrees_3 hX hx0 h2 (fun e1_0 hq => ?_) (fun e1_1 hq => ?_)
  · rw [hq, Sum.elim_inl] at hf
    refine Wp.iconst (pc := 48) (0 : Int32) (by decide) dX10_agrees_48 ?_
    cases hf
    exact hk _ _ (Or.inl rfl) dX10_agrees_49
  · rw [hq, Sum.elim_inr] at hf
    exact w_X10_agrees_56 hX hf hk
theorem c_X10_agrees {T : List Dsc} {x0 : Nat} {x1 : Int32} {x2 : Int32} {x3 : Int32} {μ : Mem} {r : (Int32 × Mem)} (hx0 : T[x0]? = some (.inl 9)) (hf : F_X10_agrees T x0 x1 x2 x3 μ = some r) : Ct 1 yX10_agrees cX10_agrees 5 (some .boolean) T μ [.ref x0, .int x1, .int x2, .int x3] (some (.int r.1)) r.2 := Ct.ofZ (by decide +kernel) (Nat.le_of_ble_eq_true rfl) (fun X hX hk => w_X10_agrees hX hx0 hf hk)
theorem dX10_isSuspect_0 : decode cX10_isSuspect 0 = .ok (.iload_n 1, 1) := by decide +kernel
theorem dX10_isSuspect_1 : decode cX10_isSuspect 1 = .ok (.invokestatic 68, 3) := by decide +kernel
theorem dX10_isSuspect_4 : decode cX10_isSuspect 4 = .ok (.iload_n 2, 1) := by decide +kernel
theorem dX10_isSuspect_5 : decode cX10_isSuspect 5 = .ok (.if_icmp .eq 5, 3) := by decide +kernel
theorem dX10_isSuspect_8 : decode cX10_isSuspect 8 = .ok (.iconst 0, 1) := by decide +kernel
theorem dX10_isSuspect_9 : decode cX10_isSuspect 9 = .ok (.ireturn, 1) := by decide +kernel
theorem dX10_isSuspect_10 : decode cX10_isSuspect 10 = .ok (.aload_n 0, 1) := by decide +kernel
theorem dX10_isSuspect_11 : decode cX10_isSuspect 11 = .ok (.iload_n 1, 1) := by decide +kernel
theorem dX10_isSuspect_12 : decode cX10_isSuspect 12 = .ok (.invokevirtual 74, 3) := by decide +kernel
theorem dX10_isSuspect_15 : decode cX10_isSuspect 15 = .ok (.aload_n 0, 1) := by decide +kernel
theorem dX10_isSuspect_16 : decode cX10_isSuspect 16 = .ok (.iload_n 3, 1) := by decide +kernel
theorem dX10_isSuspect_17 : decode cX10_isSuspect 17 = .ok (.invokevirtual 78, 3) := by decide +kernel
theorem dX10_isSuspect_20 : decode cX10_isSuspect 20 = .ok (.istore 4, 2) := by decide +kernel
theorem dX10_isSuspect_22 : decode cX10_isSuspect 22 = .ok (.aload_n 0, 1) := by decide +kernel
theorem dX10_isSuspect_23 : decode cX10_isSuspect 23 = .ok (.getfield 27, 3) := by decide +kernel
theorem dX10_isSuspect_26 : decode cX10_isSuspect 26 = .ok (.getfield 35, 3) := by decide +kernel
theorem dX10_isSuspect_29 : decode cX10_isSuspect 29 = .ok (.getfield 81, 3) := by decide +kernel
theorem dX10_isSuspect_32 : decode cX10_isSuspect 32 = .ok (.lstore 5, 2) := by decide +kernel
theorem dX10_isSuspect_34 : decode cX10_isSuspect 34 = .ok (.iconst 0, 1) := by decide +kernel
theorem dX10_isSuspect_35 : decode cX10_isSuspect 35 = .ok (.istore 7, 2) := by decide +kernel
theorem dX10_isSuspect_37 : decode cX10_isSuspect 37 = .ok (.iload 7, 2) := by decide +kernel
theorem dX10_isSuspect_39 : decode cX10_isSuspect 39 = .ok (.iload 4, 2) := by decide +kernel
theorem dX10_isSuspect_41 : decode cX10_isSuspect 41 = .ok (.if_icmp .gt 67, 3) := by decide +kernel
theorem dX10_isSuspect_44 : decode cX10_isSuspect 44 = .ok (.aload_n 0, 1) := by decide +kernel
theorem dX10_isSuspect_45 : decode cX10_isSuspect 45 = .ok (.aload_n 0, 1) := by decide +kernel
theorem dX10_isSuspect_46 : decode cX10_isSuspect 46 = .ok (.getfield 27, 3) := by decide +kernel
theorem dX10_isSuspect_49 : decode cX10_isSuspect 49 = .ok (.lload 5, 2) := by decide +kernel
theorem dX10_isSuspect_51 : decode cX10_isSuspect 51 = .ok (.invokevirtual 85, 3) := by decide +kernel
theorem dX10_isSuspect_54 : decode cX10_isSuspect 54 = .ok (.iload 7, 2) := by decide +kernel
theorem dX10_isSuspect_56 : decode cX10_isSuspect 56 = .ok (.iload_n 3, 1) := by decide +kernel
theorem dX10_isSuspect_57 : decode cX10_isSuspect 57 = .ok (.invokevirtual 89, 3) := by decide +kernel
theorem dX10_isSuspect_60 : decode cX10_isSuspect 60 = .ok (.ifCond .ne 5, 3) := by decide +kernel
theorem dX10_isSuspect_63 : decode cX10_isSuspect 63 = .ok (.iconst 0, 1) := by decide +kernel
theorem dX10_isSuspect_64 : decode cX10_isSuspect 64 = .ok (.ireturn, 1) := by decide +kernel
theorem dX10_isSuspect_65 : decode cX10_isSuspect 65 = .ok (.aload_n 0, 1) := by decide +kernel
theorem dX10_isSuspect_66 : decode cX10_isSuspect 66 = .ok (.getfield 27, 3) := by decide +kernel
theorem dX10_isSuspect_69 : decode cX10_isSuspect 69 = .ok (.lload 5, 2) := by decide +kernel
theorem dX10_isSuspect_71 : decode cX10_isSuspect 71 = .ok (.aload_n 0, 1) := by decide +kernel
theorem dX10_isSuspect_72 : decode cX10_isSuspect 72 = .ok (.getfield 21, 3) := by decide +kernel
theorem dX10_isSuspect_75 : decode cX10_isSuspect 75 = .ok (.aload_n 0, 1) := by decide +kernel
theorem dX10_isSuspect_76 : decode cX10_isSuspect 76 = .ok (.getfield 27, 3) := by decide +kernel
theorem dX10_isSuspect_79 : decode cX10_isSuspect 79 = .ok (.getfield 35, 3) := by decide +kernel
theorem dX10_isSuspect_82 : decode cX10_isSuspect 82 = .ok (.getfield 92, 3) := by decide +kernel
theorem dX10_isSuspect_85 : decode cX10_isSuspect 85 = .ok (.aload_n 0, 1) := by decide +kernel
theorem dX10_isSuspect_86 : decode cX10_isSuspect 86 = .ok (.getfield 27, 3) := by decide +kernel
theorem dX10_isSuspect_89 : decode cX10_isSuspect 89 = .ok (.getfield 35, 3) := by decide +kernel
theorem dX10_isSuspect_92 : decode cX10_isSuspect 92 = .ok (.iload 7, 2) := by decide +kernel
theorem dX10_isSuspect_94 : decode cX10_isSuspect 94 = .ok (.invokevirtual 95, 3) := by decide +kernel
theorem dX10_isSuspect_97 : decode cX10_isSuspect 97 = .ok (.invokevirtual 99, 3) := by decide +kernel
theorem dX10_isSuspect_100 : decode cX10_isSuspect 100 = .ok (.lstore 5, 2) := by decide +kernel
theorem dX10_isSuspect_102 : decode cX10_isSuspect 102 = .ok (.iinc 7 1, 3) := by decide +kernel
theorem dX10_isSuspect_105 : decode cX10_isSuspect 105 = .ok (.goto (-68), 3) := by decide +kernel
theorem dX10_isSuspect_108 : decode cX10_isSuspect 108 = .ok (.iconst 1, 1) := by decide +kernel
theorem dX10_isSuspect_109 : decode cX10_isSuspect 109 = .ok (.ireturn, 1) := by decide +kernel
def k_X10_isSuspect_37 (X : CX) (T : List Dsc) (n1 n2 : Nat) (x0 : Nat) (x3 : Int32) (x4 : Int32) (r : ((Int64 × Int32 × Mem) ⊕ ((Mem) ⊕ (Mem)))) : Prop := match r with
  | .inl s => Wp X cX10_isSuspect RX10 8 T s.2.2 n1 n2 37 [(0, .ref x0), (3, .int x3), (4, .int x4), (5, .long s.1), (7, .int s.2.1)] []
  | .inr (.inl e) => Wp X cX10_isSuspect RX10 8 T e n1 n2 63 [] []
  | .inr (.inr e) => Wp X cX10_isSuspect RX10 8 T e n1 n2 108 [] []
set_option maxHeartbeats 4000000 in
set_option maxRecDepth 100000 in
theorem w_X10_isSuspect_37 {X : CX} {T : List Dsc} {n1 n2 : Nat} {x0 : Nat} {x3 : Int32} {x4 : Int32} {x5 : Int64} {x7 : Int32} {μ : Mem} {r : ((Int64 × Int32 × Mem) ⊕ ((Mem) ⊕ (Mem)))} (hX : XR X 6 n1 n2) (hx0 : T[x0]? = some (.inl 9)) (hf : f_X10_isSuspect_37 T x0 x3 x4 x5 x7 μ = some r) (hk : k_X10_isSuspect_37 X T n1 n2 x0 x3 x4 r) : Wp X cX10_isSuspect RX10 8 T μ n1 n2 37 [(0, .ref x0), (3, .int x3), (4, .int x4), (5, .long x5), (7, .int x7)] [] := by
  unfold f_X10_isSuspect_37 at hf
  refine Wp.iload (pc := 37) 4 rfl dX10_isSuspect_37 ?_
  refine Wp.iload (pc := 39) 2 rfl dX10_isSuspect_39 ?_
  refine Wp.icmp_gt (pc := 41) 108 dX10_isSuspect_41 (by decide) (fun hc1 => ?_) (fun hc1 => ?_)
  · rw [if_pos hc1] at hf
    refine Wp.lo' (lo' := []) [] rfl ?_
    cases hf
    exact hk
  · rw [if_neg hc1] at hf
    refine Wp.aload_n (pc := 44) 0 rfl rfl dX10_isSuspect_44 ?_
    refine Wp.aload_n (pc := 45) 0 rfl rfl dX10_isSuspect_45 ?_
    obtain ⟨r2, h3, hf⟩ := bnd hf
    refine Wp.getR (pc := 46) (gO_R h3) hx0 fk_RX10_27 rfl dX10_isSuspect_46 ?_
    refine Wp.lload (pc := 49) 3 rfl dX10_isSuspect_49 ?_
    obtain ⟨c4, h5, hf⟩ := bnd hf
    refine Wp.callVi (pc := 51) (st := [.ref x0]) (as := [.long x5]) (c_X5_clashBits (gO_T h3) h5) ml_RX10_85 mv_X5_clashBits mb_X5_clashBits hX (Nat.le_of_ble_eq_true rfl) (by decide) rfl (gO_T h3) rfl (by simp [Value.category]) dX10_isSuspect_51 rfl ?_
    refine Wp.iload (pc := 54) 4 rfl dX10_isSuspect_54 ?_
    refine Wp.iload_n (pc := 56) 1 rfl rfl dX10_isSuspect_56 ?_
    obtain ⟨c6, h7, hf⟩ := bnd hf
    refine Wp.callVi (pc := 57) (st := []) (as := [.int c4.1, .int x7, .int x3]) (c_X10_agrees hx0 h7) ml_RX10_89 mv_X10_agrees mb_X10_agrees hX (Nat.le_of_ble_eq_true rfl) (by decide) rfl hx0 rfl (by simp) dX10_isSuspect_57 rfl ?_
    refine Wp.if_ne (pc := 60) 65 dX10_isSuspect_60 (by decide) (fun hc8 => ?_) (fun hc8 => ?_)
    · rw [if_neg hc8] at hf
      refine Wp.aload_n (pc := 65) 0 rfl rfl dX10_isSuspect_65 ?_
      obtain ⟨r9, h10, hf⟩ := bnd hf
      refine Wp.getR (pc := 66) (gO_R h10) hx0 fk_RX10_27 rfl dX10_isSuspect_66 ?_
      refine Wp.lload (pc := 69) 3 rfl dX10_isSuspect_69 ?_
      refine Wp.aload_n (pc := 71) 0 rfl rfl dX10_isSuspect_71 ?_
      obtain ⟨a11, h12, hf⟩ := bnd hf
      refine Wp.getR (pc := 72) (gA_R h12) hx0 fk_RX10_21 rfl dX10_isSuspect_72 ?_
      refine Wp.aload_n (pc := 75) 0 rfl rfl dX10_isSuspect_75 ?_
      obtain ⟨r13, h14, hf⟩ := bnd hf
      refine Wp.getR (pc := 76) (gO_R h14) hx0 fk_RX10_27 rfl dX10_isSuspect_76 ?_
      obtain ⟨r15, h16, hf⟩ := bnd hf
      refine Wp.getR (pc := 79) (gO_R h16) (gO_T h14) fk_RX10_35 rfl dX10_isSuspect_79 ?_
      refine Wp.getI (pc := 82) (gO_T h16) fk_RX10_92 rfl dX10_isSuspect_82 ?_
      refine Wp.aload_n (pc := 85) 0 rfl rfl dX10_isSuspect_85 ?_
      obtain ⟨r17, h18, hf⟩ := bnd hf
      refine Wp.getR (pc := 86) (gO_R h18) hx0 fk_RX10_27 rfl dX10_isSuspect_86 ?_
      obtain ⟨r19, h20, hf⟩ := bnd hf
      refine Wp.getR (pc := 89) (gO_R h20) (gO_T h18) fk_RX10_35 rfl dX10_isSuspect_89 ?_
      refine Wp.iload (pc := 92) 4 rfl dX10_isSuspect_92 ?_
      obtain ⟨c21, h22, hf⟩ := bnd hf
      refine Wp.callVi (pc := 94) (st := [.int (gI c6.2 r15 8), .ref a11.1, .long x5, .ref r9]) (as := [.int x7]) (c_X7_isFog (gO_T h20) h22) ml_RX10_95 mv_X7_isFog mb_X7_isFog hX (Nat.le_of_ble_eq_true rfl) (by decide) rfl (gO_T h20) rfl (by simp [Value.category]) dX10_isSuspect_94 rfl ?_
      obtain ⟨c23, h24, hf⟩ := bnd hf
      refine Wp.callVl (pc := 97) (st := []) (as := [.long x5, .ref a11.1, .int (gI c6.2 r15 8), .int c21.1]) (c_X5_stroke (gO_T h10) (gA_T h12) h24) ml_RX10_99 mv_X5_stroke mb_X5_stroke hX (Nat.le_of_ble_eq_true rfl) (by decide) rfl (gO_T h10) rfl (by simp) dX10_isSuspect_97 rfl ?_
      refine Wp.lstore (pc := 100) (lo' := [(0, .ref x0), (3, .int x3), (4, .int x4), (5, .long c23.1), (7, .int x7)]) [1, 2, 3, 0, 4] rfl (by decide) dX10_isSuspect_100 ?_
      obtain ⟨v25, h26, hf⟩ := bnd hf
      refine Wp.iincN (pc := 102) (lo' := [(0, .ref x0), (3, .int x3), (4, .int x4), (5, .long c23.1), (7, .int v25)]) (1 : Int32) (by decide) h26 4 rfl [1, 2, 3, 4, 0] rfl (by decide) dX10_isSuspect_102 ?_
      refine Wp.goto (pc := 105) 37 dX10_isSuspect_105 (by decide) ?_
      cases hf
      exact hk
    · rw [if_pos hc8] at hf
      refine Wp.lo' (lo' := []) [] rfl ?_
      cases hf
      exact hk
theorem wl_X10_isSuspect_37 {X : CX} {T : List Dsc} {n1 n2 : Nat} {x0 : Nat} {x3 : Int32} {x4 : Int32} {x5 : Int64} {x7 : Int32} {μ : Mem} {e : ((Mem) ⊕ (Mem))} (hX : XR X 6 n1 n2) (hx0 : T[x0]? = some (.inl 9)) (h : loop (g_X10_isSuspect_37 T x0 x3 x4) (x5, x7, μ) = some e) (he0 : ∀ e_, e = (Sum.inl e_) → Wp X cX10_isSuspect RX10 8 T e_ n1 n2 63 [] []) (he1 : ∀ e_, e = (Sum.inr e_) → Wp X cX10_isSuspect RX10 8 T e_ n1 n2 108 [] []) : Wp X cX10_isSuspect RX10 8 T μ n1 n2 37 [(0, .ref x0), (3, .int x3), (4, .int x4), (5, .long x5), (7, .int x7)] [] :=
  loop_ok (K := k_X10_isSuspect_37 X T n1 n2 x0 x3 x4) (fun s r hf hk => w_X10_isSuspect_37 hX hx0 hf hk) h (by rcases e with e | e <;> first | exact he0 _ rfl | exact he1 _ rfl)
set_option maxHeartbeats 4000000 in
set_option maxRecDepth 100000 in
theorem w_X10_isSuspect {X : CX} {T : List Dsc} {n1 n2 : Nat} {x0 : Nat} {x1 : Int32} {x2 : Int32} {x3 : Int32} {μ : Mem} {r : (Int32 × Mem)} (hX : XR X 6 n1 n2) (hx0 : T[x0]? = some (.inl 9)) (hf : F_X10_isSuspect T x0 x1 x2 x3 μ = some r) (hk : FnZ X cX10_isSuspect RX10 8 T n1 n2 r) : Wp X cX10_isSuspect RX10 8 T μ n1 n2 0 [(0, .ref x0), (1, .int x1), (2, .int x2), (3, .int x3)] [] := by
  unfold F_X10_isSuspect at hf
  refine Wp.iload_n (pc := 0) 1 rfl rfl dX10_isSuspect_0 ?_
  obtain ⟨c1, h2, hf⟩ := bnd hf
  refine Wp.callSi (pc := 1) (st := []) (as := [.int x1]) (c_J6_bitCount_0f7a4 h2) ml_RX10_68 ms_J6_bitCount_0f7a4 mb_J6_bitCount_0f7a4 hX (Nat.le_of_ble_eq_true rfl) (by decide) rfl (by simp) dX10_isSuspect_1 rfl ?_
  refine Wp.iload_n (pc := 4) 2 rfl rfl dX10_isSuspect_4 ?_
  refine Wp.icmp_eq (pc := 5) 10 dX10_isSuspect_5 (by decide) (fun hc3 => ?_) (fun hc3 => ?_)
  · rw [if_pos hc3] at hf
    refine Wp.aload_n (pc := 10) 0 rfl rfl dX10_isSuspect_10 ?_
    refine Wp.iload_n (pc := 11) 1 rfl rfl dX10_isSuspect_11 ?_
    obtain ⟨c4, h5, hf⟩ := bnd hf
    refine Wp.callVv (pc := 12) (st := []) (as := [.int x1]) (c_X10_breakMen hx0 h5) ml_RX10_74 mv_X10_breakMen mb_X10_breakMen hX (Nat.le_of_ble_eq_true rfl) (by decide) rfl hx0 rfl (by simp) dX10_isSuspect_12 rfl ?_
    refine Wp.aload_n (pc := 15) 0 rfl rfl dX10_isSuspect_15 ?_
    refine Wp.iload_n (pc := 16) 3 rfl rfl dX10_isSuspect_16 ?_
    obtain ⟨c6, h7, hf⟩ := bnd hf
    refine Wp.callVi (pc := 17) (st := []) (as := [.int x3]) (c_X10_lastKnown hx0 h7) ml_RX10_78 mv_X10_lastKnown mb_X10_lastKnown hX (Nat.le_of_ble_eq_true rfl) (by decide) rfl hx0 rfl (by simp) dX10_isSuspect_17 rfl ?_
    refine Wp.istore (pc := 20) (lo' := [(0, .ref x0), (3, .int x3), (4, .int c6.1)]) [1, 4, 0] rfl (by decide) dX10_isSuspect_20 ?_
    refine Wp.aload_n (pc := 22) 0 rfl rfl dX10_isSuspect_22 ?_
    obtain ⟨r8, h9, hf⟩ := bnd hf
    refine Wp.getR (pc := 23) (gO_R h9) hx0 fk_RX10_27 rfl dX10_isSuspect_23 ?_
    obtain ⟨r10, h11, hf⟩ := bnd hf
    refine Wp.getR (pc := 26) (gO_R h11) (gO_T h9) fk_RX10_35 rfl dX10_isSuspect_26 ?_
    refine Wp.getJ (pc := 29) (gO_T h11) fk_RX10_81 rfl dX10_isSuspect_29 ?_
    obtain ⟨v12, h13, hf⟩ := bnd hf
    refine Wp.nJ' h13 ?_
    refine Wp.lstore (pc := 32) (lo' := [(0, .ref x0), (3, .int x3), (4, .int c6.1), (5, .long v12)]) [1, 2, 3, 0] rfl (by decide) dX10_isSuspect_32 ?_
    refine Wp.iconst (pc := 34) (0 : Int32) (by decide) dX10_isSuspect_34 ?_
    refine Wp.istore (pc := 35) (lo' := [(0, .ref x0), (3, .int x3), (4, .int c6.1), (5, .long v12), (7, .int (0 : Int32))]) [1, 2, 3, 4, 0] rfl (by decide) dX10_isSuspect_35 ?_
    obtain ⟨e14, h15, hf⟩ := bnd hf
    refine wl_X10_isSuspect_37 hX hx0 h15 (fun e14_0 hq => ?_) (fun e14_1 hq => ?_)
    · rw [hq, Sum.elim_inl] at hf
      refine Wp.iconst (pc := 63) (0 : Int32) (by decide) dX10_isSuspect_63 ?_
      cases hf
      exact hk _ _ (Or.inl rfl) dX10_isSuspect_64
    · rw [hq, Sum.elim_inr] at hf
      refine Wp.iconst (pc := 108) (1 : Int32) (by decide) dX10_isSuspect_108 ?_
      cases hf
      exact hk _ _ (Or.inr rfl) dX10_isSuspect_109
  · rw [if_neg hc3] at hf
    refine Wp.iconst (pc := 8) (0 : Int32) (by decide) dX10_isSuspect_8 ?_
    cases hf
    exact hk _ _ (Or.inl rfl) dX10_isSuspect_9
theorem c_X10_isSuspect {T : List Dsc} {x0 : Nat} {x1 : Int32} {x2 : Int32} {x3 : Int32} {μ : Mem} {r : (Int32 × Mem)} (hx0 : T[x0]? = some (.inl 9)) (hf : F_X10_isSuspect T x0 x1 x2 x3 μ = some r) : Ct 6 yX10_isSuspect cX10_isSuspect 8 (some .boolean) T μ [.ref x0, .int x1, .int x2, .int x3] (some (.int r.1)) r.2 := Ct.ofZ (by decide +kernel) (Nat.le_of_ble_eq_true rfl) (fun X hX hk => w_X10_isSuspect hX hx0 hf hk)
theorem dX10_countSets_0 : decode cX10_countSets 0 = .ok (.iconst 0, 1) := by decide +kernel
theorem dX10_countSets_1 : decode cX10_countSets 1 = .ok (.istore_n 3, 1) := by decide +kernel
theorem dX10_countSets_2 : decode cX10_countSets 2 = .ok (.iconst 0, 1) := by decide +kernel
theorem dX10_countSets_3 : decode cX10_countSets 3 = .ok (.istore 4, 2) := by decide +kernel
theorem dX10_countSets_5 : decode cX10_countSets 5 = .ok (.iload 4, 2) := by decide +kernel
theorem dX10_countSets_7 : decode cX10_countSets 7 = .ok (.iconst 1, 1) := by decide +kernel
theorem dX10_countSets_8 : decode cX10_countSets 8 = .ok (.aload_n 0, 1) := by decide +kernel
theorem dX10_countSets_9 : decode cX10_countSets 9 = .ok (.getfield 27, 3) := by decide +kernel
theorem dX10_countSets_12 : decode cX10_countSets 12 = .ok (.getfield 35, 3) := by decide +kernel
theorem dX10_countSets_15 : decode cX10_countSets 15 = .ok (.getfield 41, 3) := by decide +kernel
theorem dX10_countSets_18 : decode cX10_countSets 18 = .ok (.ishl, 1) := by decide +kernel
theorem dX10_countSets_19 : decode cX10_countSets 19 = .ok (.if_icmp .ge 23, 3) := by decide +kernel
theorem dX10_countSets_22 : decode cX10_countSets 22 = .ok (.aload_n 0, 1) := by decide +kernel
theorem dX10_countSets_23 : decode cX10_countSets 23 = .ok (.iload 4, 2) := by decide +kernel
theorem dX10_countSets_25 : decode cX10_countSets 25 = .ok (.iload_n 1, 1) := by decide +kernel
theorem dX10_countSets_26 : decode cX10_countSets 26 = .ok (.iload_n 2, 1) := by decide +kernel
theorem dX10_countSets_27 : decode cX10_countSets 27 = .ok (.invokevirtual 46, 3) := by decide +kernel
theorem dX10_countSets_30 : decode cX10_countSets 30 = .ok (.ifCond .eq 6, 3) := by decide +kernel
theorem dX10_countSets_33 : decode cX10_countSets 33 = .ok (.iinc 3 1, 3) := by decide +kernel
theorem dX10_countSets_36 : decode cX10_countSets 36 = .ok (.iinc 4 1, 3) := by decide +kernel
theorem dX10_countSets_39 : decode cX10_countSets 39 = .ok (.goto (-34), 3) := by decide +kernel
theorem dX10_countSets_42 : decode cX10_countSets 42 = .ok (.iload_n 3, 1) := by decide +kernel
theorem dX10_countSets_43 : decode cX10_countSets 43 = .ok (.ireturn, 1) := by decide +kernel
def k_X10_countSets_5 (X : CX) (T : List Dsc) (n1 n2 : Nat) (x0 : Nat) (x1 : Int32) (x2 : Int32) (r : ((Int32 × Int32 × Mem) ⊕ ((Int32 × Mem)))) : Prop := match r with
  | .inl s => Wp X cX10_countSets RX10 5 T s.2.2 n1 n2 5 [(0, .ref x0), (1, .int x1), (2, .int x2), (3, .int s.1), (4, .int s.2.1)] []
  | .inr e => Wp X cX10_countSets RX10 5 T e.2 n1 n2 42 [(3, .int e.1)] []
set_option maxHeartbeats 4000000 in
set_option maxRecDepth 100000 in
theorem w_X10_countSets_36 {X : CX} {T : List Dsc} {n1 n2 : Nat} {x0 : Nat} {x1 : Int32} {x2 : Int32} {x3 : Int32} {x4 : Int32} {μ : Mem} {r : ((Int32 × Int32 × Mem) ⊕ ((Int32 × Mem)))} (hX : XR X 7 n1 n2) (hx0 : T[x0]? = some (.inl 9)) (hf : f_X10_countSets_36 T x0 x1 x2 x3 x4 μ = some r) (hk : k_X10_countSets_5 X T n1 n2 x0 x1 x2 r) : Wp X cX10_countSets RX10 5 T μ n1 n2 36 [(0, .ref x0), (1, .int x1), (2, .int x2), (3, .int x3), (4, .int x4)] [] := by
  unfold f_X10_countSets_36 at hf
  obtain ⟨v1, h2, hf⟩ := bnd hf
  refine Wp.iincN (pc := 36) (lo' := [(0, .ref x0), (1, .int x1), (2, .int x2), (3, .int x3), (4, .int v1)]) (1 : Int32) (by decide) h2 4 rfl [1, 2, 3, 4, 0] rfl (by decide) dX10_countSets_36 ?_
  refine Wp.goto (pc := 39) 5 dX10_countSets_39 (by decide) ?_
  cases hf
  exact hk
set_option maxHeartbeats 4000000 in
set_option maxRecDepth 100000 in
theorem w_X10_countSets_5 {X : CX} {T : List Dsc} {n1 n2 : Nat} {x0 : Nat} {x1 : Int32} {x2 : Int32} {x3 : Int32} {x4 : Int32} {μ : Mem} {r : ((Int32 × Int32 × Mem) ⊕ ((Int32 × Mem)))} (hX : XR X 7 n1 n2) (hx0 : T[x0]? = some (.inl 9)) (hf : f_X10_countSets_5 T x0 x1 x2 x3 x4 μ = some r) (hk : k_X10_countSets_5 X T n1 n2 x0 x1 x2 r) : Wp X cX10_countSets RX10 5 T μ n1 n2 5 [(0, .ref x0), (1, .int x1), (2, .int x2), (3, .int x3), (4, .int x4)] [] := by
  unfold f_X10_countSets_5 at hf
  refine Wp.iload (pc := 5) 4 rfl dX10_countSets_5 ?_
  refine Wp.iconst (pc := 7) (1 : Int32) (by decide) dX10_countSets_7 ?_
  refine Wp.aload_n (pc := 8) 0 rfl rfl dX10_countSets_8 ?_
  obtain ⟨r1, h2, hf⟩ := bnd hf
  refine Wp.getR (pc := 9) (gO_R h2) hx0 fk_RX10_27 rfl dX10_countSets_9 ?_
  obtain ⟨r3, h4, hf⟩ := bnd hf
  refine Wp.getR (pc := 12) (gO_R h4) (gO_T h2) fk_RX10_35 rfl dX10_countSets_12 ?_
  refine Wp.getI (pc := 15) (gO_T h4) fk_RX10_41 rfl dX10_countSets_15 ?_
  refine Wp.ishl (pc := 18) dX10_countSets_18 ?_
  refine Wp.icmp_ge (pc := 19) 42 dX10_countSets_19 (by decide) (fun hc5 => ?_) (fun hc5 => ?_)
  · rw [if_pos hc5] at hf
    refine Wp.lo' (lo' := [(3, .int x3)]) [3] rfl ?_
    cases hf
    exact hk
  · rw [if_neg hc5] at hf
    refine Wp.aload_n (pc := 22) 0 rfl rfl dX10_countSets_22 ?_
    refine Wp.iload (pc := 23) 4 rfl dX10_countSets_23 ?_
    refine Wp.iload_n (pc := 25) 1 rfl rfl dX10_countSets_25 ?_
    refine Wp.iload_n (pc := 26) 2 rfl rfl dX10_countSets_26 ?_
    obtain ⟨c6, h7, hf⟩ := bnd hf
    refine Wp.callVi (pc := 27) (st := []) (as := [.int x4, .int x1, .int x2]) (c_X10_isSuspect hx0 h7) ml_RX10_46 mv_X10_isSuspect mb_X10_isSuspect hX (Nat.le_of_ble_eq_true rfl) (by decide) rfl hx0 rfl (by simp) dX10_countSets_27 rfl ?_
    refine Wp.if_eq (pc := 30) 36 dX10_countSets_30 (by decide) (fun hc8 => ?_) (fun hc8 => ?_)
    · rw [if_pos hc8] at hf
      exact w_X10_countSets_36 hX hx0 hf hk
    · rw [if_neg hc8] at hf
      obtain ⟨v9, h10, hf⟩ := bnd hf
      refine Wp.iincN (pc := 33) (lo' := [(0, .ref x0), (1, .int x1), (2, .int x2), (3, .int v9), (4, .int x4)]) (1 : Int32) (by decide) h10 3 rfl [1, 2, 3, 0, 4] rfl (by decide) dX10_countSets_33 ?_
      exact w_X10_countSets_36 hX hx0 hf hk
theorem wl_X10_countSets_5 {X : CX} {T : List Dsc} {n1 n2 : Nat} {x0 : Nat} {x1 : Int32} {x2 : Int32} {x3 : Int32} {x4 : Int32} {μ : Mem} {e : ((Int32 × Mem))} (hX : XR X 7 n1 n2) (hx0 : T[x0]? = some (.inl 9)) (h : loop (g_X10_countSets_5 T x0 x1 x2) (x3, x4, μ) = some e) (he : Wp X cX10_countSets RX10 5 T e.2 n1 n2 42 [(3, .int e.1)] []) : Wp X cX10_countSets RX10 5 T μ n1 n2 5 [(0, .ref x0), (1, .int x1), (2, .int x2), (3, .int x3), (4, .int x4)] [] :=
  loop_ok (K := k_X10_countSets_5 X T n1 n2 x0 x1 x2) (fun s r hf hk => w_X10_countSets_5 hX hx0 hf hk) h he
set_option maxHeartbeats 4000000 in
set_option maxRecDepth 100000 in
theorem w_X10_countSets {X : CX} {T : List Dsc} {n1 n2 : Nat} {x0 : Nat} {x1 : Int32} {x2 : Int32} {μ : Mem} {r : (Int32 × Mem)} (hX : XR X 7 n1 n2) (hx0 : T[x0]? = some (.inl 9)) (hf : F_X10_countSets T x0 x1 x2 μ = some r) (hk : FnI X cX10_countSets RX10 5 T n1 n2 r) : Wp X cX10_countSets RX10 5 T μ n1 n2 0 [(0, .ref x0), (1, .int x1), (2, .int x2)] [] := by
  unfold F_X10_countSets at hf
  refine Wp.iconst (pc := 0) (0 : Int32) (by decide) dX10_countSets_0 ?_
  refine Wp.istore_n (pc := 1) (lo' := [(0, .ref x0), (1, .int x1), (2, .int x2), (3, .int (0 : Int32))]) [1, 2, 3, 0] rfl (by decide) rfl dX10_countSets_1 ?_
  refine Wp.iconst (pc := 2) (0 : Int32) (by decide) dX10_countSets_2 ?_
  refine Wp.istore (pc := 3) (lo' := [(0, .ref x0), (1, .int x1), (2, .int x2), (3, .int (0 : Int32)), (4, .int (0 : Int32))]) [1, 2, 3, 4, 0] rfl (by decide) dX10_countSets_3 ?_
  obtain ⟨e1, h2, hf⟩ := bnd hf
  refine wl_X10_countSets_5 hX hx0 h2 ?_
  refine Wp.iload_n (pc := 42) 0 rfl rfl dX10_countSets_42 ?_
  cases hf
  exact hk _ _ dX10_countSets_43
theorem c_X10_countSets {T : List Dsc} {x0 : Nat} {x1 : Int32} {x2 : Int32} {μ : Mem} {r : (Int32 × Mem)} (hx0 : T[x0]? = some (.inl 9)) (hf : F_X10_countSets T x0 x1 x2 μ = some r) : Ct 7 yX10_countSets cX10_countSets 5 (some .int) T μ [.ref x0, .int x1, .int x2] (some (.int r.1)) r.2 := Ct.ofI (by decide +kernel) (Nat.le_of_ble_eq_true rfl) (fun X hX hk => w_X10_countSets hX hx0 hf hk)
theorem dX10_setNumber_0 : decode cX10_setNumber 0 = .ok (.iconst 0, 1) := by decide +kernel
theorem dX10_setNumber_1 : decode cX10_setNumber 1 = .ok (.istore 4, 2) := by decide +kernel
theorem dX10_setNumber_3 : decode cX10_setNumber 3 = .ok (.iconst 0, 1) := by decide +kernel
theorem dX10_setNumber_4 : decode cX10_setNumber 4 = .ok (.istore 5, 2) := by decide +kernel
theorem dX10_setNumber_6 : decode cX10_setNumber 6 = .ok (.iload 5, 2) := by decide +kernel
theorem dX10_setNumber_8 : decode cX10_setNumber 8 = .ok (.iconst 1, 1) := by decide +kernel
theorem dX10_setNumber_9 : decode cX10_setNumber 9 = .ok (.aload_n 0, 1) := by decide +kernel
theorem dX10_setNumber_10 : decode cX10_setNumber 10 = .ok (.getfield 27, 3) := by decide +kernel
theorem dX10_setNumber_13 : decode cX10_setNumber 13 = .ok (.getfield 35, 3) := by decide +kernel
theorem dX10_setNumber_16 : decode cX10_setNumber 16 = .ok (.getfield 41, 3) := by decide +kernel
theorem dX10_setNumber_19 : decode cX10_setNumber 19 = .ok (.ishl, 1) := by decide +kernel
theorem dX10_setNumber_20 : decode cX10_setNumber 20 = .ok (.if_icmp .ge 32, 3) := by decide +kernel
theorem dX10_setNumber_23 : decode cX10_setNumber 23 = .ok (.aload_n 0, 1) := by decide +kernel
theorem dX10_setNumber_24 : decode cX10_setNumber 24 = .ok (.iload 5, 2) := by decide +kernel
theorem dX10_setNumber_26 : decode cX10_setNumber 26 = .ok (.iload_n 1, 1) := by decide +kernel
theorem dX10_setNumber_27 : decode cX10_setNumber 27 = .ok (.iload_n 2, 1) := by decide +kernel
theorem dX10_setNumber_28 : decode cX10_setNumber 28 = .ok (.invokevirtual 46, 3) := by decide +kernel
theorem dX10_setNumber_31 : decode cX10_setNumber 31 = .ok (.ifCond .eq 15, 3) := by decide +kernel
theorem dX10_setNumber_34 : decode cX10_setNumber 34 = .ok (.iload 4, 2) := by decide +kernel
theorem dX10_setNumber_36 : decode cX10_setNumber 36 = .ok (.iload_n 3, 1) := by decide +kernel
theorem dX10_setNumber_37 : decode cX10_setNumber 37 = .ok (.if_icmp .ne 6, 3) := by decide +kernel
theorem dX10_setNumber_40 : decode cX10_setNumber 40 = .ok (.iload 5, 2) := by decide +kernel
theorem dX10_setNumber_42 : decode cX10_setNumber 42 = .ok (.ireturn, 1) := by decide +kernel
theorem dX10_setNumber_43 : decode cX10_setNumber 43 = .ok (.iinc 4 1, 3) := by decide +kernel
theorem dX10_setNumber_46 : decode cX10_setNumber 46 = .ok (.iinc 5 1, 3) := by decide +kernel
theorem dX10_setNumber_49 : decode cX10_setNumber 49 = .ok (.goto (-43), 3) := by decide +kernel
theorem dX10_setNumber_52 : decode cX10_setNumber 52 = .ok (.iconst (-1), 1) := by decide +kernel
theorem dX10_setNumber_53 : decode cX10_setNumber 53 = .ok (.ireturn, 1) := by decide +kernel
def k_X10_setNumber_6 (X : CX) (T : List Dsc) (n1 n2 : Nat) (x0 : Nat) (x1 : Int32) (x2 : Int32) (x3 : Int32) (r : ((Int32 × Int32 × Mem) ⊕ ((Int32 × Mem) ⊕ (Mem)))) : Prop := match r with
  | .inl s => Wp X cX10_setNumber RX10 6 T s.2.2 n1 n2 6 [(0, .ref x0), (1, .int x1), (2, .int x2), (3, .int x3), (4, .int s.1), (5, .int s.2.1)] []
  | .inr (.inl e) => Wp X cX10_setNumber RX10 6 T e.2 n1 n2 40 [(5, .int e.1)] []
  | .inr (.inr e) => Wp X cX10_setNumber RX10 6 T e n1 n2 52 [] []
set_option maxHeartbeats 4000000 in
set_option maxRecDepth 100000 in
theorem w_X10_setNumber_46 {X : CX} {T : List Dsc} {n1 n2 : Nat} {x0 : Nat} {x1 : Int32} {x2 : Int32} {x3 : Int32} {x4 : Int32} {x5 : Int32} {μ : Mem} {r : ((Int32 × Int32 × Mem) ⊕ ((Int32 × Mem) ⊕ (Mem)))} (hX : XR X 7 n1 n2) (hx0 : T[x0]? = some (.inl 9)) (hf : f_X10_setNumber_46 T x0 x1 x2 x3 x4 x5 μ = some r) (hk : k_X10_setNumber_6 X T n1 n2 x0 x1 x2 x3 r) : Wp X cX10_setNumber RX10 6 T μ n1 n2 46 [(0, .ref x0), (1, .int x1), (2, .int x2), (3, .int x3), (4, .int x4), (5, .int x5)] [] := by
  unfold f_X10_setNumber_46 at hf
  obtain ⟨v1, h2, hf⟩ := bnd hf
  refine Wp.iincN (pc := 46) (lo' := [(0, .ref x0), (1, .int x1), (2, .int x2), (3, .int x3), (4, .int x4), (5, .int v1)]) (1 : Int32) (by decide) h2 5 rfl [1, 2, 3, 4, 5, 0] rfl (by decide) dX10_setNumber_46 ?_
  refine Wp.goto (pc := 49) 6 dX10_setNumber_49 (by decide) ?_
  cases hf
  exact hk
set_option maxHeartbeats 4000000 in
set_option maxRecDepth 100000 in
theorem w_X10_setNumber_6 {X : CX} {T : List Dsc} {n1 n2 : Nat} {x0 : Nat} {x1 : Int32} {x2 : Int32} {x3 : Int32} {x4 : Int32} {x5 : Int32} {μ : Mem} {r : ((Int32 × Int32 × Mem) ⊕ ((Int32 × Mem) ⊕ (Mem)))} (hX : XR X 7 n1 n2) (hx0 : T[x0]? = some (.inl 9)) (hf : f_X10_setNumber_6 T x0 x1 x2 x3 x4 x5 μ = some r) (hk : k_X10_setNumber_6 X T n1 n2 x0 x1 x2 x3 r) : Wp X cX10_setNumber RX10 6 T μ n1 n2 6 [(0, .ref x0), (1, .int x1), (2, .int x2), (3, .int x3), (4, .int x4), (5, .int x5)] [] := by
  unfold f_X10_setNumber_6 at hf
  refine Wp.iload (pc := 6) 5 rfl dX10_setNumber_6 ?_
  refine Wp.iconst (pc := 8) (1 : Int32) (by decide) dX10_setNumber_8 ?_
  refine Wp.aload_n (pc := 9) 0 rfl rfl dX10_setNumber_9 ?_
  obtain ⟨r1, h2, hf⟩ := bnd hf
  refine Wp.getR (pc := 10) (gO_R h2) hx0 fk_RX10_27 rfl dX10_setNumber_10 ?_
  obtain ⟨r3, h4, hf⟩ := bnd hf
  refine Wp.getR (pc := 13) (gO_R h4) (gO_T h2) fk_RX10_35 rfl dX10_setNumber_13 ?_
  refine Wp.getI (pc := 16) (gO_T h4) fk_RX10_41 rfl dX10_setNumber_16 ?_
  refine Wp.ishl (pc := 19) dX10_setNumber_19 ?_
  refine Wp.icmp_ge (pc := 20) 52 dX10_setNumber_20 (by decide) (fun hc5 => ?_) (fun hc5 => ?_)
  · rw [if_pos hc5] at hf
    refine Wp.lo' (lo' := []) [] rfl ?_
    cases hf
    exact hk
  · rw [if_neg hc5] at hf
    refine Wp.aload_n (pc := 23) 0 rfl rfl dX10_setNumber_23 ?_
    refine Wp.iload (pc := 24) 5 rfl dX10_setNumber_24 ?_
    refine Wp.iload_n (pc := 26) 1 rfl rfl dX10_setNumber_26 ?_
    refine Wp.iload_n (pc := 27) 2 rfl rfl dX10_setNumber_27 ?_
    obtain ⟨c6, h7, hf⟩ := bnd hf
    refine Wp.callVi (pc := 28) (st := []) (as := [.int x5, .int x1, .int x2]) (c_X10_isSuspect hx0 h7) ml_RX10_46 mv_X10_isSuspect mb_X10_isSuspect hX (Nat.le_of_ble_eq_true rfl) (by decide) rfl hx0 rfl (by simp) dX10_setNumber_28 rfl ?_
    refine Wp.if_eq (pc := 31) 46 dX10_setNumber_31 (by decide) (fun hc8 => ?_) (fun hc8 => ?_)
    · rw [if_pos hc8] at hf
      exact w_X10_setNumber_46 hX hx0 hf hk
    · rw [if_neg hc8] at hf
      refine Wp.iload (pc := 34) 4 rfl dX10_setNumber_34 ?_
      refine Wp.iload_n (pc := 36) 3 rfl rfl dX10_setNumber_36 ?_
      refine Wp.icmp_ne (pc := 37) 43 dX10_setNumber_37 (by decide) (fun hc9 => ?_) (fun hc9 => ?_)
      · rw [if_neg hc9] at hf
        obtain ⟨v10, h11, hf⟩ := bnd hf
        refine Wp.iincN (pc := 43) (lo' := [(0, .ref x0), (1, .int x1), (2, .int x2), (3, .int x3), (4, .int v10), (5, .int x5)]) (1 : Int32) (by decide) h11 4 rfl [1, 2, 3, 4, 0, 5] rfl (by decide) dX10_setNumber_43 ?_
        exact w_X10_setNumber_46 hX hx0 hf hk
      · rw [if_pos hc9] at hf
        refine Wp.lo' (lo' := [(5, .int x5)]) [5] rfl ?_
        cases hf
        exact hk
theorem wl_X10_setNumber_6 {X : CX} {T : List Dsc} {n1 n2 : Nat} {x0 : Nat} {x1 : Int32} {x2 : Int32} {x3 : Int32} {x4 : Int32} {x5 : Int32} {μ : Mem} {e : ((Int32 × Mem) ⊕ (Mem))} (hX : XR X 7 n1 n2) (hx0 : T[x0]? = some (.inl 9)) (h : loop (g_X10_setNumber_6 T x0 x1 x2 x3) (x4, x5, μ) = some e) (he0 : ∀ e_, e = (Sum.inl e_) → Wp X cX10_setNumber RX10 6 T e_.2 n1 n2 40 [(5, .int e_.1)] []) (he1 : ∀ e_, e = (Sum.inr e_) → Wp X cX10_setNumber RX10 6 T e_ n1 n2 52 [] []) : Wp X cX10_setNumber RX10 6 T μ n1 n2 6 [(0, .ref x0), (1, .int x1), (2, .int x2), (3, .int x3), (4, .int x4), (5, .int x5)] [] :=
  loop_ok (K := k_X10_setNumber_6 X T n1 n2 x0 x1 x2 x3) (fun s r hf hk => w_X10_setNumber_6 hX hx0 hf hk) h (by rcases e with e | e <;> first | exact he0 _ rfl | exact he1 _ rfl)
set_option maxHeartbeats 4000000 in
set_option maxRecDepth 100000 in
theorem w_X10_setNumber {X : CX} {T : List Dsc} {n1 n2 : Nat} {x0 : Nat} {x1 : Int32} {x2 : Int32} {x3 : Int32} {μ : Mem} {r : (Int32 × Mem)} (hX : XR X 7 n1 n2) (hx0 : T[x0]? = some (.inl 9)) (hf : F_X10_setNumber T x0 x1 x2 x3 μ = some r) (hk : FnI X cX10_setNumber RX10 6 T n1 n2 r) : Wp X cX10_setNumber RX10 6 T μ n1 n2 0 [(0, .ref x0), (1, .int x1), (2, .int x2), (3, .int x3)] [] := by
  unfold F_X10_setNumber at hf
  refine Wp.iconst (pc := 0) (0 : Int32) (by decide) dX10_setNumber_0 ?_
  refine Wp.istore (pc := 1) (lo' := [(0, .ref x0), (1, .int x1), (2, .int x2), (3, .int x3), (4, .int (0 : Int32))]) [1, 2, 3, 4, 0] rfl (by decide) dX10_setNumber_1 ?_
  refine Wp.iconst (pc := 3) (0 : Int32) (by decide) dX10_setNumber_3 ?_
  refine Wp.istore (pc := 4) (lo' := [(0, .ref x0), (1, .int x1), (2, .int x2), (3, .int x3), (4, .int (0 : Int32)), (5, .int (0 : Int32))]) [1, 2, 3, 4, 5, 0] rfl (by decide) dX10_setNumber_4 ?_
  obtain ⟨e1, h2, hf⟩ := bnd hf
  refine wl_X10_setNumber_6 hX hx0 h2 (fun e1_0 hq => ?_) (fun e1_1 hq => ?_)
  · rw [hq, Sum.elim_inl] at hf
    refine Wp.iload (pc := 40) 0 rfl dX10_setNumber_40 ?_
    cases hf
    exact hk _ _ dX10_setNumber_42
  · rw [hq, Sum.elim_inr] at hf
    refine Wp.iconst (pc := 52) (-1 : Int32) (by decide) dX10_setNumber_52 ?_
    cases hf
    exact hk _ _ dX10_setNumber_53
theorem c_X10_setNumber {T : List Dsc} {x0 : Nat} {x1 : Int32} {x2 : Int32} {x3 : Int32} {μ : Mem} {r : (Int32 × Mem)} (hx0 : T[x0]? = some (.inl 9)) (hf : F_X10_setNumber T x0 x1 x2 x3 μ = some r) : Ct 7 yX10_setNumber cX10_setNumber 6 (some .int) T μ [.ref x0, .int x1, .int x2, .int x3] (some (.int r.1)) r.2 := Ct.ofI (by decide +kernel) (Nat.le_of_ble_eq_true rfl) (fun X hX hk => w_X10_setNumber hX hx0 hf hk)
theorem dX10_clashesAt_0 : decode cX10_clashesAt 0 = .ok (.aload_n 0, 1) := by decide +kernel
theorem dX10_clashesAt_1 : decode cX10_clashesAt 1 = .ok (.iload_n 1, 1) := by decide +kernel
theorem dX10_clashesAt_2 : decode cX10_clashesAt 2 = .ok (.invokevirtual 74, 3) := by decide +kernel
theorem dX10_clashesAt_5 : decode cX10_clashesAt 5 = .ok (.aload_n 0, 1) := by decide +kernel
theorem dX10_clashesAt_6 : decode cX10_clashesAt 6 = .ok (.getfield 27, 3) := by decide +kernel
theorem dX10_clashesAt_9 : decode cX10_clashesAt 9 = .ok (.getfield 35, 3) := by decide +kernel
theorem dX10_clashesAt_12 : decode cX10_clashesAt 12 = .ok (.getfield 81, 3) := by decide +kernel
theorem dX10_clashesAt_15 : decode cX10_clashesAt 15 = .ok (.lstore_n 3, 1) := by decide +kernel
theorem dX10_clashesAt_16 : decode cX10_clashesAt 16 = .ok (.iconst 0, 1) := by decide +kernel
theorem dX10_clashesAt_17 : decode cX10_clashesAt 17 = .ok (.istore 5, 2) := by decide +kernel
theorem dX10_clashesAt_19 : decode cX10_clashesAt 19 = .ok (.iload 5, 2) := by decide +kernel
theorem dX10_clashesAt_21 : decode cX10_clashesAt 21 = .ok (.iload_n 2, 1) := by decide +kernel
theorem dX10_clashesAt_22 : decode cX10_clashesAt 22 = .ok (.if_icmp .ge 44, 3) := by decide +kernel
theorem dX10_clashesAt_25 : decode cX10_clashesAt 25 = .ok (.aload_n 0, 1) := by decide +kernel
theorem dX10_clashesAt_26 : decode cX10_clashesAt 26 = .ok (.getfield 27, 3) := by decide +kernel
theorem dX10_clashesAt_29 : decode cX10_clashesAt 29 = .ok (.lload_n 3, 1) := by decide +kernel
theorem dX10_clashesAt_30 : decode cX10_clashesAt 30 = .ok (.aload_n 0, 1) := by decide +kernel
theorem dX10_clashesAt_31 : decode cX10_clashesAt 31 = .ok (.getfield 21, 3) := by decide +kernel
theorem dX10_clashesAt_34 : decode cX10_clashesAt 34 = .ok (.aload_n 0, 1) := by decide +kernel
theorem dX10_clashesAt_35 : decode cX10_clashesAt 35 = .ok (.getfield 27, 3) := by decide +kernel
theorem dX10_clashesAt_38 : decode cX10_clashesAt 38 = .ok (.getfield 35, 3) := by decide +kernel
theorem dX10_clashesAt_41 : decode cX10_clashesAt 41 = .ok (.getfield 92, 3) := by decide +kernel
theorem dX10_clashesAt_44 : decode cX10_clashesAt 44 = .ok (.aload_n 0, 1) := by decide +kernel
theorem dX10_clashesAt_45 : decode cX10_clashesAt 45 = .ok (.getfield 27, 3) := by decide +kernel
theorem dX10_clashesAt_48 : decode cX10_clashesAt 48 = .ok (.getfield 35, 3) := by decide +kernel
theorem dX10_clashesAt_51 : decode cX10_clashesAt 51 = .ok (.iload 5, 2) := by decide +kernel
theorem dX10_clashesAt_53 : decode cX10_clashesAt 53 = .ok (.invokevirtual 95, 3) := by decide +kernel
theorem dX10_clashesAt_56 : decode cX10_clashesAt 56 = .ok (.invokevirtual 99, 3) := by decide +kernel
theorem dX10_clashesAt_59 : decode cX10_clashesAt 59 = .ok (.lstore_n 3, 1) := by decide +kernel
theorem dX10_clashesAt_60 : decode cX10_clashesAt 60 = .ok (.iinc 5 1, 3) := by decide +kernel
theorem dX10_clashesAt_63 : decode cX10_clashesAt 63 = .ok (.goto (-44), 3) := by decide +kernel
theorem dX10_clashesAt_66 : decode cX10_clashesAt 66 = .ok (.aload_n 0, 1) := by decide +kernel
theorem dX10_clashesAt_67 : decode cX10_clashesAt 67 = .ok (.getfield 27, 3) := by decide +kernel
theorem dX10_clashesAt_70 : decode cX10_clashesAt 70 = .ok (.lload_n 3, 1) := by decide +kernel
theorem dX10_clashesAt_71 : decode cX10_clashesAt 71 = .ok (.invokevirtual 85, 3) := by decide +kernel
theorem dX10_clashesAt_74 : decode cX10_clashesAt 74 = .ok (.ireturn, 1) := by decide +kernel
def k_X10_clashesAt_19 (X : CX) (T : List Dsc) (n1 n2 : Nat) (x0 : Nat) (x2 : Int32) (r : ((Int64 × Int32 × Mem) ⊕ ((Int64 × Mem)))) : Prop := match r with
  | .inl s => Wp X cX10_clashesAt RX10 6 T s.2.2 n1 n2 19 [(0, .ref x0), (2, .int x2), (3, .long s.1), (5, .int s.2.1)] []
  | .inr e => Wp X cX10_clashesAt RX10 6 T e.2 n1 n2 66 [(0, .ref x0), (3, .long e.1)] []
set_option maxHeartbeats 4000000 in
set_option maxRecDepth 100000 in
theorem w_X10_clashesAt_19 {X : CX} {T : List Dsc} {n1 n2 : Nat} {x0 : Nat} {x2 : Int32} {x3 : Int64} {x5 : Int32} {μ : Mem} {r : ((Int64 × Int32 × Mem) ⊕ ((Int64 × Mem)))} (hX : XR X 6 n1 n2) (hx0 : T[x0]? = some (.inl 9)) (hf : f_X10_clashesAt_19 T x0 x2 x3 x5 μ = some r) (hk : k_X10_clashesAt_19 X T n1 n2 x0 x2 r) : Wp X cX10_clashesAt RX10 6 T μ n1 n2 19 [(0, .ref x0), (2, .int x2), (3, .long x3), (5, .int x5)] [] := by
  unfold f_X10_clashesAt_19 at hf
  refine Wp.iload (pc := 19) 3 rfl dX10_clashesAt_19 ?_
  refine Wp.iload_n (pc := 21) 1 rfl rfl dX10_clashesAt_21 ?_
  refine Wp.icmp_ge (pc := 22) 66 dX10_clashesAt_22 (by decide) (fun hc1 => ?_) (fun hc1 => ?_)
  · rw [if_pos hc1] at hf
    refine Wp.lo' (lo' := [(0, .ref x0), (3, .long x3)]) [0, 2] rfl ?_
    cases hf
    exact hk
  · rw [if_neg hc1] at hf
    refine Wp.aload_n (pc := 25) 0 rfl rfl dX10_clashesAt_25 ?_
    obtain ⟨r2, h3, hf⟩ := bnd hf
    refine Wp.getR (pc := 26) (gO_R h3) hx0 fk_RX10_27 rfl dX10_clashesAt_26 ?_
    refine Wp.lload_n (pc := 29) 2 rfl rfl dX10_clashesAt_29 ?_
    refine Wp.aload_n (pc := 30) 0 rfl rfl dX10_clashesAt_30 ?_
    obtain ⟨a4, h5, hf⟩ := bnd hf
    refine Wp.getR (pc := 31) (gA_R h5) hx0 fk_RX10_21 rfl dX10_clashesAt_31 ?_
    refine Wp.aload_n (pc := 34) 0 rfl rfl dX10_clashesAt_34 ?_
    obtain ⟨r6, h7, hf⟩ := bnd hf
    refine Wp.getR (pc := 35) (gO_R h7) hx0 fk_RX10_27 rfl dX10_clashesAt_35 ?_
    obtain ⟨r8, h9, hf⟩ := bnd hf
    refine Wp.getR (pc := 38) (gO_R h9) (gO_T h7) fk_RX10_35 rfl dX10_clashesAt_38 ?_
    refine Wp.getI (pc := 41) (gO_T h9) fk_RX10_92 rfl dX10_clashesAt_41 ?_
    refine Wp.aload_n (pc := 44) 0 rfl rfl dX10_clashesAt_44 ?_
    obtain ⟨r10, h11, hf⟩ := bnd hf
    refine Wp.getR (pc := 45) (gO_R h11) hx0 fk_RX10_27 rfl dX10_clashesAt_45 ?_
    obtain ⟨r12, h13, hf⟩ := bnd hf
    refine Wp.getR (pc := 48) (gO_R h13) (gO_T h11) fk_RX10_35 rfl dX10_clashesAt_48 ?_
    refine Wp.iload (pc := 51) 3 rfl dX10_clashesAt_51 ?_
    obtain ⟨c14, h15, hf⟩ := bnd hf
    refine Wp.callVi (pc := 53) (st := [.int (gI μ r8 8), .ref a4.1, .long x3, .ref r2]) (as := [.int x5]) (c_X7_isFog (gO_T h13) h15) ml_RX10_95 mv_X7_isFog mb_X7_isFog hX (Nat.le_of_ble_eq_true rfl) (by decide) rfl (gO_T h13) rfl (by simp [Value.category]) dX10_clashesAt_53 rfl ?_
    obtain ⟨c16, h17, hf⟩ := bnd hf
    refine Wp.callVl (pc := 56) (st := []) (as := [.long x3, .ref a4.1, .int (gI μ r8 8), .int c14.1]) (c_X5_stroke (gO_T h3) (gA_T h5) h17) ml_RX10_99 mv_X5_stroke mb_X5_stroke hX (Nat.le_of_ble_eq_true rfl) (by decide) rfl (gO_T h3) rfl (by simp) dX10_clashesAt_56 rfl ?_
    refine Wp.lstore_n (pc := 59) (lo' := [(0, .ref x0), (2, .int x2), (3, .long c16.1), (5, .int x5)]) [1, 2, 0, 3] rfl (by decide) rfl dX10_clashesAt_59 ?_
    obtain ⟨v18, h19, hf⟩ := bnd hf
    refine Wp.iincN (pc := 60) (lo' := [(0, .ref x0), (2, .int x2), (3, .long c16.1), (5, .int v18)]) (1 : Int32) (by decide) h19 3 rfl [1, 2, 3, 0] rfl (by decide) dX10_clashesAt_60 ?_
    refine Wp.goto (pc := 63) 19 dX10_clashesAt_63 (by decide) ?_
    cases hf
    exact hk
theorem wl_X10_clashesAt_19 {X : CX} {T : List Dsc} {n1 n2 : Nat} {x0 : Nat} {x2 : Int32} {x3 : Int64} {x5 : Int32} {μ : Mem} {e : ((Int64 × Mem))} (hX : XR X 6 n1 n2) (hx0 : T[x0]? = some (.inl 9)) (h : loop (g_X10_clashesAt_19 T x0 x2) (x3, x5, μ) = some e) (he : Wp X cX10_clashesAt RX10 6 T e.2 n1 n2 66 [(0, .ref x0), (3, .long e.1)] []) : Wp X cX10_clashesAt RX10 6 T μ n1 n2 19 [(0, .ref x0), (2, .int x2), (3, .long x3), (5, .int x5)] [] :=
  loop_ok (K := k_X10_clashesAt_19 X T n1 n2 x0 x2) (fun s r hf hk => w_X10_clashesAt_19 hX hx0 hf hk) h he
set_option maxHeartbeats 4000000 in
set_option maxRecDepth 100000 in
theorem w_X10_clashesAt {X : CX} {T : List Dsc} {n1 n2 : Nat} {x0 : Nat} {x1 : Int32} {x2 : Int32} {μ : Mem} {r : (Int32 × Mem)} (hX : XR X 6 n1 n2) (hx0 : T[x0]? = some (.inl 9)) (hf : F_X10_clashesAt T x0 x1 x2 μ = some r) (hk : FnI X cX10_clashesAt RX10 6 T n1 n2 r) : Wp X cX10_clashesAt RX10 6 T μ n1 n2 0 [(0, .ref x0), (1, .int x1), (2, .int x2)] [] := by
  unfold F_X10_clashesAt at hf
  refine Wp.aload_n (pc := 0) 0 rfl rfl dX10_clashesAt_0 ?_
  refine Wp.iload_n (pc := 1) 1 rfl rfl dX10_clashesAt_1 ?_
  obtain ⟨c1, h2, hf⟩ := bnd hf
  refine Wp.callVv (pc := 2) (st := []) (as := [.int x1]) (c_X10_breakMen hx0 h2) ml_RX10_74 mv_X10_breakMen mb_X10_breakMen hX (Nat.le_of_ble_eq_true rfl) (by decide) rfl hx0 rfl (by simp) dX10_clashesAt_2 rfl ?_
  refine Wp.aload_n (pc := 5) 0 rfl rfl dX10_clashesAt_5 ?_
  obtain ⟨r3, h4, hf⟩ := bnd hf
  refine Wp.getR (pc := 6) (gO_R h4) hx0 fk_RX10_27 rfl dX10_clashesAt_6 ?_
  obtain ⟨r5, h6, hf⟩ := bnd hf
  refine Wp.getR (pc := 9) (gO_R h6) (gO_T h4) fk_RX10_35 rfl dX10_clashesAt_9 ?_
  refine Wp.getJ (pc := 12) (gO_T h6) fk_RX10_81 rfl dX10_clashesAt_12 ?_
  obtain ⟨v7, h8, hf⟩ := bnd hf
  refine Wp.nJ' h8 ?_
  refine Wp.lstore_n (pc := 15) (lo' := [(0, .ref x0), (2, .int x2), (3, .long v7)]) [1, 3, 0] rfl (by decide) rfl dX10_clashesAt_15 ?_
  refine Wp.iconst (pc := 16) (0 : Int32) (by decide) dX10_clashesAt_16 ?_
  refine Wp.istore (pc := 17) (lo' := [(0, .ref x0), (2, .int x2), (3, .long v7), (5, .int (0 : Int32))]) [1, 2, 3, 0] rfl (by decide) dX10_clashesAt_17 ?_
  obtain ⟨e9, h10, hf⟩ := bnd hf
  refine wl_X10_clashesAt_19 hX hx0 h10 ?_
  refine Wp.aload_n (pc := 66) 0 rfl rfl dX10_clashesAt_66 ?_
  obtain ⟨r11, h12, hf⟩ := bnd hf
  refine Wp.getR (pc := 67) (gO_R h12) hx0 fk_RX10_27 rfl dX10_clashesAt_67 ?_
  refine Wp.lload_n (pc := 70) 1 rfl rfl dX10_clashesAt_70 ?_
  obtain ⟨c13, h14, hf⟩ := bnd hf
  refine Wp.callVi (pc := 71) (st := []) (as := [.long e9.1]) (c_X5_clashBits (gO_T h12) h14) ml_RX10_85 mv_X5_clashBits mb_X5_clashBits hX (Nat.le_of_ble_eq_true rfl) (by decide) rfl (gO_T h12) rfl (by simp) dX10_clashesAt_71 rfl ?_
  cases hf
  exact hk _ _ dX10_clashesAt_74
theorem c_X10_clashesAt {T : List Dsc} {x0 : Nat} {x1 : Int32} {x2 : Int32} {μ : Mem} {r : (Int32 × Mem)} (hx0 : T[x0]? = some (.inl 9)) (hf : F_X10_clashesAt T x0 x1 x2 μ = some r) : Ct 6 yX10_clashesAt cX10_clashesAt 6 (some .int) T μ [.ref x0, .int x1, .int x2] (some (.int r.1)) r.2 := Ct.ofI (by decide +kernel) (Nat.le_of_ble_eq_true rfl) (fun X hX hk => w_X10_clashesAt hX hx0 hf hk)
theorem dX10_greaterPart_0 : decode cX10_greaterPart 0 = .ok (.aload_n 0, 1) := by decide +kernel
theorem dX10_greaterPart_1 : decode cX10_greaterPart 1 = .ok (.getfield 24, 3) := by decide +kernel
theorem dX10_greaterPart_4 : decode cX10_greaterPart 4 = .ok (.iload_n 1, 1) := by decide +kernel
theorem dX10_greaterPart_5 : decode cX10_greaterPart 5 = .ok (.iaload, 1) := by decide +kernel
theorem dX10_greaterPart_6 : decode cX10_greaterPart 6 = .ok (.iload_n 2, 1) := by decide +kernel
theorem dX10_greaterPart_7 : decode cX10_greaterPart 7 = .ok (.aload_n 0, 1) := by decide +kernel
theorem dX10_greaterPart_8 : decode cX10_greaterPart 8 = .ok (.getfield 24, 3) := by decide +kernel
theorem dX10_greaterPart_11 : decode cX10_greaterPart 11 = .ok (.iload_n 1, 1) := by decide +kernel
theorem dX10_greaterPart_12 : decode cX10_greaterPart 12 = .ok (.iaload, 1) := by decide +kernel
theorem dX10_greaterPart_13 : decode cX10_greaterPart 13 = .ok (.isub, 1) := by decide +kernel
theorem dX10_greaterPart_14 : decode cX10_greaterPart 14 = .ok (.invokestatic 63, 3) := by decide +kernel
theorem dX10_greaterPart_17 : decode cX10_greaterPart 17 = .ok (.ireturn, 1) := by decide +kernel
set_option maxHeartbeats 4000000 in
set_option maxRecDepth 100000 in
theorem w_X10_greaterPart {X : CX} {T : List Dsc} {n1 n2 : Nat} {x0 : Nat} {x1 : Int32} {x2 : Int32} {μ : Mem} {r : (Int32 × Mem)} (hX : XR X 1 n1 n2) (hx0 : T[x0]? = some (.inl 9)) (hf : F_X10_greaterPart T x0 x1 x2 μ = some r) (hk : FnI X cX10_greaterPart RX10 3 T n1 n2 r) : Wp X cX10_greaterPart RX10 3 T μ n1 n2 0 [(0, .ref x0), (1, .int x1), (2, .int x2)] [] := by
  unfold F_X10_greaterPart at hf
  refine Wp.aload_n (pc := 0) 0 rfl rfl dX10_greaterPart_0 ?_
  obtain ⟨a1, h2, hf⟩ := bnd hf
  refine Wp.getR (pc := 1) (gA_R h2) hx0 fk_RX10_24 rfl dX10_greaterPart_1 ?_
  refine Wp.iload_n (pc := 4) 1 rfl rfl dX10_greaterPart_4 ?_
  obtain ⟨v3, h4, hf⟩ := bnd hf
  refine Wp.iald (pc := 5) h4 (gA_T h2) dX10_greaterPart_5 ?_
  refine Wp.iload_n (pc := 6) 2 rfl rfl dX10_greaterPart_6 ?_
  refine Wp.aload_n (pc := 7) 0 rfl rfl dX10_greaterPart_7 ?_
  obtain ⟨a5, h6, hf⟩ := bnd hf
  refine Wp.getR (pc := 8) (gA_R h6) hx0 fk_RX10_24 rfl dX10_greaterPart_8 ?_
  refine Wp.iload_n (pc := 11) 1 rfl rfl dX10_greaterPart_11 ?_
  obtain ⟨v7, h8, hf⟩ := bnd hf
  refine Wp.iald (pc := 12) h8 (gA_T h6) dX10_greaterPart_12 ?_
  refine Wp.isub (pc := 13) dX10_greaterPart_13 ?_
  refine Wp.mmax (pc := 14) mm_RX10_63 hX (Nat.le_of_ble_eq_true rfl) (by simp) dX10_greaterPart_14 ?_
  cases hf
  exact hk _ _ dX10_greaterPart_17
theorem c_X10_greaterPart {T : List Dsc} {x0 : Nat} {x1 : Int32} {x2 : Int32} {μ : Mem} {r : (Int32 × Mem)} (hx0 : T[x0]? = some (.inl 9)) (hf : F_X10_greaterPart T x0 x1 x2 μ = some r) : Ct 1 yX10_greaterPart cX10_greaterPart 3 (some .int) T μ [.ref x0, .int x1, .int x2] (some (.int r.1)) r.2 := Ct.ofI (by decide +kernel) (Nat.le_of_ble_eq_true rfl) (fun X hX hk => w_X10_greaterPart hX hx0 hf hk)
theorem dX10_evenestBench_0 : decode cX10_evenestBench 0 = .ok (.aload_n 0, 1) := by decide +kernel
theorem dX10_evenestBench_1 : decode cX10_evenestBench 1 = .ok (.getfield 27, 3) := by decide +kernel
theorem dX10_evenestBench_4 : decode cX10_evenestBench 4 = .ok (.getfield 35, 3) := by decide +kernel
theorem dX10_evenestBench_7 : decode cX10_evenestBench 7 = .ok (.getfield 41, 3) := by decide +kernel
theorem dX10_evenestBench_10 : decode cX10_evenestBench 10 = .ok (.istore 4, 2) := by decide +kernel
theorem dX10_evenestBench_12 : decode cX10_evenestBench 12 = .ok (.iconst 0, 1) := by decide +kernel
theorem dX10_evenestBench_13 : decode cX10_evenestBench 13 = .ok (.istore 5, 2) := by decide +kernel
theorem dX10_evenestBench_15 : decode cX10_evenestBench 15 = .ok (.aload_n 0, 1) := by decide +kernel
theorem dX10_evenestBench_16 : decode cX10_evenestBench 16 = .ok (.getfield 24, 3) := by decide +kernel
theorem dX10_evenestBench_19 : decode cX10_evenestBench 19 = .ok (.iconst 0, 1) := by decide +kernel
theorem dX10_evenestBench_20 : decode cX10_evenestBench 20 = .ok (.invokestatic 50, 3) := by decide +kernel
theorem dX10_evenestBench_23 : decode cX10_evenestBench 23 = .ok (.iconst 0, 1) := by decide +kernel
theorem dX10_evenestBench_24 : decode cX10_evenestBench 24 = .ok (.istore 6, 2) := by decide +kernel
theorem dX10_evenestBench_26 : decode cX10_evenestBench 26 = .ok (.iload 6, 2) := by decide +kernel
theorem dX10_evenestBench_28 : decode cX10_evenestBench 28 = .ok (.iconst 1, 1) := by decide +kernel
theorem dX10_evenestBench_29 : decode cX10_evenestBench 29 = .ok (.iload 4, 2) := by decide +kernel
theorem dX10_evenestBench_31 : decode cX10_evenestBench 31 = .ok (.ishl, 1) := by decide +kernel
theorem dX10_evenestBench_32 : decode cX10_evenestBench 32 = .ok (.if_icmp .ge 65, 3) := by decide +kernel
theorem dX10_evenestBench_35 : decode cX10_evenestBench 35 = .ok (.aload_n 0, 1) := by decide +kernel
theorem dX10_evenestBench_36 : decode cX10_evenestBench 36 = .ok (.iload 6, 2) := by decide +kernel
theorem dX10_evenestBench_38 : decode cX10_evenestBench 38 = .ok (.iload_n 1, 1) := by decide +kernel
theorem dX10_evenestBench_39 : decode cX10_evenestBench 39 = .ok (.iload_n 2, 1) := by decide +kernel
theorem dX10_evenestBench_40 : decode cX10_evenestBench 40 = .ok (.invokevirtual 46, 3) := by decide +kernel
theorem dX10_evenestBench_43 : decode cX10_evenestBench 43 = .ok (.ifCond .eq 48, 3) := by decide +kernel
theorem dX10_evenestBench_46 : decode cX10_evenestBench 46 = .ok (.iinc 5 1, 3) := by decide +kernel
theorem dX10_evenestBench_49 : decode cX10_evenestBench 49 = .ok (.aload_n 0, 1) := by decide +kernel
theorem dX10_evenestBench_50 : decode cX10_evenestBench 50 = .ok (.iload 6, 2) := by decide +kernel
theorem dX10_evenestBench_52 : decode cX10_evenestBench 52 = .ok (.iload_n 3, 1) := by decide +kernel
theorem dX10_evenestBench_53 : decode cX10_evenestBench 53 = .ok (.invokevirtual 56, 3) := by decide +kernel
theorem dX10_evenestBench_56 : decode cX10_evenestBench 56 = .ok (.istore 7, 2) := by decide +kernel
theorem dX10_evenestBench_58 : decode cX10_evenestBench 58 = .ok (.iconst 1, 1) := by decide +kernel
theorem dX10_evenestBench_59 : decode cX10_evenestBench 59 = .ok (.istore 8, 2) := by decide +kernel
theorem dX10_evenestBench_61 : decode cX10_evenestBench 61 = .ok (.iload 8, 2) := by decide +kernel
theorem dX10_evenestBench_63 : decode cX10_evenestBench 63 = .ok (.iload 4, 2) := by decide +kernel
theorem dX10_evenestBench_65 : decode cX10_evenestBench 65 = .ok (.if_icmp .ge 26, 3) := by decide +kernel
theorem dX10_evenestBench_68 : decode cX10_evenestBench 68 = .ok (.aload_n 0, 1) := by decide +kernel
theorem dX10_evenestBench_69 : decode cX10_evenestBench 69 = .ok (.getfield 24, 3) := by decide +kernel
theorem dX10_evenestBench_72 : decode cX10_evenestBench 72 = .ok (.iload 8, 2) := by decide +kernel
theorem dX10_evenestBench_74 : decode cX10_evenestBench 74 = .ok (.dup2, 1) := by decide +kernel
theorem dX10_evenestBench_75 : decode cX10_evenestBench 75 = .ok (.iaload, 1) := by decide +kernel
theorem dX10_evenestBench_76 : decode cX10_evenestBench 76 = .ok (.iload 7, 2) := by decide +kernel
theorem dX10_evenestBench_78 : decode cX10_evenestBench 78 = .ok (.iload 8, 2) := by decide +kernel
theorem dX10_evenestBench_80 : decode cX10_evenestBench 80 = .ok (.ishr, 1) := by decide +kernel
theorem dX10_evenestBench_81 : decode cX10_evenestBench 81 = .ok (.iconst 1, 1) := by decide +kernel
theorem dX10_evenestBench_82 : decode cX10_evenestBench 82 = .ok (.iand, 1) := by decide +kernel
theorem dX10_evenestBench_83 : decode cX10_evenestBench 83 = .ok (.iadd, 1) := by decide +kernel
theorem dX10_evenestBench_84 : decode cX10_evenestBench 84 = .ok (.iastore, 1) := by decide +kernel
theorem dX10_evenestBench_85 : decode cX10_evenestBench 85 = .ok (.iinc 8 1, 3) := by decide +kernel
theorem dX10_evenestBench_88 : decode cX10_evenestBench 88 = .ok (.goto (-27), 3) := by decide +kernel
theorem dX10_evenestBench_91 : decode cX10_evenestBench 91 = .ok (.iinc 6 1, 3) := by decide +kernel
theorem dX10_evenestBench_94 : decode cX10_evenestBench 94 = .ok (.goto (-68), 3) := by decide +kernel
theorem dX10_evenestBench_97 : decode cX10_evenestBench 97 = .ok (.iload 5, 2) := by decide +kernel
theorem dX10_evenestBench_99 : decode cX10_evenestBench 99 = .ok (.ifCond .eq 9, 3) := by decide +kernel
theorem dX10_evenestBench_102 : decode cX10_evenestBench 102 = .ok (.iload 4, 2) := by decide +kernel
theorem dX10_evenestBench_104 : decode cX10_evenestBench 104 = .ok (.iconst 2, 1) := by decide +kernel
theorem dX10_evenestBench_105 : decode cX10_evenestBench 105 = .ok (.if_icmp .ge 6, 3) := by decide +kernel
theorem dX10_evenestBench_108 : decode cX10_evenestBench 108 = .ok (.bipush (-2), 2) := by decide +kernel
theorem dX10_evenestBench_110 : decode cX10_evenestBench 110 = .ok (.ireturn, 1) := by decide +kernel
theorem dX10_evenestBench_111 : decode cX10_evenestBench 111 = .ok (.iconst 1, 1) := by decide +kernel
theorem dX10_evenestBench_112 : decode cX10_evenestBench 112 = .ok (.istore 6, 2) := by decide +kernel
theorem dX10_evenestBench_114 : decode cX10_evenestBench 114 = .ok (.iconst 2, 1) := by decide +kernel
theorem dX10_evenestBench_115 : decode cX10_evenestBench 115 = .ok (.istore 7, 2) := by decide +kernel
theorem dX10_evenestBench_117 : decode cX10_evenestBench 117 = .ok (.iload 7, 2) := by decide +kernel
theorem dX10_evenestBench_119 : decode cX10_evenestBench 119 = .ok (.iload 4, 2) := by decide +kernel
theorem dX10_evenestBench_121 : decode cX10_evenestBench 121 = .ok (.if_icmp .ge 32, 3) := by decide +kernel
theorem dX10_evenestBench_124 : decode cX10_evenestBench 124 = .ok (.aload_n 0, 1) := by decide +kernel
theorem dX10_evenestBench_125 : decode cX10_evenestBench 125 = .ok (.iload 7, 2) := by decide +kernel
theorem dX10_evenestBench_127 : decode cX10_evenestBench 127 = .ok (.iload 5, 2) := by decide +kernel
theorem dX10_evenestBench_129 : decode cX10_evenestBench 129 = .ok (.invokevirtual 60, 3) := by decide +kernel
theorem dX10_evenestBench_132 : decode cX10_evenestBench 132 = .ok (.aload_n 0, 1) := by decide +kernel
theorem dX10_evenestBench_133 : decode cX10_evenestBench 133 = .ok (.iload 6, 2) := by decide +kernel
theorem dX10_evenestBench_135 : decode cX10_evenestBench 135 = .ok (.iload 5, 2) := by decide +kernel
theorem dX10_evenestBench_137 : decode cX10_evenestBench 137 = .ok (.invokevirtual 60, 3) := by decide +kernel
theorem dX10_evenestBench_140 : decode cX10_evenestBench 140 = .ok (.if_icmp .ge 7, 3) := by decide +kernel
theorem dX10_evenestBench_143 : decode cX10_evenestBench 143 = .ok (.iload 7, 2) := by decide +kernel
theorem dX10_evenestBench_145 : decode cX10_evenestBench 145 = .ok (.istore 6, 2) := by decide +kernel
theorem dX10_evenestBench_147 : decode cX10_evenestBench 147 = .ok (.iinc 7 1, 3) := by decide +kernel
theorem dX10_evenestBench_150 : decode cX10_evenestBench 150 = .ok (.goto (-33), 3) := by decide +kernel
theorem dX10_evenestBench_153 : decode cX10_evenestBench 153 = .ok (.iload 6, 2) := by decide +kernel
theorem dX10_evenestBench_155 : decode cX10_evenestBench 155 = .ok (.ireturn, 1) := by decide +kernel
def k_X10_evenestBench_61 (X : CX) (T : List Dsc) (n1 n2 : Nat) (x0 : Nat) (x1 : Int32) (x2 : Int32) (x3 : Int32) (x4 : Int32) (x5 : Int32) (x6 : Int32) (x7 : Int32) (r : ((Int32 × Mem) ⊕ ((Mem)))) : Prop := match r with
  | .inl s => Wp X cX10_evenestBench RX10 9 T s.2 n1 n2 61 [(0, .ref x0), (1, .int x1), (2, .int x2), (3, .int x3), (4, .int x4), (5, .int x5), (6, .int x6), (7, .int x7), (8, .int s.1)] []
  | .inr e => Wp X cX10_evenestBench RX10 9 T e n1 n2 91 [(0, .ref x0), (1, .int x1), (2, .int x2), (3, .int x3), (4, .int x4), (5, .int x5), (6, .int x6)] []
def k_X10_evenestBench_26 (X : CX) (T : List Dsc) (n1 n2 : Nat) (x0 : Nat) (x1 : Int32) (x2 : Int32) (x3 : Int32) (x4 : Int32) (r : ((Int32 × Int32 × Mem) ⊕ ((Int32 × Mem)))) : Prop := match r with
  | .inl s => Wp X cX10_evenestBench RX10 9 T s.2.2 n1 n2 26 [(0, .ref x0), (1, .int x1), (2, .int x2), (3, .int x3), (4, .int x4), (5, .int s.1), (6, .int s.2.1)] []
  | .inr e => Wp X cX10_evenestBench RX10 9 T e.2 n1 n2 97 [(0, .ref x0), (4, .int x4), (5, .int e.1)] []
def k_X10_evenestBench_117 (X : CX) (T : List Dsc) (n1 n2 : Nat) (x0 : Nat) (x4 : Int32) (x5 : Int32) (r : ((Int32 × Int32 × Mem) ⊕ ((Int32 × Mem)))) : Prop := match r with
  | .inl s => Wp X cX10_evenestBench RX10 9 T s.2.2 n1 n2 117 [(0, .ref x0), (4, .int x4), (5, .int x5), (6, .int s.1), (7, .int s.2.1)] []
  | .inr e => Wp X cX10_evenestBench RX10 9 T e.2 n1 n2 153 [(6, .int e.1)] []
set_option maxHeartbeats 4000000 in
set_option maxRecDepth 100000 in
theorem w_X10_evenestBench_61 {X : CX} {T : List Dsc} {n1 n2 : Nat} {x0 : Nat} {x1 : Int32} {x2 : Int32} {x3 : Int32} {x4 : Int32} {x5 : Int32} {x6 : Int32} {x7 : Int32} {x8 : Int32} {μ : Mem} {r : ((Int32 × Mem) ⊕ ((Mem)))} (hX : XR X 7 n1 n2) (hx0 : T[x0]? = some (.inl 9)) (hf : f_X10_evenestBench_61 T x0 x1 x2 x3 x4 x5 x6 x7 x8 μ = some r) (hk : k_X10_evenestBench_61 X T n1 n2 x0 x1 x2 x3 x4 x5 x6 x7 r) : Wp X cX10_evenestBench RX10 9 T μ n1 n2 61 [(0, .ref x0), (1, .int x1), (2, .int x2), (3, .int x3), (4, .int x4), (5, .int x5), (6, .int x6), (7, .int x7), (8, .int x8)] [] := by
  unfold f_X10_evenestBench_61 at hf
  refine Wp.iload (pc := 61) 8 rfl dX10_evenestBench_61 ?_
  refine Wp.iload (pc := 63) 4 rfl dX10_evenestBench_63 ?_
  refine Wp.icmp_ge (pc := 65) 91 dX10_evenestBench_65 (by decide) (fun hc1 => ?_) (fun hc1 => ?_)
  · rw [if_pos hc1] at hf
    refine Wp.lo' (lo' := [(0, .ref x0), (1, .int x1), (2, .int x2), (3, .int x3), (4, .int x4), (5, .int x5), (6, .int x6)]) [0, 1, 2, 3, 4, 5, 6] rfl ?_
    cases hf
    exact hk
  · rw [if_neg hc1] at hf
    refine Wp.aload_n (pc := 68) 0 rfl rfl dX10_evenestBench_68 ?_
    obtain ⟨a2, h3, hf⟩ := bnd hf
    refine Wp.getR (pc := 69) (gA_R h3) hx0 fk_RX10_24 rfl dX10_evenestBench_69 ?_
    refine Wp.iload (pc := 72) 8 rfl dX10_evenestBench_72 ?_
    refine Wp.dup2 (pc := 74) rfl rfl dX10_evenestBench_74 ?_
    obtain ⟨v4, h5, hf⟩ := bnd hf
    refine Wp.iald (pc := 75) h5 (gA_T h3) dX10_evenestBench_75 ?_
    refine Wp.iload (pc := 76) 7 rfl dX10_evenestBench_76 ?_
    refine Wp.iload (pc := 78) 8 rfl dX10_evenestBench_78 ?_
    refine Wp.ishr (pc := 80) dX10_evenestBench_80 ?_
    refine Wp.iconst (pc := 81) (1 : Int32) (by decide) dX10_evenestBench_81 ?_
    refine Wp.iand (pc := 82) dX10_evenestBench_82 ?_
    refine Wp.iadd (pc := 83) dX10_evenestBench_83 ?_
    obtain ⟨μ6, h7, hf⟩ := bnd hf
    refine Wp.iast (pc := 84) h7 (gA_T h3) dX10_evenestBench_84 ?_
    obtain ⟨v8, h9, hf⟩ := bnd hf
    refine Wp.iincN (pc := 85) (lo' := [(0, .ref x0), (1, .int x1), (2, .int x2), (3, .int x3), (4, .int x4), (5, .int x5), (6, .int x6), (7, .int x7), (8, .int v8)]) (1 : Int32) (by decide) h9 8 rfl [1, 2, 3, 4, 5, 6, 7, 8, 0] rfl (by decide) dX10_evenestBench_85 ?_
    refine Wp.goto (pc := 88) 61 dX10_evenestBench_88 (by decide) ?_
    cases hf
    exact hk
theorem wl_X10_evenestBench_61 {X : CX} {T : List Dsc} {n1 n2 : Nat} {x0 : Nat} {x1 : Int32} {x2 : Int32} {x3 : Int32} {x4 : Int32} {x5 : Int32} {x6 : Int32} {x7 : Int32} {x8 : Int32} {μ : Mem} {e : ((Mem))} (hX : XR X 7 n1 n2) (hx0 : T[x0]? = some (.inl 9)) (h : loop (g_X10_evenestBench_61 T x0 x1 x2 x3 x4 x5 x6 x7) (x8, μ) = some e) (he : Wp X cX10_evenestBench RX10 9 T e n1 n2 91 [(0, .ref x0), (1, .int x1), (2, .int x2), (3, .int x3), (4, .int x4), (5, .int x5), (6, .int x6)] []) : Wp X cX10_evenestBench RX10 9 T μ n1 n2 61 [(0, .ref x0), (1, .int x1), (2, .int x2), (3, .int x3), (4, .int x4), (5, .int x5), (6, .int x6), (7, .int x7), (8, .int x8)] [] :=
  loop_ok (K := k_X10_evenestBench_61 X T n1 n2 x0 x1 x2 x3 x4 x5 x6 x7) (fun s r hf hk => w_X10_evenestBench_61 hX hx0 hf hk) h he
set_option maxHeartbeats 4000000 in
set_option maxRecDepth 100000 in
theorem w_X10_evenestBench_91 {X : CX} {T : List Dsc} {n1 n2 : Nat} {x0 : Nat} {x1 : Int32} {x2 : Int32} {x3 : Int32} {x4 : Int32} {x5 : Int32} {x6 : Int32} {μ : Mem} {r : ((Int32 × Int32 × Mem) ⊕ ((Int32 × Mem)))} (hX : XR X 7 n1 n2) (hx0 : T[x0]? = some (.inl 9)) (hf : f_X10_evenestBench_91 T x0 x1 x2 x3 x4 x5 x6 μ = some r) (hk : k_X10_evenestBench_26 X T n1 n2 x0 x1 x2 x3 x4 r) : Wp X cX10_evenestBench RX10 9 T μ n1 n2 91 [(0, .ref x0), (1, .int x1), (2, .int x2), (3, .int x3), (4, .int x4), (5, .int x5), (6, .int x6)] [] := by
  unfold f_X10_evenestBench_91 at hf
  obtain ⟨v1, h2, hf⟩ := bnd hf
  refine Wp.iincN (pc := 91) (lo' := [(0, .ref x0), (1, .int x1), (2, .int x2), (3, .int x3), (4, .int x4), (5, .int x5), (6, .int v1)]) (1 : Int32) (by decide) h2 6 rfl [1, 2, 3, 4, 5, 6, 0] rfl (by decide) dX10_evenestBench_91 ?_
  refine Wp.goto (pc := 94) 26 dX10_evenestBench_94 (by decide) ?_
  cases hf
  exact hk
set_option maxHeartbeats 4000000 in
set_option maxRecDepth 100000 in
theorem w_X10_evenestBench_26 {X : CX} {T : List Dsc} {n1 n2 : Nat} {x0 : Nat} {x1 : Int32} {x2 : Int32} {x3 : Int32} {x4 : Int32} {x5 : Int32} {x6 : Int32} {μ : Mem} {r : ((Int32 × Int32 × Mem) ⊕ ((Int32 × Mem)))} (hX : XR X 7 n1 n2) (hx0 : T[x0]? = some (.inl 9)) (hf : f_X10_evenestBench_26 T x0 x1 x2 x3 x4 x5 x6 μ = some r) (hk : k_X10_evenestBench_26 X T n1 n2 x0 x1 x2 x3 x4 r) : Wp X cX10_evenestBench RX10 9 T μ n1 n2 26 [(0, .ref x0), (1, .int x1), (2, .int x2), (3, .int x3), (4, .int x4), (5, .int x5), (6, .int x6)] [] := by
  unfold f_X10_evenestBench_26 at hf
  refine Wp.iload (pc := 26) 6 rfl dX10_evenestBench_26 ?_
  refine Wp.iconst (pc := 28) (1 : Int32) (by decide) dX10_evenestBench_28 ?_
  refine Wp.iload (pc := 29) 4 rfl dX10_evenestBench_29 ?_
  refine Wp.ishl (pc := 31) dX10_evenestBench_31 ?_
  refine Wp.icmp_ge (pc := 32) 97 dX10_evenestBench_32 (by decide) (fun hc1 => ?_) (fun hc1 => ?_)
  · rw [if_pos hc1] at hf
    refine Wp.lo' (lo' := [(0, .ref x0), (4, .int x4), (5, .int x5)]) [0, 4, 5] rfl ?_
    cases hf
    exact hk
  · rw [if_neg hc1] at hf
    refine Wp.aload_n (pc := 35) 0 rfl rfl dX10_evenestBench_35 ?_
    refine Wp.iload (pc := 36) 6 rfl dX10_evenestBench_36 ?_
    refine Wp.iload_n (pc := 38) 1 rfl rfl dX10_evenestBench_38 ?_
    refine Wp.iload_n (pc := 39) 2 rfl rfl dX10_evenestBench_39 ?_
    obtain ⟨c2, h3, hf⟩ := bnd hf
    refine Wp.callVi (pc := 40) (st := []) (as := [.int x6, .int x1, .int x2]) (c_X10_isSuspect hx0 h3) ml_RX10_46 mv_X10_isSuspect mb_X10_isSuspect hX (Nat.le_of_ble_eq_true rfl) (by decide) rfl hx0 rfl (by simp) dX10_evenestBench_40 rfl ?_
    refine Wp.if_eq (pc := 43) 91 dX10_evenestBench_43 (by decide) (fun hc4 => ?_) (fun hc4 => ?_)
    · rw [if_pos hc4] at hf
      exact w_X10_evenestBench_91 hX hx0 hf hk
    · rw [if_neg hc4] at hf
      obtain ⟨v5, h6, hf⟩ := bnd hf
      refine Wp.iincN (pc := 46) (lo' := [(0, .ref x0), (1, .int x1), (2, .int x2), (3, .int x3), (4, .int x4), (5, .int v5), (6, .int x6)]) (1 : Int32) (by decide) h6 5 rfl [1, 2, 3, 4, 5, 0, 6] rfl (by decide) dX10_evenestBench_46 ?_
      refine Wp.aload_n (pc := 49) 0 rfl rfl dX10_evenestBench_49 ?_
      refine Wp.iload (pc := 50) 6 rfl dX10_evenestBench_50 ?_
      refine Wp.iload_n (pc := 52) 3 rfl rfl dX10_evenestBench_52 ?_
      obtain ⟨c7, h8, hf⟩ := bnd hf
      refine Wp.callVi (pc := 53) (st := []) (as := [.int x6, .int x3]) (c_X10_clashesAt hx0 h8) ml_RX10_56 mv_X10_clashesAt mb_X10_clashesAt hX (Nat.le_of_ble_eq_true rfl) (by decide) rfl hx0 rfl (by simp) dX10_evenestBench_53 rfl ?_
      refine Wp.istore (pc := 56) (lo' := [(0, .ref x0), (1, .int x1), (2, .int x2), (3, .int x3), (4, .int x4), (5, .int v5), (6, .int x6), (7, .int c7.1)]) [1, 2, 3, 4, 5, 6, 7, 0] rfl (by decide) dX10_evenestBench_56 ?_
      refine Wp.iconst (pc := 58) (1 : Int32) (by decide) dX10_evenestBench_58 ?_
      refine Wp.istore (pc := 59) (lo' := [(0, .ref x0), (1, .int x1), (2, .int x2), (3, .int x3), (4, .int x4), (5, .int v5), (6, .int x6), (7, .int c7.1), (8, .int (1 : Int32))]) [1, 2, 3, 4, 5, 6, 7, 8, 0] rfl (by decide) dX10_evenestBench_59 ?_
      obtain ⟨e9, h10, hf⟩ := bnd hf
      refine wl_X10_evenestBench_61 hX hx0 h10 ?_
      exact w_X10_evenestBench_91 hX hx0 hf hk
theorem wl_X10_evenestBench_26 {X : CX} {T : List Dsc} {n1 n2 : Nat} {x0 : Nat} {x1 : Int32} {x2 : Int32} {x3 : Int32} {x4 : Int32} {x5 : Int32} {x6 : Int32} {μ : Mem} {e : ((Int32 × Mem))} (hX : XR X 7 n1 n2) (hx0 : T[x0]? = some (.inl 9)) (h : loop (g_X10_evenestBench_26 T x0 x1 x2 x3 x4) (x5, x6, μ) = some e) (he : Wp X cX10_evenestBench RX10 9 T e.2 n1 n2 97 [(0, .ref x0), (4, .int x4), (5, .int e.1)] []) : Wp X cX10_evenestBench RX10 9 T μ n1 n2 26 [(0, .ref x0), (1, .int x1), (2, .int x2), (3, .int x3), (4, .int x4), (5, .int x5), (6, .int x6)] [] :=
  loop_ok (K := k_X10_evenestBench_26 X T n1 n2 x0 x1 x2 x3 x4) (fun s r hf hk => w_X10_evenestBench_26 hX hx0 hf hk) h he
set_option maxHeartbeats 4000000 in
set_option maxRecDepth 100000 in
theorem w_X10_evenestBench_108 {X : CX} {T : List Dsc} {n1 n2 : Nat} {μ : Mem} {r : (Int32 × Mem)} (hX : XR X 7 n1 n2) (hf : f_X10_evenestBench_108 T μ = some r) (hk : FnI X cX10_evenestBench RX10 9 T n1 n2 r) : Wp X cX10_evenestBench RX10 9 T μ n1 n2 108 [] [] := by
  unfold f_X10_evenestBench_108 at hf
  refine Wp.bipush (pc := 108) (-2 : Int32) (by decide) dX10_evenestBench_108 ?_
  cases hf
  exact hk _ _ dX10_evenestBench_110
set_option maxHeartbeats 4000000 in
set_option maxRecDepth 100000 in
theorem w_X10_evenestBench_147 {X : CX} {T : List Dsc} {n1 n2 : Nat} {x0 : Nat} {x4 : Int32} {x5 : Int32} {x6 : Int32} {x7 : Int32} {μ : Mem} {r : ((Int32 × Int32 × Mem) ⊕ ((Int32 × Mem)))} (hX : XR X 7 n1 n2) (hx0 : T[x0]? = some (.inl 9)) (hf : f_X10_evenestBench_147 T x0 x4 x5 x6 x7 μ = some r) (hk : k_X10_evenestBench_117 X T n1 n2 x0 x4 x5 r) : Wp X cX10_evenestBench RX10 9 T μ n1 n2 147 [(0, .ref x0), (4, .int x4), (5, .int x5), (6, .int x6), (7, .int x7)] [] := by
  unfold f_X10_evenestBench_147 at hf
  obtain ⟨v1, h2, hf⟩ := bnd hf
  refine Wp.iincN (pc := 147) (lo' := [(0, .ref x0), (4, .int x4), (5, .int x5), (6, .int x6), (7, .int v1)]) (1 : Int32) (by decide) h2 4 rfl [1, 2, 3, 4, 0] rfl (by decide) dX10_evenestBench_147 ?_
  refine Wp.goto (pc := 150) 117 dX10_evenestBench_150 (by decide) ?_
  cases hf
  exact hk
set_option maxHeartbeats 4000000 in
set_option maxRecDepth 100000 in
theorem w_X10_evenestBench_117 {X : CX} {T : List Dsc} {n1 n2 : Nat} {x0 : Nat} {x4 : Int32} {x5 : Int32} {x6 : Int32} {x7 : Int32} {μ : Mem} {r : ((Int32 × Int32 × Mem) ⊕ ((Int32 × Mem)))} (hX : XR X 7 n1 n2) (hx0 : T[x0]? = some (.inl 9)) (hf : f_X10_evenestBench_117 T x0 x4 x5 x6 x7 μ = some r) (hk : k_X10_evenestBench_117 X T n1 n2 x0 x4 x5 r) : Wp X cX10_evenestBench RX10 9 T μ n1 n2 117 [(0, .ref x0), (4, .int x4), (5, .int x5), (6, .int x6), (7, .int x7)] [] := by
  unfold f_X10_evenestBench_117 at hf
  refine Wp.iload (pc := 117) 4 rfl dX10_evenestBench_117 ?_
  refine Wp.iload (pc := 119) 1 rfl dX10_evenestBench_119 ?_
  refine Wp.icmp_ge (pc := 121) 153 dX10_evenestBench_121 (by decide) (fun hc1 => ?_) (fun hc1 => ?_)
  · rw [if_pos hc1] at hf
    refine Wp.lo' (lo' := [(6, .int x6)]) [3] rfl ?_
    cases hf
    exact hk
  · rw [if_neg hc1] at hf
    refine Wp.aload_n (pc := 124) 0 rfl rfl dX10_evenestBench_124 ?_
    refine Wp.iload (pc := 125) 4 rfl dX10_evenestBench_125 ?_
    refine Wp.iload (pc := 127) 2 rfl dX10_evenestBench_127 ?_
    obtain ⟨c2, h3, hf⟩ := bnd hf
    refine Wp.callVi (pc := 129) (st := []) (as := [.int x7, .int x5]) (c_X10_greaterPart hx0 h3) ml_RX10_60 mv_X10_greaterPart mb_X10_greaterPart hX (Nat.le_of_ble_eq_true rfl) (by decide) rfl hx0 rfl (by simp) dX10_evenestBench_129 rfl ?_
    refine Wp.aload_n (pc := 132) 0 rfl rfl dX10_evenestBench_132 ?_
    refine Wp.iload (pc := 133) 3 rfl dX10_evenestBench_133 ?_
    refine Wp.iload (pc := 135) 2 rfl dX10_evenestBench_135 ?_
    obtain ⟨c4, h5, hf⟩ := bnd hf
    refine Wp.callVi (pc := 137) (st := [.int c2.1]) (as := [.int x6, .int x5]) (c_X10_greaterPart hx0 h5) ml_RX10_60 mv_X10_greaterPart mb_X10_greaterPart hX (Nat.le_of_ble_eq_true rfl) (by decide) rfl hx0 rfl (by simp [Value.category]) dX10_evenestBench_137 rfl ?_
    refine Wp.icmp_ge (pc := 140) 147 dX10_evenestBench_140 (by decide) (fun hc6 => ?_) (fun hc6 => ?_)
    · rw [if_pos hc6] at hf
      exact w_X10_evenestBench_147 hX hx0 hf hk
    · rw [if_neg hc6] at hf
      refine Wp.iload (pc := 143) 4 rfl dX10_evenestBench_143 ?_
      refine Wp.istore (pc := 145) (lo' := [(0, .ref x0), (4, .int x4), (5, .int x5), (6, .int x7), (7, .int x7)]) [1, 2, 3, 0, 4] rfl (by decide) dX10_evenestBench_145 ?_
      exact w_X10_evenestBench_147 hX hx0 hf hk
theorem wl_X10_evenestBench_117 {X : CX} {T : List Dsc} {n1 n2 : Nat} {x0 : Nat} {x4 : Int32} {x5 : Int32} {x6 : Int32} {x7 : Int32} {μ : Mem} {e : ((Int32 × Mem))} (hX : XR X 7 n1 n2) (hx0 : T[x0]? = some (.inl 9)) (h : loop (g_X10_evenestBench_117 T x0 x4 x5) (x6, x7, μ) = some e) (he : Wp X cX10_evenestBench RX10 9 T e.2 n1 n2 153 [(6, .int e.1)] []) : Wp X cX10_evenestBench RX10 9 T μ n1 n2 117 [(0, .ref x0), (4, .int x4), (5, .int x5), (6, .int x6), (7, .int x7)] [] :=
  loop_ok (K := k_X10_evenestBench_117 X T n1 n2 x0 x4 x5) (fun s r hf hk => w_X10_evenestBench_117 hX hx0 hf hk) h he
set_option maxHeartbeats 4000000 in
set_option maxRecDepth 100000 in
theorem w_X10_evenestBench {X : CX} {T : List Dsc} {n1 n2 : Nat} {x0 : Nat} {x1 : Int32} {x2 : Int32} {x3 : Int32} {μ : Mem} {r : (Int32 × Mem)} (hX : XR X 7 n1 n2) (hx0 : T[x0]? = some (.inl 9)) (hf : F_X10_evenestBench T x0 x1 x2 x3 μ = some r) (hk : FnI X cX10_evenestBench RX10 9 T n1 n2 r) : Wp X cX10_evenestBench RX10 9 T μ n1 n2 0 [(0, .ref x0), (1, .int x1), (2, .int x2), (3, .int x3)] [] := by
  unfold F_X10_evenestBench at hf
  refine Wp.aload_n (pc := 0) 0 rfl rfl dX10_evenestBench_0 ?_
  obtain ⟨r1, h2, hf⟩ := bnd hf
  refine Wp.getR (pc := 1) (gO_R h2) hx0 fk_RX10_27 rfl dX10_evenestBench_1 ?_
  obtain ⟨r3, h4, hf⟩ := bnd hf
  refine Wp.getR (pc := 4) (gO_R h4) (gO_T h2) fk_RX10_35 rfl dX10_evenestBench_4 ?_
  refine Wp.getI (pc := 7) (gO_T h4) fk_RX10_41 rfl dX10_evenestBench_7 ?_
  obtain ⟨v5, h6, hf⟩ := bnd hf
  refine Wp.nI' h6 ?_
  refine Wp.istore (pc := 10) (lo' := [(0, .ref x0), (1, .int x1), (2, .int x2), (3, .int x3), (4, .int v5)]) [1, 2, 3, 4, 0] rfl (by decide) dX10_evenestBench_10 ?_
  refine Wp.iconst (pc := 12) (0 : Int32) (by decide) dX10_evenestBench_12 ?_
  refine Wp.istore (pc := 13) (lo' := [(0, .ref x0), (1, .int x1), (2, .int x2), (3, .int x3), (4, .int v5), (5, .int (0 : Int32))]) [1, 2, 3, 4, 5, 0] rfl (by decide) dX10_evenestBench_13 ?_
  refine Wp.aload_n (pc := 15) 0 rfl rfl dX10_evenestBench_15 ?_
  obtain ⟨a7, h8, hf⟩ := bnd hf
  refine Wp.getR (pc := 16) (gA_R h8) hx0 fk_RX10_24 rfl dX10_evenestBench_16 ?_
  refine Wp.iconst (pc := 19) (0 : Int32) (by decide) dX10_evenestBench_19 ?_
  obtain ⟨c9, h10, hf⟩ := bnd hf
  refine Wp.callSv (pc := 20) (st := []) (as := [.ref a7.1, .int (0 : Int32)]) (c_J7_fill_53178 (gA_T h8) h10) ml_RX10_50 ms_J7_fill_53178 mb_J7_fill_53178 hX (Nat.le_of_ble_eq_true rfl) (by decide) rfl (by simp) dX10_evenestBench_20 rfl ?_
  refine Wp.iconst (pc := 23) (0 : Int32) (by decide) dX10_evenestBench_23 ?_
  refine Wp.istore (pc := 24) (lo' := [(0, .ref x0), (1, .int x1), (2, .int x2), (3, .int x3), (4, .int v5), (5, .int (0 : Int32)), (6, .int (0 : Int32))]) [1, 2, 3, 4, 5, 6, 0] rfl (by decide) dX10_evenestBench_24 ?_
  obtain ⟨e11, h12, hf⟩ := bnd hf
  refine wl_X10_evenestBench_26 hX hx0 h12 ?_
  refine Wp.iload (pc := 97) 2 rfl dX10_evenestBench_97 ?_
  refine Wp.if_eq (pc := 99) 108 dX10_evenestBench_99 (by decide) (fun hc13 => ?_) (fun hc13 => ?_)
  · rw [if_pos hc13] at hf
    refine Wp.lo' (lo' := []) [] rfl ?_
    exact w_X10_evenestBench_108 hX hf hk
  · rw [if_neg hc13] at hf
    refine Wp.iload (pc := 102) 1 rfl dX10_evenestBench_102 ?_
    refine Wp.iconst (pc := 104) (2 : Int32) (by decide) dX10_evenestBench_104 ?_
    refine Wp.icmp_ge (pc := 105) 111 dX10_evenestBench_105 (by decide) (fun hc14 => ?_) (fun hc14 => ?_)
    · rw [if_pos hc14] at hf
      refine Wp.iconst (pc := 111) (1 : Int32) (by decide) dX10_evenestBench_111 ?_
      refine Wp.istore (pc := 112) (lo' := [(0, .ref x0), (4, .int v5), (5, .int e11.1), (6, .int (1 : Int32))]) [1, 2, 3, 0] rfl (by decide) dX10_evenestBench_112 ?_
      refine Wp.iconst (pc := 114) (2 : Int32) (by decide) dX10_evenestBench_114 ?_
      refine Wp.istore (pc := 115) (lo' := [(0, .ref x0), (4, .int v5), (5, .int e11.1), (6, .int (1 : Int32)), (7, .int (2 : Int32))]) [1, 2, 3, 4, 0] rfl (by decide) dX10_evenestBench_115 ?_
      obtain ⟨e15, h16, hf⟩ := bnd hf
      refine wl_X10_evenestBench_117 hX hx0 h16 ?_
      refine Wp.iload (pc := 153) 0 rfl dX10_evenestBench_153 ?_
      cases hf
      exact hk _ _ dX10_evenestBench_155
    · rw [if_neg hc14] at hf
      refine Wp.lo' (lo' := []) [] rfl ?_
      exact w_X10_evenestBench_108 hX hf hk
theorem c_X10_evenestBench {T : List Dsc} {x0 : Nat} {x1 : Int32} {x2 : Int32} {x3 : Int32} {μ : Mem} {r : (Int32 × Mem)} (hx0 : T[x0]? = some (.inl 9)) (hf : F_X10_evenestBench T x0 x1 x2 x3 μ = some r) : Ct 7 yX10_evenestBench cX10_evenestBench 9 (some .int) T μ [.ref x0, .int x1, .int x2, .int x3] (some (.int r.1)) r.2 := Ct.ofI (by decide +kernel) (Nat.le_of_ble_eq_true rfl) (fun X hX hk => w_X10_evenestBench hX hx0 hf hk)
theorem dX11_tapeWord_0 : decode cX11_tapeWord 0 = .ok (.bipush 24, 2) := by decide +kernel
theorem dX11_tapeWord_2 : decode cX11_tapeWord 2 = .ok (.istore_n 2, 1) := by decide +kernel
theorem dX11_tapeWord_3 : decode cX11_tapeWord 3 = .ok (.iload_n 2, 1) := by decide +kernel
theorem dX11_tapeWord_4 : decode cX11_tapeWord 4 = .ok (.ifCond .lt 32, 3) := by decide +kernel
theorem dX11_tapeWord_7 : decode cX11_tapeWord 7 = .ok (.aload_n 0, 1) := by decide +kernel
theorem dX11_tapeWord_8 : decode cX11_tapeWord 8 = .ok (.getfield 9, 3) := by decide +kernel
theorem dX11_tapeWord_11 : decode cX11_tapeWord 11 = .ok (.aload_n 0, 1) := by decide +kernel
theorem dX11_tapeWord_12 : decode cX11_tapeWord 12 = .ok (.getfield 92, 3) := by decide +kernel
theorem dX11_tapeWord_15 : decode cX11_tapeWord 15 = .ok (.iload_n 1, 1) := by decide +kernel
theorem dX11_tapeWord_16 : decode cX11_tapeWord 16 = .ok (.iload_n 2, 1) := by decide +kernel
theorem dX11_tapeWord_17 : decode cX11_tapeWord 17 = .ok (.iushr, 1) := by decide +kernel
theorem dX11_tapeWord_18 : decode cX11_tapeWord 18 = .ok (.i2b, 1) := by decide +kernel
theorem dX11_tapeWord_19 : decode cX11_tapeWord 19 = .ok (.bastore, 1) := by decide +kernel
theorem dX11_tapeWord_20 : decode cX11_tapeWord 20 = .ok (.aload_n 0, 1) := by decide +kernel
theorem dX11_tapeWord_21 : decode cX11_tapeWord 21 = .ok (.dup, 1) := by decide +kernel
theorem dX11_tapeWord_22 : decode cX11_tapeWord 22 = .ok (.getfield 92, 3) := by decide +kernel
theorem dX11_tapeWord_25 : decode cX11_tapeWord 25 = .ok (.iconst 1, 1) := by decide +kernel
theorem dX11_tapeWord_26 : decode cX11_tapeWord 26 = .ok (.iadd, 1) := by decide +kernel
theorem dX11_tapeWord_27 : decode cX11_tapeWord 27 = .ok (.putfield 92, 3) := by decide +kernel
theorem dX11_tapeWord_30 : decode cX11_tapeWord 30 = .ok (.iinc 2 (-8), 3) := by decide +kernel
theorem dX11_tapeWord_33 : decode cX11_tapeWord 33 = .ok (.goto (-30), 3) := by decide +kernel
theorem dX11_tapeWord_36 : decode cX11_tapeWord 36 = .ok (.return_, 1) := by decide +kernel
def k_X11_tapeWord_3 (X : CX) (T : List Dsc) (n1 n2 : Nat) (x0 : Nat) (x1 : Int32) (r : ((Int32 × Mem) ⊕ ((Mem)))) : Prop := match r with
  | .inl s => Wp X cX11_tapeWord RX11 3 T s.2 n1 n2 3 [(0, .ref x0), (1, .int x1), (2, .int s.1)] []
  | .inr e => Wp X cX11_tapeWord RX11 3 T e n1 n2 36 [] []
set_option maxHeartbeats 4000000 in
set_option maxRecDepth 100000 in
theorem w_X11_tapeWord_3 {X : CX} {T : List Dsc} {n1 n2 : Nat} {x0 : Nat} {x1 : Int32} {x2 : Int32} {μ : Mem} {r : ((Int32 × Mem) ⊕ ((Mem)))} (hX : XR X 1 n1 n2) (hx0 : T[x0]? = some (.inl 10)) (hf : f_X11_tapeWord_3 T x0 x1 x2 μ = some r) (hk : k_X11_tapeWord_3 X T n1 n2 x0 x1 r) : Wp X cX11_tapeWord RX11 3 T μ n1 n2 3 [(0, .ref x0), (1, .int x1), (2, .int x2)] [] := by
  unfold f_X11_tapeWord_3 at hf
  refine Wp.iload_n (pc := 3) 2 rfl rfl dX11_tapeWord_3 ?_
  refine Wp.if_lt (pc := 4) 36 dX11_tapeWord_4 (by decide) (fun hc1 => ?_) (fun hc1 => ?_)
  · rw [if_pos hc1] at hf
    refine Wp.lo' (lo' := []) [] rfl ?_
    cases hf
    exact hk
  · rw [if_neg hc1] at hf
    refine Wp.aload_n (pc := 7) 0 rfl rfl dX11_tapeWord_7 ?_
    obtain ⟨a2, h3, hf⟩ := bnd hf
    refine Wp.getR (pc := 8) (gA_R h3) hx0 fk_RX11_9 rfl dX11_tapeWord_8 ?_
    refine Wp.aload_n (pc := 11) 0 rfl rfl dX11_tapeWord_11 ?_
    refine Wp.getI (pc := 12) hx0 fk_RX11_92 rfl dX11_tapeWord_12 ?_
    refine Wp.iload_n (pc := 15) 1 rfl rfl dX11_tapeWord_15 ?_
    refine Wp.iload_n (pc := 16) 2 rfl rfl dX11_tapeWord_16 ?_
    refine Wp.iushr (pc := 17) dX11_tapeWord_17 ?_
    refine Wp.i2b (pc := 18) dX11_tapeWord_18 ?_
    obtain ⟨μ4, h5, hf⟩ := bnd hf
    refine Wp.bast (pc := 19) h5 (gA_T h3) dX11_tapeWord_19 ?_
    refine Wp.aload_n (pc := 20) 0 rfl rfl dX11_tapeWord_20 ?_
    refine Wp.dup (pc := 21) rfl dX11_tapeWord_21 ?_
    refine Wp.getI (pc := 22) hx0 fk_RX11_92 rfl dX11_tapeWord_22 ?_
    refine Wp.iconst (pc := 25) (1 : Int32) (by decide) dX11_tapeWord_25 ?_
    refine Wp.iadd (pc := 26) dX11_tapeWord_26 ?_
    obtain ⟨μ6, h7, hf⟩ := bnd hf
    refine Wp.ptI (pc := 27) h7 hx0 fk_RX11_92 ff_RX11_10_1 rfl dX11_tapeWord_27 ?_
    obtain ⟨v8, h9, hf⟩ := bnd hf
    refine Wp.iincN (pc := 30) (lo' := [(0, .ref x0), (1, .int x1), (2, .int v8)]) (-8 : Int32) (by decide) h9 2 rfl [1, 2, 0] rfl (by decide) dX11_tapeWord_30 ?_
    refine Wp.goto (pc := 33) 3 dX11_tapeWord_33 (by decide) ?_
    cases hf
    exact hk
theorem wl_X11_tapeWord_3 {X : CX} {T : List Dsc} {n1 n2 : Nat} {x0 : Nat} {x1 : Int32} {x2 : Int32} {μ : Mem} {e : ((Mem))} (hX : XR X 1 n1 n2) (hx0 : T[x0]? = some (.inl 10)) (h : loop (g_X11_tapeWord_3 T x0 x1) (x2, μ) = some e) (he : Wp X cX11_tapeWord RX11 3 T e n1 n2 36 [] []) : Wp X cX11_tapeWord RX11 3 T μ n1 n2 3 [(0, .ref x0), (1, .int x1), (2, .int x2)] [] :=
  loop_ok (K := k_X11_tapeWord_3 X T n1 n2 x0 x1) (fun s r hf hk => w_X11_tapeWord_3 hX hx0 hf hk) h he
set_option maxHeartbeats 4000000 in
set_option maxRecDepth 100000 in
theorem w_X11_tapeWord {X : CX} {T : List Dsc} {n1 n2 : Nat} {x0 : Nat} {x1 : Int32} {μ : Mem} {r : Mem} (hX : XR X 1 n1 n2) (hx0 : T[x0]? = some (.inl 10)) (hf : F_X11_tapeWord T x0 x1 μ = some r) (hk : FnV X cX11_tapeWord RX11 3 T n1 n2 r) : Wp X cX11_tapeWord RX11 3 T μ n1 n2 0 [(0, .ref x0), (1, .int x1)] [] := by
  unfold F_X11_tapeWord at hf
  refine Wp.bipush (pc := 0) (24 : Int32) (by decide) dX11_tapeWord_0 ?_
  refine Wp.istore_n (pc := 2) (lo' := [(0, .ref x0), (1, .int x1), (2, .int (24 : Int32))]) [1, 2, 0] rfl (by decide) rfl dX11_tapeWord_2 ?_
  obtain ⟨e1, h2, hf⟩ := bnd hf
  refine wl_X11_tapeWord_3 hX hx0 h2 ?_
  cases hf
  exact hk _ _ dX11_tapeWord_36
theorem c_X11_tapeWord {T : List Dsc} {x0 : Nat} {x1 : Int32} {μ : Mem} {r : Mem} (hx0 : T[x0]? = some (.inl 10)) (hf : F_X11_tapeWord T x0 x1 μ = some r) : Ct 1 yX11_tapeWord cX11_tapeWord 3 none T μ [.ref x0, .int x1] none r := Ct.ofV (by decide +kernel) (Nat.le_of_ble_eq_true rfl) (fun X hX hk => w_X11_tapeWord hX hx0 hf hk)
theorem dX11_feed_0 : decode cX11_feed 0 = .ok (.aload_n 0, 1) := by decide +kernel
theorem dX11_feed_1 : decode cX11_feed 1 = .ok (.getfield 92, 3) := by decide +kernel
theorem dX11_feed_4 : decode cX11_feed 4 = .ok (.sipush 1980, 3) := by decide +kernel
theorem dX11_feed_7 : decode cX11_feed 7 = .ok (.if_icmp .le 5, 3) := by decide +kernel
theorem dX11_feed_10 : decode cX11_feed 10 = .ok (.iconst (-1), 1) := by decide +kernel
theorem dX11_feed_11 : decode cX11_feed 11 = .ok (.ireturn, 1) := by decide +kernel
theorem dX11_feed_12 : decode cX11_feed 12 = .ok (.aload_n 0, 1) := by decide +kernel
theorem dX11_feed_13 : decode cX11_feed 13 = .ok (.iload_n 1, 1) := by decide +kernel
theorem dX11_feed_14 : decode cX11_feed 14 = .ok (.invokevirtual 96, 3) := by decide +kernel
theorem dX11_feed_17 : decode cX11_feed 17 = .ok (.aload_n 0, 1) := by decide +kernel
theorem dX11_feed_18 : decode cX11_feed 18 = .ok (.iload_n 2, 1) := by decide +kernel
theorem dX11_feed_19 : decode cX11_feed 19 = .ok (.invokevirtual 96, 3) := by decide +kernel
theorem dX11_feed_22 : decode cX11_feed 22 = .ok (.aload_n 0, 1) := by decide +kernel
theorem dX11_feed_23 : decode cX11_feed 23 = .ok (.iload_n 3, 1) := by decide +kernel
theorem dX11_feed_24 : decode cX11_feed 24 = .ok (.invokevirtual 96, 3) := by decide +kernel
theorem dX11_feed_27 : decode cX11_feed 27 = .ok (.aload_n 0, 1) := by decide +kernel
theorem dX11_feed_28 : decode cX11_feed 28 = .ok (.iload 4, 2) := by decide +kernel
theorem dX11_feed_30 : decode cX11_feed 30 = .ok (.invokevirtual 96, 3) := by decide +kernel
theorem dX11_feed_33 : decode cX11_feed 33 = .ok (.aload_n 0, 1) := by decide +kernel
theorem dX11_feed_34 : decode cX11_feed 34 = .ok (.iload 5, 2) := by decide +kernel
theorem dX11_feed_36 : decode cX11_feed 36 = .ok (.invokevirtual 96, 3) := by decide +kernel
theorem dX11_feed_39 : decode cX11_feed 39 = .ok (.aload_n 0, 1) := by decide +kernel
theorem dX11_feed_40 : decode cX11_feed 40 = .ok (.getfield 92, 3) := by decide +kernel
theorem dX11_feed_43 : decode cX11_feed 43 = .ok (.ireturn, 1) := by decide +kernel
set_option maxHeartbeats 4000000 in
set_option maxRecDepth 100000 in
theorem w_X11_feed {X : CX} {T : List Dsc} {n1 n2 : Nat} {x0 : Nat} {x1 : Int32} {x2 : Int32} {x3 : Int32} {x4 : Int32} {x5 : Int32} {μ : Mem} {r : (Int32 × Mem)} (hX : XR X 2 n1 n2) (hx0 : T[x0]? = some (.inl 10)) (hf : F_X11_feed T x0 x1 x2 x3 x4 x5 μ = some r) (hk : FnI X cX11_feed RX11 6 T n1 n2 r) : Wp X cX11_feed RX11 6 T μ n1 n2 0 [(0, .ref x0), (1, .int x1), (2, .int x2), (3, .int x3), (4, .int x4), (5, .int x5)] [] := by
  unfold F_X11_feed at hf
  refine Wp.aload_n (pc := 0) 0 rfl rfl dX11_feed_0 ?_
  refine Wp.getI (pc := 1) hx0 fk_RX11_92 rfl dX11_feed_1 ?_
  refine Wp.sipush (pc := 4) (1980 : Int32) (by decide) dX11_feed_4 ?_
  refine Wp.icmp_le (pc := 7) 12 dX11_feed_7 (by decide) (fun hc1 => ?_) (fun hc1 => ?_)
  · rw [if_pos hc1] at hf
    refine Wp.aload_n (pc := 12) 0 rfl rfl dX11_feed_12 ?_
    refine Wp.iload_n (pc := 13) 1 rfl rfl dX11_feed_13 ?_
    obtain ⟨c2, h3, hf⟩ := bnd hf
    refine Wp.callVv (pc := 14) (st := []) (as := [.int x1]) (c_X11_tapeWord hx0 h3) ml_RX11_96 mv_X11_tapeWord mb_X11_tapeWord hX (Nat.le_of_ble_eq_true rfl) (by decide) rfl hx0 rfl (by simp) dX11_feed_14 rfl ?_
    refine Wp.aload_n (pc := 17) 0 rfl rfl dX11_feed_17 ?_
    refine Wp.iload_n (pc := 18) 2 rfl rfl dX11_feed_18 ?_
    obtain ⟨c4, h5, hf⟩ := bnd hf
    refine Wp.callVv (pc := 19) (st := []) (as := [.int x2]) (c_X11_tapeWord hx0 h5) ml_RX11_96 mv_X11_tapeWord mb_X11_tapeWord hX (Nat.le_of_ble_eq_true rfl) (by decide) rfl hx0 rfl (by simp) dX11_feed_19 rfl ?_
    refine Wp.aload_n (pc := 22) 0 rfl rfl dX11_feed_22 ?_
    refine Wp.iload_n (pc := 23) 3 rfl rfl dX11_feed_23 ?_
    obtain ⟨c6, h7, hf⟩ := bnd hf
    refine Wp.callVv (pc := 24) (st := []) (as := [.int x3]) (c_X11_tapeWord hx0 h7) ml_RX11_96 mv_X11_tapeWord mb_X11_tapeWord hX (Nat.le_of_ble_eq_true rfl) (by decide) rfl hx0 rfl (by simp) dX11_feed_24 rfl ?_
    refine Wp.aload_n (pc := 27) 0 rfl rfl dX11_feed_27 ?_
    refine Wp.iload (pc := 28) 4 rfl dX11_feed_28 ?_
    obtain ⟨c8, h9, hf⟩ := bnd hf
    refine Wp.callVv (pc := 30) (st := []) (as := [.int x4]) (c_X11_tapeWord hx0 h9) ml_RX11_96 mv_X11_tapeWord mb_X11_tapeWord hX (Nat.le_of_ble_eq_true rfl) (by decide) rfl hx0 rfl (by simp) dX11_feed_30 rfl ?_
    refine Wp.aload_n (pc := 33) 0 rfl rfl dX11_feed_33 ?_
    refine Wp.iload (pc := 34) 5 rfl dX11_feed_34 ?_
    obtain ⟨c10, h11, hf⟩ := bnd hf
    refine Wp.callVv (pc := 36) (st := []) (as := [.int x5]) (c_X11_tapeWord hx0 h11) ml_RX11_96 mv_X11_tapeWord mb_X11_tapeWord hX (Nat.le_of_ble_eq_true rfl) (by decide) rfl hx0 rfl (by simp) dX11_feed_36 rfl ?_
    refine Wp.aload_n (pc := 39) 0 rfl rfl dX11_feed_39 ?_
    refine Wp.getI (pc := 40) hx0 fk_RX11_92 rfl dX11_feed_40 ?_
    cases hf
    exact hk _ _ dX11_feed_43
  · rw [if_neg hc1] at hf
    refine Wp.iconst (pc := 10) (-1 : Int32) (by decide) dX11_feed_10 ?_
    cases hf
    exact hk _ _ dX11_feed_11
theorem c_X11_feed {T : List Dsc} {x0 : Nat} {x1 : Int32} {x2 : Int32} {x3 : Int32} {x4 : Int32} {x5 : Int32} {μ : Mem} {r : (Int32 × Mem)} (hx0 : T[x0]? = some (.inl 10)) (hf : F_X11_feed T x0 x1 x2 x3 x4 x5 μ = some r) : Ct 2 yX11_feed cX11_feed 6 (some .int) T μ [.ref x0, .int x1, .int x2, .int x3, .int x4, .int x5] (some (.int r.1)) r.2 := Ct.ofI (by decide +kernel) (Nat.le_of_ble_eq_true rfl) (fun X hX hk => w_X11_feed hX hx0 hf hk)
theorem dX11_back_0 : decode cX11_back 0 = .ok (.iload_n 1, 1) := by decide +kernel
theorem dX11_back_1 : decode cX11_back 1 = .ok (.ifCond .lt 11, 3) := by decide +kernel
theorem dX11_back_4 : decode cX11_back 4 = .ok (.iload_n 1, 1) := by decide +kernel
theorem dX11_back_5 : decode cX11_back 5 = .ok (.aload_n 0, 1) := by decide +kernel
theorem dX11_back_6 : decode cX11_back 6 = .ok (.getfield 92, 3) := by decide +kernel
theorem dX11_back_9 : decode cX11_back 9 = .ok (.if_icmp .le 5, 3) := by decide +kernel
theorem dX11_back_12 : decode cX11_back 12 = .ok (.iconst (-1), 1) := by decide +kernel
theorem dX11_back_13 : decode cX11_back 13 = .ok (.ireturn, 1) := by decide +kernel
theorem dX11_back_14 : decode cX11_back 14 = .ok (.aload_n 0, 1) := by decide +kernel
theorem dX11_back_15 : decode cX11_back 15 = .ok (.dup, 1) := by decide +kernel
theorem dX11_back_16 : decode cX11_back 16 = .ok (.getfield 92, 3) := by decide +kernel
theorem dX11_back_19 : decode cX11_back 19 = .ok (.iload_n 1, 1) := by decide +kernel
theorem dX11_back_20 : decode cX11_back 20 = .ok (.isub, 1) := by decide +kernel
theorem dX11_back_21 : decode cX11_back 21 = .ok (.putfield 92, 3) := by decide +kernel
theorem dX11_back_24 : decode cX11_back 24 = .ok (.aload_n 0, 1) := by decide +kernel
theorem dX11_back_25 : decode cX11_back 25 = .ok (.getfield 92, 3) := by decide +kernel
theorem dX11_back_28 : decode cX11_back 28 = .ok (.ireturn, 1) := by decide +kernel
set_option maxHeartbeats 4000000 in
set_option maxRecDepth 100000 in
theorem w_X11_back_12 {X : CX} {T : List Dsc} {n1 n2 : Nat} {μ : Mem} {r : (Int32 × Mem)} (hX : XR X 1 n1 n2) (hf : f_X11_back_12 T μ = some r) (hk : FnI X cX11_back RX11 2 T n1 n2 r) : Wp X cX11_back RX11 2 T μ n1 n2 12 [] [] := by
  unfold f_X11_back_12 at hf
  refine Wp.iconst (pc := 12) (-1 : Int32) (by decide) dX11_back_12 ?_
  cases hf
  exact hk _ _ dX11_back_13
set_option maxHeartbeats 4000000 in
set_option maxRecDepth 100000 in
theorem w_X11_back {X : CX} {T : List Dsc} {n1 n2 : Nat} {x0 : Nat} {x1 : Int32} {μ : Mem} {r : (Int32 × Mem)} (hX : XR X 1 n1 n2) (hx0 : T[x0]? = some (.inl 10)) (hf : F_X11_back T x0 x1 μ = some r) (hk : FnI X cX11_back RX11 2 T n1 n2 r) : Wp X cX11_back RX11 2 T μ n1 n2 0 [(0, .ref x0), (1, .int x1)] [] := by
  unfold F_X11_back at hf
  refine Wp.iload_n (pc := 0) 1 rfl rfl dX11_back_0 ?_
  refine Wp.if_lt (pc := 1) 12 dX11_back_1 (by decide) (fun hc1 => ?_) (fun hc1 => ?_)
  · rw [if_pos hc1] at hf
    refine Wp.lo' (lo' := []) [] rfl ?_
    exact w_X11_back_12 hX hf hk
  · rw [if_neg hc1] at hf
    refine Wp.iload_n (pc := 4) 1 rfl rfl dX11_back_4 ?_
    refine Wp.aload_n (pc := 5) 0 rfl rfl dX11_back_5 ?_
    refine Wp.getI (pc := 6) hx0 fk_RX11_92 rfl dX11_back_6 ?_
    refine Wp.icmp_le (pc := 9) 14 dX11_back_9 (by decide) (fun hc2 => ?_) (fun hc2 => ?_)
    · rw [if_pos hc2] at hf
      refine Wp.aload_n (pc := 14) 0 rfl rfl dX11_back_14 ?_
      refine Wp.dup (pc := 15) rfl dX11_back_15 ?_
      refine Wp.getI (pc := 16) hx0 fk_RX11_92 rfl dX11_back_16 ?_
      refine Wp.iload_n (pc := 19) 1 rfl rfl dX11_back_19 ?_
      refine Wp.isub (pc := 20) dX11_back_20 ?_
      obtain ⟨μ3, h4, hf⟩ := bnd hf
      refine Wp.ptI (pc := 21) h4 hx0 fk_RX11_92 ff_RX11_10_1 rfl dX11_back_21 ?_
      refine Wp.aload_n (pc := 24) 0 rfl rfl dX11_back_24 ?_
      refine Wp.getI (pc := 25) hx0 fk_RX11_92 rfl dX11_back_25 ?_
      cases hf
      exact hk _ _ dX11_back_28
    · rw [if_neg hc2] at hf
      refine Wp.lo' (lo' := []) [] rfl ?_
      exact w_X11_back_12 hX hf hk
theorem c_X11_back {T : List Dsc} {x0 : Nat} {x1 : Int32} {μ : Mem} {r : (Int32 × Mem)} (hx0 : T[x0]? = some (.inl 10)) (hf : F_X11_back T x0 x1 μ = some r) : Ct 1 yX11_back cX11_back 2 (some .int) T μ [.ref x0, .int x1] (some (.int r.1)) r.2 := Ct.ofI (by decide +kernel) (Nat.le_of_ble_eq_true rfl) (fun X hX hk => w_X11_back hX hx0 hf hk)
theorem dX11_putSpareInPlace_0 : decode cX11_putSpareInPlace 0 = .ok (.aload_n 0, 1) := by decide +kernel
theorem dX11_putSpareInPlace_1 : decode cX11_putSpareInPlace 1 = .ok (.getfield 16, 3) := by decide +kernel
theorem dX11_putSpareInPlace_4 : decode cX11_putSpareInPlace 4 = .ok (.astore_n 1, 1) := by decide +kernel
theorem dX11_putSpareInPlace_5 : decode cX11_putSpareInPlace 5 = .ok (.aload_n 0, 1) := by decide +kernel
theorem dX11_putSpareInPlace_6 : decode cX11_putSpareInPlace 6 = .ok (.aload_n 0, 1) := by decide +kernel
theorem dX11_putSpareInPlace_7 : decode cX11_putSpareInPlace 7 = .ok (.getfield 20, 3) := by decide +kernel
theorem dX11_putSpareInPlace_10 : decode cX11_putSpareInPlace 10 = .ok (.putfield 16, 3) := by decide +kernel
theorem dX11_putSpareInPlace_13 : decode cX11_putSpareInPlace 13 = .ok (.aload_n 0, 1) := by decide +kernel
theorem dX11_putSpareInPlace_14 : decode cX11_putSpareInPlace 14 = .ok (.aload_n 1, 1) := by decide +kernel
theorem dX11_putSpareInPlace_15 : decode cX11_putSpareInPlace 15 = .ok (.putfield 20, 3) := by decide +kernel
theorem dX11_putSpareInPlace_18 : decode cX11_putSpareInPlace 18 = .ok (.aload_n 0, 1) := by decide +kernel
theorem dX11_putSpareInPlace_19 : decode cX11_putSpareInPlace 19 = .ok (.getfield 37, 3) := by decide +kernel
theorem dX11_putSpareInPlace_22 : decode cX11_putSpareInPlace 22 = .ok (.aload_n 0, 1) := by decide +kernel
theorem dX11_putSpareInPlace_23 : decode cX11_putSpareInPlace 23 = .ok (.getfield 16, 3) := by decide +kernel
theorem dX11_putSpareInPlace_26 : decode cX11_putSpareInPlace 26 = .ok (.putfield 107, 3) := by decide +kernel
theorem dX11_putSpareInPlace_29 : decode cX11_putSpareInPlace 29 = .ok (.aload_n 0, 1) := by decide +kernel
theorem dX11_putSpareInPlace_30 : decode cX11_putSpareInPlace 30 = .ok (.getfield 44, 3) := by decide +kernel
theorem dX11_putSpareInPlace_33 : decode cX11_putSpareInPlace 33 = .ok (.aload_n 0, 1) := by decide +kernel
theorem dX11_putSpareInPlace_34 : decode cX11_putSpareInPlace 34 = .ok (.getfield 16, 3) := by decide +kernel
theorem dX11_putSpareInPlace_37 : decode cX11_putSpareInPlace 37 = .ok (.invokevirtual 89, 3) := by decide +kernel
theorem dX11_putSpareInPlace_40 : decode cX11_putSpareInPlace 40 = .ok (.aload_n 0, 1) := by decide +kernel
theorem dX11_putSpareInPlace_41 : decode cX11_putSpareInPlace 41 = .ok (.getfield 55, 3) := by decide +kernel
theorem dX11_putSpareInPlace_44 : decode cX11_putSpareInPlace 44 = .ok (.invokevirtual 108, 3) := by decide +kernel
theorem dX11_putSpareInPlace_47 : decode cX11_putSpareInPlace 47 = .ok (.aload_n 0, 1) := by decide +kernel
theorem dX11_putSpareInPlace_48 : decode cX11_putSpareInPlace 48 = .ok (.getfield 85, 3) := by decide +kernel
theorem dX11_putSpareInPlace_51 : decode cX11_putSpareInPlace 51 = .ok (.iconst 0, 1) := by decide +kernel
theorem dX11_putSpareInPlace_52 : decode cX11_putSpareInPlace 52 = .ok (.putfield 111, 3) := by decide +kernel
theorem dX11_putSpareInPlace_55 : decode cX11_putSpareInPlace 55 = .ok (.iconst 0, 1) := by decide +kernel
theorem dX11_putSpareInPlace_56 : decode cX11_putSpareInPlace 56 = .ok (.istore_n 2, 1) := by decide +kernel
theorem dX11_putSpareInPlace_57 : decode cX11_putSpareInPlace 57 = .ok (.iload_n 2, 1) := by decide +kernel
theorem dX11_putSpareInPlace_58 : decode cX11_putSpareInPlace 58 = .ok (.iconst 3, 1) := by decide +kernel
theorem dX11_putSpareInPlace_59 : decode cX11_putSpareInPlace 59 = .ok (.if_icmp .ge 19, 3) := by decide +kernel
theorem dX11_putSpareInPlace_62 : decode cX11_putSpareInPlace 62 = .ok (.aload_n 0, 1) := by decide +kernel
theorem dX11_putSpareInPlace_63 : decode cX11_putSpareInPlace 63 = .ok (.getfield 48, 3) := by decide +kernel
theorem dX11_putSpareInPlace_66 : decode cX11_putSpareInPlace 66 = .ok (.iload_n 2, 1) := by decide +kernel
theorem dX11_putSpareInPlace_67 : decode cX11_putSpareInPlace 67 = .ok (.aaload, 1) := by decide +kernel
theorem dX11_putSpareInPlace_68 : decode cX11_putSpareInPlace 68 = .ok (.iconst 0, 1) := by decide +kernel
theorem dX11_putSpareInPlace_69 : decode cX11_putSpareInPlace 69 = .ok (.putfield 114, 3) := by decide +kernel
theorem dX11_putSpareInPlace_72 : decode cX11_putSpareInPlace 72 = .ok (.iinc 2 1, 3) := by decide +kernel
theorem dX11_putSpareInPlace_75 : decode cX11_putSpareInPlace 75 = .ok (.goto (-18), 3) := by decide +kernel
theorem dX11_putSpareInPlace_78 : decode cX11_putSpareInPlace 78 = .ok (.return_, 1) := by decide +kernel
def k_X11_putSpareInPlace_57 (X : CX) (T : List Dsc) (n1 n2 : Nat) (x0 : Nat) (r : ((Int32 × Mem) ⊕ ((Mem)))) : Prop := match r with
  | .inl s => Wp X cX11_putSpareInPlace RX11 3 T s.2 n1 n2 57 [(0, .ref x0), (2, .int s.1)] []
  | .inr e => Wp X cX11_putSpareInPlace RX11 3 T e n1 n2 78 [] []
set_option maxHeartbeats 4000000 in
set_option maxRecDepth 100000 in
theorem w_X11_putSpareInPlace_57 {X : CX} {T : List Dsc} {n1 n2 : Nat} {x0 : Nat} {x2 : Int32} {μ : Mem} {r : ((Int32 × Mem) ⊕ ((Mem)))} (hX : XR X 2 n1 n2) (hx0 : T[x0]? = some (.inl 10)) (hf : f_X11_putSpareInPlace_57 T x0 x2 μ = some r) (hk : k_X11_putSpareInPlace_57 X T n1 n2 x0 r) : Wp X cX11_putSpareInPlace RX11 3 T μ n1 n2 57 [(0, .ref x0), (2, .int x2)] [] := by
  unfold f_X11_putSpareInPlace_57 at hf
  refine Wp.iload_n (pc := 57) 1 rfl rfl dX11_putSpareInPlace_57 ?_
  refine Wp.iconst (pc := 58) (3 : Int32) (by decide) dX11_putSpareInPlace_58 ?_
  refine Wp.icmp_ge (pc := 59) 78 dX11_putSpareInPlace_59 (by decide) (fun hc1 => ?_) (fun hc1 => ?_)
  · rw [if_pos hc1] at hf
    refine Wp.lo' (lo' := []) [] rfl ?_
    cases hf
    exact hk
  · rw [if_neg hc1] at hf
    refine Wp.aload_n (pc := 62) 0 rfl rfl dX11_putSpareInPlace_62 ?_
    obtain ⟨a2, h3, hf⟩ := bnd hf
    refine Wp.getR (pc := 63) (gA_R h3) hx0 fk_RX11_48 rfl dX11_putSpareInPlace_63 ?_
    refine Wp.iload_n (pc := 66) 1 rfl rfl dX11_putSpareInPlace_66 ?_
    obtain ⟨v4, h5, hf⟩ := bnd hf
    refine Wp.aald (pc := 67) h5 (gA_T h3) dX11_putSpareInPlace_67 ?_
    refine Wp.iconst (pc := 68) (0 : Int32) (by decide) dX11_putSpareInPlace_68 ?_
    obtain ⟨μ6, h7, hf⟩ := bnd hf
    refine Wp.ptZ (pc := 69) (Or.inl rfl) h7 (rO_T h5) fk_RX11_114 ff_RX11_1_5 rfl dX11_putSpareInPlace_69 ?_
    obtain ⟨v8, h9, hf⟩ := bnd hf
    refine Wp.iincN (pc := 72) (lo' := [(0, .ref x0), (2, .int v8)]) (1 : Int32) (by decide) h9 1 rfl [1, 0] rfl (by decide) dX11_putSpareInPlace_72 ?_
    refine Wp.goto (pc := 75) 57 dX11_putSpareInPlace_75 (by decide) ?_
    cases hf
    exact hk
theorem wl_X11_putSpareInPlace_57 {X : CX} {T : List Dsc} {n1 n2 : Nat} {x0 : Nat} {x2 : Int32} {μ : Mem} {e : ((Mem))} (hX : XR X 2 n1 n2) (hx0 : T[x0]? = some (.inl 10)) (h : loop (g_X11_putSpareInPlace_57 T x0) (x2, μ) = some e) (he : Wp X cX11_putSpareInPlace RX11 3 T e n1 n2 78 [] []) : Wp X cX11_putSpareInPlace RX11 3 T μ n1 n2 57 [(0, .ref x0), (2, .int x2)] [] :=
  loop_ok (K := k_X11_putSpareInPlace_57 X T n1 n2 x0) (fun s r hf hk => w_X11_putSpareInPlace_57 hX hx0 hf hk) h he
set_option maxHeartbeats 4000000 in
set_option maxRecDepth 100000 in
theorem w_X11_putSpareInPlace {X : CX} {T : List Dsc} {n1 n2 : Nat} {x0 : Nat} {μ : Mem} {r : Mem} (hX : XR X 2 n1 n2) (hx0 : T[x0]? = some (.inl 10)) (hf : F_X11_putSpareInPlace T x0 μ = some r) (hk : FnV X cX11_putSpareInPlace RX11 3 T n1 n2 r) : Wp X cX11_putSpareInPlace RX11 3 T μ n1 n2 0 [(0, .ref x0)] [] := by
  unfold F_X11_putSpareInPlace at hf
  refine Wp.aload_n (pc := 0) 0 rfl rfl dX11_putSpareInPlace_0 ?_
  obtain ⟨r1, h2, hf⟩ := bnd hf
  refine Wp.getR (pc := 1) (gO_R h2) hx0 fk_RX11_16 rfl dX11_putSpareInPlace_1 ?_
  refine Wp.astore_n (pc := 4) (lo' := [(0, .ref x0), (1, .ref r1)]) [1, 0] rfl (by decide) rfl dX11_putSpareInPlace_4 ?_
  refine Wp.aload_n (pc := 5) 0 rfl rfl dX11_putSpareInPlace_5 ?_
  refine Wp.aload_n (pc := 6) 0 rfl rfl dX11_putSpareInPlace_6 ?_
  obtain ⟨r3, h4, hf⟩ := bnd hf
  refine Wp.getR (pc := 7) (gO_R h4) hx0 fk_RX11_20 rfl dX11_putSpareInPlace_7 ?_
  obtain ⟨μ5, h6, hf⟩ := bnd hf
  refine Wp.ptR (pc := 10) h6 hx0 fk_RX11_16 ff_RX11_10_2 rfl dX11_putSpareInPlace_10 ?_
  refine Wp.aload_n (pc := 13) 0 rfl rfl dX11_putSpareInPlace_13 ?_
  refine Wp.aload_n (pc := 14) 1 rfl rfl dX11_putSpareInPlace_14 ?_
  obtain ⟨μ7, h8, hf⟩ := bnd hf
  refine Wp.ptR (pc := 15) h8 hx0 fk_RX11_20 ff_RX11_10_3 rfl dX11_putSpareInPlace_15 ?_
  refine Wp.aload_n (pc := 18) 0 rfl rfl dX11_putSpareInPlace_18 ?_
  obtain ⟨r9, h10, hf⟩ := bnd hf
  refine Wp.getR (pc := 19) (gO_R h10) hx0 fk_RX11_37 rfl dX11_putSpareInPlace_19 ?_
  refine Wp.aload_n (pc := 22) 0 rfl rfl dX11_putSpareInPlace_22 ?_
  obtain ⟨r11, h12, hf⟩ := bnd hf
  refine Wp.getR (pc := 23) (gO_R h12) hx0 fk_RX11_16 rfl dX11_putSpareInPlace_23 ?_
  obtain ⟨μ13, h14, hf⟩ := bnd hf
  refine Wp.ptR (pc := 26) h14 (gO_T h10) fk_RX11_107 ff_RX11_4_0 rfl dX11_putSpareInPlace_26 ?_
  refine Wp.aload_n (pc := 29) 0 rfl rfl dX11_putSpareInPlace_29 ?_
  obtain ⟨r15, h16, hf⟩ := bnd hf
  refine Wp.getR (pc := 30) (gO_R h16) hx0 fk_RX11_44 rfl dX11_putSpareInPlace_30 ?_
  refine Wp.aload_n (pc := 33) 0 rfl rfl dX11_putSpareInPlace_33 ?_
  obtain ⟨r17, h18, hf⟩ := bnd hf
  refine Wp.getR (pc := 34) (gO_R h18) hx0 fk_RX11_16 rfl dX11_putSpareInPlace_34 ?_
  obtain ⟨c19, h20, hf⟩ := bnd hf
  refine Wp.callVv (pc := 37) (st := []) (as := [.ref r17]) (c_X1_begin (gO_T h16) (gO_T h18) h20) ml_RX11_89 mv_X1_begin mb_X1_begin hX (Nat.le_of_ble_eq_true rfl) (by decide) rfl (gO_T h16) rfl (by simp) dX11_putSpareInPlace_37 rfl ?_
  refine Wp.aload_n (pc := 40) 0 rfl rfl dX11_putSpareInPlace_40 ?_
  obtain ⟨r21, h22, hf⟩ := bnd hf
  refine Wp.getR (pc := 41) (gO_R h22) hx0 fk_RX11_55 rfl dX11_putSpareInPlace_41 ?_
  obtain ⟨c23, h24, hf⟩ := bnd hf
  refine Wp.callVv (pc := 44) (st := []) (as := []) (c_X3_clear (gO_T h22) h24) ml_RX11_108 mv_X3_clear mb_X3_clear hX (Nat.le_of_ble_eq_true rfl) (by decide) rfl (gO_T h22) rfl (by simp) dX11_putSpareInPlace_44 rfl ?_
  refine Wp.aload_n (pc := 47) 0 rfl rfl dX11_putSpareInPlace_47 ?_
  obtain ⟨r25, h26, hf⟩ := bnd hf
  refine Wp.getR (pc := 48) (gO_R h26) hx0 fk_RX11_85 rfl dX11_putSpareInPlace_48 ?_
  refine Wp.iconst (pc := 51) (0 : Int32) (by decide) dX11_putSpareInPlace_51 ?_
  obtain ⟨μ27, h28, hf⟩ := bnd hf
  refine Wp.ptI (pc := 52) h28 (gO_T h26) fk_RX11_111 ff_RX11_9_1 rfl dX11_putSpareInPlace_52 ?_
  refine Wp.iconst (pc := 55) (0 : Int32) (by decide) dX11_putSpareInPlace_55 ?_
  refine Wp.istore_n (pc := 56) (lo' := [(0, .ref x0), (2, .int (0 : Int32))]) [1, 0] rfl (by decide) rfl dX11_putSpareInPlace_56 ?_
  obtain ⟨e29, h30, hf⟩ := bnd hf
  refine wl_X11_putSpareInPlace_57 hX hx0 h30 ?_
  cases hf
  exact hk _ _ dX11_putSpareInPlace_78
theorem c_X11_putSpareInPlace {T : List Dsc} {x0 : Nat} {μ : Mem} {r : Mem} (hx0 : T[x0]? = some (.inl 10)) (hf : F_X11_putSpareInPlace T x0 μ = some r) : Ct 2 yX11_putSpareInPlace cX11_putSpareInPlace 3 none T μ [.ref x0] none r := Ct.ofV (by decide +kernel) (Nat.le_of_ble_eq_true rfl) (fun X hX hk => w_X11_putSpareInPlace hX hx0 hf hk)
theorem dX11_read_0 : decode cX11_read 0 = .ok (.aload_n 0, 1) := by decide +kernel
theorem dX11_read_1 : decode cX11_read 1 = .ok (.getfield 28, 3) := by decide +kernel
theorem dX11_read_4 : decode cX11_read 4 = .ok (.aload_n 0, 1) := by decide +kernel
theorem dX11_read_5 : decode cX11_read 5 = .ok (.getfield 92, 3) := by decide +kernel
theorem dX11_read_8 : decode cX11_read 8 = .ok (.aload_n 0, 1) := by decide +kernel
theorem dX11_read_9 : decode cX11_read 9 = .ok (.getfield 20, 3) := by decide +kernel
theorem dX11_read_12 : decode cX11_read 12 = .ok (.invokevirtual 100, 3) := by decide +kernel
theorem dX11_read_15 : decode cX11_read 15 = .ok (.istore_n 1, 1) := by decide +kernel
theorem dX11_read_16 : decode cX11_read 16 = .ok (.aload_n 0, 1) := by decide +kernel
theorem dX11_read_17 : decode cX11_read 17 = .ok (.iconst 0, 1) := by decide +kernel
theorem dX11_read_18 : decode cX11_read 18 = .ok (.putfield 92, 3) := by decide +kernel
theorem dX11_read_21 : decode cX11_read 21 = .ok (.iload_n 1, 1) := by decide +kernel
theorem dX11_read_22 : decode cX11_read 22 = .ok (.ifCond .ne 7, 3) := by decide +kernel
theorem dX11_read_25 : decode cX11_read 25 = .ok (.aload_n 0, 1) := by decide +kernel
theorem dX11_read_26 : decode cX11_read 26 = .ok (.invokevirtual 104, 3) := by decide +kernel
theorem dX11_read_29 : decode cX11_read 29 = .ok (.iload_n 1, 1) := by decide +kernel
theorem dX11_read_30 : decode cX11_read 30 = .ok (.ireturn, 1) := by decide +kernel
set_option maxHeartbeats 4000000 in
set_option maxRecDepth 100000 in
theorem w_X11_read_29 {X : CX} {T : List Dsc} {n1 n2 : Nat} {x1 : Int32} {μ : Mem} {r : (Int32 × Mem)} (hX : XR X 75 n1 n2) (hf : f_X11_read_29 T x1 μ = some r) (hk : FnI X cX11_read RX11 2 T n1 n2 r) : Wp X cX11_read RX11 2 T μ n1 n2 29 [(1, .int x1)] [] := by
  unfold f_X11_read_29 at hf
  refine Wp.iload_n (pc := 29) 0 rfl rfl dX11_read_29 ?_
  cases hf
  exact hk _ _ dX11_read_30
set_option maxHeartbeats 4000000 in
set_option maxRecDepth 100000 in
theorem w_X11_read {X : CX} {T : List Dsc} {n1 n2 : Nat} {x0 : Nat} {μ : Mem} {r : (Int32 × Mem)} (hX : XR X 75 n1 n2) (hx0 : T[x0]? = some (.inl 10)) (hf : F_X11_read T x0 μ = some r) (hk : FnI X cX11_read RX11 2 T n1 n2 r) : Wp X cX11_read RX11 2 T μ n1 n2 0 [(0, .ref x0)] [] := by
  unfold F_X11_read at hf
  refine Wp.aload_n (pc := 0) 0 rfl rfl dX11_read_0 ?_
  obtain ⟨r1, h2, hf⟩ := bnd hf
  refine Wp.getR (pc := 1) (gO_R h2) hx0 fk_RX11_28 rfl dX11_read_1 ?_
  refine Wp.aload_n (pc := 4) 0 rfl rfl dX11_read_4 ?_
  refine Wp.getI (pc := 5) hx0 fk_RX11_92 rfl dX11_read_5 ?_
  refine Wp.aload_n (pc := 8) 0 rfl rfl dX11_read_8 ?_
  obtain ⟨r3, h4, hf⟩ := bnd hf
  refine Wp.getR (pc := 9) (gO_R h4) hx0 fk_RX11_20 rfl dX11_read_9 ?_
  obtain ⟨c5, h6, hf⟩ := bnd hf
  refine Wp.callVi (pc := 12) (st := []) (as := [.int (gI μ x0 1), .ref r3]) (c_X4_readTape (gO_T h2) (gO_T h4) h6) ml_RX11_100 mv_X4_readTape mb_X4_readTape hX (Nat.le_of_ble_eq_true rfl) (by decide) rfl (gO_T h2) rfl (by simp) dX11_read_12 rfl ?_
  refine Wp.istore_n (pc := 15) (lo' := [(0, .ref x0), (1, .int c5.1)]) [1, 0] rfl (by decide) rfl dX11_read_15 ?_
  refine Wp.aload_n (pc := 16) 0 rfl rfl dX11_read_16 ?_
  refine Wp.iconst (pc := 17) (0 : Int32) (by decide) dX11_read_17 ?_
  obtain ⟨μ7, h8, hf⟩ := bnd hf
  refine Wp.ptI (pc := 18) h8 hx0 fk_RX11_92 ff_RX11_10_1 rfl dX11_read_18 ?_
  refine Wp.iload_n (pc := 21) 1 rfl rfl dX11_read_21 ?_
  refine Wp.if_ne (pc := 22) 29 dX11_read_22 (by decide) (fun hc9 => ?_) (fun hc9 => ?_)
  · rw [if_neg hc9] at hf
    refine Wp.lo' (lo' := [(1, .int c5.1)]) [1] rfl ?_
    exact w_X11_read_29 hX hf hk
  · rw [if_pos hc9] at hf
    refine Wp.aload_n (pc := 25) 0 rfl rfl dX11_read_25 ?_
    obtain ⟨c10, h11, hf⟩ := bnd hf
    refine Wp.callVv (pc := 26) (st := []) (as := []) (c_X11_putSpareInPlace hx0 h11) ml_RX11_104 mv_X11_putSpareInPlace mb_X11_putSpareInPlace hX (Nat.le_of_ble_eq_true rfl) (by decide) rfl hx0 rfl (by simp) dX11_read_26 rfl ?_
    refine Wp.lo' (lo' := [(1, .int c5.1)]) [1] rfl ?_
    exact w_X11_read_29 hX hf hk
theorem c_X11_read {T : List Dsc} {x0 : Nat} {μ : Mem} {r : (Int32 × Mem)} (hx0 : T[x0]? = some (.inl 10)) (hf : F_X11_read T x0 μ = some r) : Ct 75 yX11_read cX11_read 2 (some .int) T μ [.ref x0] (some (.int r.1)) r.2 := Ct.ofI (by decide +kernel) (Nat.le_of_ble_eq_true rfl) (fun X hX hk => w_X11_read hX hx0 hf hk)
theorem dX11_place_0 : decode cX11_place 0 = .ok (.aload_n 0, 1) := by decide +kernel
theorem dX11_place_1 : decode cX11_place 1 = .ok (.getfield 28, 3) := by decide +kernel
theorem dX11_place_4 : decode cX11_place 4 = .ok (.getfield 118, 3) := by decide +kernel
theorem dX11_place_7 : decode cX11_place 7 = .ok (.ireturn, 1) := by decide +kernel
set_option maxHeartbeats 4000000 in
set_option maxRecDepth 100000 in
theorem w_X11_place {X : CX} {T : List Dsc} {n1 n2 : Nat} {x0 : Nat} {μ : Mem} {r : (Int32 × Mem)} (hX : XR X 1 n1 n2) (hx0 : T[x0]? = some (.inl 10)) (hf : F_X11_place T x0 μ = some r) (hk : FnI X cX11_place RX11 1 T n1 n2 r) : Wp X cX11_place RX11 1 T μ n1 n2 0 [(0, .ref x0)] [] := by
  unfold F_X11_place at hf
  refine Wp.aload_n (pc := 0) 0 rfl rfl dX11_place_0 ?_
  obtain ⟨r1, h2, hf⟩ := bnd hf
  refine Wp.getR (pc := 1) (gO_R h2) hx0 fk_RX11_28 rfl dX11_place_1 ?_
  refine Wp.getI (pc := 4) (gO_T h2) fk_RX11_118 rfl dX11_place_4 ?_
  cases hf
  exact hk _ _ dX11_place_7
theorem c_X11_place {T : List Dsc} {x0 : Nat} {μ : Mem} {r : (Int32 × Mem)} (hx0 : T[x0]? = some (.inl 10)) (hf : F_X11_place T x0 μ = some r) : Ct 1 yX11_place cX11_place 1 (some .int) T μ [.ref x0] (some (.int r.1)) r.2 := Ct.ofI (by decide +kernel) (Nat.le_of_ble_eq_true rfl) (fun X hX hk => w_X11_place hX hx0 hf hk)
theorem dX11_isBench_0 : decode cX11_isBench 0 = .ok (.iload_n 1, 1) := by decide +kernel
theorem dX11_isBench_1 : decode cX11_isBench 1 = .ok (.ifCond .lt 18, 3) := by decide +kernel
theorem dX11_isBench_4 : decode cX11_isBench 4 = .ok (.iload_n 1, 1) := by decide +kernel
theorem dX11_isBench_5 : decode cX11_isBench 5 = .ok (.aload_n 0, 1) := by decide +kernel
theorem dX11_isBench_6 : decode cX11_isBench 6 = .ok (.getfield 16, 3) := by decide +kernel
theorem dX11_isBench_9 : decode cX11_isBench 9 = .ok (.getfield 153, 3) := by decide +kernel
theorem dX11_isBench_12 : decode cX11_isBench 12 = .ok (.if_icmp .ge 7, 3) := by decide +kernel
theorem dX11_isBench_15 : decode cX11_isBench 15 = .ok (.iconst 1, 1) := by decide +kernel
theorem dX11_isBench_16 : decode cX11_isBench 16 = .ok (.goto 4, 3) := by decide +kernel
theorem dX11_isBench_19 : decode cX11_isBench 19 = .ok (.iconst 0, 1) := by decide +kernel
theorem dX11_isBench_20 : decode cX11_isBench 20 = .ok (.ireturn, 1) := by decide +kernel
set_option maxHeartbeats 4000000 in
set_option maxRecDepth 100000 in
theorem w_X11_isBench_20 {X : CX} {T : List Dsc} {n1 n2 : Nat} {s0 : Int32} {μ : Mem} {r : (Int32 × Mem)} (hX : XR X 1 n1 n2) (hf : f_X11_isBench_20 T s0 μ = some r) (hk : FnZ X cX11_isBench RX11 2 T n1 n2 r) : Wp X cX11_isBench RX11 2 T μ n1 n2 20 [] [.int s0] := by
  unfold f_X11_isBench_20 at hf
  obtain ⟨v1, h2, hf⟩ := bnd hf
  refine Wp.zb' h2 (fun h2 => ?_)
  cases hf
  exact hk _ _ h2 dX11_isBench_20
set_option maxHeartbeats 4000000 in
set_option maxRecDepth 100000 in
theorem w_X11_isBench_19 {X : CX} {T : List Dsc} {n1 n2 : Nat} {μ : Mem} {r : (Int32 × Mem)} (hX : XR X 1 n1 n2) (hf : f_X11_isBench_19 T μ = some r) (hk : FnZ X cX11_isBench RX11 2 T n1 n2 r) : Wp X cX11_isBench RX11 2 T μ n1 n2 19 [] [] := by
  unfold f_X11_isBench_19 at hf
  refine Wp.iconst (pc := 19) (0 : Int32) (by decide) dX11_isBench_19 ?_
  exact w_X11_isBench_20 hX hf hk
set_option maxHeartbeats 4000000 in
set_option maxRecDepth 100000 in
theorem w_X11_isBench {X : CX} {T : List Dsc} {n1 n2 : Nat} {x0 : Nat} {x1 : Int32} {μ : Mem} {r : (Int32 × Mem)} (hX : XR X 1 n1 n2) (hx0 : T[x0]? = some (.inl 10)) (hf : F_X11_isBench T x0 x1 μ = some r) (hk : FnZ X cX11_isBench RX11 2 T n1 n2 r) : Wp X cX11_isBench RX11 2 T μ n1 n2 0 [(0, .ref x0), (1, .int x1)] [] := by
  unfold F_X11_isBench at hf
  refine Wp.iload_n (pc := 0) 1 rfl rfl dX11_isBench_0 ?_
  refine Wp.if_lt (pc := 1) 19 dX11_isBench_1 (by decide) (fun hc1 => ?_) (fun hc1 => ?_)
  · rw [if_pos hc1] at hf
    refine Wp.lo' (lo' := []) [] rfl ?_
    exact w_X11_isBench_19 hX hf hk
  · rw [if_neg hc1] at hf
    refine Wp.iload_n (pc := 4) 1 rfl rfl dX11_isBench_4 ?_
    refine Wp.aload_n (pc := 5) 0 rfl rfl dX11_isBench_5 ?_
    obtain ⟨r2, h3, hf⟩ := bnd hf
    refine Wp.getR (pc := 6) (gO_R h3) hx0 fk_RX11_16 rfl dX11_isBench_6 ?_
    refine Wp.getI (pc := 9) (gO_T h3) fk_RX11_153 rfl dX11_isBench_9 ?_
    refine Wp.icmp_ge (pc := 12) 19 dX11_isBench_12 (by decide) (fun hc4 => ?_) (fun hc4 => ?_)
    · rw [if_pos hc4] at hf
      refine Wp.lo' (lo' := []) [] rfl ?_
      exact w_X11_isBench_19 hX hf hk
    · rw [if_neg hc4] at hf
      refine Wp.iconst (pc := 15) (1 : Int32) (by decide) dX11_isBench_15 ?_
      refine Wp.goto (pc := 16) 20 dX11_isBench_16 (by decide) ?_
      refine Wp.lo' (lo' := []) [] rfl ?_
      exact w_X11_isBench_20 hX hf hk
theorem c_X11_isBench {T : List Dsc} {x0 : Nat} {x1 : Int32} {μ : Mem} {r : (Int32 × Mem)} (hx0 : T[x0]? = some (.inl 10)) (hf : F_X11_isBench T x0 x1 μ = some r) : Ct 1 yX11_isBench cX11_isBench 2 (some .boolean) T μ [.ref x0, .int x1] (some (.int r.1)) r.2 := Ct.ofZ (by decide +kernel) (Nat.le_of_ble_eq_true rfl) (fun X hX hk => w_X11_isBench hX hx0 hf hk)
theorem dX11_bench_0 : decode cX11_bench 0 = .ok (.aload_n 0, 1) := by decide +kernel
theorem dX11_bench_1 : decode cX11_bench 1 = .ok (.iload_n 1, 1) := by decide +kernel
theorem dX11_bench_2 : decode cX11_bench 2 = .ok (.invokevirtual 121, 3) := by decide +kernel
theorem dX11_bench_5 : decode cX11_bench 5 = .ok (.ifCond .ne 5, 3) := by decide +kernel
theorem dX11_bench_8 : decode cX11_bench 8 = .ok (.iconst (-1), 1) := by decide +kernel
theorem dX11_bench_9 : decode cX11_bench 9 = .ok (.ireturn, 1) := by decide +kernel
theorem dX11_bench_10 : decode cX11_bench 10 = .ok (.aload_n 0, 1) := by decide +kernel
theorem dX11_bench_11 : decode cX11_bench 11 = .ok (.getfield 44, 3) := by decide +kernel
theorem dX11_bench_14 : decode cX11_bench 14 = .ok (.getfield 125, 3) := by decide +kernel
theorem dX11_bench_17 : decode cX11_bench 17 = .ok (.iload_n 1, 1) := by decide +kernel
theorem dX11_bench_18 : decode cX11_bench 18 = .ok (.invokestatic 129, 3) := by decide +kernel
theorem dX11_bench_21 : decode cX11_bench 21 = .ok (.istore_n 3, 1) := by decide +kernel
theorem dX11_bench_22 : decode cX11_bench 22 = .ok (.iload_n 2, 1) := by decide +kernel
theorem dX11_bench_23 : decode cX11_bench 23 = .ok (.tableswitch 82 0 3 #[29, 31, 41, 51], 29) := by decide +kernel
theorem dX11_bench_52 : decode cX11_bench 52 = .ok (.iload_n 3, 1) := by decide +kernel
theorem dX11_bench_53 : decode cX11_bench 53 = .ok (.ireturn, 1) := by decide +kernel
theorem dX11_bench_54 : decode cX11_bench 54 = .ok (.aload_n 0, 1) := by decide +kernel
theorem dX11_bench_55 : decode cX11_bench 55 = .ok (.getfield 44, 3) := by decide +kernel
theorem dX11_bench_58 : decode cX11_bench 58 = .ok (.getfield 133, 3) := by decide +kernel
theorem dX11_bench_61 : decode cX11_bench 61 = .ok (.iload_n 1, 1) := by decide +kernel
theorem dX11_bench_62 : decode cX11_bench 62 = .ok (.iaload, 1) := by decide +kernel
theorem dX11_bench_63 : decode cX11_bench 63 = .ok (.ireturn, 1) := by decide +kernel
theorem dX11_bench_64 : decode cX11_bench 64 = .ok (.aload_n 0, 1) := by decide +kernel
theorem dX11_bench_65 : decode cX11_bench 65 = .ok (.getfield 44, 3) := by decide +kernel
theorem dX11_bench_68 : decode cX11_bench 68 = .ok (.getfield 137, 3) := by decide +kernel
theorem dX11_bench_71 : decode cX11_bench 71 = .ok (.iload_n 1, 1) := by decide +kernel
theorem dX11_bench_72 : decode cX11_bench 72 = .ok (.iaload, 1) := by decide +kernel
theorem dX11_bench_73 : decode cX11_bench 73 = .ok (.ireturn, 1) := by decide +kernel
theorem dX11_bench_74 : decode cX11_bench 74 = .ok (.aload_n 0, 1) := by decide +kernel
theorem dX11_bench_75 : decode cX11_bench 75 = .ok (.getfield 37, 3) := by decide +kernel
theorem dX11_bench_78 : decode cX11_bench 78 = .ok (.iload_n 1, 1) := by decide +kernel
theorem dX11_bench_79 : decode cX11_bench 79 = .ok (.iload_n 3, 1) := by decide +kernel
theorem dX11_bench_80 : decode cX11_bench 80 = .ok (.aload_n 0, 1) := by decide +kernel
theorem dX11_bench_81 : decode cX11_bench 81 = .ok (.getfield 44, 3) := by decide +kernel
theorem dX11_bench_84 : decode cX11_bench 84 = .ok (.getfield 140, 3) := by decide +kernel
theorem dX11_bench_87 : decode cX11_bench 87 = .ok (.aload_n 0, 1) := by decide +kernel
theorem dX11_bench_88 : decode cX11_bench 88 = .ok (.getfield 16, 3) := by decide +kernel
theorem dX11_bench_91 : decode cX11_bench 91 = .ok (.aload_n 0, 1) := by decide +kernel
theorem dX11_bench_92 : decode cX11_bench 92 = .ok (.getfield 44, 3) := by decide +kernel
theorem dX11_bench_95 : decode cX11_bench 95 = .ok (.getfield 143, 3) := by decide +kernel
theorem dX11_bench_98 : decode cX11_bench 98 = .ok (.invokevirtual 146, 3) := by decide +kernel
theorem dX11_bench_101 : decode cX11_bench 101 = .ok (.invokevirtual 149, 3) := by decide +kernel
theorem dX11_bench_104 : decode cX11_bench 104 = .ok (.ireturn, 1) := by decide +kernel
theorem dX11_bench_105 : decode cX11_bench 105 = .ok (.iconst (-1), 1) := by decide +kernel
theorem dX11_bench_106 : decode cX11_bench 106 = .ok (.ireturn, 1) := by decide +kernel
set_option maxHeartbeats 4000000 in
set_option maxRecDepth 100000 in
theorem w_X11_bench {X : CX} {T : List Dsc} {n1 n2 : Nat} {x0 : Nat} {x1 : Int32} {x2 : Int32} {μ : Mem} {r : (Int32 × Mem)} (hX : XR X 2 n1 n2) (hx0 : T[x0]? = some (.inl 10)) (hf : F_X11_bench T x0 x1 x2 μ = some r) (hk : FnI X cX11_bench RX11 4 T n1 n2 r) : Wp X cX11_bench RX11 4 T μ n1 n2 0 [(0, .ref x0), (1, .int x1), (2, .int x2)] [] := by
  unfold F_X11_bench at hf
  refine Wp.aload_n (pc := 0) 0 rfl rfl dX11_bench_0 ?_
  refine Wp.iload_n (pc := 1) 1 rfl rfl dX11_bench_1 ?_
  obtain ⟨c1, h2, hf⟩ := bnd hf
  refine Wp.callVi (pc := 2) (st := []) (as := [.int x1]) (c_X11_isBench hx0 h2) ml_RX11_121 mv_X11_isBench mb_X11_isBench hX (Nat.le_of_ble_eq_true rfl) (by decide) rfl hx0 rfl (by simp) dX11_bench_2 rfl ?_
  refine Wp.if_ne (pc := 5) 10 dX11_bench_5 (by decide) (fun hc3 => ?_) (fun hc3 => ?_)
  · rw [if_neg hc3] at hf
    refine Wp.aload_n (pc := 10) 0 rfl rfl dX11_bench_10 ?_
    obtain ⟨r4, h5, hf⟩ := bnd hf
    refine Wp.getR (pc := 11) (gO_R h5) hx0 fk_RX11_44 rfl dX11_bench_11 ?_
    refine Wp.getJ (pc := 14) (gO_T h5) fk_RX11_125 rfl dX11_bench_14 ?_
    refine Wp.iload_n (pc := 17) 1 rfl rfl dX11_bench_17 ?_
    obtain ⟨c6, h7, hf⟩ := bnd hf
    refine Wp.callSi (pc := 18) (st := []) (as := [.long (gJ c1.2 r4 0), .int x1]) (c_X11_timeAt h7) ml_RX11_129 ms_X11_timeAt mb_X11_timeAt hX (Nat.le_of_ble_eq_true rfl) (by decide) rfl (by simp) dX11_bench_18 rfl ?_
    refine Wp.istore_n (pc := 21) (lo' := [(0, .ref x0), (1, .int x1), (2, .int x2), (3, .int c6.1)]) [1, 2, 3, 0] rfl (by decide) rfl dX11_bench_21 ?_
    refine Wp.iload_n (pc := 22) 2 rfl rfl dX11_bench_22 ?_
    by_cases hc8 : x2 = (0 : Int32)
    · rw [if_pos hc8] at hf
      refine Wp.swIn (pc := 23) 52 dX11_bench_23 hc8 (by decide) (by decide) rfl (by decide) ?_
      refine Wp.iload_n (pc := 52) 3 rfl rfl dX11_bench_52 ?_
      cases hf
      exact hk _ _ dX11_bench_53
    · rw [if_neg hc8] at hf
      by_cases hc9 : x2 = (1 : Int32)
      · rw [if_pos hc9] at hf
        refine Wp.swIn (pc := 23) 54 dX11_bench_23 hc9 (by decide) (by decide) rfl (by decide) ?_
        refine Wp.aload_n (pc := 54) 0 rfl rfl dX11_bench_54 ?_
        obtain ⟨r10, h11, hf⟩ := bnd hf
        refine Wp.getR (pc := 55) (gO_R h11) hx0 fk_RX11_44 rfl dX11_bench_55 ?_
        obtain ⟨a12, h13, hf⟩ := bnd hf
        refine Wp.getR (pc := 58) (gA_R h13) (gO_T h11) fk_RX11_133 rfl dX11_bench_58 ?_
        refine Wp.iload_n (pc := 61) 1 rfl rfl dX11_bench_61 ?_
        obtain ⟨v14, h15, hf⟩ := bnd hf
        refine Wp.iald (pc := 62) h15 (gA_T h13) dX11_bench_62 ?_
        cases hf
        exact hk _ _ dX11_bench_63
      · rw [if_neg hc9] at hf
        by_cases hc16 : x2 = (2 : Int32)
        · rw [if_pos hc16] at hf
          refine Wp.swIn (pc := 23) 64 dX11_bench_23 hc16 (by decide) (by decide) rfl (by decide) ?_
          refine Wp.aload_n (pc := 64) 0 rfl rfl dX11_bench_64 ?_
          obtain ⟨r17, h18, hf⟩ := bnd hf
          refine Wp.getR (pc := 65) (gO_R h18) hx0 fk_RX11_44 rfl dX11_bench_65 ?_
          obtain ⟨a19, h20, hf⟩ := bnd hf
          refine Wp.getR (pc := 68) (gA_R h20) (gO_T h18) fk_RX11_137 rfl dX11_bench_68 ?_
          refine Wp.iload_n (pc := 71) 1 rfl rfl dX11_bench_71 ?_
          obtain ⟨v21, h22, hf⟩ := bnd hf
          refine Wp.iald (pc := 72) h22 (gA_T h20) dX11_bench_72 ?_
          cases hf
          exact hk _ _ dX11_bench_73
        · rw [if_neg hc16] at hf
          by_cases hc23 : x2 = (3 : Int32)
          · rw [if_pos hc23] at hf
            refine Wp.swIn (pc := 23) 74 dX11_bench_23 hc23 (by decide) (by decide) rfl (by decide) ?_
            refine Wp.aload_n (pc := 74) 0 rfl rfl dX11_bench_74 ?_
            obtain ⟨r24, h25, hf⟩ := bnd hf
            refine Wp.getR (pc := 75) (gO_R h25) hx0 fk_RX11_37 rfl dX11_bench_75 ?_
            refine Wp.iload_n (pc := 78) 1 rfl rfl dX11_bench_78 ?_
            refine Wp.iload_n (pc := 79) 3 rfl rfl dX11_bench_79 ?_
            refine Wp.aload_n (pc := 80) 0 rfl rfl dX11_bench_80 ?_
            obtain ⟨r26, h27, hf⟩ := bnd hf
            refine Wp.getR (pc := 81) (gO_R h27) hx0 fk_RX11_44 rfl dX11_bench_81 ?_
            refine Wp.getI (pc := 84) (gO_T h27) fk_RX11_140 rfl dX11_bench_84 ?_
            refine Wp.aload_n (pc := 87) 0 rfl rfl dX11_bench_87 ?_
            obtain ⟨r28, h29, hf⟩ := bnd hf
            refine Wp.getR (pc := 88) (gO_R h29) hx0 fk_RX11_16 rfl dX11_bench_88 ?_
            refine Wp.aload_n (pc := 91) 0 rfl rfl dX11_bench_91 ?_
            obtain ⟨r30, h31, hf⟩ := bnd hf
            refine Wp.getR (pc := 92) (gO_R h31) hx0 fk_RX11_44 rfl dX11_bench_92 ?_
            refine Wp.getI (pc := 95) (gO_T h31) fk_RX11_143 rfl dX11_bench_95 ?_
            obtain ⟨c32, h33, hf⟩ := bnd hf
            refine Wp.callVi (pc := 98) (st := [.int (gI c6.2 r26 3), .int c6.1, .int x1, .ref r24]) (as := [.int (gI c6.2 r30 4)]) (c_X7_isFog (gO_T h29) h33) ml_RX11_146 mv_X7_isFog mb_X7_isFog hX (Nat.le_of_ble_eq_true rfl) (by decide) rfl (gO_T h29) rfl (by simp [Value.category]) dX11_bench_98 rfl ?_
            obtain ⟨c34, h35, hf⟩ := bnd hf
            refine Wp.callVi (pc := 101) (st := []) (as := [.int x1, .int c6.1, .int (gI c6.2 r26 3), .int c32.1]) (c_X5_heard (gO_T h25) h35) ml_RX11_149 mv_X5_heard mb_X5_heard hX (Nat.le_of_ble_eq_true rfl) (by decide) rfl (gO_T h25) rfl (by simp) dX11_bench_101 rfl ?_
            cases hf
            exact hk _ _ dX11_bench_104
          · rw [if_neg hc23] at hf
            refine Wp.swOut (pc := 23) 105 dX11_bench_23 (swx (fun k h1 h2 => ?_)) (by decide) ?_
            · have z0 := lv_neT hc8 (a := 0) (by decide); have z1 := lv_neT hc9 (a := 1) (by decide); have z2 := lv_neT hc16 (a := 2) (by decide); have z3 := lv_neT hc23 (a := 3) (by decide); omega
            · skip
              refine Wp.iconst (pc := 105) (-1 : Int32) (by decide) dX11_bench_105 ?_
              cases hf
              exact hk _ _ dX11_bench_106
  · rw [if_pos hc3] at hf
    refine Wp.iconst (pc := 8) (-1 : Int32) (by decide) dX11_bench_8 ?_
    cases hf
    exact hk _ _ dX11_bench_9
theorem c_X11_bench {T : List Dsc} {x0 : Nat} {x1 : Int32} {x2 : Int32} {μ : Mem} {r : (Int32 × Mem)} (hx0 : T[x0]? = some (.inl 10)) (hf : F_X11_bench T x0 x1 x2 μ = some r) : Ct 2 yX11_bench cX11_bench 4 (some .int) T μ [.ref x0, .int x1, .int x2] (some (.int r.1)) r.2 := Ct.ofI (by decide +kernel) (Nat.le_of_ble_eq_true rfl) (fun X hX hk => w_X11_bench hX hx0 hf hk)
theorem dX11_row_0 : decode cX11_row 0 = .ok (.iload_n 1, 1) := by decide +kernel
theorem dX11_row_1 : decode cX11_row 1 = .ok (.ifCond .lt 9, 3) := by decide +kernel
theorem dX11_row_4 : decode cX11_row 4 = .ok (.iload_n 1, 1) := by decide +kernel
theorem dX11_row_5 : decode cX11_row 5 = .ok (.bipush 100, 2) := by decide +kernel
theorem dX11_row_7 : decode cX11_row 7 = .ok (.if_icmp .le 5, 3) := by decide +kernel
theorem dX11_row_10 : decode cX11_row 10 = .ok (.iconst (-1), 1) := by decide +kernel
theorem dX11_row_11 : decode cX11_row 11 = .ok (.ireturn, 1) := by decide +kernel
theorem dX11_row_12 : decode cX11_row 12 = .ok (.iconst 0, 1) := by decide +kernel
theorem dX11_row_13 : decode cX11_row 13 = .ok (.istore_n 2, 1) := by decide +kernel
theorem dX11_row_14 : decode cX11_row 14 = .ok (.iload_n 2, 1) := by decide +kernel
theorem dX11_row_15 : decode cX11_row 15 = .ok (.iload_n 1, 1) := by decide +kernel
theorem dX11_row_16 : decode cX11_row 16 = .ok (.if_icmp .ge 85, 3) := by decide +kernel
theorem dX11_row_19 : decode cX11_row 19 = .ok (.aload_n 0, 1) := by decide +kernel
theorem dX11_row_20 : decode cX11_row 20 = .ok (.getfield 55, 3) := by decide +kernel
theorem dX11_row_23 : decode cX11_row 23 = .ok (.aload_n 0, 1) := by decide +kernel
theorem dX11_row_24 : decode cX11_row 24 = .ok (.getfield 44, 3) := by decide +kernel
theorem dX11_row_27 : decode cX11_row 27 = .ok (.getfield 125, 3) := by decide +kernel
theorem dX11_row_30 : decode cX11_row 30 = .ok (.invokevirtual 155, 3) := by decide +kernel
theorem dX11_row_33 : decode cX11_row 33 = .ok (.aload_n 0, 1) := by decide +kernel
theorem dX11_row_34 : decode cX11_row 34 = .ok (.getfield 44, 3) := by decide +kernel
theorem dX11_row_37 : decode cX11_row 37 = .ok (.aload_n 0, 1) := by decide +kernel
theorem dX11_row_38 : decode cX11_row 38 = .ok (.getfield 37, 3) := by decide +kernel
theorem dX11_row_41 : decode cX11_row 41 = .ok (.aload_n 0, 1) := by decide +kernel
theorem dX11_row_42 : decode cX11_row 42 = .ok (.getfield 44, 3) := by decide +kernel
theorem dX11_row_45 : decode cX11_row 45 = .ok (.getfield 125, 3) := by decide +kernel
theorem dX11_row_48 : decode cX11_row 48 = .ok (.aload_n 0, 1) := by decide +kernel
theorem dX11_row_49 : decode cX11_row 49 = .ok (.getfield 44, 3) := by decide +kernel
theorem dX11_row_52 : decode cX11_row 52 = .ok (.getfield 137, 3) := by decide +kernel
theorem dX11_row_55 : decode cX11_row 55 = .ok (.aload_n 0, 1) := by decide +kernel
theorem dX11_row_56 : decode cX11_row 56 = .ok (.getfield 44, 3) := by decide +kernel
theorem dX11_row_59 : decode cX11_row 59 = .ok (.getfield 140, 3) := by decide +kernel
theorem dX11_row_62 : decode cX11_row 62 = .ok (.aload_n 0, 1) := by decide +kernel
theorem dX11_row_63 : decode cX11_row 63 = .ok (.getfield 16, 3) := by decide +kernel
theorem dX11_row_66 : decode cX11_row 66 = .ok (.aload_n 0, 1) := by decide +kernel
theorem dX11_row_67 : decode cX11_row 67 = .ok (.getfield 44, 3) := by decide +kernel
theorem dX11_row_70 : decode cX11_row 70 = .ok (.getfield 143, 3) := by decide +kernel
theorem dX11_row_73 : decode cX11_row 73 = .ok (.invokevirtual 146, 3) := by decide +kernel
theorem dX11_row_76 : decode cX11_row 76 = .ok (.invokevirtual 159, 3) := by decide +kernel
theorem dX11_row_79 : decode cX11_row 79 = .ok (.putfield 125, 3) := by decide +kernel
theorem dX11_row_82 : decode cX11_row 82 = .ok (.aload_n 0, 1) := by decide +kernel
theorem dX11_row_83 : decode cX11_row 83 = .ok (.getfield 44, 3) := by decide +kernel
theorem dX11_row_86 : decode cX11_row 86 = .ok (.dup, 1) := by decide +kernel
theorem dX11_row_87 : decode cX11_row 87 = .ok (.getfield 143, 3) := by decide +kernel
theorem dX11_row_90 : decode cX11_row 90 = .ok (.iconst 1, 1) := by decide +kernel
theorem dX11_row_91 : decode cX11_row 91 = .ok (.iadd, 1) := by decide +kernel
theorem dX11_row_92 : decode cX11_row 92 = .ok (.putfield 143, 3) := by decide +kernel
theorem dX11_row_95 : decode cX11_row 95 = .ok (.iinc 2 1, 3) := by decide +kernel
theorem dX11_row_98 : decode cX11_row 98 = .ok (.goto (-84), 3) := by decide +kernel
theorem dX11_row_101 : decode cX11_row 101 = .ok (.aload_n 0, 1) := by decide +kernel
theorem dX11_row_102 : decode cX11_row 102 = .ok (.getfield 44, 3) := by decide +kernel
theorem dX11_row_105 : decode cX11_row 105 = .ok (.getfield 143, 3) := by decide +kernel
theorem dX11_row_108 : decode cX11_row 108 = .ok (.ireturn, 1) := by decide +kernel
def k_X11_row_14 (X : CX) (T : List Dsc) (n1 n2 : Nat) (x0 : Nat) (x1 : Int32) (r : ((Int32 × Mem) ⊕ ((Mem)))) : Prop := match r with
  | .inl s => Wp X cX11_row RX11 3 T s.2 n1 n2 14 [(0, .ref x0), (1, .int x1), (2, .int s.1)] []
  | .inr e => Wp X cX11_row RX11 3 T e n1 n2 101 [(0, .ref x0)] []
set_option maxHeartbeats 4000000 in
set_option maxRecDepth 100000 in
theorem w_X11_row_10 {X : CX} {T : List Dsc} {n1 n2 : Nat} {μ : Mem} {r : (Int32 × Mem)} (hX : XR X 6 n1 n2) (hf : f_X11_row_10 T μ = some r) (hk : FnI X cX11_row RX11 3 T n1 n2 r) : Wp X cX11_row RX11 3 T μ n1 n2 10 [] [] := by
  unfold f_X11_row_10 at hf
  refine Wp.iconst (pc := 10) (-1 : Int32) (by decide) dX11_row_10 ?_
  cases hf
  exact hk _ _ dX11_row_11
set_option maxHeartbeats 4000000 in
set_option maxRecDepth 100000 in
theorem w_X11_row_14 {X : CX} {T : List Dsc} {n1 n2 : Nat} {x0 : Nat} {x1 : Int32} {x2 : Int32} {μ : Mem} {r : ((Int32 × Mem) ⊕ ((Mem)))} (hX : XR X 6 n1 n2) (hx0 : T[x0]? = some (.inl 10)) (hf : f_X11_row_14 T x0 x1 x2 μ = some r) (hk : k_X11_row_14 X T n1 n2 x0 x1 r) : Wp X cX11_row RX11 3 T μ n1 n2 14 [(0, .ref x0), (1, .int x1), (2, .int x2)] [] := by
  unfold f_X11_row_14 at hf
  refine Wp.iload_n (pc := 14) 2 rfl rfl dX11_row_14 ?_
  refine Wp.iload_n (pc := 15) 1 rfl rfl dX11_row_15 ?_
  refine Wp.icmp_ge (pc := 16) 101 dX11_row_16 (by decide) (fun hc1 => ?_) (fun hc1 => ?_)
  · rw [if_pos hc1] at hf
    refine Wp.lo' (lo' := [(0, .ref x0)]) [0] rfl ?_
    cases hf
    exact hk
  · rw [if_neg hc1] at hf
    refine Wp.aload_n (pc := 19) 0 rfl rfl dX11_row_19 ?_
    obtain ⟨r2, h3, hf⟩ := bnd hf
    refine Wp.getR (pc := 20) (gO_R h3) hx0 fk_RX11_55 rfl dX11_row_20 ?_
    refine Wp.aload_n (pc := 23) 0 rfl rfl dX11_row_23 ?_
    obtain ⟨r4, h5, hf⟩ := bnd hf
    refine Wp.getR (pc := 24) (gO_R h5) hx0 fk_RX11_44 rfl dX11_row_24 ?_
    refine Wp.getJ (pc := 27) (gO_T h5) fk_RX11_125 rfl dX11_row_27 ?_
    obtain ⟨c6, h7, hf⟩ := bnd hf
    refine Wp.callVv (pc := 30) (st := []) (as := [.long (gJ μ r4 0)]) (c_X3_keep (gO_T h3) h7) ml_RX11_155 mv_X3_keep mb_X3_keep hX (Nat.le_of_ble_eq_true rfl) (by decide) rfl (gO_T h3) rfl (by simp) dX11_row_30 rfl ?_
    refine Wp.aload_n (pc := 33) 0 rfl rfl dX11_row_33 ?_
    obtain ⟨r8, h9, hf⟩ := bnd hf
    refine Wp.getR (pc := 34) (gO_R h9) hx0 fk_RX11_44 rfl dX11_row_34 ?_
    refine Wp.aload_n (pc := 37) 0 rfl rfl dX11_row_37 ?_
    obtain ⟨r10, h11, hf⟩ := bnd hf
    refine Wp.getR (pc := 38) (gO_R h11) hx0 fk_RX11_37 rfl dX11_row_38 ?_
    refine Wp.aload_n (pc := 41) 0 rfl rfl dX11_row_41 ?_
    obtain ⟨r12, h13, hf⟩ := bnd hf
    refine Wp.getR (pc := 42) (gO_R h13) hx0 fk_RX11_44 rfl dX11_row_42 ?_
    refine Wp.getJ (pc := 45) (gO_T h13) fk_RX11_125 rfl dX11_row_45 ?_
    refine Wp.aload_n (pc := 48) 0 rfl rfl dX11_row_48 ?_
    obtain ⟨r14, h15, hf⟩ := bnd hf
    refine Wp.getR (pc := 49) (gO_R h15) hx0 fk_RX11_44 rfl dX11_row_49 ?_
    obtain ⟨a16, h17, hf⟩ := bnd hf
    refine Wp.getR (pc := 52) (gA_R h17) (gO_T h15) fk_RX11_137 rfl dX11_row_52 ?_
    refine Wp.aload_n (pc := 55) 0 rfl rfl dX11_row_55 ?_
    obtain ⟨r18, h19, hf⟩ := bnd hf
    refine Wp.getR (pc := 56) (gO_R h19) hx0 fk_RX11_44 rfl dX11_row_56 ?_
    refine Wp.getI (pc := 59) (gO_T h19) fk_RX11_140 rfl dX11_row_59 ?_
    refine Wp.aload_n (pc := 62) 0 rfl rfl dX11_row_62 ?_
    obtain ⟨r20, h21, hf⟩ := bnd hf
    refine Wp.getR (pc := 63) (gO_R h21) hx0 fk_RX11_16 rfl dX11_row_63 ?_
    refine Wp.aload_n (pc := 66) 0 rfl rfl dX11_row_66 ?_
    obtain ⟨r22, h23, hf⟩ := bnd hf
    refine Wp.getR (pc := 67) (gO_R h23) hx0 fk_RX11_44 rfl dX11_row_67 ?_
    refine Wp.getI (pc := 70) (gO_T h23) fk_RX11_143 rfl dX11_row_70 ?_
    obtain ⟨c24, h25, hf⟩ := bnd hf
    refine Wp.callVi (pc := 73) (st := [.int (gI c6 r18 3), .ref a16.1, .long (gJ c6 r12 0), .ref r10, .ref r8]) (as := [.int (gI c6 r22 4)]) (c_X7_isFog (gO_T h21) h25) ml_RX11_146 mv_X7_isFog mb_X7_isFog hX (Nat.le_of_ble_eq_true rfl) (by decide) rfl (gO_T h21) rfl (by simp [Value.category]) dX11_row_73 rfl ?_
    obtain ⟨c26, h27, hf⟩ := bnd hf
    refine Wp.callVl (pc := 76) (st := [.ref r8]) (as := [.long (gJ c6 r12 0), .ref a16.1, .int (gI c6 r18 3), .int c24.1]) (c_X5_stroke (gO_T h11) (gA_T h17) h27) ml_RX11_159 mv_X5_stroke mb_X5_stroke hX (Nat.le_of_ble_eq_true rfl) (by decide) rfl (gO_T h11) rfl (by simp [Value.category]) dX11_row_76 rfl ?_
    obtain ⟨μ28, h29, hf⟩ := bnd hf
    refine Wp.ptJ (pc := 79) h29 (gO_T h9) fk_RX11_125 ff_RX11_1_0 rfl dX11_row_79 ?_
    refine Wp.aload_n (pc := 82) 0 rfl rfl dX11_row_82 ?_
    obtain ⟨r30, h31, hf⟩ := bnd hf
    refine Wp.getR (pc := 83) (gO_R h31) hx0 fk_RX11_44 rfl dX11_row_83 ?_
    refine Wp.dup (pc := 86) rfl dX11_row_86 ?_
    refine Wp.getI (pc := 87) (gO_T h31) fk_RX11_143 rfl dX11_row_87 ?_
    refine Wp.iconst (pc := 90) (1 : Int32) (by decide) dX11_row_90 ?_
    refine Wp.iadd (pc := 91) dX11_row_91 ?_
    obtain ⟨μ32, h33, hf⟩ := bnd hf
    refine Wp.ptI (pc := 92) h33 (gO_T h31) fk_RX11_143 ff_RX11_1_4 rfl dX11_row_92 ?_
    obtain ⟨v34, h35, hf⟩ := bnd hf
    refine Wp.iincN (pc := 95) (lo' := [(0, .ref x0), (1, .int x1), (2, .int v34)]) (1 : Int32) (by decide) h35 2 rfl [1, 2, 0] rfl (by decide) dX11_row_95 ?_
    refine Wp.goto (pc := 98) 14 dX11_row_98 (by decide) ?_
    cases hf
    exact hk
theorem wl_X11_row_14 {X : CX} {T : List Dsc} {n1 n2 : Nat} {x0 : Nat} {x1 : Int32} {x2 : Int32} {μ : Mem} {e : ((Mem))} (hX : XR X 6 n1 n2) (hx0 : T[x0]? = some (.inl 10)) (h : loop (g_X11_row_14 T x0 x1) (x2, μ) = some e) (he : Wp X cX11_row RX11 3 T e n1 n2 101 [(0, .ref x0)] []) : Wp X cX11_row RX11 3 T μ n1 n2 14 [(0, .ref x0), (1, .int x1), (2, .int x2)] [] :=
  loop_ok (K := k_X11_row_14 X T n1 n2 x0 x1) (fun s r hf hk => w_X11_row_14 hX hx0 hf hk) h he
set_option maxHeartbeats 4000000 in
set_option maxRecDepth 100000 in
theorem w_X11_row {X : CX} {T : List Dsc} {n1 n2 : Nat} {x0 : Nat} {x1 : Int32} {μ : Mem} {r : (Int32 × Mem)} (hX : XR X 6 n1 n2) (hx0 : T[x0]? = some (.inl 10)) (hf : F_X11_row T x0 x1 μ = some r) (hk : FnI X cX11_row RX11 3 T n1 n2 r) : Wp X cX11_row RX11 3 T μ n1 n2 0 [(0, .ref x0), (1, .int x1)] [] := by
  unfold F_X11_row at hf
  refine Wp.iload_n (pc := 0) 1 rfl rfl dX11_row_0 ?_
  refine Wp.if_lt (pc := 1) 10 dX11_row_1 (by decide) (fun hc1 => ?_) (fun hc1 => ?_)
  · rw [if_pos hc1] at hf
    refine Wp.lo' (lo' := []) [] rfl ?_
    exact w_X11_row_10 hX hf hk
  · rw [if_neg hc1] at hf
    refine Wp.iload_n (pc := 4) 1 rfl rfl dX11_row_4 ?_
    refine Wp.bipush (pc := 5) (100 : Int32) (by decide) dX11_row_5 ?_
    refine Wp.icmp_le (pc := 7) 12 dX11_row_7 (by decide) (fun hc2 => ?_) (fun hc2 => ?_)
    · rw [if_pos hc2] at hf
      refine Wp.iconst (pc := 12) (0 : Int32) (by decide) dX11_row_12 ?_
      refine Wp.istore_n (pc := 13) (lo' := [(0, .ref x0), (1, .int x1), (2, .int (0 : Int32))]) [1, 2, 0] rfl (by decide) rfl dX11_row_13 ?_
      obtain ⟨e3, h4, hf⟩ := bnd hf
      refine wl_X11_row_14 hX hx0 h4 ?_
      refine Wp.aload_n (pc := 101) 0 rfl rfl dX11_row_101 ?_
      obtain ⟨r5, h6, hf⟩ := bnd hf
      refine Wp.getR (pc := 102) (gO_R h6) hx0 fk_RX11_44 rfl dX11_row_102 ?_
      refine Wp.getI (pc := 105) (gO_T h6) fk_RX11_143 rfl dX11_row_105 ?_
      cases hf
      exact hk _ _ dX11_row_108
    · rw [if_neg hc2] at hf
      refine Wp.lo' (lo' := []) [] rfl ?_
      exact w_X11_row_10 hX hf hk
theorem c_X11_row {T : List Dsc} {x0 : Nat} {x1 : Int32} {μ : Mem} {r : (Int32 × Mem)} (hx0 : T[x0]? = some (.inl 10)) (hf : F_X11_row T x0 x1 μ = some r) : Ct 6 yX11_row cX11_row 3 (some .int) T μ [.ref x0, .int x1] (some (.int r.1)) r.2 := Ct.ofI (by decide +kernel) (Nat.le_of_ble_eq_true rfl) (fun X hX hk => w_X11_row hX hx0 hf hk)
theorem dX11_undo_0 : decode cX11_undo 0 = .ok (.aload_n 0, 1) := by decide +kernel
theorem dX11_undo_1 : decode cX11_undo 1 = .ok (.getfield 55, 3) := by decide +kernel
theorem dX11_undo_4 : decode cX11_undo 4 = .ok (.getfield 162, 3) := by decide +kernel
theorem dX11_undo_7 : decode cX11_undo 7 = .ok (.ifCond .ne 5, 3) := by decide +kernel
theorem dX11_undo_10 : decode cX11_undo 10 = .ok (.iconst 0, 1) := by decide +kernel
theorem dX11_undo_11 : decode cX11_undo 11 = .ok (.ireturn, 1) := by decide +kernel
theorem dX11_undo_12 : decode cX11_undo 12 = .ok (.aload_n 0, 1) := by decide +kernel
theorem dX11_undo_13 : decode cX11_undo 13 = .ok (.getfield 44, 3) := by decide +kernel
theorem dX11_undo_16 : decode cX11_undo 16 = .ok (.aload_n 0, 1) := by decide +kernel
theorem dX11_undo_17 : decode cX11_undo 17 = .ok (.getfield 55, 3) := by decide +kernel
theorem dX11_undo_20 : decode cX11_undo 20 = .ok (.invokevirtual 165, 3) := by decide +kernel
theorem dX11_undo_23 : decode cX11_undo 23 = .ok (.putfield 125, 3) := by decide +kernel
theorem dX11_undo_26 : decode cX11_undo 26 = .ok (.aload_n 0, 1) := by decide +kernel
theorem dX11_undo_27 : decode cX11_undo 27 = .ok (.getfield 44, 3) := by decide +kernel
theorem dX11_undo_30 : decode cX11_undo 30 = .ok (.dup, 1) := by decide +kernel
theorem dX11_undo_31 : decode cX11_undo 31 = .ok (.getfield 143, 3) := by decide +kernel
theorem dX11_undo_34 : decode cX11_undo 34 = .ok (.iconst 1, 1) := by decide +kernel
theorem dX11_undo_35 : decode cX11_undo 35 = .ok (.isub, 1) := by decide +kernel
theorem dX11_undo_36 : decode cX11_undo 36 = .ok (.putfield 143, 3) := by decide +kernel
theorem dX11_undo_39 : decode cX11_undo 39 = .ok (.iconst 1, 1) := by decide +kernel
theorem dX11_undo_40 : decode cX11_undo 40 = .ok (.ireturn, 1) := by decide +kernel
set_option maxHeartbeats 4000000 in
set_option maxRecDepth 100000 in
theorem w_X11_undo {X : CX} {T : List Dsc} {n1 n2 : Nat} {x0 : Nat} {μ : Mem} {r : (Int32 × Mem)} (hX : XR X 2 n1 n2) (hx0 : T[x0]? = some (.inl 10)) (hf : F_X11_undo T x0 μ = some r) (hk : FnZ X cX11_undo RX11 1 T n1 n2 r) : Wp X cX11_undo RX11 1 T μ n1 n2 0 [(0, .ref x0)] [] := by
  unfold F_X11_undo at hf
  refine Wp.aload_n (pc := 0) 0 rfl rfl dX11_undo_0 ?_
  obtain ⟨r1, h2, hf⟩ := bnd hf
  refine Wp.getR (pc := 1) (gO_R h2) hx0 fk_RX11_55 rfl dX11_undo_1 ?_
  refine Wp.getI (pc := 4) (gO_T h2) fk_RX11_162 rfl dX11_undo_4 ?_
  refine Wp.if_ne (pc := 7) 12 dX11_undo_7 (by decide) (fun hc3 => ?_) (fun hc3 => ?_)
  · rw [if_neg hc3] at hf
    refine Wp.aload_n (pc := 12) 0 rfl rfl dX11_undo_12 ?_
    obtain ⟨r4, h5, hf⟩ := bnd hf
    refine Wp.getR (pc := 13) (gO_R h5) hx0 fk_RX11_44 rfl dX11_undo_13 ?_
    refine Wp.aload_n (pc := 16) 0 rfl rfl dX11_undo_16 ?_
    obtain ⟨r6, h7, hf⟩ := bnd hf
    refine Wp.getR (pc := 17) (gO_R h7) hx0 fk_RX11_55 rfl dX11_undo_17 ?_
    obtain ⟨c8, h9, hf⟩ := bnd hf
    refine Wp.callVl (pc := 20) (st := [.ref r4]) (as := []) (c_X3_takeLast (gO_T h7) h9) ml_RX11_165 mv_X3_takeLast mb_X3_takeLast hX (Nat.le_of_ble_eq_true rfl) (by decide) rfl (gO_T h7) rfl (by simp [Value.category]) dX11_undo_20 rfl ?_
    obtain ⟨μ10, h11, hf⟩ := bnd hf
    refine Wp.ptJ (pc := 23) h11 (gO_T h5) fk_RX11_125 ff_RX11_1_0 rfl dX11_undo_23 ?_
    refine Wp.aload_n (pc := 26) 0 rfl rfl dX11_undo_26 ?_
    obtain ⟨r12, h13, hf⟩ := bnd hf
    refine Wp.getR (pc := 27) (gO_R h13) hx0 fk_RX11_44 rfl dX11_undo_27 ?_
    refine Wp.dup (pc := 30) rfl dX11_undo_30 ?_
    refine Wp.getI (pc := 31) (gO_T h13) fk_RX11_143 rfl dX11_undo_31 ?_
    refine Wp.iconst (pc := 34) (1 : Int32) (by decide) dX11_undo_34 ?_
    refine Wp.isub (pc := 35) dX11_undo_35 ?_
    obtain ⟨μ14, h15, hf⟩ := bnd hf
    refine Wp.ptI (pc := 36) h15 (gO_T h13) fk_RX11_143 ff_RX11_1_4 rfl dX11_undo_36 ?_
    refine Wp.iconst (pc := 39) (1 : Int32) (by decide) dX11_undo_39 ?_
    cases hf
    exact hk _ _ (Or.inr rfl) dX11_undo_40
  · rw [if_pos hc3] at hf
    refine Wp.iconst (pc := 10) (0 : Int32) (by decide) dX11_undo_10 ?_
    cases hf
    exact hk _ _ (Or.inl rfl) dX11_undo_11
theorem c_X11_undo {T : List Dsc} {x0 : Nat} {μ : Mem} {r : (Int32 × Mem)} (hx0 : T[x0]? = some (.inl 10)) (hf : F_X11_undo T x0 μ = some r) : Ct 2 yX11_undo cX11_undo 1 (some .boolean) T μ [.ref x0] (some (.int r.1)) r.2 := Ct.ofZ (by decide +kernel) (Nat.le_of_ble_eq_true rfl) (fun X hX hk => w_X11_undo hX hx0 hf hk)
theorem dX11_clashes_0 : decode cX11_clashes 0 = .ok (.aload_n 0, 1) := by decide +kernel
theorem dX11_clashes_1 : decode cX11_clashes 1 = .ok (.getfield 37, 3) := by decide +kernel
theorem dX11_clashes_4 : decode cX11_clashes 4 = .ok (.aload_n 0, 1) := by decide +kernel
theorem dX11_clashes_5 : decode cX11_clashes 5 = .ok (.getfield 44, 3) := by decide +kernel
theorem dX11_clashes_8 : decode cX11_clashes 8 = .ok (.getfield 125, 3) := by decide +kernel
theorem dX11_clashes_11 : decode cX11_clashes 11 = .ok (.invokevirtual 169, 3) := by decide +kernel
theorem dX11_clashes_14 : decode cX11_clashes 14 = .ok (.ireturn, 1) := by decide +kernel
set_option maxHeartbeats 4000000 in
set_option maxRecDepth 100000 in
theorem w_X11_clashes {X : CX} {T : List Dsc} {n1 n2 : Nat} {x0 : Nat} {μ : Mem} {r : (Int32 × Mem)} (hX : XR X 4 n1 n2) (hx0 : T[x0]? = some (.inl 10)) (hf : F_X11_clashes T x0 μ = some r) (hk : FnI X cX11_clashes RX11 1 T n1 n2 r) : Wp X cX11_clashes RX11 1 T μ n1 n2 0 [(0, .ref x0)] [] := by
  unfold F_X11_clashes at hf
  refine Wp.aload_n (pc := 0) 0 rfl rfl dX11_clashes_0 ?_
  obtain ⟨r1, h2, hf⟩ := bnd hf
  refine Wp.getR (pc := 1) (gO_R h2) hx0 fk_RX11_37 rfl dX11_clashes_1 ?_
  refine Wp.aload_n (pc := 4) 0 rfl rfl dX11_clashes_4 ?_
  obtain ⟨r3, h4, hf⟩ := bnd hf
  refine Wp.getR (pc := 5) (gO_R h4) hx0 fk_RX11_44 rfl dX11_clashes_5 ?_
  refine Wp.getJ (pc := 8) (gO_T h4) fk_RX11_125 rfl dX11_clashes_8 ?_
  obtain ⟨c5, h6, hf⟩ := bnd hf
  refine Wp.callVi (pc := 11) (st := []) (as := [.long (gJ μ r3 0)]) (c_X5_clashBits (gO_T h2) h6) ml_RX11_169 mv_X5_clashBits mb_X5_clashBits hX (Nat.le_of_ble_eq_true rfl) (by decide) rfl (gO_T h2) rfl (by simp) dX11_clashes_11 rfl ?_
  cases hf
  exact hk _ _ dX11_clashes_14
theorem c_X11_clashes {T : List Dsc} {x0 : Nat} {μ : Mem} {r : (Int32 × Mem)} (hx0 : T[x0]? = some (.inl 10)) (hf : F_X11_clashes T x0 μ = some r) : Ct 4 yX11_clashes cX11_clashes 1 (some .int) T μ [.ref x0] (some (.int r.1)) r.2 := Ct.ofI (by decide +kernel) (Nat.le_of_ble_eq_true rfl) (fun X hX hk => w_X11_clashes hX hx0 hf hk)
theorem dX11_way_0 : decode cX11_way 0 = .ok (.iload_n 1, 1) := by decide +kernel
theorem dX11_way_1 : decode cX11_way 1 = .ok (.ifCond .lt 18, 3) := by decide +kernel
theorem dX11_way_4 : decode cX11_way 4 = .ok (.iload_n 1, 1) := by decide +kernel
theorem dX11_way_5 : decode cX11_way 5 = .ok (.iconst 1, 1) := by decide +kernel
theorem dX11_way_6 : decode cX11_way 6 = .ok (.if_icmp .gt 13, 3) := by decide +kernel
theorem dX11_way_9 : decode cX11_way 9 = .ok (.aload_n 0, 1) := by decide +kernel
theorem dX11_way_10 : decode cX11_way 10 = .ok (.getfield 16, 3) := by decide +kernel
theorem dX11_way_13 : decode cX11_way 13 = .ok (.getfield 153, 3) := by decide +kernel
theorem dX11_way_16 : decode cX11_way 16 = .ok (.ifCond .ne 5, 3) := by decide +kernel
theorem dX11_way_19 : decode cX11_way 19 = .ok (.iconst (-1), 1) := by decide +kernel
theorem dX11_way_20 : decode cX11_way 20 = .ok (.ireturn, 1) := by decide +kernel
theorem dX11_way_21 : decode cX11_way 21 = .ok (.aload_n 0, 1) := by decide +kernel
theorem dX11_way_22 : decode cX11_way 22 = .ok (.getfield 37, 3) := by decide +kernel
theorem dX11_way_25 : decode cX11_way 25 = .ok (.aload_n 0, 1) := by decide +kernel
theorem dX11_way_26 : decode cX11_way 26 = .ok (.getfield 44, 3) := by decide +kernel
theorem dX11_way_29 : decode cX11_way 29 = .ok (.getfield 125, 3) := by decide +kernel
theorem dX11_way_32 : decode cX11_way 32 = .ok (.invokevirtual 173, 3) := by decide +kernel
theorem dX11_way_35 : decode cX11_way 35 = .ok (.istore_n 2, 1) := by decide +kernel
theorem dX11_way_36 : decode cX11_way 36 = .ok (.iload_n 1, 1) := by decide +kernel
theorem dX11_way_37 : decode cX11_way 37 = .ok (.ifCond .ne 14, 3) := by decide +kernel
theorem dX11_way_40 : decode cX11_way 40 = .ok (.aload_n 0, 1) := by decide +kernel
theorem dX11_way_41 : decode cX11_way 41 = .ok (.getfield 37, 3) := by decide +kernel
theorem dX11_way_44 : decode cX11_way 44 = .ok (.iload_n 2, 1) := by decide +kernel
theorem dX11_way_45 : decode cX11_way 45 = .ok (.invokevirtual 176, 3) := by decide +kernel
theorem dX11_way_48 : decode cX11_way 48 = .ok (.goto 4, 3) := by decide +kernel
theorem dX11_way_51 : decode cX11_way 51 = .ok (.iload_n 2, 1) := by decide +kernel
theorem dX11_way_52 : decode cX11_way 52 = .ok (.ireturn, 1) := by decide +kernel
set_option maxHeartbeats 4000000 in
set_option maxRecDepth 100000 in
theorem w_X11_way_19 {X : CX} {T : List Dsc} {n1 n2 : Nat} {μ : Mem} {r : (Int32 × Mem)} (hX : XR X 3 n1 n2) (hf : f_X11_way_19 T μ = some r) (hk : FnI X cX11_way RX11 3 T n1 n2 r) : Wp X cX11_way RX11 3 T μ n1 n2 19 [] [] := by
  unfold f_X11_way_19 at hf
  refine Wp.iconst (pc := 19) (-1 : Int32) (by decide) dX11_way_19 ?_
  cases hf
  exact hk _ _ dX11_way_20
set_option maxHeartbeats 4000000 in
set_option maxRecDepth 100000 in
theorem w_X11_way_52 {X : CX} {T : List Dsc} {n1 n2 : Nat} {s0 : Int32} {μ : Mem} {r : (Int32 × Mem)} (hX : XR X 3 n1 n2) (hf : f_X11_way_52 T s0 μ = some r) (hk : FnI X cX11_way RX11 3 T n1 n2 r) : Wp X cX11_way RX11 3 T μ n1 n2 52 [] [.int s0] := by
  unfold f_X11_way_52 at hf
  cases hf
  exact hk _ _ dX11_way_52
set_option maxHeartbeats 4000000 in
set_option maxRecDepth 100000 in
theorem w_X11_way {X : CX} {T : List Dsc} {n1 n2 : Nat} {x0 : Nat} {x1 : Int32} {μ : Mem} {r : (Int32 × Mem)} (hX : XR X 3 n1 n2) (hx0 : T[x0]? = some (.inl 10)) (hf : F_X11_way T x0 x1 μ = some r) (hk : FnI X cX11_way RX11 3 T n1 n2 r) : Wp X cX11_way RX11 3 T μ n1 n2 0 [(0, .ref x0), (1, .int x1)] [] := by
  unfold F_X11_way at hf
  refine Wp.iload_n (pc := 0) 1 rfl rfl dX11_way_0 ?_
  refine Wp.if_lt (pc := 1) 19 dX11_way_1 (by decide) (fun hc1 => ?_) (fun hc1 => ?_)
  · rw [if_pos hc1] at hf
    refine Wp.lo' (lo' := []) [] rfl ?_
    exact w_X11_way_19 hX hf hk
  · rw [if_neg hc1] at hf
    refine Wp.iload_n (pc := 4) 1 rfl rfl dX11_way_4 ?_
    refine Wp.iconst (pc := 5) (1 : Int32) (by decide) dX11_way_5 ?_
    refine Wp.icmp_gt (pc := 6) 19 dX11_way_6 (by decide) (fun hc2 => ?_) (fun hc2 => ?_)
    · rw [if_pos hc2] at hf
      refine Wp.lo' (lo' := []) [] rfl ?_
      exact w_X11_way_19 hX hf hk
    · rw [if_neg hc2] at hf
      refine Wp.aload_n (pc := 9) 0 rfl rfl dX11_way_9 ?_
      obtain ⟨r3, h4, hf⟩ := bnd hf
      refine Wp.getR (pc := 10) (gO_R h4) hx0 fk_RX11_16 rfl dX11_way_10 ?_
      refine Wp.getI (pc := 13) (gO_T h4) fk_RX11_153 rfl dX11_way_13 ?_
      refine Wp.if_ne (pc := 16) 21 dX11_way_16 (by decide) (fun hc5 => ?_) (fun hc5 => ?_)
      · rw [if_neg hc5] at hf
        refine Wp.aload_n (pc := 21) 0 rfl rfl dX11_way_21 ?_
        obtain ⟨r6, h7, hf⟩ := bnd hf
        refine Wp.getR (pc := 22) (gO_R h7) hx0 fk_RX11_37 rfl dX11_way_22 ?_
        refine Wp.aload_n (pc := 25) 0 rfl rfl dX11_way_25 ?_
        obtain ⟨r8, h9, hf⟩ := bnd hf
        refine Wp.getR (pc := 26) (gO_R h9) hx0 fk_RX11_44 rfl dX11_way_26 ?_
        refine Wp.getJ (pc := 29) (gO_T h9) fk_RX11_125 rfl dX11_way_29 ?_
        obtain ⟨c10, h11, hf⟩ := bnd hf
        refine Wp.callVi (pc := 32) (st := []) (as := [.long (gJ μ r8 0)]) (c_X5_wayPart (gO_T h7) h11) ml_RX11_173 mv_X5_wayPart mb_X5_wayPart hX (Nat.le_of_ble_eq_true rfl) (by decide) rfl (gO_T h7) rfl (by simp) dX11_way_32 rfl ?_
        refine Wp.istore_n (pc := 35) (lo' := [(0, .ref x0), (1, .int x1), (2, .int c10.1)]) [1, 2, 0] rfl (by decide) rfl dX11_way_35 ?_
        refine Wp.iload_n (pc := 36) 1 rfl rfl dX11_way_36 ?_
        refine Wp.if_ne (pc := 37) 51 dX11_way_37 (by decide) (fun hc12 => ?_) (fun hc12 => ?_)
        · rw [if_neg hc12] at hf
          refine Wp.iload_n (pc := 51) 2 rfl rfl dX11_way_51 ?_
          refine Wp.lo' (lo' := []) [] rfl ?_
          exact w_X11_way_52 hX hf hk
        · rw [if_pos hc12] at hf
          refine Wp.aload_n (pc := 40) 0 rfl rfl dX11_way_40 ?_
          obtain ⟨r13, h14, hf⟩ := bnd hf
          refine Wp.getR (pc := 41) (gO_R h14) hx0 fk_RX11_37 rfl dX11_way_41 ?_
          refine Wp.iload_n (pc := 44) 2 rfl rfl dX11_way_44 ?_
          obtain ⟨c15, h16, hf⟩ := bnd hf
          refine Wp.callVi (pc := 45) (st := []) (as := [.int c10.1]) (c_X5_menNear (gO_T h14) h16) ml_RX11_176 mv_X5_menNear mb_X5_menNear hX (Nat.le_of_ble_eq_true rfl) (by decide) rfl (gO_T h14) rfl (by simp) dX11_way_45 rfl ?_
          refine Wp.goto (pc := 48) 52 dX11_way_48 (by decide) ?_
          refine Wp.lo' (lo' := []) [] rfl ?_
          exact w_X11_way_52 hX hf hk
      · rw [if_pos hc5] at hf
        refine Wp.lo' (lo' := []) [] rfl ?_
        exact w_X11_way_19 hX hf hk
theorem c_X11_way {T : List Dsc} {x0 : Nat} {x1 : Int32} {μ : Mem} {r : (Int32 × Mem)} (hx0 : T[x0]? = some (.inl 10)) (hf : F_X11_way T x0 x1 μ = some r) : Ct 3 yX11_way cX11_way 3 (some .int) T μ [.ref x0, .int x1] (some (.int r.1)) r.2 := Ct.ofI (by decide +kernel) (Nat.le_of_ble_eq_true rfl) (fun X hX hk => w_X11_way hX hx0 hf hk)
theorem dX11_wave_0 : decode cX11_wave 0 = .ok (.iload_n 1, 1) := by decide +kernel
theorem dX11_wave_1 : decode cX11_wave 1 = .ok (.ifCond .lt 8, 3) := by decide +kernel
theorem dX11_wave_4 : decode cX11_wave 4 = .ok (.iload_n 1, 1) := by decide +kernel
theorem dX11_wave_5 : decode cX11_wave 5 = .ok (.iconst 2, 1) := by decide +kernel
theorem dX11_wave_6 : decode cX11_wave 6 = .ok (.if_icmp .le 5, 3) := by decide +kernel
theorem dX11_wave_9 : decode cX11_wave 9 = .ok (.iconst (-1), 1) := by decide +kernel
theorem dX11_wave_10 : decode cX11_wave 10 = .ok (.ireturn, 1) := by decide +kernel
theorem dX11_wave_11 : decode cX11_wave 11 = .ok (.aload_n 0, 1) := by decide +kernel
theorem dX11_wave_12 : decode cX11_wave 12 = .ok (.getfield 37, 3) := by decide +kernel
theorem dX11_wave_15 : decode cX11_wave 15 = .ok (.aload_n 0, 1) := by decide +kernel
theorem dX11_wave_16 : decode cX11_wave 16 = .ok (.getfield 44, 3) := by decide +kernel
theorem dX11_wave_19 : decode cX11_wave 19 = .ok (.getfield 125, 3) := by decide +kernel
theorem dX11_wave_22 : decode cX11_wave 22 = .ok (.iload_n 1, 1) := by decide +kernel
theorem dX11_wave_23 : decode cX11_wave 23 = .ok (.invokevirtual 180, 3) := by decide +kernel
theorem dX11_wave_26 : decode cX11_wave 26 = .ok (.ireturn, 1) := by decide +kernel
set_option maxHeartbeats 4000000 in
set_option maxRecDepth 100000 in
theorem w_X11_wave_9 {X : CX} {T : List Dsc} {n1 n2 : Nat} {μ : Mem} {r : (Int32 × Mem)} (hX : XR X 4 n1 n2) (hf : f_X11_wave_9 T μ = some r) (hk : FnI X cX11_wave RX11 2 T n1 n2 r) : Wp X cX11_wave RX11 2 T μ n1 n2 9 [] [] := by
  unfold f_X11_wave_9 at hf
  refine Wp.iconst (pc := 9) (-1 : Int32) (by decide) dX11_wave_9 ?_
  cases hf
  exact hk _ _ dX11_wave_10
set_option maxHeartbeats 4000000 in
set_option maxRecDepth 100000 in
theorem w_X11_wave {X : CX} {T : List Dsc} {n1 n2 : Nat} {x0 : Nat} {x1 : Int32} {μ : Mem} {r : (Int32 × Mem)} (hX : XR X 4 n1 n2) (hx0 : T[x0]? = some (.inl 10)) (hf : F_X11_wave T x0 x1 μ = some r) (hk : FnI X cX11_wave RX11 2 T n1 n2 r) : Wp X cX11_wave RX11 2 T μ n1 n2 0 [(0, .ref x0), (1, .int x1)] [] := by
  unfold F_X11_wave at hf
  refine Wp.iload_n (pc := 0) 1 rfl rfl dX11_wave_0 ?_
  refine Wp.if_lt (pc := 1) 9 dX11_wave_1 (by decide) (fun hc1 => ?_) (fun hc1 => ?_)
  · rw [if_pos hc1] at hf
    refine Wp.lo' (lo' := []) [] rfl ?_
    exact w_X11_wave_9 hX hf hk
  · rw [if_neg hc1] at hf
    refine Wp.iload_n (pc := 4) 1 rfl rfl dX11_wave_4 ?_
    refine Wp.iconst (pc := 5) (2 : Int32) (by decide) dX11_wave_5 ?_
    refine Wp.icmp_le (pc := 6) 11 dX11_wave_6 (by decide) (fun hc2 => ?_) (fun hc2 => ?_)
    · rw [if_pos hc2] at hf
      refine Wp.aload_n (pc := 11) 0 rfl rfl dX11_wave_11 ?_
      obtain ⟨r3, h4, hf⟩ := bnd hf
      refine Wp.getR (pc := 12) (gO_R h4) hx0 fk_RX11_37 rfl dX11_wave_12 ?_
      refine Wp.aload_n (pc := 15) 0 rfl rfl dX11_wave_15 ?_
      obtain ⟨r5, h6, hf⟩ := bnd hf
      refine Wp.getR (pc := 16) (gO_R h6) hx0 fk_RX11_44 rfl dX11_wave_16 ?_
      refine Wp.getJ (pc := 19) (gO_T h6) fk_RX11_125 rfl dX11_wave_19 ?_
      refine Wp.iload_n (pc := 22) 1 rfl rfl dX11_wave_22 ?_
      obtain ⟨c7, h8, hf⟩ := bnd hf
      refine Wp.callVi (pc := 23) (st := []) (as := [.long (gJ μ r5 0), .int x1]) (c_X5_waveOf (gO_T h4) h8) ml_RX11_180 mv_X5_waveOf mb_X5_waveOf hX (Nat.le_of_ble_eq_true rfl) (by decide) rfl (gO_T h4) rfl (by simp) dX11_wave_23 rfl ?_
      cases hf
      exact hk _ _ dX11_wave_26
    · rw [if_neg hc2] at hf
      refine Wp.lo' (lo' := []) [] rfl ?_
      exact w_X11_wave_9 hX hf hk
theorem c_X11_wave {T : List Dsc} {x0 : Nat} {x1 : Int32} {μ : Mem} {r : (Int32 × Mem)} (hx0 : T[x0]? = some (.inl 10)) (hf : F_X11_wave T x0 x1 μ = some r) : Ct 4 yX11_wave cX11_wave 2 (some .int) T μ [.ref x0, .int x1] (some (.int r.1)) r.2 := Ct.ofI (by decide +kernel) (Nat.le_of_ble_eq_true rfl) (fun X hX hk => w_X11_wave hX hx0 hf hk)
