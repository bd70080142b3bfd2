theorem dX12_comesOut_0 : decode cX12_comesOut 0 = .ok (.aload_n 0, 1) := by decide +kernel
theorem dX12_comesOut_1 : decode cX12_comesOut 1 = .ok (.getfield 363, 3) := by decide +kernel
theorem dX12_comesOut_4 : decode cX12_comesOut 4 = .ok (.ifCond .le 88, 3) := by decide +kernel
theorem dX12_comesOut_7 : decode cX12_comesOut 7 = .ok (.aload_n 0, 1) := by decide +kernel
theorem dX12_comesOut_8 : decode cX12_comesOut 8 = .ok (.getfield 125, 3) := by decide +kernel
theorem dX12_comesOut_11 : decode cX12_comesOut 11 = .ok (.aload_n 0, 1) := by decide +kernel
theorem dX12_comesOut_12 : decode cX12_comesOut 12 = .ok (.getfield 363, 3) := by decide +kernel
theorem dX12_comesOut_15 : decode cX12_comesOut 15 = .ok (.iconst 1, 1) := by decide +kernel
theorem dX12_comesOut_16 : decode cX12_comesOut 16 = .ok (.isub, 1) := by decide +kernel
theorem dX12_comesOut_17 : decode cX12_comesOut 17 = .ok (.iaload, 1) := by decide +kernel
theorem dX12_comesOut_18 : decode cX12_comesOut 18 = .ok (.istore_n 2, 1) := by decide +kernel
theorem dX12_comesOut_19 : decode cX12_comesOut 19 = .ok (.iload_n 2, 1) := by decide +kernel
theorem dX12_comesOut_20 : decode cX12_comesOut 20 = .ok (.invokestatic 366, 3) := by decide +kernel
theorem dX12_comesOut_23 : decode cX12_comesOut 23 = .ok (.ifCond .ne 19, 3) := by decide +kernel
theorem dX12_comesOut_26 : decode cX12_comesOut 26 = .ok (.iload_n 1, 1) := by decide +kernel
theorem dX12_comesOut_27 : decode cX12_comesOut 27 = .ok (.ifCond .eq 16, 3) := by decide +kernel
theorem dX12_comesOut_30 : decode cX12_comesOut 30 = .ok (.iload_n 2, 1) := by decide +kernel
theorem dX12_comesOut_31 : decode cX12_comesOut 31 = .ok (.bipush 8, 2) := by decide +kernel
theorem dX12_comesOut_33 : decode cX12_comesOut 33 = .ok (.if_icmp .eq 9, 3) := by decide +kernel
theorem dX12_comesOut_36 : decode cX12_comesOut 36 = .ok (.iload_n 2, 1) := by decide +kernel
theorem dX12_comesOut_37 : decode cX12_comesOut 37 = .ok (.bipush 9, 2) := by decide +kernel
theorem dX12_comesOut_39 : decode cX12_comesOut 39 = .ok (.if_icmp .ne 4, 3) := by decide +kernel
theorem dX12_comesOut_42 : decode cX12_comesOut 42 = .ok (.return_, 1) := by decide +kernel
theorem dX12_comesOut_43 : decode cX12_comesOut 43 = .ok (.aload_n 0, 1) := by decide +kernel
theorem dX12_comesOut_44 : decode cX12_comesOut 44 = .ok (.dup, 1) := by decide +kernel
theorem dX12_comesOut_45 : decode cX12_comesOut 45 = .ok (.getfield 363, 3) := by decide +kernel
theorem dX12_comesOut_48 : decode cX12_comesOut 48 = .ok (.iconst 1, 1) := by decide +kernel
theorem dX12_comesOut_49 : decode cX12_comesOut 49 = .ok (.isub, 1) := by decide +kernel
theorem dX12_comesOut_50 : decode cX12_comesOut 50 = .ok (.putfield 363, 3) := by decide +kernel
theorem dX12_comesOut_53 : decode cX12_comesOut 53 = .ok (.aload_n 0, 1) := by decide +kernel
theorem dX12_comesOut_54 : decode cX12_comesOut 54 = .ok (.iload_n 2, 1) := by decide +kernel
theorem dX12_comesOut_55 : decode cX12_comesOut 55 = .ok (.bipush 8, 2) := by decide +kernel
theorem dX12_comesOut_57 : decode cX12_comesOut 57 = .ok (.if_icmp .ne 7, 3) := by decide +kernel
theorem dX12_comesOut_60 : decode cX12_comesOut 60 = .ok (.iconst 2, 1) := by decide +kernel
theorem dX12_comesOut_61 : decode cX12_comesOut 61 = .ok (.goto 24, 3) := by decide +kernel
theorem dX12_comesOut_64 : decode cX12_comesOut 64 = .ok (.iload_n 2, 1) := by decide +kernel
theorem dX12_comesOut_65 : decode cX12_comesOut 65 = .ok (.bipush 9, 2) := by decide +kernel
theorem dX12_comesOut_67 : decode cX12_comesOut 67 = .ok (.if_icmp .ne 7, 3) := by decide +kernel
theorem dX12_comesOut_70 : decode cX12_comesOut 70 = .ok (.iconst 3, 1) := by decide +kernel
theorem dX12_comesOut_71 : decode cX12_comesOut 71 = .ok (.goto 14, 3) := by decide +kernel
theorem dX12_comesOut_74 : decode cX12_comesOut 74 = .ok (.iload_n 2, 1) := by decide +kernel
theorem dX12_comesOut_75 : decode cX12_comesOut 75 = .ok (.bipush 10, 2) := by decide +kernel
theorem dX12_comesOut_77 : decode cX12_comesOut 77 = .ok (.if_icmp .ne 7, 3) := by decide +kernel
theorem dX12_comesOut_80 : decode cX12_comesOut 80 = .ok (.iconst 4, 1) := by decide +kernel
theorem dX12_comesOut_81 : decode cX12_comesOut 81 = .ok (.goto 4, 3) := by decide +kernel
theorem dX12_comesOut_84 : decode cX12_comesOut 84 = .ok (.iconst 5, 1) := by decide +kernel
theorem dX12_comesOut_85 : decode cX12_comesOut 85 = .ok (.iconst 0, 1) := by decide +kernel
theorem dX12_comesOut_86 : decode cX12_comesOut 86 = .ok (.invokevirtual 369, 3) := by decide +kernel
theorem dX12_comesOut_89 : decode cX12_comesOut 89 = .ok (.goto (-89), 3) := by decide +kernel
theorem dX12_comesOut_92 : decode cX12_comesOut 92 = .ok (.return_, 1) := by decide +kernel
def k_X12_comesOut_0 (X : CX) (T : List Dsc) (n1 n2 : Nat) (x0 : Nat) (x1 : Int32) (r : ((Mem) ⊕ ((Mem) ⊕ (Mem)))) : Prop := match r with
  | .inl s => Wp X cX12_comesOut RX12 3 T s n1 n2 0 [(0, .ref x0), (1, .int x1)] []
  | .inr (.inl e) => Wp X cX12_comesOut RX12 3 T e n1 n2 42 [] []
  | .inr (.inr e) => Wp X cX12_comesOut RX12 3 T e n1 n2 92 [] []
set_option maxHeartbeats 4000000 in
set_option maxRecDepth 100000 in
theorem w_X12_comesOut_85 {X : CX} {T : List Dsc} {n1 n2 : Nat} {x0 : Nat} {x1 : Int32} {s0 : Nat} {s1 : Int32} {μ : Mem} {r : ((Mem) ⊕ ((Mem) ⊕ (Mem)))} (hX : XR X 2 n1 n2) (hx0 : T[x0]? = some (.inl 11)) (hs0 : T[s0]? = some (.inl 11)) (hf : f_X12_comesOut_85 T x0 x1 s0 s1 μ = some r) (hk : k_X12_comesOut_0 X T n1 n2 x0 x1 r) : Wp X cX12_comesOut RX12 3 T μ n1 n2 85 [(0, .ref x0), (1, .int x1)] [.int s1, .ref s0] := by
  unfold f_X12_comesOut_85 at hf
  refine Wp.iconst (pc := 85) (0 : Int32) (by decide) dX12_comesOut_85 ?_
  obtain ⟨c1, h2, hf⟩ := bnd hf
  refine Wp.callVv (pc := 86) (st := []) (as := [.int s1, .int (0 : Int32)]) (c_X12_emit hs0 h2) ml_RX12_369 mv_X12_emit mb_X12_emit hX (Nat.le_of_ble_eq_true rfl) (by decide) rfl hs0 rfl (by simp) dX12_comesOut_86 rfl ?_
  refine Wp.goto (pc := 89) 0 dX12_comesOut_89 (by decide) ?_
  cases hf
  exact hk
set_option maxHeartbeats 4000000 in
set_option maxRecDepth 100000 in
theorem w_X12_comesOut_43 {X : CX} {T : List Dsc} {n1 n2 : Nat} {x0 : Nat} {x1 : Int32} {x2 : Int32} {μ : Mem} {r : ((Mem) ⊕ ((Mem) ⊕ (Mem)))} (hX : XR X 2 n1 n2) (hx0 : T[x0]? = some (.inl 11)) (hf : f_X12_comesOut_43 T x0 x1 x2 μ = some r) (hk : k_X12_comesOut_0 X T n1 n2 x0 x1 r) : Wp X cX12_comesOut RX12 3 T μ n1 n2 43 [(0, .ref x0), (1, .int x1), (2, .int x2)] [] := by
  unfold f_X12_comesOut_43 at hf
  refine Wp.aload_n (pc := 43) 0 rfl rfl dX12_comesOut_43 ?_
  refine Wp.dup (pc := 44) rfl dX12_comesOut_44 ?_
  refine Wp.getI (pc := 45) hx0 fk_RX12_363 rfl dX12_comesOut_45 ?_
  refine Wp.iconst (pc := 48) (1 : Int32) (by decide) dX12_comesOut_48 ?_
  refine Wp.isub (pc := 49) dX12_comesOut_49 ?_
  obtain ⟨μ1, h2, hf⟩ := bnd hf
  refine Wp.ptI (pc := 50) h2 hx0 fk_RX12_363 ff_RX12_11_54 rfl dX12_comesOut_50 ?_
  refine Wp.aload_n (pc := 53) 0 rfl rfl dX12_comesOut_53 ?_
  refine Wp.iload_n (pc := 54) 2 rfl rfl dX12_comesOut_54 ?_
  refine Wp.bipush (pc := 55) (8 : Int32) (by decide) dX12_comesOut_55 ?_
  refine Wp.icmp_ne (pc := 57) 64 dX12_comesOut_57 (by decide) (fun hc3 => ?_) (fun hc3 => ?_)
  · rw [if_neg hc3] at hf
    refine Wp.iload_n (pc := 64) 2 rfl rfl dX12_comesOut_64 ?_
    refine Wp.bipush (pc := 65) (9 : Int32) (by decide) dX12_comesOut_65 ?_
    refine Wp.icmp_ne (pc := 67) 74 dX12_comesOut_67 (by decide) (fun hc4 => ?_) (fun hc4 => ?_)
    · rw [if_neg hc4] at hf
      refine Wp.iload_n (pc := 74) 2 rfl rfl dX12_comesOut_74 ?_
      refine Wp.bipush (pc := 75) (10 : Int32) (by decide) dX12_comesOut_75 ?_
      refine Wp.icmp_ne (pc := 77) 84 dX12_comesOut_77 (by decide) (fun hc5 => ?_) (fun hc5 => ?_)
      · rw [if_neg hc5] at hf
        refine Wp.iconst (pc := 84) (5 : Int32) (by decide) dX12_comesOut_84 ?_
        refine Wp.lo' (lo' := [(0, .ref x0), (1, .int x1)]) [0, 1] rfl ?_
        exact w_X12_comesOut_85 hX hx0 hx0 hf hk
      · rw [if_pos hc5] at hf
        refine Wp.iconst (pc := 80) (4 : Int32) (by decide) dX12_comesOut_80 ?_
        refine Wp.goto (pc := 81) 85 dX12_comesOut_81 (by decide) ?_
        refine Wp.lo' (lo' := [(0, .ref x0), (1, .int x1)]) [0, 1] rfl ?_
        exact w_X12_comesOut_85 hX hx0 hx0 hf hk
    · rw [if_pos hc4] at hf
      refine Wp.iconst (pc := 70) (3 : Int32) (by decide) dX12_comesOut_70 ?_
      refine Wp.goto (pc := 71) 85 dX12_comesOut_71 (by decide) ?_
      refine Wp.lo' (lo' := [(0, .ref x0), (1, .int x1)]) [0, 1] rfl ?_
      exact w_X12_comesOut_85 hX hx0 hx0 hf hk
  · rw [if_pos hc3] at hf
    refine Wp.iconst (pc := 60) (2 : Int32) (by decide) dX12_comesOut_60 ?_
    refine Wp.goto (pc := 61) 85 dX12_comesOut_61 (by decide) ?_
    refine Wp.lo' (lo' := [(0, .ref x0), (1, .int x1)]) [0, 1] rfl ?_
    exact w_X12_comesOut_85 hX hx0 hx0 hf hk
set_option maxHeartbeats 4000000 in
set_option maxRecDepth 100000 in
theorem w_X12_comesOut_0 {X : CX} {T : List Dsc} {n1 n2 : Nat} {x0 : Nat} {x1 : Int32} {μ : Mem} {r : ((Mem) ⊕ ((Mem) ⊕ (Mem)))} (hX : XR X 2 n1 n2) (hx0 : T[x0]? = some (.inl 11)) (hf : f_X12_comesOut_0 T x0 x1 μ = some r) (hk : k_X12_comesOut_0 X T n1 n2 x0 x1 r) : Wp X cX12_comesOut RX12 3 T μ n1 n2 0 [(0, .ref x0), (1, .int x1)] [] := by
  unfold f_X12_comesOut_0 at hf
  refine Wp.aload_n (pc := 0) 0 rfl rfl dX12_comesOut_0 ?_
  refine Wp.getI (pc := 1) hx0 fk_RX12_363 rfl dX12_comesOut_1 ?_
  refine Wp.if_le (pc := 4) 92 dX12_comesOut_4 (by decide) (fun hc1 => ?_) (fun hc1 => ?_)
  · rw [if_pos hc1] at hf
    refine Wp.lo' (lo' := []) [] rfl ?_
    cases hf
    exact hk
  · rw [if_neg hc1] at hf
    refine Wp.aload_n (pc := 7) 0 rfl rfl dX12_comesOut_7 ?_
    obtain ⟨a2, h3, hf⟩ := bnd hf
    refine Wp.getR (pc := 8) (gA_R h3) hx0 fk_RX12_125 rfl dX12_comesOut_8 ?_
    refine Wp.aload_n (pc := 11) 0 rfl rfl dX12_comesOut_11 ?_
    refine Wp.getI (pc := 12) hx0 fk_RX12_363 rfl dX12_comesOut_12 ?_
    refine Wp.iconst (pc := 15) (1 : Int32) (by decide) dX12_comesOut_15 ?_
    refine Wp.isub (pc := 16) dX12_comesOut_16 ?_
    obtain ⟨v4, h5, hf⟩ := bnd hf
    refine Wp.iald (pc := 17) h5 (gA_T h3) dX12_comesOut_17 ?_
    refine Wp.istore_n (pc := 18) (lo' := [(0, .ref x0), (1, .int x1), (2, .int v4)]) [1, 2, 0] rfl (by decide) rfl dX12_comesOut_18 ?_
    refine Wp.iload_n (pc := 19) 2 rfl rfl dX12_comesOut_19 ?_
    obtain ⟨c6, h7, hf⟩ := bnd hf
    refine Wp.callSi (pc := 20) (st := []) (as := [.int v4]) (c_X12_isWall h7) ml_RX12_366 ms_X12_isWall mb_X12_isWall hX (Nat.le_of_ble_eq_true rfl) (by decide) rfl (by simp) dX12_comesOut_20 rfl ?_
    refine Wp.if_ne (pc := 23) 42 dX12_comesOut_23 (by decide) (fun hc8 => ?_) (fun hc8 => ?_)
    · rw [if_neg hc8] at hf
      refine Wp.lo' (lo' := []) [] rfl ?_
      cases hf
      exact hk
    · rw [if_pos hc8] at hf
      refine Wp.iload_n (pc := 26) 1 rfl rfl dX12_comesOut_26 ?_
      refine Wp.if_eq (pc := 27) 43 dX12_comesOut_27 (by decide) (fun hc9 => ?_) (fun hc9 => ?_)
      · rw [if_pos hc9] at hf
        exact w_X12_comesOut_43 hX hx0 hf hk
      · rw [if_neg hc9] at hf
        refine Wp.iload_n (pc := 30) 2 rfl rfl dX12_comesOut_30 ?_
        refine Wp.bipush (pc := 31) (8 : Int32) (by decide) dX12_comesOut_31 ?_
        refine Wp.icmp_eq (pc := 33) 42 dX12_comesOut_33 (by decide) (fun hc10 => ?_) (fun hc10 => ?_)
        · rw [if_pos hc10] at hf
          refine Wp.lo' (lo' := []) [] rfl ?_
          cases hf
          exact hk
        · rw [if_neg hc10] at hf
          refine Wp.iload_n (pc := 36) 2 rfl rfl dX12_comesOut_36 ?_
          refine Wp.bipush (pc := 37) (9 : Int32) (by decide) dX12_comesOut_37 ?_
          refine Wp.icmp_ne (pc := 39) 43 dX12_comesOut_39 (by decide) (fun hc11 => ?_) (fun hc11 => ?_)
          · rw [if_neg hc11] at hf
            exact w_X12_comesOut_43 hX hx0 hf hk
          · rw [if_pos hc11] at hf
            refine Wp.lo' (lo' := []) [] rfl ?_
            cases hf
            exact hk
theorem wl_X12_comesOut_0 {X : CX} {T : List Dsc} {n1 n2 : Nat} {x0 : Nat} {x1 : Int32} {μ : Mem} {e : ((Mem) ⊕ (Mem))} (hX : XR X 2 n1 n2) (hx0 : T[x0]? = some (.inl 11)) (h : loop (g_X12_comesOut_0 T x0 x1) μ = some e) (he0 : ∀ e_, e = (Sum.inl e_) → Wp X cX12_comesOut RX12 3 T e_ n1 n2 42 [] []) (he1 : ∀ e_, e = (Sum.inr e_) → Wp X cX12_comesOut RX12 3 T e_ n1 n2 92 [] []) : Wp X cX12_comesOut RX12 3 T μ n1 n2 0 [(0, .ref x0), (1, .int x1)] [] :=
  loop_ok (K := k_X12_comesOut_0 X T n1 n2 x0 x1) (fun s r hf hk => w_X12_comesOut_0 hX hx0 hf hk) h (by rcases e with e | e <;> first | exact he0 _ rfl | exact he1 _ rfl)
set_option maxHeartbeats 4000000 in
set_option maxRecDepth 100000 in
theorem w_X12_comesOut_42 {X : CX} {T : List Dsc} {n1 n2 : Nat} {μ : Mem} {r : Mem} (hX : XR X 2 n1 n2) (hf : f_X12_comesOut_42 T μ = some r) (hk : FnV X cX12_comesOut RX12 3 T n1 n2 r) : Wp X cX12_comesOut RX12 3 T μ n1 n2 42 [] [] := by
  unfold f_X12_comesOut_42 at hf
  cases hf
  exact hk _ _ dX12_comesOut_42
set_option maxHeartbeats 4000000 in
set_option maxRecDepth 100000 in
theorem w_X12_comesOut {X : CX} {T : List Dsc} {n1 n2 : Nat} {x0 : Nat} {x1 : Int32} {μ : Mem} {r : Mem} (hX : XR X 2 n1 n2) (hx0 : T[x0]? = some (.inl 11)) (hf : F_X12_comesOut T x0 x1 μ = some r) (hk : FnV X cX12_comesOut RX12 3 T n1 n2 r) : Wp X cX12_comesOut RX12 3 T μ n1 n2 0 [(0, .ref x0), (1, .int x1)] [] := by
  unfold F_X12_comesOut at hf
  obtain ⟨e1, h2, hf⟩ := bnd hf
  refine wl_X12_comesOut_0 hX hx0 h2 (fun e1_0 hq => ?_) (fun e1_1 hq => ?_)
  · rw [hq, Sum.elim_inl] at hf
    exact w_X12_comesOut_42 hX hf hk
  · rw [hq, Sum.elim_inr] at hf
    cases hf
    exact hk _ _ dX12_comesOut_92
theorem c_X12_comesOut {T : List Dsc} {x0 : Nat} {x1 : Int32} {μ : Mem} {r : Mem} (hx0 : T[x0]? = some (.inl 11)) (hf : F_X12_comesOut T x0 x1 μ = some r) : Ct 2 yX12_comesOut cX12_comesOut 3 none T μ [.ref x0, .int x1] none r := Ct.ofV (by decide +kernel) (Nat.le_of_ble_eq_true rfl) (fun X hX hk => w_X12_comesOut hX hx0 hf hk)
theorem dX12_closesMany_0 : decode cX12_closesMany 0 = .ok (.aload_n 0, 1) := by decide +kernel
theorem dX12_closesMany_1 : decode cX12_closesMany 1 = .ok (.getfield 254, 3) := by decide +kernel
theorem dX12_closesMany_4 : decode cX12_closesMany 4 = .ok (.ifCond .ne 154, 3) := by decide +kernel
theorem dX12_closesMany_7 : decode cX12_closesMany 7 = .ok (.aload_n 0, 1) := by decide +kernel
theorem dX12_closesMany_8 : decode cX12_closesMany 8 = .ok (.getfield 281, 3) := by decide +kernel
theorem dX12_closesMany_11 : decode cX12_closesMany 11 = .ok (.iload_n 1, 1) := by decide +kernel
theorem dX12_closesMany_12 : decode cX12_closesMany 12 = .ok (.if_icmp .le 146, 3) := by decide +kernel
theorem dX12_closesMany_15 : decode cX12_closesMany 15 = .ok (.aload_n 0, 1) := by decide +kernel
theorem dX12_closesMany_16 : decode cX12_closesMany 16 = .ok (.bipush 7, 2) := by decide +kernel
theorem dX12_closesMany_18 : decode cX12_closesMany 18 = .ok (.invokevirtual 272, 3) := by decide +kernel
theorem dX12_closesMany_21 : decode cX12_closesMany 21 = .ok (.ifCond .ne 12, 3) := by decide +kernel
theorem dX12_closesMany_24 : decode cX12_closesMany 24 = .ok (.aload_n 0, 1) := by decide +kernel
theorem dX12_closesMany_25 : decode cX12_closesMany 25 = .ok (.bipush 16, 2) := by decide +kernel
theorem dX12_closesMany_27 : decode cX12_closesMany 27 = .ok (.invokevirtual 272, 3) := by decide +kernel
theorem dX12_closesMany_30 : decode cX12_closesMany 30 = .ok (.ifCond .eq 128, 3) := by decide +kernel
theorem dX12_closesMany_33 : decode cX12_closesMany 33 = .ok (.aload_n 0, 1) := by decide +kernel
theorem dX12_closesMany_34 : decode cX12_closesMany 34 = .ok (.iconst 0, 1) := by decide +kernel
theorem dX12_closesMany_35 : decode cX12_closesMany 35 = .ok (.invokevirtual 384, 3) := by decide +kernel
theorem dX12_closesMany_38 : decode cX12_closesMany 38 = .ok (.aload_n 0, 1) := by decide +kernel
theorem dX12_closesMany_39 : decode cX12_closesMany 39 = .ok (.getfield 125, 3) := by decide +kernel
theorem dX12_closesMany_42 : decode cX12_closesMany 42 = .ok (.aload_n 0, 1) := by decide +kernel
theorem dX12_closesMany_43 : decode cX12_closesMany 43 = .ok (.getfield 363, 3) := by decide +kernel
theorem dX12_closesMany_46 : decode cX12_closesMany 46 = .ok (.iconst 1, 1) := by decide +kernel
theorem dX12_closesMany_47 : decode cX12_closesMany 47 = .ok (.isub, 1) := by decide +kernel
theorem dX12_closesMany_48 : decode cX12_closesMany 48 = .ok (.iaload, 1) := by decide +kernel
theorem dX12_closesMany_49 : decode cX12_closesMany 49 = .ok (.istore_n 2, 1) := by decide +kernel
theorem dX12_closesMany_50 : decode cX12_closesMany 50 = .ok (.aload_n 0, 1) := by decide +kernel
theorem dX12_closesMany_51 : decode cX12_closesMany 51 = .ok (.bipush 16, 2) := by decide +kernel
theorem dX12_closesMany_53 : decode cX12_closesMany 53 = .ok (.invokevirtual 272, 3) := by decide +kernel
theorem dX12_closesMany_56 : decode cX12_closesMany 56 = .ok (.ifCond .eq 42, 3) := by decide +kernel
theorem dX12_closesMany_59 : decode cX12_closesMany 59 = .ok (.iload_n 2, 1) := by decide +kernel
theorem dX12_closesMany_60 : decode cX12_closesMany 60 = .ok (.bipush 36, 2) := by decide +kernel
theorem dX12_closesMany_62 : decode cX12_closesMany 62 = .ok (.if_icmp .eq 8, 3) := by decide +kernel
theorem dX12_closesMany_65 : decode cX12_closesMany 65 = .ok (.aload_n 0, 1) := by decide +kernel
theorem dX12_closesMany_66 : decode cX12_closesMany 66 = .ok (.iconst 1, 1) := by decide +kernel
theorem dX12_closesMany_67 : decode cX12_closesMany 67 = .ok (.invokevirtual 269, 3) := by decide +kernel
theorem dX12_closesMany_70 : decode cX12_closesMany 70 = .ok (.aload_n 0, 1) := by decide +kernel
theorem dX12_closesMany_71 : decode cX12_closesMany 71 = .ok (.getfield 254, 3) := by decide +kernel
theorem dX12_closesMany_74 : decode cX12_closesMany 74 = .ok (.ifCond .le 5, 3) := by decide +kernel
theorem dX12_closesMany_77 : decode cX12_closesMany 77 = .ok (.iconst 0, 1) := by decide +kernel
theorem dX12_closesMany_78 : decode cX12_closesMany 78 = .ok (.ireturn, 1) := by decide +kernel
theorem dX12_closesMany_79 : decode cX12_closesMany 79 = .ok (.aload_n 0, 1) := by decide +kernel
theorem dX12_closesMany_80 : decode cX12_closesMany 80 = .ok (.getfield 125, 3) := by decide +kernel
theorem dX12_closesMany_83 : decode cX12_closesMany 83 = .ok (.aload_n 0, 1) := by decide +kernel
theorem dX12_closesMany_84 : decode cX12_closesMany 84 = .ok (.getfield 363, 3) := by decide +kernel
theorem dX12_closesMany_87 : decode cX12_closesMany 87 = .ok (.iconst 1, 1) := by decide +kernel
theorem dX12_closesMany_88 : decode cX12_closesMany 88 = .ok (.isub, 1) := by decide +kernel
theorem dX12_closesMany_89 : decode cX12_closesMany 89 = .ok (.bipush 16, 2) := by decide +kernel
theorem dX12_closesMany_91 : decode cX12_closesMany 91 = .ok (.iastore, 1) := by decide +kernel
theorem dX12_closesMany_92 : decode cX12_closesMany 92 = .ok (.aload_n 0, 1) := by decide +kernel
theorem dX12_closesMany_93 : decode cX12_closesMany 93 = .ok (.invokevirtual 275, 3) := by decide +kernel
theorem dX12_closesMany_96 : decode cX12_closesMany 96 = .ok (.iconst 1, 1) := by decide +kernel
theorem dX12_closesMany_97 : decode cX12_closesMany 97 = .ok (.ireturn, 1) := by decide +kernel
theorem dX12_closesMany_98 : decode cX12_closesMany 98 = .ok (.iload_n 2, 1) := by decide +kernel
theorem dX12_closesMany_99 : decode cX12_closesMany 99 = .ok (.bipush 36, 2) := by decide +kernel
theorem dX12_closesMany_101 : decode cX12_closesMany 101 = .ok (.if_icmp .ne 8, 3) := by decide +kernel
theorem dX12_closesMany_104 : decode cX12_closesMany 104 = .ok (.aload_n 0, 1) := by decide +kernel
theorem dX12_closesMany_105 : decode cX12_closesMany 105 = .ok (.iconst 1, 1) := by decide +kernel
theorem dX12_closesMany_106 : decode cX12_closesMany 106 = .ok (.invokevirtual 269, 3) := by decide +kernel
theorem dX12_closesMany_109 : decode cX12_closesMany 109 = .ok (.aload_n 0, 1) := by decide +kernel
theorem dX12_closesMany_110 : decode cX12_closesMany 110 = .ok (.getfield 254, 3) := by decide +kernel
theorem dX12_closesMany_113 : decode cX12_closesMany 113 = .ok (.ifCond .le 5, 3) := by decide +kernel
theorem dX12_closesMany_116 : decode cX12_closesMany 116 = .ok (.iconst 0, 1) := by decide +kernel
theorem dX12_closesMany_117 : decode cX12_closesMany 117 = .ok (.ireturn, 1) := by decide +kernel
theorem dX12_closesMany_118 : decode cX12_closesMany 118 = .ok (.iload_n 2, 1) := by decide +kernel
theorem dX12_closesMany_119 : decode cX12_closesMany 119 = .ok (.bipush 16, 2) := by decide +kernel
theorem dX12_closesMany_121 : decode cX12_closesMany 121 = .ok (.if_icmp .ne 10, 3) := by decide +kernel
theorem dX12_closesMany_124 : decode cX12_closesMany 124 = .ok (.aload_n 0, 1) := by decide +kernel
theorem dX12_closesMany_125 : decode cX12_closesMany 125 = .ok (.bipush 6, 2) := by decide +kernel
theorem dX12_closesMany_127 : decode cX12_closesMany 127 = .ok (.iconst 0, 1) := by decide +kernel
theorem dX12_closesMany_128 : decode cX12_closesMany 128 = .ok (.invokevirtual 369, 3) := by decide +kernel
theorem dX12_closesMany_131 : decode cX12_closesMany 131 = .ok (.aload_n 0, 1) := by decide +kernel
theorem dX12_closesMany_132 : decode cX12_closesMany 132 = .ok (.dup, 1) := by decide +kernel
theorem dX12_closesMany_133 : decode cX12_closesMany 133 = .ok (.getfield 363, 3) := by decide +kernel
theorem dX12_closesMany_136 : decode cX12_closesMany 136 = .ok (.iconst 1, 1) := by decide +kernel
theorem dX12_closesMany_137 : decode cX12_closesMany 137 = .ok (.isub, 1) := by decide +kernel
theorem dX12_closesMany_138 : decode cX12_closesMany 138 = .ok (.putfield 363, 3) := by decide +kernel
theorem dX12_closesMany_141 : decode cX12_closesMany 141 = .ok (.aload_n 0, 1) := by decide +kernel
theorem dX12_closesMany_142 : decode cX12_closesMany 142 = .ok (.dup, 1) := by decide +kernel
theorem dX12_closesMany_143 : decode cX12_closesMany 143 = .ok (.getfield 281, 3) := by decide +kernel
theorem dX12_closesMany_146 : decode cX12_closesMany 146 = .ok (.iconst 1, 1) := by decide +kernel
theorem dX12_closesMany_147 : decode cX12_closesMany 147 = .ok (.isub, 1) := by decide +kernel
theorem dX12_closesMany_148 : decode cX12_closesMany 148 = .ok (.putfield 281, 3) := by decide +kernel
theorem dX12_closesMany_151 : decode cX12_closesMany 151 = .ok (.aload_n 0, 1) := by decide +kernel
theorem dX12_closesMany_152 : decode cX12_closesMany 152 = .ok (.invokevirtual 275, 3) := by decide +kernel
theorem dX12_closesMany_155 : decode cX12_closesMany 155 = .ok (.goto (-155), 3) := by decide +kernel
theorem dX12_closesMany_158 : decode cX12_closesMany 158 = .ok (.iconst 0, 1) := by decide +kernel
theorem dX12_closesMany_159 : decode cX12_closesMany 159 = .ok (.ireturn, 1) := by decide +kernel
def k_X12_closesMany_0 (X : CX) (T : List Dsc) (n1 n2 : Nat) (x0 : Nat) (x1 : Int32) (r : ((Mem) ⊕ ((Int32 × Mem) ⊕ (Mem) ⊕ (Mem)))) : Prop := match r with
  | .inl s => Wp X cX12_closesMany RX12 3 T s n1 n2 0 [(0, .ref x0), (1, .int x1)] []
  | .inr (.inl e) => Wp X cX12_closesMany RX12 3 T e.2 n1 n2 59 [(0, .ref x0), (2, .int e.1)] []
  | .inr (.inr (.inl e)) => Wp X cX12_closesMany RX12 3 T e n1 n2 116 [] []
  | .inr (.inr (.inr e)) => Wp X cX12_closesMany RX12 3 T e n1 n2 158 [] []
set_option maxHeartbeats 4000000 in
set_option maxRecDepth 100000 in
theorem w_X12_closesMany_131 {X : CX} {T : List Dsc} {n1 n2 : Nat} {x0 : Nat} {x1 : Int32} {μ : Mem} {r : ((Mem) ⊕ ((Int32 × Mem) ⊕ (Mem) ⊕ (Mem)))} (hX : XR X 3 n1 n2) (hx0 : T[x0]? = some (.inl 11)) (hf : f_X12_closesMany_131 T x0 x1 μ = some r) (hk : k_X12_closesMany_0 X T n1 n2 x0 x1 r) : Wp X cX12_closesMany RX12 3 T μ n1 n2 131 [(0, .ref x0), (1, .int x1)] [] := by
  unfold f_X12_closesMany_131 at hf
  refine Wp.aload_n (pc := 131) 0 rfl rfl dX12_closesMany_131 ?_
  refine Wp.dup (pc := 132) rfl dX12_closesMany_132 ?_
  refine Wp.getI (pc := 133) hx0 fk_RX12_363 rfl dX12_closesMany_133 ?_
  refine Wp.iconst (pc := 136) (1 : Int32) (by decide) dX12_closesMany_136 ?_
  refine Wp.isub (pc := 137) dX12_closesMany_137 ?_
  obtain ⟨μ1, h2, hf⟩ := bnd hf
  refine Wp.ptI (pc := 138) h2 hx0 fk_RX12_363 ff_RX12_11_54 rfl dX12_closesMany_138 ?_
  refine Wp.aload_n (pc := 141) 0 rfl rfl dX12_closesMany_141 ?_
  refine Wp.dup (pc := 142) rfl dX12_closesMany_142 ?_
  refine Wp.getI (pc := 143) hx0 fk_RX12_281 rfl dX12_closesMany_143 ?_
  refine Wp.iconst (pc := 146) (1 : Int32) (by decide) dX12_closesMany_146 ?_
  refine Wp.isub (pc := 147) dX12_closesMany_147 ?_
  obtain ⟨μ3, h4, hf⟩ := bnd hf
  refine Wp.ptI (pc := 148) h4 hx0 fk_RX12_281 ff_RX12_11_12 rfl dX12_closesMany_148 ?_
  refine Wp.aload_n (pc := 151) 0 rfl rfl dX12_closesMany_151 ?_
  obtain ⟨c5, h6, hf⟩ := bnd hf
  refine Wp.callVv (pc := 152) (st := []) (as := []) (c_X12_goesOn hx0 h6) ml_RX12_275 mv_X12_goesOn mb_X12_goesOn hX (Nat.le_of_ble_eq_true rfl) (by decide) rfl hx0 rfl (by simp) dX12_closesMany_152 rfl ?_
  refine Wp.goto (pc := 155) 0 dX12_closesMany_155 (by decide) ?_
  cases hf
  exact hk
set_option maxHeartbeats 4000000 in
set_option maxRecDepth 100000 in
theorem w_X12_closesMany_109 {X : CX} {T : List Dsc} {n1 n2 : Nat} {x0 : Nat} {x1 : Int32} {x2 : Int32} {μ : Mem} {r : ((Mem) ⊕ ((Int32 × Mem) ⊕ (Mem) ⊕ (Mem)))} (hX : XR X 3 n1 n2) (hx0 : T[x0]? = some (.inl 11)) (hf : f_X12_closesMany_109 T x0 x1 x2 μ = some r) (hk : k_X12_closesMany_0 X T n1 n2 x0 x1 r) : Wp X cX12_closesMany RX12 3 T μ n1 n2 109 [(0, .ref x0), (1, .int x1), (2, .int x2)] [] := by
  unfold f_X12_closesMany_109 at hf
  refine Wp.aload_n (pc := 109) 0 rfl rfl dX12_closesMany_109 ?_
  refine Wp.getI (pc := 110) hx0 fk_RX12_254 rfl dX12_closesMany_110 ?_
  refine Wp.if_le (pc := 113) 118 dX12_closesMany_113 (by decide) (fun hc1 => ?_) (fun hc1 => ?_)
  · rw [if_pos hc1] at hf
    refine Wp.iload_n (pc := 118) 2 rfl rfl dX12_closesMany_118 ?_
    refine Wp.bipush (pc := 119) (16 : Int32) (by decide) dX12_closesMany_119 ?_
    refine Wp.icmp_ne (pc := 121) 131 dX12_closesMany_121 (by decide) (fun hc2 => ?_) (fun hc2 => ?_)
    · rw [if_neg hc2] at hf
      refine Wp.lo' (lo' := [(0, .ref x0), (1, .int x1)]) [0, 1] rfl ?_
      exact w_X12_closesMany_131 hX hx0 hf hk
    · rw [if_pos hc2] at hf
      refine Wp.aload_n (pc := 124) 0 rfl rfl dX12_closesMany_124 ?_
      refine Wp.bipush (pc := 125) (6 : Int32) (by decide) dX12_closesMany_125 ?_
      refine Wp.iconst (pc := 127) (0 : Int32) (by decide) dX12_closesMany_127 ?_
      obtain ⟨c3, h4, hf⟩ := bnd hf
      refine Wp.callVv (pc := 128) (st := []) (as := [.int (6 : Int32), .int (0 : Int32)]) (c_X12_emit hx0 h4) ml_RX12_369 mv_X12_emit mb_X12_emit hX (Nat.le_of_ble_eq_true rfl) (by decide) rfl hx0 rfl (by simp) dX12_closesMany_128 rfl ?_
      refine Wp.lo' (lo' := [(0, .ref x0), (1, .int x1)]) [0, 1] rfl ?_
      exact w_X12_closesMany_131 hX hx0 hf hk
  · rw [if_neg hc1] at hf
    refine Wp.lo' (lo' := []) [] rfl ?_
    cases hf
    exact hk
set_option maxHeartbeats 4000000 in
set_option maxRecDepth 100000 in
theorem w_X12_closesMany_33 {X : CX} {T : List Dsc} {n1 n2 : Nat} {x0 : Nat} {x1 : Int32} {μ : Mem} {r : ((Mem) ⊕ ((Int32 × Mem) ⊕ (Mem) ⊕ (Mem)))} (hX : XR X 3 n1 n2) (hx0 : T[x0]? = some (.inl 11)) (hf : f_X12_closesMany_33 T x0 x1 μ = some r) (hk : k_X12_closesMany_0 X T n1 n2 x0 x1 r) : Wp X cX12_closesMany RX12 3 T μ n1 n2 33 [(0, .ref x0), (1, .int x1)] [] := by
  unfold f_X12_closesMany_33 at hf
  refine Wp.aload_n (pc := 33) 0 rfl rfl dX12_closesMany_33 ?_
  refine Wp.iconst (pc := 34) (0 : Int32) (by decide) dX12_closesMany_34 ?_
  obtain ⟨c1, h2, hf⟩ := bnd hf
  refine Wp.callVv (pc := 35) (st := []) (as := [.int (0 : Int32)]) (c_X12_comesOut hx0 h2) ml_RX12_384 mv_X12_comesOut mb_X12_comesOut hX (Nat.le_of_ble_eq_true rfl) (by decide) rfl hx0 rfl (by simp) dX12_closesMany_35 rfl ?_
  refine Wp.aload_n (pc := 38) 0 rfl rfl dX12_closesMany_38 ?_
  obtain ⟨a3, h4, hf⟩ := bnd hf
  refine Wp.getR (pc := 39) (gA_R h4) hx0 fk_RX12_125 rfl dX12_closesMany_39 ?_
  refine Wp.aload_n (pc := 42) 0 rfl rfl dX12_closesMany_42 ?_
  refine Wp.getI (pc := 43) hx0 fk_RX12_363 rfl dX12_closesMany_43 ?_
  refine Wp.iconst (pc := 46) (1 : Int32) (by decide) dX12_closesMany_46 ?_
  refine Wp.isub (pc := 47) dX12_closesMany_47 ?_
  obtain ⟨v5, h6, hf⟩ := bnd hf
  refine Wp.iald (pc := 48) h6 (gA_T h4) dX12_closesMany_48 ?_
  refine Wp.istore_n (pc := 49) (lo' := [(0, .ref x0), (1, .int x1), (2, .int v5)]) [1, 2, 0] rfl (by decide) rfl dX12_closesMany_49 ?_
  refine Wp.aload_n (pc := 50) 0 rfl rfl dX12_closesMany_50 ?_
  refine Wp.bipush (pc := 51) (16 : Int32) (by decide) dX12_closesMany_51 ?_
  obtain ⟨c7, h8, hf⟩ := bnd hf
  refine Wp.callVi (pc := 53) (st := []) (as := [.int (16 : Int32)]) (c_X12_is hx0 h8) ml_RX12_272 mv_X12_is mb_X12_is hX (Nat.le_of_ble_eq_true rfl) (by decide) rfl hx0 rfl (by simp) dX12_closesMany_53 rfl ?_
  refine Wp.if_eq (pc := 56) 98 dX12_closesMany_56 (by decide) (fun hc9 => ?_) (fun hc9 => ?_)
  · rw [if_pos hc9] at hf
    refine Wp.iload_n (pc := 98) 2 rfl rfl dX12_closesMany_98 ?_
    refine Wp.bipush (pc := 99) (36 : Int32) (by decide) dX12_closesMany_99 ?_
    refine Wp.icmp_ne (pc := 101) 109 dX12_closesMany_101 (by decide) (fun hc10 => ?_) (fun hc10 => ?_)
    · rw [if_neg hc10] at hf
      exact w_X12_closesMany_109 hX hx0 hf hk
    · rw [if_pos hc10] at hf
      refine Wp.aload_n (pc := 104) 0 rfl rfl dX12_closesMany_104 ?_
      refine Wp.iconst (pc := 105) (1 : Int32) (by decide) dX12_closesMany_105 ?_
      obtain ⟨c11, h12, hf⟩ := bnd hf
      refine Wp.callVv (pc := 106) (st := []) (as := [.int (1 : Int32)]) (c_X12_fail hx0 h12) ml_RX12_269 mv_X12_fail mb_X12_fail hX (Nat.le_of_ble_eq_true rfl) (by decide) rfl hx0 rfl (by simp) dX12_closesMany_106 rfl ?_
      exact w_X12_closesMany_109 hX hx0 hf hk
  · rw [if_neg hc9] at hf
    refine Wp.lo' (lo' := [(0, .ref x0), (2, .int v5)]) [0, 2] rfl ?_
    cases hf
    exact hk
set_option maxHeartbeats 4000000 in
set_option maxRecDepth 100000 in
theorem w_X12_closesMany_0 {X : CX} {T : List Dsc} {n1 n2 : Nat} {x0 : Nat} {x1 : Int32} {μ : Mem} {r : ((Mem) ⊕ ((Int32 × Mem) ⊕ (Mem) ⊕ (Mem)))} (hX : XR X 3 n1 n2) (hx0 : T[x0]? = some (.inl 11)) (hf : f_X12_closesMany_0 T x0 x1 μ = some r) (hk : k_X12_closesMany_0 X T n1 n2 x0 x1 r) : Wp X cX12_closesMany RX12 3 T μ n1 n2 0 [(0, .ref x0), (1, .int x1)] [] := by
  unfold f_X12_closesMany_0 at hf
  refine Wp.aload_n (pc := 0) 0 rfl rfl dX12_closesMany_0 ?_
  refine Wp.getI (pc := 1) hx0 fk_RX12_254 rfl dX12_closesMany_1 ?_
  refine Wp.if_ne (pc := 4) 158 dX12_closesMany_4 (by decide) (fun hc1 => ?_) (fun hc1 => ?_)
  · rw [if_neg hc1] at hf
    refine Wp.lo' (lo' := []) [] rfl ?_
    cases hf
    exact hk
  · rw [if_pos hc1] at hf
    refine Wp.aload_n (pc := 7) 0 rfl rfl dX12_closesMany_7 ?_
    refine Wp.getI (pc := 8) hx0 fk_RX12_281 rfl dX12_closesMany_8 ?_
    refine Wp.iload_n (pc := 11) 1 rfl rfl dX12_closesMany_11 ?_
    refine Wp.icmp_le (pc := 12) 158 dX12_closesMany_12 (by decide) (fun hc2 => ?_) (fun hc2 => ?_)
    · rw [if_pos hc2] at hf
      refine Wp.lo' (lo' := []) [] rfl ?_
      cases hf
      exact hk
    · rw [if_neg hc2] at hf
      refine Wp.aload_n (pc := 15) 0 rfl rfl dX12_closesMany_15 ?_
      refine Wp.bipush (pc := 16) (7 : Int32) (by decide) dX12_closesMany_16 ?_
      obtain ⟨c3, h4, hf⟩ := bnd hf
      refine Wp.callVi (pc := 18) (st := []) (as := [.int (7 : Int32)]) (c_X12_is hx0 h4) ml_RX12_272 mv_X12_is mb_X12_is hX (Nat.le_of_ble_eq_true rfl) (by decide) rfl hx0 rfl (by simp) dX12_closesMany_18 rfl ?_
      refine Wp.if_ne (pc := 21) 33 dX12_closesMany_21 (by decide) (fun hc5 => ?_) (fun hc5 => ?_)
      · rw [if_neg hc5] at hf
        exact w_X12_closesMany_33 hX hx0 hf hk
      · rw [if_pos hc5] at hf
        refine Wp.aload_n (pc := 24) 0 rfl rfl dX12_closesMany_24 ?_
        refine Wp.bipush (pc := 25) (16 : Int32) (by decide) dX12_closesMany_25 ?_
        obtain ⟨c6, h7, hf⟩ := bnd hf
        refine Wp.callVi (pc := 27) (st := []) (as := [.int (16 : Int32)]) (c_X12_is hx0 h7) ml_RX12_272 mv_X12_is mb_X12_is hX (Nat.le_of_ble_eq_true rfl) (by decide) rfl hx0 rfl (by simp) dX12_closesMany_27 rfl ?_
        refine Wp.if_eq (pc := 30) 158 dX12_closesMany_30 (by decide) (fun hc8 => ?_) (fun hc8 => ?_)
        · rw [if_pos hc8] at hf
          refine Wp.lo' (lo' := []) [] rfl ?_
          cases hf
          exact hk
        · rw [if_neg hc8] at hf
          exact w_X12_closesMany_33 hX hx0 hf hk
theorem wl_X12_closesMany_0 {X : CX} {T : List Dsc} {n1 n2 : Nat} {x0 : Nat} {x1 : Int32} {μ : Mem} {e : ((Int32 × Mem) ⊕ (Mem) ⊕ (Mem))} (hX : XR X 3 n1 n2) (hx0 : T[x0]? = some (.inl 11)) (h : loop (g_X12_closesMany_0 T x0 x1) μ = some e) (he0 : ∀ e_, e = (Sum.inl e_) → Wp X cX12_closesMany RX12 3 T e_.2 n1 n2 59 [(0, .ref x0), (2, .int e_.1)] []) (he1 : ∀ e_, e = (Sum.inr (Sum.inl e_)) → Wp X cX12_closesMany RX12 3 T e_ n1 n2 116 [] []) (he2 : ∀ e_, e = (Sum.inr (Sum.inr e_)) → Wp X cX12_closesMany RX12 3 T e_ n1 n2 158 [] []) : Wp X cX12_closesMany RX12 3 T μ n1 n2 0 [(0, .ref x0), (1, .int x1)] [] :=
  loop_ok (K := k_X12_closesMany_0 X T n1 n2 x0 x1) (fun s r hf hk => w_X12_closesMany_0 hX hx0 hf hk) h (by rcases e with e | e | e <;> first | exact he0 _ rfl | exact he1 _ rfl | exact he2 _ rfl)
set_option maxHeartbeats 4000000 in
set_option maxRecDepth 100000 in
theorem w_X12_closesMany_70 {X : CX} {T : List Dsc} {n1 n2 : Nat} {x0 : Nat} {μ : Mem} {r : (Int32 × Mem)} (hX : XR X 3 n1 n2) (hx0 : T[x0]? = some (.inl 11)) (hf : f_X12_closesMany_70 T x0 μ = some r) (hk : FnZ X cX12_closesMany RX12 3 T n1 n2 r) : Wp X cX12_closesMany RX12 3 T μ n1 n2 70 [(0, .ref x0)] [] := by
  unfold f_X12_closesMany_70 at hf
  refine Wp.aload_n (pc := 70) 0 rfl rfl dX12_closesMany_70 ?_
  refine Wp.getI (pc := 71) hx0 fk_RX12_254 rfl dX12_closesMany_71 ?_
  refine Wp.if_le (pc := 74) 79 dX12_closesMany_74 (by decide) (fun hc1 => ?_) (fun hc1 => ?_)
  · rw [if_pos hc1] at hf
    refine Wp.aload_n (pc := 79) 0 rfl rfl dX12_closesMany_79 ?_
    obtain ⟨a2, h3, hf⟩ := bnd hf
    refine Wp.getR (pc := 80) (gA_R h3) hx0 fk_RX12_125 rfl dX12_closesMany_80 ?_
    refine Wp.aload_n (pc := 83) 0 rfl rfl dX12_closesMany_83 ?_
    refine Wp.getI (pc := 84) hx0 fk_RX12_363 rfl dX12_closesMany_84 ?_
    refine Wp.iconst (pc := 87) (1 : Int32) (by decide) dX12_closesMany_87 ?_
    refine Wp.isub (pc := 88) dX12_closesMany_88 ?_
    refine Wp.bipush (pc := 89) (16 : Int32) (by decide) dX12_closesMany_89 ?_
    obtain ⟨μ4, h5, hf⟩ := bnd hf
    refine Wp.iast (pc := 91) h5 (gA_T h3) dX12_closesMany_91 ?_
    refine Wp.aload_n (pc := 92) 0 rfl rfl dX12_closesMany_92 ?_
    obtain ⟨c6, h7, hf⟩ := bnd hf
    refine Wp.callVv (pc := 93) (st := []) (as := []) (c_X12_goesOn hx0 h7) ml_RX12_275 mv_X12_goesOn mb_X12_goesOn hX (Nat.le_of_ble_eq_true rfl) (by decide) rfl hx0 rfl (by simp) dX12_closesMany_93 rfl ?_
    refine Wp.iconst (pc := 96) (1 : Int32) (by decide) dX12_closesMany_96 ?_
    cases hf
    exact hk _ _ (Or.inr rfl) dX12_closesMany_97
  · rw [if_neg hc1] at hf
    refine Wp.iconst (pc := 77) (0 : Int32) (by decide) dX12_closesMany_77 ?_
    cases hf
    exact hk _ _ (Or.inl rfl) dX12_closesMany_78
set_option maxHeartbeats 4000000 in
set_option maxRecDepth 100000 in
theorem w_X12_closesMany_158 {X : CX} {T : List Dsc} {n1 n2 : Nat} {μ : Mem} {r : (Int32 × Mem)} (hX : XR X 3 n1 n2) (hf : f_X12_closesMany_158 T μ = some r) (hk : FnZ X cX12_closesMany RX12 3 T n1 n2 r) : Wp X cX12_closesMany RX12 3 T μ n1 n2 158 [] [] := by
  unfold f_X12_closesMany_158 at hf
  refine Wp.iconst (pc := 158) (0 : Int32) (by decide) dX12_closesMany_158 ?_
  cases hf
  exact hk _ _ (Or.inl rfl) dX12_closesMany_159
set_option maxHeartbeats 4000000 in
set_option maxRecDepth 100000 in
theorem w_X12_closesMany {X : CX} {T : List Dsc} {n1 n2 : Nat} {x0 : Nat} {x1 : Int32} {μ : Mem} {r : (Int32 × Mem)} (hX : XR X 3 n1 n2) (hx0 : T[x0]? = some (.inl 11)) (hf : F_X12_closesMany T x0 x1 μ = some r) (hk : FnZ X cX12_closesMany RX12 3 T n1 n2 r) : Wp X cX12_closesMany RX12 3 T μ n1 n2 0 [(0, .ref x0), (1, .int x1)] [] := by
  unfold F_X12_closesMany at hf
  obtain ⟨e1, h2, hf⟩ := bnd hf
  refine wl_X12_closesMany_0 hX hx0 h2 (fun e1_0 hq => ?_) (fun e1_1 hq => ?_) (fun e1_2 hq => ?_)
  · rw [hq, Sum.elim_inl] at hf
    refine Wp.iload_n (pc := 59) 1 rfl rfl dX12_closesMany_59 ?_
    refine Wp.bipush (pc := 60) (36 : Int32) (by decide) dX12_closesMany_60 ?_
    refine Wp.icmp_eq (pc := 62) 70 dX12_closesMany_62 (by decide) (fun hc3 => ?_) (fun hc3 => ?_)
    · rw [if_pos hc3] at hf
      refine Wp.lo' (lo' := [(0, .ref x0)]) [0] rfl ?_
      exact w_X12_closesMany_70 hX hx0 hf hk
    · rw [if_neg hc3] at hf
      refine Wp.aload_n (pc := 65) 0 rfl rfl dX12_closesMany_65 ?_
      refine Wp.iconst (pc := 66) (1 : Int32) (by decide) dX12_closesMany_66 ?_
      obtain ⟨c4, h5, hf⟩ := bnd hf
      refine Wp.callVv (pc := 67) (st := []) (as := [.int (1 : Int32)]) (c_X12_fail hx0 h5) ml_RX12_269 mv_X12_fail mb_X12_fail hX (Nat.le_of_ble_eq_true rfl) (by decide) rfl hx0 rfl (by simp) dX12_closesMany_67 rfl ?_
      refine Wp.lo' (lo' := [(0, .ref x0)]) [0] rfl ?_
      exact w_X12_closesMany_70 hX hx0 hf hk
  · rw [hq, Sum.elim_inr, Sum.elim_inl] at hf
    refine Wp.iconst (pc := 116) (0 : Int32) (by decide) dX12_closesMany_116 ?_
    cases hf
    exact hk _ _ (Or.inl rfl) dX12_closesMany_117
  · rw [hq, Sum.elim_inr, Sum.elim_inr] at hf
    exact w_X12_closesMany_158 hX hf hk
theorem c_X12_closesMany {T : List Dsc} {x0 : Nat} {x1 : Int32} {μ : Mem} {r : (Int32 × Mem)} (hx0 : T[x0]? = some (.inl 11)) (hf : F_X12_closesMany T x0 x1 μ = some r) : Ct 3 yX12_closesMany cX12_closesMany 3 (some .boolean) T μ [.ref x0, .int x1] (some (.int r.1)) r.2 := Ct.ofZ (by decide +kernel) (Nat.le_of_ble_eq_true rfl) (fun X hX hk => w_X12_closesMany hX hx0 hf hk)
theorem dX12_expression_0 : decode cX12_expression 0 = .ok (.aload_n 0, 1) := by decide +kernel
theorem dX12_expression_1 : decode cX12_expression 1 = .ok (.iconst 0, 1) := by decide +kernel
theorem dX12_expression_2 : decode cX12_expression 2 = .ok (.putfield 363, 3) := by decide +kernel
theorem dX12_expression_5 : decode cX12_expression 5 = .ok (.aload_n 0, 1) := by decide +kernel
theorem dX12_expression_6 : decode cX12_expression 6 = .ok (.getfield 281, 3) := by decide +kernel
theorem dX12_expression_9 : decode cX12_expression 9 = .ok (.istore_n 1, 1) := by decide +kernel
theorem dX12_expression_10 : decode cX12_expression 10 = .ok (.iconst 1, 1) := by decide +kernel
theorem dX12_expression_11 : decode cX12_expression 11 = .ok (.istore_n 2, 1) := by decide +kernel
theorem dX12_expression_12 : decode cX12_expression 12 = .ok (.iload_n 2, 1) := by decide +kernel
theorem dX12_expression_13 : decode cX12_expression 13 = .ok (.ifCond .eq 150, 3) := by decide +kernel
theorem dX12_expression_16 : decode cX12_expression 16 = .ok (.aload_n 0, 1) := by decide +kernel
theorem dX12_expression_17 : decode cX12_expression 17 = .ok (.getfield 254, 3) := by decide +kernel
theorem dX12_expression_20 : decode cX12_expression 20 = .ok (.ifCond .ne 143, 3) := by decide +kernel
theorem dX12_expression_23 : decode cX12_expression 23 = .ok (.aload_n 0, 1) := by decide +kernel
theorem dX12_expression_24 : decode cX12_expression 24 = .ok (.invokevirtual 375, 3) := by decide +kernel
theorem dX12_expression_27 : decode cX12_expression 27 = .ok (.aload_n 0, 1) := by decide +kernel
theorem dX12_expression_28 : decode cX12_expression 28 = .ok (.invokevirtual 378, 3) := by decide +kernel
theorem dX12_expression_31 : decode cX12_expression 31 = .ok (.aload_n 0, 1) := by decide +kernel
theorem dX12_expression_32 : decode cX12_expression 32 = .ok (.iload_n 1, 1) := by decide +kernel
theorem dX12_expression_33 : decode cX12_expression 33 = .ok (.invokevirtual 381, 3) := by decide +kernel
theorem dX12_expression_36 : decode cX12_expression 36 = .ok (.istore_n 3, 1) := by decide +kernel
theorem dX12_expression_37 : decode cX12_expression 37 = .ok (.aload_n 0, 1) := by decide +kernel
theorem dX12_expression_38 : decode cX12_expression 38 = .ok (.getfield 254, 3) := by decide +kernel
theorem dX12_expression_41 : decode cX12_expression 41 = .ok (.ifCond .gt (-29), 3) := by decide +kernel
theorem dX12_expression_44 : decode cX12_expression 44 = .ok (.iload_n 3, 1) := by decide +kernel
theorem dX12_expression_45 : decode cX12_expression 45 = .ok (.ifCond .eq 6, 3) := by decide +kernel
theorem dX12_expression_48 : decode cX12_expression 48 = .ok (.goto (-36), 3) := by decide +kernel
theorem dX12_expression_51 : decode cX12_expression 51 = .ok (.aload_n 0, 1) := by decide +kernel
theorem dX12_expression_52 : decode cX12_expression 52 = .ok (.bipush 8, 2) := by decide +kernel
theorem dX12_expression_54 : decode cX12_expression 54 = .ok (.invokevirtual 272, 3) := by decide +kernel
theorem dX12_expression_57 : decode cX12_expression 57 = .ok (.ifCond .ne 30, 3) := by decide +kernel
theorem dX12_expression_60 : decode cX12_expression 60 = .ok (.aload_n 0, 1) := by decide +kernel
theorem dX12_expression_61 : decode cX12_expression 61 = .ok (.bipush 9, 2) := by decide +kernel
theorem dX12_expression_63 : decode cX12_expression 63 = .ok (.invokevirtual 272, 3) := by decide +kernel
theorem dX12_expression_66 : decode cX12_expression 66 = .ok (.ifCond .ne 21, 3) := by decide +kernel
theorem dX12_expression_69 : decode cX12_expression 69 = .ok (.aload_n 0, 1) := by decide +kernel
theorem dX12_expression_70 : decode cX12_expression 70 = .ok (.bipush 10, 2) := by decide +kernel
theorem dX12_expression_72 : decode cX12_expression 72 = .ok (.invokevirtual 272, 3) := by decide +kernel
theorem dX12_expression_75 : decode cX12_expression 75 = .ok (.ifCond .ne 12, 3) := by decide +kernel
theorem dX12_expression_78 : decode cX12_expression 78 = .ok (.aload_n 0, 1) := by decide +kernel
theorem dX12_expression_79 : decode cX12_expression 79 = .ok (.bipush 15, 2) := by decide +kernel
theorem dX12_expression_81 : decode cX12_expression 81 = .ok (.invokevirtual 272, 3) := by decide +kernel
theorem dX12_expression_84 : decode cX12_expression 84 = .ok (.ifCond .eq 7, 3) := by decide +kernel
theorem dX12_expression_87 : decode cX12_expression 87 = .ok (.iconst 1, 1) := by decide +kernel
theorem dX12_expression_88 : decode cX12_expression 88 = .ok (.goto 4, 3) := by decide +kernel
theorem dX12_expression_91 : decode cX12_expression 91 = .ok (.iconst 0, 1) := by decide +kernel
theorem dX12_expression_92 : decode cX12_expression 92 = .ok (.istore_n 2, 1) := by decide +kernel
theorem dX12_expression_93 : decode cX12_expression 93 = .ok (.iload_n 2, 1) := by decide +kernel
theorem dX12_expression_94 : decode cX12_expression 94 = .ok (.ifCond .ne 22, 3) := by decide +kernel
theorem dX12_expression_97 : decode cX12_expression 97 = .ok (.aload_n 0, 1) := by decide +kernel
theorem dX12_expression_98 : decode cX12_expression 98 = .ok (.getfield 281, 3) := by decide +kernel
theorem dX12_expression_101 : decode cX12_expression 101 = .ok (.iload_n 1, 1) := by decide +kernel
theorem dX12_expression_102 : decode cX12_expression 102 = .ok (.if_icmp .le 8, 3) := by decide +kernel
theorem dX12_expression_105 : decode cX12_expression 105 = .ok (.aload_n 0, 1) := by decide +kernel
theorem dX12_expression_106 : decode cX12_expression 106 = .ok (.iconst 1, 1) := by decide +kernel
theorem dX12_expression_107 : decode cX12_expression 107 = .ok (.invokevirtual 269, 3) := by decide +kernel
theorem dX12_expression_110 : decode cX12_expression 110 = .ok (.aload_n 0, 1) := by decide +kernel
theorem dX12_expression_111 : decode cX12_expression 111 = .ok (.iconst 0, 1) := by decide +kernel
theorem dX12_expression_112 : decode cX12_expression 112 = .ok (.invokevirtual 384, 3) := by decide +kernel
theorem dX12_expression_115 : decode cX12_expression 115 = .ok (.return_, 1) := by decide +kernel
theorem dX12_expression_116 : decode cX12_expression 116 = .ok (.aload_n 0, 1) := by decide +kernel
theorem dX12_expression_117 : decode cX12_expression 117 = .ok (.aload_n 0, 1) := by decide +kernel
theorem dX12_expression_118 : decode cX12_expression 118 = .ok (.bipush 10, 2) := by decide +kernel
theorem dX12_expression_120 : decode cX12_expression 120 = .ok (.invokevirtual 272, 3) := by decide +kernel
theorem dX12_expression_123 : decode cX12_expression 123 = .ok (.ifCond .ne 12, 3) := by decide +kernel
theorem dX12_expression_126 : decode cX12_expression 126 = .ok (.aload_n 0, 1) := by decide +kernel
theorem dX12_expression_127 : decode cX12_expression 127 = .ok (.bipush 15, 2) := by decide +kernel
theorem dX12_expression_129 : decode cX12_expression 129 = .ok (.invokevirtual 272, 3) := by decide +kernel
theorem dX12_expression_132 : decode cX12_expression 132 = .ok (.ifCond .eq 7, 3) := by decide +kernel
theorem dX12_expression_135 : decode cX12_expression 135 = .ok (.iconst 1, 1) := by decide +kernel
theorem dX12_expression_136 : decode cX12_expression 136 = .ok (.goto 4, 3) := by decide +kernel
theorem dX12_expression_139 : decode cX12_expression 139 = .ok (.iconst 0, 1) := by decide +kernel
theorem dX12_expression_140 : decode cX12_expression 140 = .ok (.invokevirtual 384, 3) := by decide +kernel
theorem dX12_expression_143 : decode cX12_expression 143 = .ok (.aload_n 0, 1) := by decide +kernel
theorem dX12_expression_144 : decode cX12_expression 144 = .ok (.aload_n 0, 1) := by decide +kernel
theorem dX12_expression_145 : decode cX12_expression 145 = .ok (.getfield 20, 3) := by decide +kernel
theorem dX12_expression_148 : decode cX12_expression 148 = .ok (.aload_n 0, 1) := by decide +kernel
theorem dX12_expression_149 : decode cX12_expression 149 = .ok (.getfield 257, 3) := by decide +kernel
theorem dX12_expression_152 : decode cX12_expression 152 = .ok (.iaload, 1) := by decide +kernel
theorem dX12_expression_153 : decode cX12_expression 153 = .ok (.invokevirtual 372, 3) := by decide +kernel
theorem dX12_expression_156 : decode cX12_expression 156 = .ok (.aload_n 0, 1) := by decide +kernel
theorem dX12_expression_157 : decode cX12_expression 157 = .ok (.invokevirtual 275, 3) := by decide +kernel
theorem dX12_expression_160 : decode cX12_expression 160 = .ok (.goto (-148), 3) := by decide +kernel
theorem dX12_expression_163 : decode cX12_expression 163 = .ok (.return_, 1) := by decide +kernel
def k_X12_expression_12 (X : CX) (T : List Dsc) (n1 n2 : Nat) (x0 : Nat) (x1 : Int32) (r : ((Int32 × Mem) ⊕ ((Mem) ⊕ (Mem)))) : Prop := match r with
  | .inl s => Wp X cX12_expression RX12 4 T s.2 n1 n2 12 [(0, .ref x0), (1, .int x1), (2, .int s.1)] []
  | .inr (.inl e) => Wp X cX12_expression RX12 4 T e n1 n2 97 [(0, .ref x0), (1, .int x1)] []
  | .inr (.inr e) => Wp X cX12_expression RX12 4 T e n1 n2 163 [] []
set_option maxHeartbeats 4000000 in
set_option maxRecDepth 100000 in
theorem w_X12_expression_140 {X : CX} {T : List Dsc} {n1 n2 : Nat} {x0 : Nat} {x1 : Int32} {x2 : Int32} {s0 : Nat} {s1 : Int32} {μ : Mem} {r : ((Int32 × Mem) ⊕ ((Mem) ⊕ (Mem)))} (hX : XR X 4 n1 n2) (hx0 : T[x0]? = some (.inl 11)) (hs0 : T[s0]? = some (.inl 11)) (hf : f_X12_expression_140 T x0 x1 x2 s0 s1 μ = some r) (hk : k_X12_expression_12 X T n1 n2 x0 x1 r) : Wp X cX12_expression RX12 4 T μ n1 n2 140 [(0, .ref x0), (1, .int x1), (2, .int x2)] [.int s1, .ref s0] := by
  unfold f_X12_expression_140 at hf
  obtain ⟨c1, h2, hf⟩ := bnd hf
  refine Wp.callVv (pc := 140) (st := []) (as := [.int s1]) (c_X12_comesOut hs0 h2) ml_RX12_384 mv_X12_comesOut mb_X12_comesOut hX (Nat.le_of_ble_eq_true rfl) (by decide) rfl hs0 rfl (by simp) dX12_expression_140 rfl ?_
  refine Wp.aload_n (pc := 143) 0 rfl rfl dX12_expression_143 ?_
  refine Wp.aload_n (pc := 144) 0 rfl rfl dX12_expression_144 ?_
  obtain ⟨a3, h4, hf⟩ := bnd hf
  refine Wp.getR (pc := 145) (gA_R h4) hx0 fk_RX12_20 rfl dX12_expression_145 ?_
  refine Wp.aload_n (pc := 148) 0 rfl rfl dX12_expression_148 ?_
  refine Wp.getI (pc := 149) hx0 fk_RX12_257 rfl dX12_expression_149 ?_
  obtain ⟨v5, h6, hf⟩ := bnd hf
  refine Wp.iald (pc := 152) h6 (gA_T h4) dX12_expression_152 ?_
  obtain ⟨c7, h8, hf⟩ := bnd hf
  refine Wp.callVv (pc := 153) (st := []) (as := [.int v5]) (c_X12_pushes hx0 h8) ml_RX12_372 mv_X12_pushes mb_X12_pushes hX (Nat.le_of_ble_eq_true rfl) (by decide) rfl hx0 rfl (by simp) dX12_expression_153 rfl ?_
  refine Wp.aload_n (pc := 156) 0 rfl rfl dX12_expression_156 ?_
  obtain ⟨c9, h10, hf⟩ := bnd hf
  refine Wp.callVv (pc := 157) (st := []) (as := []) (c_X12_goesOn hx0 h10) ml_RX12_275 mv_X12_goesOn mb_X12_goesOn hX (Nat.le_of_ble_eq_true rfl) (by decide) rfl hx0 rfl (by simp) dX12_expression_157 rfl ?_
  refine Wp.goto (pc := 160) 12 dX12_expression_160 (by decide) ?_
  cases hf
  exact hk
set_option maxHeartbeats 4000000 in
set_option maxRecDepth 100000 in
theorem w_X12_expression_135 {X : CX} {T : List Dsc} {n1 n2 : Nat} {x0 : Nat} {x1 : Int32} {x2 : Int32} {s0 : Nat} {μ : Mem} {r : ((Int32 × Mem) ⊕ ((Mem) ⊕ (Mem)))} (hX : XR X 4 n1 n2) (hx0 : T[x0]? = some (.inl 11)) (hs0 : T[s0]? = some (.inl 11)) (hf : f_X12_expression_135 T x0 x1 x2 s0 μ = some r) (hk : k_X12_expression_12 X T n1 n2 x0 x1 r) : Wp X cX12_expression RX12 4 T μ n1 n2 135 [(0, .ref x0), (1, .int x1), (2, .int x2)] [.ref s0] := by
  unfold f_X12_expression_135 at hf
  refine Wp.iconst (pc := 135) (1 : Int32) (by decide) dX12_expression_135 ?_
  refine Wp.goto (pc := 136) 140 dX12_expression_136 (by decide) ?_
  exact w_X12_expression_140 hX hx0 hs0 hf hk
set_option maxHeartbeats 4000000 in
set_option maxRecDepth 100000 in
theorem w_X12_expression_92 {X : CX} {T : List Dsc} {n1 n2 : Nat} {x0 : Nat} {x1 : Int32} {s0 : Int32} {μ : Mem} {r : ((Int32 × Mem) ⊕ ((Mem) ⊕ (Mem)))} (hX : XR X 4 n1 n2) (hx0 : T[x0]? = some (.inl 11)) (hf : f_X12_expression_92 T x0 x1 s0 μ = some r) (hk : k_X12_expression_12 X T n1 n2 x0 x1 r) : Wp X cX12_expression RX12 4 T μ n1 n2 92 [(0, .ref x0), (1, .int x1)] [.int s0] := by
  unfold f_X12_expression_92 at hf
  refine Wp.istore_n (pc := 92) (lo' := [(0, .ref x0), (1, .int x1), (2, .int s0)]) [1, 2, 0] rfl (by decide) rfl dX12_expression_92 ?_
  refine Wp.iload_n (pc := 93) 2 rfl rfl dX12_expression_93 ?_
  refine Wp.if_ne (pc := 94) 116 dX12_expression_94 (by decide) (fun hc1 => ?_) (fun hc1 => ?_)
  · rw [if_neg hc1] at hf
    refine Wp.aload_n (pc := 116) 0 rfl rfl dX12_expression_116 ?_
    refine Wp.aload_n (pc := 117) 0 rfl rfl dX12_expression_117 ?_
    refine Wp.bipush (pc := 118) (10 : Int32) (by decide) dX12_expression_118 ?_
    obtain ⟨c2, h3, hf⟩ := bnd hf
    refine Wp.callVi (pc := 120) (st := [.ref x0]) (as := [.int (10 : Int32)]) (c_X12_is hx0 h3) ml_RX12_272 mv_X12_is mb_X12_is hX (Nat.le_of_ble_eq_true rfl) (by decide) rfl hx0 rfl (by simp [Value.category]) dX12_expression_120 rfl ?_
    refine Wp.if_ne (pc := 123) 135 dX12_expression_123 (by decide) (fun hc4 => ?_) (fun hc4 => ?_)
    · rw [if_neg hc4] at hf
      exact w_X12_expression_135 hX hx0 hx0 hf hk
    · rw [if_pos hc4] at hf
      refine Wp.aload_n (pc := 126) 0 rfl rfl dX12_expression_126 ?_
      refine Wp.bipush (pc := 127) (15 : Int32) (by decide) dX12_expression_127 ?_
      obtain ⟨c5, h6, hf⟩ := bnd hf
      refine Wp.callVi (pc := 129) (st := [.ref x0]) (as := [.int (15 : Int32)]) (c_X12_is hx0 h6) ml_RX12_272 mv_X12_is mb_X12_is hX (Nat.le_of_ble_eq_true rfl) (by decide) rfl hx0 rfl (by simp [Value.category]) dX12_expression_129 rfl ?_
      refine Wp.if_eq (pc := 132) 139 dX12_expression_132 (by decide) (fun hc7 => ?_) (fun hc7 => ?_)
      · rw [if_pos hc7] at hf
        refine Wp.iconst (pc := 139) (0 : Int32) (by decide) dX12_expression_139 ?_
        exact w_X12_expression_140 hX hx0 hx0 hf hk
      · rw [if_neg hc7] at hf
        exact w_X12_expression_135 hX hx0 hx0 hf hk
  · rw [if_pos hc1] at hf
    refine Wp.lo' (lo' := [(0, .ref x0), (1, .int x1)]) [0, 1] rfl ?_
    cases hf
    exact hk
set_option maxHeartbeats 4000000 in
set_option maxRecDepth 100000 in
theorem w_X12_expression_87 {X : CX} {T : List Dsc} {n1 n2 : Nat} {x0 : Nat} {x1 : Int32} {μ : Mem} {r : ((Int32 × Mem) ⊕ ((Mem) ⊕ (Mem)))} (hX : XR X 4 n1 n2) (hx0 : T[x0]? = some (.inl 11)) (hf : f_X12_expression_87 T x0 x1 μ = some r) (hk : k_X12_expression_12 X T n1 n2 x0 x1 r) : Wp X cX12_expression RX12 4 T μ n1 n2 87 [(0, .ref x0), (1, .int x1)] [] := by
  unfold f_X12_expression_87 at hf
  refine Wp.iconst (pc := 87) (1 : Int32) (by decide) dX12_expression_87 ?_
  refine Wp.goto (pc := 88) 92 dX12_expression_88 (by decide) ?_
  exact w_X12_expression_92 hX hx0 hf hk
set_option maxHeartbeats 4000000 in
set_option maxRecDepth 100000 in
theorem w_X12_expression_12 {X : CX} {T : List Dsc} {n1 n2 : Nat} {x0 : Nat} {x1 : Int32} {x2 : Int32} {μ : Mem} {r : ((Int32 × Mem) ⊕ ((Mem) ⊕ (Mem)))} (hX : XR X 4 n1 n2) (hx0 : T[x0]? = some (.inl 11)) (hf : f_X12_expression_12 T x0 x1 x2 μ = some r) (hk : k_X12_expression_12 X T n1 n2 x0 x1 r) : Wp X cX12_expression RX12 4 T μ n1 n2 12 [(0, .ref x0), (1, .int x1), (2, .int x2)] [] := by
  unfold f_X12_expression_12 at hf
  refine Wp.iload_n (pc := 12) 2 rfl rfl dX12_expression_12 ?_
  refine Wp.if_eq (pc := 13) 163 dX12_expression_13 (by decide) (fun hc1 => ?_) (fun hc1 => ?_)
  · rw [if_pos hc1] at hf
    refine Wp.lo' (lo' := []) [] rfl ?_
    cases hf
    exact hk
  · rw [if_neg hc1] at hf
    refine Wp.aload_n (pc := 16) 0 rfl rfl dX12_expression_16 ?_
    refine Wp.getI (pc := 17) hx0 fk_RX12_254 rfl dX12_expression_17 ?_
    refine Wp.if_ne (pc := 20) 163 dX12_expression_20 (by decide) (fun hc2 => ?_) (fun hc2 => ?_)
    · rw [if_neg hc2] at hf
      refine Wp.lo' (lo' := []) [] rfl ?_
      cases hf
      exact hk
    · rw [if_pos hc2] at hf
      refine Wp.aload_n (pc := 23) 0 rfl rfl dX12_expression_23 ?_
      obtain ⟨c3, h4, hf⟩ := bnd hf
      refine Wp.callVv (pc := 24) (st := []) (as := []) (c_X12_opensMany hx0 h4) ml_RX12_375 mv_X12_opensMany mb_X12_opensMany hX (Nat.le_of_ble_eq_true rfl) (by decide) rfl hx0 rfl (by simp) dX12_expression_24 rfl ?_
      refine Wp.aload_n (pc := 27) 0 rfl rfl dX12_expression_27 ?_
      obtain ⟨c5, h6, hf⟩ := bnd hf
      refine Wp.callVv (pc := 28) (st := []) (as := []) (c_X12_unit hx0 h6) ml_RX12_378 mv_X12_unit mb_X12_unit hX (Nat.le_of_ble_eq_true rfl) (by decide) rfl hx0 rfl (by simp) dX12_expression_28 rfl ?_
      refine Wp.aload_n (pc := 31) 0 rfl rfl dX12_expression_31 ?_
      refine Wp.iload_n (pc := 32) 1 rfl rfl dX12_expression_32 ?_
      obtain ⟨c7, h8, hf⟩ := bnd hf
      refine Wp.callVi (pc := 33) (st := []) (as := [.int x1]) (c_X12_closesMany hx0 h8) ml_RX12_381 mv_X12_closesMany mb_X12_closesMany hX (Nat.le_of_ble_eq_true rfl) (by decide) rfl hx0 rfl (by simp) dX12_expression_33 rfl ?_
      refine Wp.istore_n (pc := 36) (lo' := [(0, .ref x0), (1, .int x1), (2, .int x2), (3, .int c7.1)]) [1, 2, 3, 0] rfl (by decide) rfl dX12_expression_36 ?_
      refine Wp.aload_n (pc := 37) 0 rfl rfl dX12_expression_37 ?_
      refine Wp.getI (pc := 38) hx0 fk_RX12_254 rfl dX12_expression_38 ?_
      refine Wp.if_gt (pc := 41) 12 dX12_expression_41 (by decide) (fun hc9 => ?_) (fun hc9 => ?_)
      · rw [if_pos hc9] at hf
        refine Wp.lo' (lo' := [(0, .ref x0), (1, .int x1), (2, .int x2)]) [0, 1, 2] rfl ?_
        cases hf
        exact hk
      · rw [if_neg hc9] at hf
        refine Wp.iload_n (pc := 44) 3 rfl rfl dX12_expression_44 ?_
        refine Wp.if_eq (pc := 45) 51 dX12_expression_45 (by decide) (fun hc10 => ?_) (fun hc10 => ?_)
        · rw [if_pos hc10] at hf
          refine Wp.aload_n (pc := 51) 0 rfl rfl dX12_expression_51 ?_
          refine Wp.bipush (pc := 52) (8 : Int32) (by decide) dX12_expression_52 ?_
          obtain ⟨c11, h12, hf⟩ := bnd hf
          refine Wp.callVi (pc := 54) (st := []) (as := [.int (8 : Int32)]) (c_X12_is hx0 h12) ml_RX12_272 mv_X12_is mb_X12_is hX (Nat.le_of_ble_eq_true rfl) (by decide) rfl hx0 rfl (by simp) dX12_expression_54 rfl ?_
          refine Wp.if_ne (pc := 57) 87 dX12_expression_57 (by decide) (fun hc13 => ?_) (fun hc13 => ?_)
          · rw [if_neg hc13] at hf
            refine Wp.lo' (lo' := [(0, .ref x0), (1, .int x1)]) [0, 1] rfl ?_
            exact w_X12_expression_87 hX hx0 hf hk
          · rw [if_pos hc13] at hf
            refine Wp.aload_n (pc := 60) 0 rfl rfl dX12_expression_60 ?_
            refine Wp.bipush (pc := 61) (9 : Int32) (by decide) dX12_expression_61 ?_
            obtain ⟨c14, h15, hf⟩ := bnd hf
            refine Wp.callVi (pc := 63) (st := []) (as := [.int (9 : Int32)]) (c_X12_is hx0 h15) ml_RX12_272 mv_X12_is mb_X12_is hX (Nat.le_of_ble_eq_true rfl) (by decide) rfl hx0 rfl (by simp) dX12_expression_63 rfl ?_
            refine Wp.if_ne (pc := 66) 87 dX12_expression_66 (by decide) (fun hc16 => ?_) (fun hc16 => ?_)
            · rw [if_neg hc16] at hf
              refine Wp.lo' (lo' := [(0, .ref x0), (1, .int x1)]) [0, 1] rfl ?_
              exact w_X12_expression_87 hX hx0 hf hk
            · rw [if_pos hc16] at hf
              refine Wp.aload_n (pc := 69) 0 rfl rfl dX12_expression_69 ?_
              refine Wp.bipush (pc := 70) (10 : Int32) (by decide) dX12_expression_70 ?_
              obtain ⟨c17, h18, hf⟩ := bnd hf
              refine Wp.callVi (pc := 72) (st := []) (as := [.int (10 : Int32)]) (c_X12_is hx0 h18) ml_RX12_272 mv_X12_is mb_X12_is hX (Nat.le_of_ble_eq_true rfl) (by decide) rfl hx0 rfl (by simp) dX12_expression_72 rfl ?_
              refine Wp.if_ne (pc := 75) 87 dX12_expression_75 (by decide) (fun hc19 => ?_) (fun hc19 => ?_)
              · rw [if_neg hc19] at hf
                refine Wp.lo' (lo' := [(0, .ref x0), (1, .int x1)]) [0, 1] rfl ?_
                exact w_X12_expression_87 hX hx0 hf hk
              · rw [if_pos hc19] at hf
                refine Wp.aload_n (pc := 78) 0 rfl rfl dX12_expression_78 ?_
                refine Wp.bipush (pc := 79) (15 : Int32) (by decide) dX12_expression_79 ?_
                obtain ⟨c20, h21, hf⟩ := bnd hf
                refine Wp.callVi (pc := 81) (st := []) (as := [.int (15 : Int32)]) (c_X12_is hx0 h21) ml_RX12_272 mv_X12_is mb_X12_is hX (Nat.le_of_ble_eq_true rfl) (by decide) rfl hx0 rfl (by simp) dX12_expression_81 rfl ?_
                refine Wp.if_eq (pc := 84) 91 dX12_expression_84 (by decide) (fun hc22 => ?_) (fun hc22 => ?_)
                · rw [if_pos hc22] at hf
                  refine Wp.iconst (pc := 91) (0 : Int32) (by decide) dX12_expression_91 ?_
                  refine Wp.lo' (lo' := [(0, .ref x0), (1, .int x1)]) [0, 1] rfl ?_
                  exact w_X12_expression_92 hX hx0 hf hk
                · rw [if_neg hc22] at hf
                  refine Wp.lo' (lo' := [(0, .ref x0), (1, .int x1)]) [0, 1] rfl ?_
                  exact w_X12_expression_87 hX hx0 hf hk
        · rw [if_neg hc10] at hf
          refine Wp.goto (pc := 48) 12 dX12_expression_48 (by decide) ?_
          refine Wp.lo' (lo' := [(0, .ref x0), (1, .int x1), (2, .int x2)]) [0, 1, 2] rfl ?_
          cases hf
          exact hk
theorem wl_X12_expression_12 {X : CX} {T : List Dsc} {n1 n2 : Nat} {x0 : Nat} {x1 : Int32} {x2 : Int32} {μ : Mem} {e : ((Mem) ⊕ (Mem))} (hX : XR X 4 n1 n2) (hx0 : T[x0]? = some (.inl 11)) (h : loop (g_X12_expression_12 T x0 x1) (x2, μ) = some e) (he0 : ∀ e_, e = (Sum.inl e_) → Wp X cX12_expression RX12 4 T e_ n1 n2 97 [(0, .ref x0), (1, .int x1)] []) (he1 : ∀ e_, e = (Sum.inr e_) → Wp X cX12_expression RX12 4 T e_ n1 n2 163 [] []) : Wp X cX12_expression RX12 4 T μ n1 n2 12 [(0, .ref x0), (1, .int x1), (2, .int x2)] [] :=
  loop_ok (K := k_X12_expression_12 X T n1 n2 x0 x1) (fun s r hf hk => w_X12_expression_12 hX hx0 hf hk) h (by rcases e with e | e <;> first | exact he0 _ rfl | exact he1 _ rfl)
set_option maxHeartbeats 4000000 in
set_option maxRecDepth 100000 in
theorem w_X12_expression_110 {X : CX} {T : List Dsc} {n1 n2 : Nat} {x0 : Nat} {μ : Mem} {r : Mem} (hX : XR X 4 n1 n2) (hx0 : T[x0]? = some (.inl 11)) (hf : f_X12_expression_110 T x0 μ = some r) (hk : FnV X cX12_expression RX12 4 T n1 n2 r) : Wp X cX12_expression RX12 4 T μ n1 n2 110 [(0, .ref x0)] [] := by
  unfold f_X12_expression_110 at hf
  refine Wp.aload_n (pc := 110) 0 rfl rfl dX12_expression_110 ?_
  refine Wp.iconst (pc := 111) (0 : Int32) (by decide) dX12_expression_111 ?_
  obtain ⟨c1, h2, hf⟩ := bnd hf
  refine Wp.callVv (pc := 112) (st := []) (as := [.int (0 : Int32)]) (c_X12_comesOut hx0 h2) ml_RX12_384 mv_X12_comesOut mb_X12_comesOut hX (Nat.le_of_ble_eq_true rfl) (by decide) rfl hx0 rfl (by simp) dX12_expression_112 rfl ?_
  cases hf
  exact hk _ _ dX12_expression_115
set_option maxHeartbeats 4000000 in
set_option maxRecDepth 100000 in
theorem w_X12_expression_163 {X : CX} {T : List Dsc} {n1 n2 : Nat} {μ : Mem} {r : Mem} (hX : XR X 4 n1 n2) (hf : f_X12_expression_163 T μ = some r) (hk : FnV X cX12_expression RX12 4 T n1 n2 r) : Wp X cX12_expression RX12 4 T μ n1 n2 163 [] [] := by
  unfold f_X12_expression_163 at hf
  cases hf
  exact hk _ _ dX12_expression_163
set_option maxHeartbeats 4000000 in
set_option maxRecDepth 100000 in
theorem w_X12_expression {X : CX} {T : List Dsc} {n1 n2 : Nat} {x0 : Nat} {μ : Mem} {r : Mem} (hX : XR X 4 n1 n2) (hx0 : T[x0]? = some (.inl 11)) (hf : F_X12_expression T x0 μ = some r) (hk : FnV X cX12_expression RX12 4 T n1 n2 r) : Wp X cX12_expression RX12 4 T μ n1 n2 0 [(0, .ref x0)] [] := by
  unfold F_X12_expression at hf
  refine Wp.aload_n (pc := 0) 0 rfl rfl dX12_expression_0 ?_
  refine Wp.iconst (pc := 1) (0 : Int32) (by decide) dX12_expression_1 ?_
  obtain ⟨μ1, h2, hf⟩ := bnd hf
  refine Wp.ptI (pc := 2) h2 hx0 fk_RX12_363 ff_RX12_11_54 rfl dX12_expression_2 ?_
  refine Wp.aload_n (pc := 5) 0 rfl rfl dX12_expression_5 ?_
  refine Wp.getI (pc := 6) hx0 fk_RX12_281 rfl dX12_expression_6 ?_
  obtain ⟨v3, h4, hf⟩ := bnd hf
  refine Wp.nI' h4 ?_
  refine Wp.istore_n (pc := 9) (lo' := [(0, .ref x0), (1, .int v3)]) [1, 0] rfl (by decide) rfl dX12_expression_9 ?_
  refine Wp.iconst (pc := 10) (1 : Int32) (by decide) dX12_expression_10 ?_
  refine Wp.istore_n (pc := 11) (lo' := [(0, .ref x0), (1, .int v3), (2, .int (1 : Int32))]) [1, 2, 0] rfl (by decide) rfl dX12_expression_11 ?_
  obtain ⟨e5, h6, hf⟩ := bnd hf
  refine wl_X12_expression_12 hX hx0 h6 (fun e5_0 hq => ?_) (fun e5_1 hq => ?_)
  · rw [hq, Sum.elim_inl] at hf
    refine Wp.aload_n (pc := 97) 0 rfl rfl dX12_expression_97 ?_
    refine Wp.getI (pc := 98) hx0 fk_RX12_281 rfl dX12_expression_98 ?_
    refine Wp.iload_n (pc := 101) 1 rfl rfl dX12_expression_101 ?_
    refine Wp.icmp_le (pc := 102) 110 dX12_expression_102 (by decide) (fun hc7 => ?_) (fun hc7 => ?_)
    · rw [if_pos hc7] at hf
      refine Wp.lo' (lo' := [(0, .ref x0)]) [0] rfl ?_
      exact w_X12_expression_110 hX hx0 hf hk
    · rw [if_neg hc7] at hf
      refine Wp.aload_n (pc := 105) 0 rfl rfl dX12_expression_105 ?_
      refine Wp.iconst (pc := 106) (1 : Int32) (by decide) dX12_expression_106 ?_
      obtain ⟨c8, h9, hf⟩ := bnd hf
      refine Wp.callVv (pc := 107) (st := []) (as := [.int (1 : Int32)]) (c_X12_fail hx0 h9) ml_RX12_269 mv_X12_fail mb_X12_fail hX (Nat.le_of_ble_eq_true rfl) (by decide) rfl hx0 rfl (by simp) dX12_expression_107 rfl ?_
      refine Wp.lo' (lo' := [(0, .ref x0)]) [0] rfl ?_
      exact w_X12_expression_110 hX hx0 hf hk
  · rw [hq, Sum.elim_inr] at hf
    exact w_X12_expression_163 hX hf hk
theorem c_X12_expression {T : List Dsc} {x0 : Nat} {μ : Mem} {r : Mem} (hx0 : T[x0]? = some (.inl 11)) (hf : F_X12_expression T x0 μ = some r) : Ct 4 yX12_expression cX12_expression 4 none T μ [.ref x0] none r := Ct.ofV (by decide +kernel) (Nat.le_of_ble_eq_true rfl) (fun X hX hk => w_X12_expression hX hx0 hf hk)
theorem dX12_literal_0 : decode cX12_literal 0 = .ok (.iconst 0, 1) := by decide +kernel
theorem dX12_literal_1 : decode cX12_literal 1 = .ok (.istore_n 2, 1) := by decide +kernel
theorem dX12_literal_2 : decode cX12_literal 2 = .ok (.aload_n 0, 1) := by decide +kernel
theorem dX12_literal_3 : decode cX12_literal 3 = .ok (.bipush 31, 2) := by decide +kernel
theorem dX12_literal_5 : decode cX12_literal 5 = .ok (.invokevirtual 272, 3) := by decide +kernel
theorem dX12_literal_8 : decode cX12_literal 8 = .ok (.ifCond .eq 20, 3) := by decide +kernel
theorem dX12_literal_11 : decode cX12_literal 11 = .ok (.iload_n 2, 1) := by decide +kernel
theorem dX12_literal_12 : decode cX12_literal 12 = .ok (.ifCond .ne 7, 3) := by decide +kernel
theorem dX12_literal_15 : decode cX12_literal 15 = .ok (.iconst 1, 1) := by decide +kernel
theorem dX12_literal_16 : decode cX12_literal 16 = .ok (.goto 4, 3) := by decide +kernel
theorem dX12_literal_19 : decode cX12_literal 19 = .ok (.iconst 0, 1) := by decide +kernel
theorem dX12_literal_20 : decode cX12_literal 20 = .ok (.istore_n 2, 1) := by decide +kernel
theorem dX12_literal_21 : decode cX12_literal 21 = .ok (.aload_n 0, 1) := by decide +kernel
theorem dX12_literal_22 : decode cX12_literal 22 = .ok (.invokevirtual 275, 3) := by decide +kernel
theorem dX12_literal_25 : decode cX12_literal 25 = .ok (.goto (-23), 3) := by decide +kernel
theorem dX12_literal_28 : decode cX12_literal 28 = .ok (.aload_n 0, 1) := by decide +kernel
theorem dX12_literal_29 : decode cX12_literal 29 = .ok (.getfield 299, 3) := by decide +kernel
theorem dX12_literal_32 : decode cX12_literal 32 = .ok (.istore_n 3, 1) := by decide +kernel
theorem dX12_literal_33 : decode cX12_literal 33 = .ok (.aload_n 0, 1) := by decide +kernel
theorem dX12_literal_34 : decode cX12_literal 34 = .ok (.invokevirtual 356, 3) := by decide +kernel
theorem dX12_literal_37 : decode cX12_literal 37 = .ok (.aload_n 0, 1) := by decide +kernel
theorem dX12_literal_38 : decode cX12_literal 38 = .ok (.getfield 254, 3) := by decide +kernel
theorem dX12_literal_41 : decode cX12_literal 41 = .ok (.ifCond .gt 31, 3) := by decide +kernel
theorem dX12_literal_44 : decode cX12_literal 44 = .ok (.aload_n 0, 1) := by decide +kernel
theorem dX12_literal_45 : decode cX12_literal 45 = .ok (.getfield 20, 3) := by decide +kernel
theorem dX12_literal_48 : decode cX12_literal 48 = .ok (.aload_n 0, 1) := by decide +kernel
theorem dX12_literal_49 : decode cX12_literal 49 = .ok (.getfield 257, 3) := by decide +kernel
theorem dX12_literal_52 : decode cX12_literal 52 = .ok (.iaload, 1) := by decide +kernel
theorem dX12_literal_53 : decode cX12_literal 53 = .ok (.bipush 11, 2) := by decide +kernel
theorem dX12_literal_55 : decode cX12_literal 55 = .ok (.if_icmp .lt 17, 3) := by decide +kernel
theorem dX12_literal_58 : decode cX12_literal 58 = .ok (.aload_n 0, 1) := by decide +kernel
theorem dX12_literal_59 : decode cX12_literal 59 = .ok (.getfield 20, 3) := by decide +kernel
theorem dX12_literal_62 : decode cX12_literal 62 = .ok (.aload_n 0, 1) := by decide +kernel
theorem dX12_literal_63 : decode cX12_literal 63 = .ok (.getfield 257, 3) := by decide +kernel
theorem dX12_literal_66 : decode cX12_literal 66 = .ok (.iaload, 1) := by decide +kernel
theorem dX12_literal_67 : decode cX12_literal 67 = .ok (.bipush 14, 2) := by decide +kernel
theorem dX12_literal_69 : decode cX12_literal 69 = .ok (.if_icmp .le 7, 3) := by decide +kernel
theorem dX12_literal_72 : decode cX12_literal 72 = .ok (.iconst (-1), 1) := by decide +kernel
theorem dX12_literal_73 : decode cX12_literal 73 = .ok (.goto 15, 3) := by decide +kernel
theorem dX12_literal_76 : decode cX12_literal 76 = .ok (.aload_n 0, 1) := by decide +kernel
theorem dX12_literal_77 : decode cX12_literal 77 = .ok (.getfield 20, 3) := by decide +kernel
theorem dX12_literal_80 : decode cX12_literal 80 = .ok (.aload_n 0, 1) := by decide +kernel
theorem dX12_literal_81 : decode cX12_literal 81 = .ok (.getfield 257, 3) := by decide +kernel
theorem dX12_literal_84 : decode cX12_literal 84 = .ok (.iaload, 1) := by decide +kernel
theorem dX12_literal_85 : decode cX12_literal 85 = .ok (.bipush 11, 2) := by decide +kernel
theorem dX12_literal_87 : decode cX12_literal 87 = .ok (.isub, 1) := by decide +kernel
theorem dX12_literal_88 : decode cX12_literal 88 = .ok (.istore 4, 2) := by decide +kernel
theorem dX12_literal_90 : decode cX12_literal 90 = .ok (.iload 4, 2) := by decide +kernel
theorem dX12_literal_92 : decode cX12_literal 92 = .ok (.ifCond .ge 8, 3) := by decide +kernel
theorem dX12_literal_95 : decode cX12_literal 95 = .ok (.aload_n 0, 1) := by decide +kernel
theorem dX12_literal_96 : decode cX12_literal 96 = .ok (.iconst 1, 1) := by decide +kernel
theorem dX12_literal_97 : decode cX12_literal 97 = .ok (.invokevirtual 269, 3) := by decide +kernel
theorem dX12_literal_100 : decode cX12_literal 100 = .ok (.aload_n 0, 1) := by decide +kernel
theorem dX12_literal_101 : decode cX12_literal 101 = .ok (.getfield 254, 3) := by decide +kernel
theorem dX12_literal_104 : decode cX12_literal 104 = .ok (.ifCond .le 4, 3) := by decide +kernel
theorem dX12_literal_107 : decode cX12_literal 107 = .ok (.return_, 1) := by decide +kernel
theorem dX12_literal_108 : decode cX12_literal 108 = .ok (.aload_n 0, 1) := by decide +kernel
theorem dX12_literal_109 : decode cX12_literal 109 = .ok (.invokevirtual 275, 3) := by decide +kernel
theorem dX12_literal_112 : decode cX12_literal 112 = .ok (.aload_n 0, 1) := by decide +kernel
theorem dX12_literal_113 : decode cX12_literal 113 = .ok (.getfield 299, 3) := by decide +kernel
theorem dX12_literal_116 : decode cX12_literal 116 = .ok (.istore 5, 2) := by decide +kernel
theorem dX12_literal_118 : decode cX12_literal 118 = .ok (.aload_n 0, 1) := by decide +kernel
theorem dX12_literal_119 : decode cX12_literal 119 = .ok (.invokevirtual 356, 3) := by decide +kernel
theorem dX12_literal_122 : decode cX12_literal 122 = .ok (.aload_n 0, 1) := by decide +kernel
theorem dX12_literal_123 : decode cX12_literal 123 = .ok (.getfield 254, 3) := by decide +kernel
theorem dX12_literal_126 : decode cX12_literal 126 = .ok (.ifCond .le 4, 3) := by decide +kernel
theorem dX12_literal_129 : decode cX12_literal 129 = .ok (.return_, 1) := by decide +kernel
theorem dX12_literal_130 : decode cX12_literal 130 = .ok (.aload_n 0, 1) := by decide +kernel
theorem dX12_literal_131 : decode cX12_literal 131 = .ok (.getfield 97, 3) := by decide +kernel
theorem dX12_literal_134 : decode cX12_literal 134 = .ok (.aload_n 0, 1) := by decide +kernel
theorem dX12_literal_135 : decode cX12_literal 135 = .ok (.getfield 296, 3) := by decide +kernel
theorem dX12_literal_138 : decode cX12_literal 138 = .ok (.iload 4, 2) := by decide +kernel
theorem dX12_literal_140 : decode cX12_literal 140 = .ok (.iastore, 1) := by decide +kernel
theorem dX12_literal_141 : decode cX12_literal 141 = .ok (.aload_n 0, 1) := by decide +kernel
theorem dX12_literal_142 : decode cX12_literal 142 = .ok (.getfield 100, 3) := by decide +kernel
theorem dX12_literal_145 : decode cX12_literal 145 = .ok (.aload_n 0, 1) := by decide +kernel
theorem dX12_literal_146 : decode cX12_literal 146 = .ok (.getfield 296, 3) := by decide +kernel
theorem dX12_literal_149 : decode cX12_literal 149 = .ok (.iload_n 2, 1) := by decide +kernel
theorem dX12_literal_150 : decode cX12_literal 150 = .ok (.bastore, 1) := by decide +kernel
theorem dX12_literal_151 : decode cX12_literal 151 = .ok (.aload_n 0, 1) := by decide +kernel
theorem dX12_literal_152 : decode cX12_literal 152 = .ok (.getfield 104, 3) := by decide +kernel
theorem dX12_literal_155 : decode cX12_literal 155 = .ok (.aload_n 0, 1) := by decide +kernel
theorem dX12_literal_156 : decode cX12_literal 156 = .ok (.getfield 296, 3) := by decide +kernel
theorem dX12_literal_159 : decode cX12_literal 159 = .ok (.iload_n 1, 1) := by decide +kernel
theorem dX12_literal_160 : decode cX12_literal 160 = .ok (.bastore, 1) := by decide +kernel
theorem dX12_literal_161 : decode cX12_literal 161 = .ok (.aload_n 0, 1) := by decide +kernel
theorem dX12_literal_162 : decode cX12_literal 162 = .ok (.getfield 107, 3) := by decide +kernel
theorem dX12_literal_165 : decode cX12_literal 165 = .ok (.aload_n 0, 1) := by decide +kernel
theorem dX12_literal_166 : decode cX12_literal 166 = .ok (.getfield 296, 3) := by decide +kernel
theorem dX12_literal_169 : decode cX12_literal 169 = .ok (.iload_n 3, 1) := by decide +kernel
theorem dX12_literal_170 : decode cX12_literal 170 = .ok (.iastore, 1) := by decide +kernel
theorem dX12_literal_171 : decode cX12_literal 171 = .ok (.aload_n 0, 1) := by decide +kernel
theorem dX12_literal_172 : decode cX12_literal 172 = .ok (.getfield 110, 3) := by decide +kernel
theorem dX12_literal_175 : decode cX12_literal 175 = .ok (.aload_n 0, 1) := by decide +kernel
theorem dX12_literal_176 : decode cX12_literal 176 = .ok (.getfield 296, 3) := by decide +kernel
theorem dX12_literal_179 : decode cX12_literal 179 = .ok (.iload 5, 2) := by decide +kernel
theorem dX12_literal_181 : decode cX12_literal 181 = .ok (.iastore, 1) := by decide +kernel
theorem dX12_literal_182 : decode cX12_literal 182 = .ok (.aload_n 0, 1) := by decide +kernel
theorem dX12_literal_183 : decode cX12_literal 183 = .ok (.getfield 113, 3) := by decide +kernel
theorem dX12_literal_186 : decode cX12_literal 186 = .ok (.aload_n 0, 1) := by decide +kernel
theorem dX12_literal_187 : decode cX12_literal 187 = .ok (.getfield 296, 3) := by decide +kernel
theorem dX12_literal_190 : decode cX12_literal 190 = .ok (.aload_n 0, 1) := by decide +kernel
theorem dX12_literal_191 : decode cX12_literal 191 = .ok (.getfield 299, 3) := by decide +kernel
theorem dX12_literal_194 : decode cX12_literal 194 = .ok (.iastore, 1) := by decide +kernel
theorem dX12_literal_195 : decode cX12_literal 195 = .ok (.aload_n 0, 1) := by decide +kernel
theorem dX12_literal_196 : decode cX12_literal 196 = .ok (.dup, 1) := by decide +kernel
theorem dX12_literal_197 : decode cX12_literal 197 = .ok (.getfield 296, 3) := by decide +kernel
theorem dX12_literal_200 : decode cX12_literal 200 = .ok (.iconst 1, 1) := by decide +kernel
theorem dX12_literal_201 : decode cX12_literal 201 = .ok (.iadd, 1) := by decide +kernel
theorem dX12_literal_202 : decode cX12_literal 202 = .ok (.putfield 296, 3) := by decide +kernel
theorem dX12_literal_205 : decode cX12_literal 205 = .ok (.return_, 1) := by decide +kernel
def k_X12_literal_2 (X : CX) (T : List Dsc) (n1 n2 : Nat) (x0 : Nat) (x1 : Int32) (r : ((Int32 × Mem) ⊕ ((Int32 × Mem)))) : Prop := match r with
  | .inl s => Wp X cX12_literal RX12 6 T s.2 n1 n2 2 [(0, .ref x0), (1, .int x1), (2, .int s.1)] []
  | .inr e => Wp X cX12_literal RX12 6 T e.2 n1 n2 28 [(0, .ref x0), (1, .int x1), (2, .int e.1)] []
set_option maxHeartbeats 4000000 in
set_option maxRecDepth 100000 in
theorem w_X12_literal_20 {X : CX} {T : List Dsc} {n1 n2 : Nat} {x0 : Nat} {x1 : Int32} {s0 : Int32} {μ : Mem} {r : ((Int32 × Mem) ⊕ ((Int32 × Mem)))} (hX : XR X 5 n1 n2) (hx0 : T[x0]? = some (.inl 11)) (hf : f_X12_literal_20 T x0 x1 s0 μ = some r) (hk : k_X12_literal_2 X T n1 n2 x0 x1 r) : Wp X cX12_literal RX12 6 T μ n1 n2 20 [(0, .ref x0), (1, .int x1)] [.int s0] := by
  unfold f_X12_literal_20 at hf
  refine Wp.istore_n (pc := 20) (lo' := [(0, .ref x0), (1, .int x1), (2, .int s0)]) [1, 2, 0] rfl (by decide) rfl dX12_literal_20 ?_
  refine Wp.aload_n (pc := 21) 0 rfl rfl dX12_literal_21 ?_
  obtain ⟨c1, h2, hf⟩ := bnd hf
  refine Wp.callVv (pc := 22) (st := []) (as := []) (c_X12_goesOn hx0 h2) ml_RX12_275 mv_X12_goesOn mb_X12_goesOn hX (Nat.le_of_ble_eq_true rfl) (by decide) rfl hx0 rfl (by simp) dX12_literal_22 rfl ?_
  refine Wp.goto (pc := 25) 2 dX12_literal_25 (by decide) ?_
  cases hf
  exact hk
set_option maxHeartbeats 4000000 in
set_option maxRecDepth 100000 in
theorem w_X12_literal_2 {X : CX} {T : List Dsc} {n1 n2 : Nat} {x0 : Nat} {x1 : Int32} {x2 : Int32} {μ : Mem} {r : ((Int32 × Mem) ⊕ ((Int32 × Mem)))} (hX : XR X 5 n1 n2) (hx0 : T[x0]? = some (.inl 11)) (hf : f_X12_literal_2 T x0 x1 x2 μ = some r) (hk : k_X12_literal_2 X T n1 n2 x0 x1 r) : Wp X cX12_literal RX12 6 T μ n1 n2 2 [(0, .ref x0), (1, .int x1), (2, .int x2)] [] := by
  unfold f_X12_literal_2 at hf
  refine Wp.aload_n (pc := 2) 0 rfl rfl dX12_literal_2 ?_
  refine Wp.bipush (pc := 3) (31 : Int32) (by decide) dX12_literal_3 ?_
  obtain ⟨c1, h2, hf⟩ := bnd hf
  refine Wp.callVi (pc := 5) (st := []) (as := [.int (31 : Int32)]) (c_X12_is hx0 h2) ml_RX12_272 mv_X12_is mb_X12_is hX (Nat.le_of_ble_eq_true rfl) (by decide) rfl hx0 rfl (by simp) dX12_literal_5 rfl ?_
  refine Wp.if_eq (pc := 8) 28 dX12_literal_8 (by decide) (fun hc3 => ?_) (fun hc3 => ?_)
  · rw [if_pos hc3] at hf
    cases hf
    exact hk
  · rw [if_neg hc3] at hf
    refine Wp.iload_n (pc := 11) 2 rfl rfl dX12_literal_11 ?_
    refine Wp.if_ne (pc := 12) 19 dX12_literal_12 (by decide) (fun hc4 => ?_) (fun hc4 => ?_)
    · rw [if_neg hc4] at hf
      refine Wp.iconst (pc := 19) (0 : Int32) (by decide) dX12_literal_19 ?_
      refine Wp.lo' (lo' := [(0, .ref x0), (1, .int x1)]) [0, 1] rfl ?_
      exact w_X12_literal_20 hX hx0 hf hk
    · rw [if_pos hc4] at hf
      refine Wp.iconst (pc := 15) (1 : Int32) (by decide) dX12_literal_15 ?_
      refine Wp.goto (pc := 16) 20 dX12_literal_16 (by decide) ?_
      refine Wp.lo' (lo' := [(0, .ref x0), (1, .int x1)]) [0, 1] rfl ?_
      exact w_X12_literal_20 hX hx0 hf hk
theorem wl_X12_literal_2 {X : CX} {T : List Dsc} {n1 n2 : Nat} {x0 : Nat} {x1 : Int32} {x2 : Int32} {μ : Mem} {e : ((Int32 × Mem))} (hX : XR X 5 n1 n2) (hx0 : T[x0]? = some (.inl 11)) (h : loop (g_X12_literal_2 T x0 x1) (x2, μ) = some e) (he : Wp X cX12_literal RX12 6 T e.2 n1 n2 28 [(0, .ref x0), (1, .int x1), (2, .int e.1)] []) : Wp X cX12_literal RX12 6 T μ n1 n2 2 [(0, .ref x0), (1, .int x1), (2, .int x2)] [] :=
  loop_ok (K := k_X12_literal_2 X T n1 n2 x0 x1) (fun s r hf hk => w_X12_literal_2 hX hx0 hf hk) h he
set_option maxHeartbeats 4000000 in
set_option maxRecDepth 100000 in
theorem w_X12_literal_100 {X : CX} {T : List Dsc} {n1 n2 : Nat} {x0 : Nat} {x1 : Int32} {x2 : Int32} {x3 : Int32} {x4 : Int32} {μ : Mem} {r : Mem} (hX : XR X 5 n1 n2) (hx0 : T[x0]? = some (.inl 11)) (hf : f_X12_literal_100 T x0 x1 x2 x3 x4 μ = some r) (hk : FnV X cX12_literal RX12 6 T n1 n2 r) : Wp X cX12_literal RX12 6 T μ n1 n2 100 [(0, .ref x0), (1, .int x1), (2, .int x2), (3, .int x3), (4, .int x4)] [] := by
  unfold f_X12_literal_100 at hf
  refine Wp.aload_n (pc := 100) 0 rfl rfl dX12_literal_100 ?_
  refine Wp.getI (pc := 101) hx0 fk_RX12_254 rfl dX12_literal_101 ?_
  refine Wp.if_le (pc := 104) 108 dX12_literal_104 (by decide) (fun hc1 => ?_) (fun hc1 => ?_)
  · rw [if_pos hc1] at hf
    refine Wp.aload_n (pc := 108) 0 rfl rfl dX12_literal_108 ?_
    obtain ⟨c2, h3, hf⟩ := bnd hf
    refine Wp.callVv (pc := 109) (st := []) (as := []) (c_X12_goesOn hx0 h3) ml_RX12_275 mv_X12_goesOn mb_X12_goesOn hX (Nat.le_of_ble_eq_true rfl) (by decide) rfl hx0 rfl (by simp) dX12_literal_109 rfl ?_
    refine Wp.aload_n (pc := 112) 0 rfl rfl dX12_literal_112 ?_
    refine Wp.getI (pc := 113) hx0 fk_RX12_299 rfl dX12_literal_113 ?_
    obtain ⟨v4, h5, hf⟩ := bnd hf
    refine Wp.nI' h5 ?_
    refine Wp.istore (pc := 116) (lo' := [(0, .ref x0), (1, .int x1), (2, .int x2), (3, .int x3), (4, .int x4), (5, .int v4)]) [1, 2, 3, 4, 5, 0] rfl (by decide) dX12_literal_116 ?_
    refine Wp.aload_n (pc := 118) 0 rfl rfl dX12_literal_118 ?_
    obtain ⟨c6, h7, hf⟩ := bnd hf
    refine Wp.callVv (pc := 119) (st := []) (as := []) (c_X12_expression hx0 h7) ml_RX12_356 mv_X12_expression mb_X12_expression hX (Nat.le_of_ble_eq_true rfl) (by decide) rfl hx0 rfl (by simp) dX12_literal_119 rfl ?_
    refine Wp.aload_n (pc := 122) 0 rfl rfl dX12_literal_122 ?_
    refine Wp.getI (pc := 123) hx0 fk_RX12_254 rfl dX12_literal_123 ?_
    refine Wp.if_le (pc := 126) 130 dX12_literal_126 (by decide) (fun hc8 => ?_) (fun hc8 => ?_)
    · rw [if_pos hc8] at hf
      refine Wp.aload_n (pc := 130) 0 rfl rfl dX12_literal_130 ?_
      obtain ⟨a9, h10, hf⟩ := bnd hf
      refine Wp.getR (pc := 131) (gA_R h10) hx0 fk_RX12_97 rfl dX12_literal_131 ?_
      refine Wp.aload_n (pc := 134) 0 rfl rfl dX12_literal_134 ?_
      refine Wp.getI (pc := 135) hx0 fk_RX12_296 rfl dX12_literal_135 ?_
      refine Wp.iload (pc := 138) 4 rfl dX12_literal_138 ?_
      obtain ⟨μ11, h12, hf⟩ := bnd hf
      refine Wp.iast (pc := 140) h12 (gA_T h10) dX12_literal_140 ?_
      refine Wp.aload_n (pc := 141) 0 rfl rfl dX12_literal_141 ?_
      obtain ⟨a13, h14, hf⟩ := bnd hf
      refine Wp.getR (pc := 142) (gA_R h14) hx0 fk_RX12_100 rfl dX12_literal_142 ?_
      refine Wp.aload_n (pc := 145) 0 rfl rfl dX12_literal_145 ?_
      refine Wp.getI (pc := 146) hx0 fk_RX12_296 rfl dX12_literal_146 ?_
      refine Wp.iload_n (pc := 149) 2 rfl rfl dX12_literal_149 ?_
      obtain ⟨v17, h18, hf⟩ := bnd hf
      refine Wp.zb' h18 (fun h18 => ?_)
      obtain ⟨μ15, h16, hf⟩ := bnd hf
      refine Wp.zast (pc := 150) h18 h16 (gA_T h14) dX12_literal_150 ?_
      refine Wp.aload_n (pc := 151) 0 rfl rfl dX12_literal_151 ?_
      obtain ⟨a19, h20, hf⟩ := bnd hf
      refine Wp.getR (pc := 152) (gA_R h20) hx0 fk_RX12_104 rfl dX12_literal_152 ?_
      refine Wp.aload_n (pc := 155) 0 rfl rfl dX12_literal_155 ?_
      refine Wp.getI (pc := 156) hx0 fk_RX12_296 rfl dX12_literal_156 ?_
      refine Wp.iload_n (pc := 159) 1 rfl rfl dX12_literal_159 ?_
      obtain ⟨v23, h24, hf⟩ := bnd hf
      refine Wp.zb' h24 (fun h24 => ?_)
      obtain ⟨μ21, h22, hf⟩ := bnd hf
      refine Wp.zast (pc := 160) h24 h22 (gA_T h20) dX12_literal_160 ?_
      refine Wp.aload_n (pc := 161) 0 rfl rfl dX12_literal_161 ?_
      obtain ⟨a25, h26, hf⟩ := bnd hf
      refine Wp.getR (pc := 162) (gA_R h26) hx0 fk_RX12_107 rfl dX12_literal_162 ?_
      refine Wp.aload_n (pc := 165) 0 rfl rfl dX12_literal_165 ?_
      refine Wp.getI (pc := 166) hx0 fk_RX12_296 rfl dX12_literal_166 ?_
      refine Wp.iload_n (pc := 169) 3 rfl rfl dX12_literal_169 ?_
      obtain ⟨μ27, h28, hf⟩ := bnd hf
      refine Wp.iast (pc := 170) h28 (gA_T h26) dX12_literal_170 ?_
      refine Wp.aload_n (pc := 171) 0 rfl rfl dX12_literal_171 ?_
      obtain ⟨a29, h30, hf⟩ := bnd hf
      refine Wp.getR (pc := 172) (gA_R h30) hx0 fk_RX12_110 rfl dX12_literal_172 ?_
      refine Wp.aload_n (pc := 175) 0 rfl rfl dX12_literal_175 ?_
      refine Wp.getI (pc := 176) hx0 fk_RX12_296 rfl dX12_literal_176 ?_
      refine Wp.iload (pc := 179) 5 rfl dX12_literal_179 ?_
      obtain ⟨μ31, h32, hf⟩ := bnd hf
      refine Wp.iast (pc := 181) h32 (gA_T h30) dX12_literal_181 ?_
      refine Wp.aload_n (pc := 182) 0 rfl rfl dX12_literal_182 ?_
      obtain ⟨a33, h34, hf⟩ := bnd hf
      refine Wp.getR (pc := 183) (gA_R h34) hx0 fk_RX12_113 rfl dX12_literal_183 ?_
      refine Wp.aload_n (pc := 186) 0 rfl rfl dX12_literal_186 ?_
      refine Wp.getI (pc := 187) hx0 fk_RX12_296 rfl dX12_literal_187 ?_
      refine Wp.aload_n (pc := 190) 0 rfl rfl dX12_literal_190 ?_
      refine Wp.getI (pc := 191) hx0 fk_RX12_299 rfl dX12_literal_191 ?_
      obtain ⟨μ35, h36, hf⟩ := bnd hf
      refine Wp.iast (pc := 194) h36 (gA_T h34) dX12_literal_194 ?_
      refine Wp.aload_n (pc := 195) 0 rfl rfl dX12_literal_195 ?_
      refine Wp.dup (pc := 196) rfl dX12_literal_196 ?_
      refine Wp.getI (pc := 197) hx0 fk_RX12_296 rfl dX12_literal_197 ?_
      refine Wp.iconst (pc := 200) (1 : Int32) (by decide) dX12_literal_200 ?_
      refine Wp.iadd (pc := 201) dX12_literal_201 ?_
      obtain ⟨μ37, h38, hf⟩ := bnd hf
      refine Wp.ptI (pc := 202) h38 hx0 fk_RX12_296 ff_RX12_11_41 rfl dX12_literal_202 ?_
      cases hf
      exact hk _ _ dX12_literal_205
    · rw [if_neg hc8] at hf
      cases hf
      exact hk _ _ dX12_literal_129
  · rw [if_neg hc1] at hf
    cases hf
    exact hk _ _ dX12_literal_107
set_option maxHeartbeats 4000000 in
set_option maxRecDepth 100000 in
theorem w_X12_literal_88 {X : CX} {T : List Dsc} {n1 n2 : Nat} {x0 : Nat} {x1 : Int32} {x2 : Int32} {x3 : Int32} {s0 : Int32} {μ : Mem} {r : Mem} (hX : XR X 5 n1 n2) (hx0 : T[x0]? = some (.inl 11)) (hf : f_X12_literal_88 T x0 x1 x2 x3 s0 μ = some r) (hk : FnV X cX12_literal RX12 6 T n1 n2 r) : Wp X cX12_literal RX12 6 T μ n1 n2 88 [(0, .ref x0), (1, .int x1), (2, .int x2), (3, .int x3)] [.int s0] := by
  unfold f_X12_literal_88 at hf
  refine Wp.istore (pc := 88) (lo' := [(0, .ref x0), (1, .int x1), (2, .int x2), (3, .int x3), (4, .int s0)]) [1, 2, 3, 4, 0] rfl (by decide) dX12_literal_88 ?_
  refine Wp.iload (pc := 90) 4 rfl dX12_literal_90 ?_
  refine Wp.if_ge (pc := 92) 100 dX12_literal_92 (by decide) (fun hc1 => ?_) (fun hc1 => ?_)
  · rw [if_pos hc1] at hf
    exact w_X12_literal_100 hX hx0 hf hk
  · rw [if_neg hc1] at hf
    refine Wp.aload_n (pc := 95) 0 rfl rfl dX12_literal_95 ?_
    refine Wp.iconst (pc := 96) (1 : Int32) (by decide) dX12_literal_96 ?_
    obtain ⟨c2, h3, hf⟩ := bnd hf
    refine Wp.callVv (pc := 97) (st := []) (as := [.int (1 : Int32)]) (c_X12_fail hx0 h3) ml_RX12_269 mv_X12_fail mb_X12_fail hX (Nat.le_of_ble_eq_true rfl) (by decide) rfl hx0 rfl (by simp) dX12_literal_97 rfl ?_
    exact w_X12_literal_100 hX hx0 hf hk
set_option maxHeartbeats 4000000 in
set_option maxRecDepth 100000 in
theorem w_X12_literal_72 {X : CX} {T : List Dsc} {n1 n2 : Nat} {x0 : Nat} {x1 : Int32} {x2 : Int32} {x3 : Int32} {μ : Mem} {r : Mem} (hX : XR X 5 n1 n2) (hx0 : T[x0]? = some (.inl 11)) (hf : f_X12_literal_72 T x0 x1 x2 x3 μ = some r) (hk : FnV X cX12_literal RX12 6 T n1 n2 r) : Wp X cX12_literal RX12 6 T μ n1 n2 72 [(0, .ref x0), (1, .int x1), (2, .int x2), (3, .int x3)] [] := by
  unfold f_X12_literal_72 at hf
  refine Wp.iconst (pc := 72) (-1 : Int32) (by decide) dX12_literal_72 ?_
  refine Wp.goto (pc := 73) 88 dX12_literal_73 (by decide) ?_
  exact w_X12_literal_88 hX hx0 hf hk
set_option maxHeartbeats 4000000 in
set_option maxRecDepth 100000 in
theorem w_X12_literal {X : CX} {T : List Dsc} {n1 n2 : Nat} {x0 : Nat} {x1 : Int32} {μ : Mem} {r : Mem} (hX : XR X 5 n1 n2) (hx0 : T[x0]? = some (.inl 11)) (hf : F_X12_literal T x0 x1 μ = some r) (hk : FnV X cX12_literal RX12 6 T n1 n2 r) : Wp X cX12_literal RX12 6 T μ n1 n2 0 [(0, .ref x0), (1, .int x1)] [] := by
  unfold F_X12_literal at hf
  refine Wp.iconst (pc := 0) (0 : Int32) (by decide) dX12_literal_0 ?_
  refine Wp.istore_n (pc := 1) (lo' := [(0, .ref x0), (1, .int x1), (2, .int (0 : Int32))]) [1, 2, 0] rfl (by decide) rfl dX12_literal_1 ?_
  obtain ⟨e1, h2, hf⟩ := bnd hf
  refine wl_X12_literal_2 hX hx0 h2 ?_
  refine Wp.aload_n (pc := 28) 0 rfl rfl dX12_literal_28 ?_
  refine Wp.getI (pc := 29) hx0 fk_RX12_299 rfl dX12_literal_29 ?_
  obtain ⟨v3, h4, hf⟩ := bnd hf
  refine Wp.nI' h4 ?_
  refine Wp.istore_n (pc := 32) (lo' := [(0, .ref x0), (1, .int x1), (2, .int e1.1), (3, .int v3)]) [1, 2, 3, 0] rfl (by decide) rfl dX12_literal_32 ?_
  refine Wp.aload_n (pc := 33) 0 rfl rfl dX12_literal_33 ?_
  obtain ⟨c5, h6, hf⟩ := bnd hf
  refine Wp.callVv (pc := 34) (st := []) (as := []) (c_X12_expression hx0 h6) ml_RX12_356 mv_X12_expression mb_X12_expression hX (Nat.le_of_ble_eq_true rfl) (by decide) rfl hx0 rfl (by simp) dX12_literal_34 rfl ?_
  refine Wp.aload_n (pc := 37) 0 rfl rfl dX12_literal_37 ?_
  refine Wp.getI (pc := 38) hx0 fk_RX12_254 rfl dX12_literal_38 ?_
  refine Wp.if_gt (pc := 41) 72 dX12_literal_41 (by decide) (fun hc7 => ?_) (fun hc7 => ?_)
  · rw [if_pos hc7] at hf
    exact w_X12_literal_72 hX hx0 hf hk
  · rw [if_neg hc7] at hf
    refine Wp.aload_n (pc := 44) 0 rfl rfl dX12_literal_44 ?_
    obtain ⟨a8, h9, hf⟩ := bnd hf
    refine Wp.getR (pc := 45) (gA_R h9) hx0 fk_RX12_20 rfl dX12_literal_45 ?_
    refine Wp.aload_n (pc := 48) 0 rfl rfl dX12_literal_48 ?_
    refine Wp.getI (pc := 49) hx0 fk_RX12_257 rfl dX12_literal_49 ?_
    obtain ⟨v10, h11, hf⟩ := bnd hf
    refine Wp.iald (pc := 52) h11 (gA_T h9) dX12_literal_52 ?_
    refine Wp.bipush (pc := 53) (11 : Int32) (by decide) dX12_literal_53 ?_
    refine Wp.icmp_lt (pc := 55) 72 dX12_literal_55 (by decide) (fun hc12 => ?_) (fun hc12 => ?_)
    · rw [if_pos hc12] at hf
      exact w_X12_literal_72 hX hx0 hf hk
    · rw [if_neg hc12] at hf
      refine Wp.aload_n (pc := 58) 0 rfl rfl dX12_literal_58 ?_
      obtain ⟨a13, h14, hf⟩ := bnd hf
      refine Wp.getR (pc := 59) (gA_R h14) hx0 fk_RX12_20 rfl dX12_literal_59 ?_
      refine Wp.aload_n (pc := 62) 0 rfl rfl dX12_literal_62 ?_
      refine Wp.getI (pc := 63) hx0 fk_RX12_257 rfl dX12_literal_63 ?_
      obtain ⟨v15, h16, hf⟩ := bnd hf
      refine Wp.iald (pc := 66) h16 (gA_T h14) dX12_literal_66 ?_
      refine Wp.bipush (pc := 67) (14 : Int32) (by decide) dX12_literal_67 ?_
      refine Wp.icmp_le (pc := 69) 76 dX12_literal_69 (by decide) (fun hc17 => ?_) (fun hc17 => ?_)
      · rw [if_pos hc17] at hf
        refine Wp.aload_n (pc := 76) 0 rfl rfl dX12_literal_76 ?_
        obtain ⟨a18, h19, hf⟩ := bnd hf
        refine Wp.getR (pc := 77) (gA_R h19) hx0 fk_RX12_20 rfl dX12_literal_77 ?_
        refine Wp.aload_n (pc := 80) 0 rfl rfl dX12_literal_80 ?_
        refine Wp.getI (pc := 81) hx0 fk_RX12_257 rfl dX12_literal_81 ?_
        obtain ⟨v20, h21, hf⟩ := bnd hf
        refine Wp.iald (pc := 84) h21 (gA_T h19) dX12_literal_84 ?_
        refine Wp.bipush (pc := 85) (11 : Int32) (by decide) dX12_literal_85 ?_
        refine Wp.isub (pc := 87) dX12_literal_87 ?_
        exact w_X12_literal_88 hX hx0 hf hk
      · rw [if_neg hc17] at hf
        exact w_X12_literal_72 hX hx0 hf hk
theorem c_X12_literal {T : List Dsc} {x0 : Nat} {x1 : Int32} {μ : Mem} {r : Mem} (hx0 : T[x0]? = some (.inl 11)) (hf : F_X12_literal T x0 x1 μ = some r) : Ct 5 yX12_literal cX12_literal 6 none T μ [.ref x0, .int x1] none r := Ct.ofV (by decide +kernel) (Nat.le_of_ble_eq_true rfl) (fun X hX hk => w_X12_literal hX hx0 hf hk)
theorem dX12_condition_0 : decode cX12_condition 0 = .ok (.aload_n 0, 1) := by decide +kernel
theorem dX12_condition_1 : decode cX12_condition 1 = .ok (.invokevirtual 275, 3) := by decide +kernel
theorem dX12_condition_4 : decode cX12_condition 4 = .ok (.iconst 1, 1) := by decide +kernel
theorem dX12_condition_5 : decode cX12_condition 5 = .ok (.istore_n 1, 1) := by decide +kernel
theorem dX12_condition_6 : decode cX12_condition 6 = .ok (.iconst 1, 1) := by decide +kernel
theorem dX12_condition_7 : decode cX12_condition 7 = .ok (.istore_n 2, 1) := by decide +kernel
theorem dX12_condition_8 : decode cX12_condition 8 = .ok (.iload_n 2, 1) := by decide +kernel
theorem dX12_condition_9 : decode cX12_condition 9 = .ok (.ifCond .eq 52, 3) := by decide +kernel
theorem dX12_condition_12 : decode cX12_condition 12 = .ok (.aload_n 0, 1) := by decide +kernel
theorem dX12_condition_13 : decode cX12_condition 13 = .ok (.getfield 254, 3) := by decide +kernel
theorem dX12_condition_16 : decode cX12_condition 16 = .ok (.ifCond .ne 45, 3) := by decide +kernel
theorem dX12_condition_19 : decode cX12_condition 19 = .ok (.aload_n 0, 1) := by decide +kernel
theorem dX12_condition_20 : decode cX12_condition 20 = .ok (.iload_n 1, 1) := by decide +kernel
theorem dX12_condition_21 : decode cX12_condition 21 = .ok (.invokevirtual 359, 3) := by decide +kernel
theorem dX12_condition_24 : decode cX12_condition 24 = .ok (.aload_n 0, 1) := by decide +kernel
theorem dX12_condition_25 : decode cX12_condition 25 = .ok (.bipush 29, 2) := by decide +kernel
theorem dX12_condition_27 : decode cX12_condition 27 = .ok (.invokevirtual 272, 3) := by decide +kernel
theorem dX12_condition_30 : decode cX12_condition 30 = .ok (.istore_n 1, 1) := by decide +kernel
theorem dX12_condition_31 : decode cX12_condition 31 = .ok (.iload_n 1, 1) := by decide +kernel
theorem dX12_condition_32 : decode cX12_condition 32 = .ok (.ifCond .ne 12, 3) := by decide +kernel
theorem dX12_condition_35 : decode cX12_condition 35 = .ok (.aload_n 0, 1) := by decide +kernel
theorem dX12_condition_36 : decode cX12_condition 36 = .ok (.bipush 30, 2) := by decide +kernel
theorem dX12_condition_38 : decode cX12_condition 38 = .ok (.invokevirtual 272, 3) := by decide +kernel
theorem dX12_condition_41 : decode cX12_condition 41 = .ok (.ifCond .eq 7, 3) := by decide +kernel
theorem dX12_condition_44 : decode cX12_condition 44 = .ok (.iconst 1, 1) := by decide +kernel
theorem dX12_condition_45 : decode cX12_condition 45 = .ok (.goto 4, 3) := by decide +kernel
theorem dX12_condition_48 : decode cX12_condition 48 = .ok (.iconst 0, 1) := by decide +kernel
theorem dX12_condition_49 : decode cX12_condition 49 = .ok (.istore_n 2, 1) := by decide +kernel
theorem dX12_condition_50 : decode cX12_condition 50 = .ok (.iload_n 2, 1) := by decide +kernel
theorem dX12_condition_51 : decode cX12_condition 51 = .ok (.ifCond .eq (-43), 3) := by decide +kernel
theorem dX12_condition_54 : decode cX12_condition 54 = .ok (.aload_n 0, 1) := by decide +kernel
theorem dX12_condition_55 : decode cX12_condition 55 = .ok (.invokevirtual 275, 3) := by decide +kernel
theorem dX12_condition_58 : decode cX12_condition 58 = .ok (.goto (-50), 3) := by decide +kernel
theorem dX12_condition_61 : decode cX12_condition 61 = .ok (.return_, 1) := by decide +kernel
def k_X12_condition_8 (X : CX) (T : List Dsc) (n1 n2 : Nat) (x0 : Nat) (r : ((Int32 × Int32 × Mem) ⊕ ((Mem)))) : Prop := match r with
  | .inl s => Wp X cX12_condition RX12 3 T s.2.2 n1 n2 8 [(0, .ref x0), (1, .int s.1), (2, .int s.2.1)] []
  | .inr e => Wp X cX12_condition RX12 3 T e n1 n2 61 [] []
set_option maxHeartbeats 4000000 in
set_option maxRecDepth 100000 in
theorem w_X12_condition_49 {X : CX} {T : List Dsc} {n1 n2 : Nat} {x0 : Nat} {x1 : Int32} {s0 : Int32} {μ : Mem} {r : ((Int32 × Int32 × Mem) ⊕ ((Mem)))} (hX : XR X 6 n1 n2) (hx0 : T[x0]? = some (.inl 11)) (hf : f_X12_condition_49 T x0 x1 s0 μ = some r) (hk : k_X12_condition_8 X T n1 n2 x0 r) : Wp X cX12_condition RX12 3 T μ n1 n2 49 [(0, .ref x0), (1, .int x1)] [.int s0] := by
  unfold f_X12_condition_49 at hf
  refine Wp.istore_n (pc := 49) (lo' := [(0, .ref x0), (1, .int x1), (2, .int s0)]) [1, 2, 0] rfl (by decide) rfl dX12_condition_49 ?_
  refine Wp.iload_n (pc := 50) 2 rfl rfl dX12_condition_50 ?_
  refine Wp.if_eq (pc := 51) 8 dX12_condition_51 (by decide) (fun hc1 => ?_) (fun hc1 => ?_)
  · rw [if_pos hc1] at hf
    cases hf
    exact hk
  · rw [if_neg hc1] at hf
    refine Wp.aload_n (pc := 54) 0 rfl rfl dX12_condition_54 ?_
    obtain ⟨c2, h3, hf⟩ := bnd hf
    refine Wp.callVv (pc := 55) (st := []) (as := []) (c_X12_goesOn hx0 h3) ml_RX12_275 mv_X12_goesOn mb_X12_goesOn hX (Nat.le_of_ble_eq_true rfl) (by decide) rfl hx0 rfl (by simp) dX12_condition_55 rfl ?_
    refine Wp.goto (pc := 58) 8 dX12_condition_58 (by decide) ?_
    cases hf
    exact hk
set_option maxHeartbeats 4000000 in
set_option maxRecDepth 100000 in
theorem w_X12_condition_44 {X : CX} {T : List Dsc} {n1 n2 : Nat} {x0 : Nat} {x1 : Int32} {μ : Mem} {r : ((Int32 × Int32 × Mem) ⊕ ((Mem)))} (hX : XR X 6 n1 n2) (hx0 : T[x0]? = some (.inl 11)) (hf : f_X12_condition_44 T x0 x1 μ = some r) (hk : k_X12_condition_8 X T n1 n2 x0 r) : Wp X cX12_condition RX12 3 T μ n1 n2 44 [(0, .ref x0), (1, .int x1)] [] := by
  unfold f_X12_condition_44 at hf
  refine Wp.iconst (pc := 44) (1 : Int32) (by decide) dX12_condition_44 ?_
  refine Wp.goto (pc := 45) 49 dX12_condition_45 (by decide) ?_
  exact w_X12_condition_49 hX hx0 hf hk
set_option maxHeartbeats 4000000 in
set_option maxRecDepth 100000 in
theorem w_X12_condition_8 {X : CX} {T : List Dsc} {n1 n2 : Nat} {x0 : Nat} {x1 : Int32} {x2 : Int32} {μ : Mem} {r : ((Int32 × Int32 × Mem) ⊕ ((Mem)))} (hX : XR X 6 n1 n2) (hx0 : T[x0]? = some (.inl 11)) (hf : f_X12_condition_8 T x0 x1 x2 μ = some r) (hk : k_X12_condition_8 X T n1 n2 x0 r) : Wp X cX12_condition RX12 3 T μ n1 n2 8 [(0, .ref x0), (1, .int x1), (2, .int x2)] [] := by
  unfold f_X12_condition_8 at hf
  refine Wp.iload_n (pc := 8) 2 rfl rfl dX12_condition_8 ?_
  refine Wp.if_eq (pc := 9) 61 dX12_condition_9 (by decide) (fun hc1 => ?_) (fun hc1 => ?_)
  · rw [if_pos hc1] at hf
    refine Wp.lo' (lo' := []) [] rfl ?_
    cases hf
    exact hk
  · rw [if_neg hc1] at hf
    refine Wp.aload_n (pc := 12) 0 rfl rfl dX12_condition_12 ?_
    refine Wp.getI (pc := 13) hx0 fk_RX12_254 rfl dX12_condition_13 ?_
    refine Wp.if_ne (pc := 16) 61 dX12_condition_16 (by decide) (fun hc2 => ?_) (fun hc2 => ?_)
    · rw [if_neg hc2] at hf
      refine Wp.lo' (lo' := []) [] rfl ?_
      cases hf
      exact hk
    · rw [if_pos hc2] at hf
      refine Wp.aload_n (pc := 19) 0 rfl rfl dX12_condition_19 ?_
      refine Wp.iload_n (pc := 20) 1 rfl rfl dX12_condition_20 ?_
      obtain ⟨c3, h4, hf⟩ := bnd hf
      refine Wp.callVv (pc := 21) (st := []) (as := [.int x1]) (c_X12_literal hx0 h4) ml_RX12_359 mv_X12_literal mb_X12_literal hX (Nat.le_of_ble_eq_true rfl) (by decide) rfl hx0 rfl (by simp) dX12_condition_21 rfl ?_
      refine Wp.aload_n (pc := 24) 0 rfl rfl dX12_condition_24 ?_
      refine Wp.bipush (pc := 25) (29 : Int32) (by decide) dX12_condition_25 ?_
      obtain ⟨c5, h6, hf⟩ := bnd hf
      refine Wp.callVi (pc := 27) (st := []) (as := [.int (29 : Int32)]) (c_X12_is hx0 h6) ml_RX12_272 mv_X12_is mb_X12_is hX (Nat.le_of_ble_eq_true rfl) (by decide) rfl hx0 rfl (by simp) dX12_condition_27 rfl ?_
      refine Wp.istore_n (pc := 30) (lo' := [(0, .ref x0), (1, .int c5.1)]) [1, 0] rfl (by decide) rfl dX12_condition_30 ?_
      refine Wp.iload_n (pc := 31) 1 rfl rfl dX12_condition_31 ?_
      refine Wp.if_ne (pc := 32) 44 dX12_condition_32 (by decide) (fun hc7 => ?_) (fun hc7 => ?_)
      · rw [if_neg hc7] at hf
        exact w_X12_condition_44 hX hx0 hf hk
      · rw [if_pos hc7] at hf
        refine Wp.aload_n (pc := 35) 0 rfl rfl dX12_condition_35 ?_
        refine Wp.bipush (pc := 36) (30 : Int32) (by decide) dX12_condition_36 ?_
        obtain ⟨c8, h9, hf⟩ := bnd hf
        refine Wp.callVi (pc := 38) (st := []) (as := [.int (30 : Int32)]) (c_X12_is hx0 h9) ml_RX12_272 mv_X12_is mb_X12_is hX (Nat.le_of_ble_eq_true rfl) (by decide) rfl hx0 rfl (by simp) dX12_condition_38 rfl ?_
        refine Wp.if_eq (pc := 41) 48 dX12_condition_41 (by decide) (fun hc10 => ?_) (fun hc10 => ?_)
        · rw [if_pos hc10] at hf
          refine Wp.iconst (pc := 48) (0 : Int32) (by decide) dX12_condition_48 ?_
          exact w_X12_condition_49 hX hx0 hf hk
        · rw [if_neg hc10] at hf
          exact w_X12_condition_44 hX hx0 hf hk
theorem wl_X12_condition_8 {X : CX} {T : List Dsc} {n1 n2 : Nat} {x0 : Nat} {x1 : Int32} {x2 : Int32} {μ : Mem} {e : ((Mem))} (hX : XR X 6 n1 n2) (hx0 : T[x0]? = some (.inl 11)) (h : loop (g_X12_condition_8 T x0) (x1, x2, μ) = some e) (he : Wp X cX12_condition RX12 3 T e n1 n2 61 [] []) : Wp X cX12_condition RX12 3 T μ n1 n2 8 [(0, .ref x0), (1, .int x1), (2, .int x2)] [] :=
  loop_ok (K := k_X12_condition_8 X T n1 n2 x0) (fun s r hf hk => w_X12_condition_8 hX hx0 hf hk) h he
set_option maxHeartbeats 4000000 in
set_option maxRecDepth 100000 in
theorem w_X12_condition_61 {X : CX} {T : List Dsc} {n1 n2 : Nat} {μ : Mem} {r : Mem} (hX : XR X 6 n1 n2) (hf : f_X12_condition_61 T μ = some r) (hk : FnV X cX12_condition RX12 3 T n1 n2 r) : Wp X cX12_condition RX12 3 T μ n1 n2 61 [] [] := by
  unfold f_X12_condition_61 at hf
  cases hf
  exact hk _ _ dX12_condition_61
set_option maxHeartbeats 4000000 in
set_option maxRecDepth 100000 in
theorem w_X12_condition {X : CX} {T : List Dsc} {n1 n2 : Nat} {x0 : Nat} {μ : Mem} {r : Mem} (hX : XR X 6 n1 n2) (hx0 : T[x0]? = some (.inl 11)) (hf : F_X12_condition T x0 μ = some r) (hk : FnV X cX12_condition RX12 3 T n1 n2 r) : Wp X cX12_condition RX12 3 T μ n1 n2 0 [(0, .ref x0)] [] := by
  unfold F_X12_condition at hf
  refine Wp.aload_n (pc := 0) 0 rfl rfl dX12_condition_0 ?_
  obtain ⟨c1, h2, hf⟩ := bnd hf
  refine Wp.callVv (pc := 1) (st := []) (as := []) (c_X12_goesOn hx0 h2) ml_RX12_275 mv_X12_goesOn mb_X12_goesOn hX (Nat.le_of_ble_eq_true rfl) (by decide) rfl hx0 rfl (by simp) dX12_condition_1 rfl ?_
  refine Wp.iconst (pc := 4) (1 : Int32) (by decide) dX12_condition_4 ?_
  refine Wp.istore_n (pc := 5) (lo' := [(0, .ref x0), (1, .int (1 : Int32))]) [1, 0] rfl (by decide) rfl dX12_condition_5 ?_
  refine Wp.iconst (pc := 6) (1 : Int32) (by decide) dX12_condition_6 ?_
  refine Wp.istore_n (pc := 7) (lo' := [(0, .ref x0), (1, .int (1 : Int32)), (2, .int (1 : Int32))]) [1, 2, 0] rfl (by decide) rfl dX12_condition_7 ?_
  obtain ⟨e3, h4, hf⟩ := bnd hf
  refine wl_X12_condition_8 hX hx0 h4 ?_
  exact w_X12_condition_61 hX hf hk
theorem c_X12_condition {T : List Dsc} {x0 : Nat} {μ : Mem} {r : Mem} (hx0 : T[x0]? = some (.inl 11)) (hf : F_X12_condition T x0 μ = some r) : Ct 6 yX12_condition cX12_condition 3 none T μ [.ref x0] none r := Ct.ofV (by decide +kernel) (Nat.le_of_ble_eq_true rfl) (fun X hX hk => w_X12_condition hX hx0 hf hk)
theorem dX12_term_0 : decode cX12_term 0 = .ok (.aload_n 0, 1) := by decide +kernel
theorem dX12_term_1 : decode cX12_term 1 = .ok (.getfield 64, 3) := by decide +kernel
theorem dX12_term_4 : decode cX12_term 4 = .ok (.aload_n 0, 1) := by decide +kernel
theorem dX12_term_5 : decode cX12_term 5 = .ok (.getfield 293, 3) := by decide +kernel
theorem dX12_term_8 : decode cX12_term 8 = .ok (.aload_n 0, 1) := by decide +kernel
theorem dX12_term_9 : decode cX12_term 9 = .ok (.getfield 299, 3) := by decide +kernel
theorem dX12_term_12 : decode cX12_term 12 = .ok (.iastore, 1) := by decide +kernel
theorem dX12_term_13 : decode cX12_term 13 = .ok (.aload_n 0, 1) := by decide +kernel
theorem dX12_term_14 : decode cX12_term 14 = .ok (.getfield 254, 3) := by decide +kernel
theorem dX12_term_17 : decode cX12_term 17 = .ok (.ifCond .ne 7, 3) := by decide +kernel
theorem dX12_term_20 : decode cX12_term 20 = .ok (.aload_n 0, 1) := by decide +kernel
theorem dX12_term_21 : decode cX12_term 21 = .ok (.invokevirtual 356, 3) := by decide +kernel
theorem dX12_term_24 : decode cX12_term 24 = .ok (.aload_n 0, 1) := by decide +kernel
theorem dX12_term_25 : decode cX12_term 25 = .ok (.getfield 67, 3) := by decide +kernel
theorem dX12_term_28 : decode cX12_term 28 = .ok (.aload_n 0, 1) := by decide +kernel
theorem dX12_term_29 : decode cX12_term 29 = .ok (.getfield 293, 3) := by decide +kernel
theorem dX12_term_32 : decode cX12_term 32 = .ok (.aload_n 0, 1) := by decide +kernel
theorem dX12_term_33 : decode cX12_term 33 = .ok (.getfield 299, 3) := by decide +kernel
theorem dX12_term_36 : decode cX12_term 36 = .ok (.iastore, 1) := by decide +kernel
theorem dX12_term_37 : decode cX12_term 37 = .ok (.aload_n 0, 1) := by decide +kernel
theorem dX12_term_38 : decode cX12_term 38 = .ok (.dup, 1) := by decide +kernel
theorem dX12_term_39 : decode cX12_term 39 = .ok (.getfield 293, 3) := by decide +kernel
theorem dX12_term_42 : decode cX12_term 42 = .ok (.iconst 1, 1) := by decide +kernel
theorem dX12_term_43 : decode cX12_term 43 = .ok (.iadd, 1) := by decide +kernel
theorem dX12_term_44 : decode cX12_term 44 = .ok (.putfield 293, 3) := by decide +kernel
theorem dX12_term_47 : decode cX12_term 47 = .ok (.return_, 1) := by decide +kernel
set_option maxHeartbeats 4000000 in
set_option maxRecDepth 100000 in
theorem w_X12_term_24 {X : CX} {T : List Dsc} {n1 n2 : Nat} {x0 : Nat} {μ : Mem} {r : Mem} (hX : XR X 5 n1 n2) (hx0 : T[x0]? = some (.inl 11)) (hf : f_X12_term_24 T x0 μ = some r) (hk : FnV X cX12_term RX12 1 T n1 n2 r) : Wp X cX12_term RX12 1 T μ n1 n2 24 [(0, .ref x0)] [] := by
  unfold f_X12_term_24 at hf
  refine Wp.aload_n (pc := 24) 0 rfl rfl dX12_term_24 ?_
  obtain ⟨a1, h2, hf⟩ := bnd hf
  refine Wp.getR (pc := 25) (gA_R h2) hx0 fk_RX12_67 rfl dX12_term_25 ?_
  refine Wp.aload_n (pc := 28) 0 rfl rfl dX12_term_28 ?_
  refine Wp.getI (pc := 29) hx0 fk_RX12_293 rfl dX12_term_29 ?_
  refine Wp.aload_n (pc := 32) 0 rfl rfl dX12_term_32 ?_
  refine Wp.getI (pc := 33) hx0 fk_RX12_299 rfl dX12_term_33 ?_
  obtain ⟨μ3, h4, hf⟩ := bnd hf
  refine Wp.iast (pc := 36) h4 (gA_T h2) dX12_term_36 ?_
  refine Wp.aload_n (pc := 37) 0 rfl rfl dX12_term_37 ?_
  refine Wp.dup (pc := 38) rfl dX12_term_38 ?_
  refine Wp.getI (pc := 39) hx0 fk_RX12_293 rfl dX12_term_39 ?_
  refine Wp.iconst (pc := 42) (1 : Int32) (by decide) dX12_term_42 ?_
  refine Wp.iadd (pc := 43) dX12_term_43 ?_
  obtain ⟨μ5, h6, hf⟩ := bnd hf
  refine Wp.ptI (pc := 44) h6 hx0 fk_RX12_293 ff_RX12_11_27 rfl dX12_term_44 ?_
  cases hf
  exact hk _ _ dX12_term_47
set_option maxHeartbeats 4000000 in
set_option maxRecDepth 100000 in
theorem w_X12_term {X : CX} {T : List Dsc} {n1 n2 : Nat} {x0 : Nat} {μ : Mem} {r : Mem} (hX : XR X 5 n1 n2) (hx0 : T[x0]? = some (.inl 11)) (hf : F_X12_term T x0 μ = some r) (hk : FnV X cX12_term RX12 1 T n1 n2 r) : Wp X cX12_term RX12 1 T μ n1 n2 0 [(0, .ref x0)] [] := by
  unfold F_X12_term at hf
  refine Wp.aload_n (pc := 0) 0 rfl rfl dX12_term_0 ?_
  obtain ⟨a1, h2, hf⟩ := bnd hf
  refine Wp.getR (pc := 1) (gA_R h2) hx0 fk_RX12_64 rfl dX12_term_1 ?_
  refine Wp.aload_n (pc := 4) 0 rfl rfl dX12_term_4 ?_
  refine Wp.getI (pc := 5) hx0 fk_RX12_293 rfl dX12_term_5 ?_
  refine Wp.aload_n (pc := 8) 0 rfl rfl dX12_term_8 ?_
  refine Wp.getI (pc := 9) hx0 fk_RX12_299 rfl dX12_term_9 ?_
  obtain ⟨μ3, h4, hf⟩ := bnd hf
  refine Wp.iast (pc := 12) h4 (gA_T h2) dX12_term_12 ?_
  refine Wp.aload_n (pc := 13) 0 rfl rfl dX12_term_13 ?_
  refine Wp.getI (pc := 14) hx0 fk_RX12_254 rfl dX12_term_14 ?_
  refine Wp.if_ne (pc := 17) 24 dX12_term_17 (by decide) (fun hc5 => ?_) (fun hc5 => ?_)
  · rw [if_neg hc5] at hf
    exact w_X12_term_24 hX hx0 hf hk
  · rw [if_pos hc5] at hf
    refine Wp.aload_n (pc := 20) 0 rfl rfl dX12_term_20 ?_
    obtain ⟨c6, h7, hf⟩ := bnd hf
    refine Wp.callVv (pc := 21) (st := []) (as := []) (c_X12_expression hx0 h7) ml_RX12_356 mv_X12_expression mb_X12_expression hX (Nat.le_of_ble_eq_true rfl) (by decide) rfl hx0 rfl (by simp) dX12_term_21 rfl ?_
    exact w_X12_term_24 hX hx0 hf hk
theorem c_X12_term {T : List Dsc} {x0 : Nat} {μ : Mem} {r : Mem} (hx0 : T[x0]? = some (.inl 11)) (hf : F_X12_term T x0 μ = some r) : Ct 5 yX12_term cX12_term 1 none T μ [.ref x0] none r := Ct.ofV (by decide +kernel) (Nat.le_of_ble_eq_true rfl) (fun X hX hk => w_X12_term hX hx0 hf hk)
theorem dX12_notes_0 : decode cX12_notes 0 = .ok (.aload_n 0, 1) := by decide +kernel
theorem dX12_notes_1 : decode cX12_notes 1 = .ok (.getfield 40, 3) := by decide +kernel
theorem dX12_notes_4 : decode cX12_notes 4 = .ok (.aload_n 0, 1) := by decide +kernel
theorem dX12_notes_5 : decode cX12_notes 5 = .ok (.getfield 290, 3) := by decide +kernel
theorem dX12_notes_8 : decode cX12_notes 8 = .ok (.aload_n 0, 1) := by decide +kernel
theorem dX12_notes_9 : decode cX12_notes 9 = .ok (.getfield 30, 3) := by decide +kernel
theorem dX12_notes_12 : decode cX12_notes 12 = .ok (.iload_n 1, 1) := by decide +kernel
theorem dX12_notes_13 : decode cX12_notes 13 = .ok (.laload, 1) := by decide +kernel
theorem dX12_notes_14 : decode cX12_notes 14 = .ok (.lastore, 1) := by decide +kernel
theorem dX12_notes_15 : decode cX12_notes 15 = .ok (.aload_n 0, 1) := by decide +kernel
theorem dX12_notes_16 : decode cX12_notes 16 = .ok (.getfield 43, 3) := by decide +kernel
theorem dX12_notes_19 : decode cX12_notes 19 = .ok (.aload_n 0, 1) := by decide +kernel
theorem dX12_notes_20 : decode cX12_notes 20 = .ok (.getfield 290, 3) := by decide +kernel
theorem dX12_notes_23 : decode cX12_notes 23 = .ok (.iload_n 2, 1) := by decide +kernel
theorem dX12_notes_24 : decode cX12_notes 24 = .ok (.iastore, 1) := by decide +kernel
theorem dX12_notes_25 : decode cX12_notes 25 = .ok (.aload_n 0, 1) := by decide +kernel
theorem dX12_notes_26 : decode cX12_notes 26 = .ok (.dup, 1) := by decide +kernel
theorem dX12_notes_27 : decode cX12_notes 27 = .ok (.getfield 290, 3) := by decide +kernel
theorem dX12_notes_30 : decode cX12_notes 30 = .ok (.iconst 1, 1) := by decide +kernel
theorem dX12_notes_31 : decode cX12_notes 31 = .ok (.iadd, 1) := by decide +kernel
theorem dX12_notes_32 : decode cX12_notes 32 = .ok (.putfield 290, 3) := by decide +kernel
theorem dX12_notes_35 : decode cX12_notes 35 = .ok (.return_, 1) := by decide +kernel
set_option maxHeartbeats 4000000 in
set_option maxRecDepth 100000 in
theorem w_X12_notes {X : CX} {T : List Dsc} {n1 n2 : Nat} {x0 : Nat} {x1 : Int32} {x2 : Int32} {μ : Mem} {r : Mem} (hX : XR X 1 n1 n2) (hx0 : T[x0]? = some (.inl 11)) (hf : F_X12_notes T x0 x1 x2 μ = some r) (hk : FnV X cX12_notes RX12 3 T n1 n2 r) : Wp X cX12_notes RX12 3 T μ n1 n2 0 [(0, .ref x0), (1, .int x1), (2, .int x2)] [] := by
  unfold F_X12_notes at hf
  refine Wp.aload_n (pc := 0) 0 rfl rfl dX12_notes_0 ?_
  obtain ⟨a1, h2, hf⟩ := bnd hf
  refine Wp.getR (pc := 1) (gA_R h2) hx0 fk_RX12_40 rfl dX12_notes_1 ?_
  refine Wp.aload_n (pc := 4) 0 rfl rfl dX12_notes_4 ?_
  refine Wp.getI (pc := 5) hx0 fk_RX12_290 rfl dX12_notes_5 ?_
  refine Wp.aload_n (pc := 8) 0 rfl rfl dX12_notes_8 ?_
  obtain ⟨a3, h4, hf⟩ := bnd hf
  refine Wp.getR (pc := 9) (gA_R h4) hx0 fk_RX12_30 rfl dX12_notes_9 ?_
  refine Wp.iload_n (pc := 12) 1 rfl rfl dX12_notes_12 ?_
  obtain ⟨v5, h6, hf⟩ := bnd hf
  refine Wp.lald (pc := 13) h6 (gA_T h4) dX12_notes_13 ?_
  obtain ⟨μ7, h8, hf⟩ := bnd hf
  refine Wp.last (pc := 14) h8 (gA_T h2) dX12_notes_14 ?_
  refine Wp.aload_n (pc := 15) 0 rfl rfl dX12_notes_15 ?_
  obtain ⟨a9, h10, hf⟩ := bnd hf
  refine Wp.getR (pc := 16) (gA_R h10) hx0 fk_RX12_43 rfl dX12_notes_16 ?_
  refine Wp.aload_n (pc := 19) 0 rfl rfl dX12_notes_19 ?_
  refine Wp.getI (pc := 20) hx0 fk_RX12_290 rfl dX12_notes_20 ?_
  refine Wp.iload_n (pc := 23) 2 rfl rfl dX12_notes_23 ?_
  obtain ⟨μ11, h12, hf⟩ := bnd hf
  refine Wp.iast (pc := 24) h12 (gA_T h10) dX12_notes_24 ?_
  refine Wp.aload_n (pc := 25) 0 rfl rfl dX12_notes_25 ?_
  refine Wp.dup (pc := 26) rfl dX12_notes_26 ?_
  refine Wp.getI (pc := 27) hx0 fk_RX12_290 rfl dX12_notes_27 ?_
  refine Wp.iconst (pc := 30) (1 : Int32) (by decide) dX12_notes_30 ?_
  refine Wp.iadd (pc := 31) dX12_notes_31 ?_
  obtain ⟨μ13, h14, hf⟩ := bnd hf
  refine Wp.ptI (pc := 32) h14 hx0 fk_RX12_290 ff_RX12_11_20 rfl dX12_notes_32 ?_
  cases hf
  exact hk _ _ dX12_notes_35
theorem c_X12_notes {T : List Dsc} {x0 : Nat} {x1 : Int32} {x2 : Int32} {μ : Mem} {r : Mem} (hx0 : T[x0]? = some (.inl 11)) (hf : F_X12_notes T x0 x1 x2 μ = some r) : Ct 1 yX12_notes cX12_notes 3 none T μ [.ref x0, .int x1, .int x2] none r := Ct.ofV (by decide +kernel) (Nat.le_of_ble_eq_true rfl) (fun X hX hk => w_X12_notes hX hx0 hf hk)
theorem dX12_tellLaw_0 : decode cX12_tellLaw 0 = .ok (.bipush 6, 2) := by decide +kernel
theorem dX12_tellLaw_2 : decode cX12_tellLaw 2 = .ok (.aload_n 0, 1) := by decide +kernel
theorem dX12_tellLaw_3 : decode cX12_tellLaw 3 = .ok (.getfield 287, 3) := by decide +kernel
theorem dX12_tellLaw_6 : decode cX12_tellLaw 6 = .ok (.imul, 1) := by decide +kernel
theorem dX12_tellLaw_7 : decode cX12_tellLaw 7 = .ok (.aload_n 0, 1) := by decide +kernel
theorem dX12_tellLaw_8 : decode cX12_tellLaw 8 = .ok (.getfield 49, 3) := by decide +kernel
theorem dX12_tellLaw_11 : decode cX12_tellLaw 11 = .ok (.aload_n 0, 1) := by decide +kernel
theorem dX12_tellLaw_12 : decode cX12_tellLaw 12 = .ok (.getfield 287, 3) := by decide +kernel
theorem dX12_tellLaw_15 : decode cX12_tellLaw 15 = .ok (.iaload, 1) := by decide +kernel
theorem dX12_tellLaw_16 : decode cX12_tellLaw 16 = .ok (.iadd, 1) := by decide +kernel
theorem dX12_tellLaw_17 : decode cX12_tellLaw 17 = .ok (.istore_n 1, 1) := by decide +kernel
theorem dX12_tellLaw_18 : decode cX12_tellLaw 18 = .ok (.aload_n 0, 1) := by decide +kernel
theorem dX12_tellLaw_19 : decode cX12_tellLaw 19 = .ok (.invokevirtual 344, 3) := by decide +kernel
theorem dX12_tellLaw_22 : decode cX12_tellLaw 22 = .ok (.istore_n 2, 1) := by decide +kernel
theorem dX12_tellLaw_23 : decode cX12_tellLaw 23 = .ok (.aload_n 0, 1) := by decide +kernel
theorem dX12_tellLaw_24 : decode cX12_tellLaw 24 = .ok (.iconst 5, 1) := by decide +kernel
theorem dX12_tellLaw_25 : decode cX12_tellLaw 25 = .ok (.invokevirtual 321, 3) := by decide +kernel
theorem dX12_tellLaw_28 : decode cX12_tellLaw 28 = .ok (.aload_n 0, 1) := by decide +kernel
theorem dX12_tellLaw_29 : decode cX12_tellLaw 29 = .ok (.getfield 52, 3) := by decide +kernel
theorem dX12_tellLaw_32 : decode cX12_tellLaw 32 = .ok (.iload_n 1, 1) := by decide +kernel
theorem dX12_tellLaw_33 : decode cX12_tellLaw 33 = .ok (.aload_n 0, 1) := by decide +kernel
theorem dX12_tellLaw_34 : decode cX12_tellLaw 34 = .ok (.getfield 293, 3) := by decide +kernel
theorem dX12_tellLaw_37 : decode cX12_tellLaw 37 = .ok (.iastore, 1) := by decide +kernel
theorem dX12_tellLaw_38 : decode cX12_tellLaw 38 = .ok (.iconst 0, 1) := by decide +kernel
theorem dX12_tellLaw_39 : decode cX12_tellLaw 39 = .ok (.istore_n 3, 1) := by decide +kernel
theorem dX12_tellLaw_40 : decode cX12_tellLaw 40 = .ok (.aload_n 0, 1) := by decide +kernel
theorem dX12_tellLaw_41 : decode cX12_tellLaw 41 = .ok (.getfield 254, 3) := by decide +kernel
theorem dX12_tellLaw_44 : decode cX12_tellLaw 44 = .ok (.ifCond .ne 83, 3) := by decide +kernel
theorem dX12_tellLaw_47 : decode cX12_tellLaw 47 = .ok (.aload_n 0, 1) := by decide +kernel
theorem dX12_tellLaw_48 : decode cX12_tellLaw 48 = .ok (.bipush 22, 2) := by decide +kernel
theorem dX12_tellLaw_50 : decode cX12_tellLaw 50 = .ok (.invokevirtual 272, 3) := by decide +kernel
theorem dX12_tellLaw_53 : decode cX12_tellLaw 53 = .ok (.ifCond .eq 74, 3) := by decide +kernel
theorem dX12_tellLaw_56 : decode cX12_tellLaw 56 = .ok (.iload_n 3, 1) := by decide +kernel
theorem dX12_tellLaw_57 : decode cX12_tellLaw 57 = .ok (.bipush 8, 2) := by decide +kernel
theorem dX12_tellLaw_59 : decode cX12_tellLaw 59 = .ok (.if_icmp .ne 8, 3) := by decide +kernel
theorem dX12_tellLaw_62 : decode cX12_tellLaw 62 = .ok (.aload_n 0, 1) := by decide +kernel
theorem dX12_tellLaw_63 : decode cX12_tellLaw 63 = .ok (.iconst 2, 1) := by decide +kernel
theorem dX12_tellLaw_64 : decode cX12_tellLaw 64 = .ok (.invokevirtual 269, 3) := by decide +kernel
theorem dX12_tellLaw_67 : decode cX12_tellLaw 67 = .ok (.aload_n 0, 1) := by decide +kernel
theorem dX12_tellLaw_68 : decode cX12_tellLaw 68 = .ok (.getfield 254, 3) := by decide +kernel
theorem dX12_tellLaw_71 : decode cX12_tellLaw 71 = .ok (.ifCond .le 4, 3) := by decide +kernel
theorem dX12_tellLaw_74 : decode cX12_tellLaw 74 = .ok (.return_, 1) := by decide +kernel
theorem dX12_tellLaw_75 : decode cX12_tellLaw 75 = .ok (.iinc 3 1, 3) := by decide +kernel
theorem dX12_tellLaw_78 : decode cX12_tellLaw 78 = .ok (.aload_n 0, 1) := by decide +kernel
theorem dX12_tellLaw_79 : decode cX12_tellLaw 79 = .ok (.getfield 58, 3) := by decide +kernel
theorem dX12_tellLaw_82 : decode cX12_tellLaw 82 = .ok (.aload_n 0, 1) := by decide +kernel
theorem dX12_tellLaw_83 : decode cX12_tellLaw 83 = .ok (.getfield 293, 3) := by decide +kernel
theorem dX12_tellLaw_86 : decode cX12_tellLaw 86 = .ok (.aload_n 0, 1) := by decide +kernel
theorem dX12_tellLaw_87 : decode cX12_tellLaw 87 = .ok (.getfield 296, 3) := by decide +kernel
theorem dX12_tellLaw_90 : decode cX12_tellLaw 90 = .ok (.iastore, 1) := by decide +kernel
theorem dX12_tellLaw_91 : decode cX12_tellLaw 91 = .ok (.aload_n 0, 1) := by decide +kernel
theorem dX12_tellLaw_92 : decode cX12_tellLaw 92 = .ok (.invokevirtual 350, 3) := by decide +kernel
theorem dX12_tellLaw_95 : decode cX12_tellLaw 95 = .ok (.aload_n 0, 1) := by decide +kernel
theorem dX12_tellLaw_96 : decode cX12_tellLaw 96 = .ok (.getfield 61, 3) := by decide +kernel
theorem dX12_tellLaw_99 : decode cX12_tellLaw 99 = .ok (.aload_n 0, 1) := by decide +kernel
theorem dX12_tellLaw_100 : decode cX12_tellLaw 100 = .ok (.getfield 293, 3) := by decide +kernel
theorem dX12_tellLaw_103 : decode cX12_tellLaw 103 = .ok (.aload_n 0, 1) := by decide +kernel
theorem dX12_tellLaw_104 : decode cX12_tellLaw 104 = .ok (.getfield 296, 3) := by decide +kernel
theorem dX12_tellLaw_107 : decode cX12_tellLaw 107 = .ok (.iastore, 1) := by decide +kernel
theorem dX12_tellLaw_108 : decode cX12_tellLaw 108 = .ok (.aload_n 0, 1) := by decide +kernel
theorem dX12_tellLaw_109 : decode cX12_tellLaw 109 = .ok (.bipush 23, 2) := by decide +kernel
theorem dX12_tellLaw_111 : decode cX12_tellLaw 111 = .ok (.invokevirtual 321, 3) := by decide +kernel
theorem dX12_tellLaw_114 : decode cX12_tellLaw 114 = .ok (.aload_n 0, 1) := by decide +kernel
theorem dX12_tellLaw_115 : decode cX12_tellLaw 115 = .ok (.invokevirtual 353, 3) := by decide +kernel
theorem dX12_tellLaw_118 : decode cX12_tellLaw 118 = .ok (.aload_n 0, 1) := by decide +kernel
theorem dX12_tellLaw_119 : decode cX12_tellLaw 119 = .ok (.bipush 24, 2) := by decide +kernel
theorem dX12_tellLaw_121 : decode cX12_tellLaw 121 = .ok (.invokevirtual 321, 3) := by decide +kernel
theorem dX12_tellLaw_124 : decode cX12_tellLaw 124 = .ok (.goto (-84), 3) := by decide +kernel
theorem dX12_tellLaw_127 : decode cX12_tellLaw 127 = .ok (.aload_n 0, 1) := by decide +kernel
theorem dX12_tellLaw_128 : decode cX12_tellLaw 128 = .ok (.getfield 58, 3) := by decide +kernel
theorem dX12_tellLaw_131 : decode cX12_tellLaw 131 = .ok (.aload_n 0, 1) := by decide +kernel
theorem dX12_tellLaw_132 : decode cX12_tellLaw 132 = .ok (.getfield 293, 3) := by decide +kernel
theorem dX12_tellLaw_135 : decode cX12_tellLaw 135 = .ok (.aload_n 0, 1) := by decide +kernel
theorem dX12_tellLaw_136 : decode cX12_tellLaw 136 = .ok (.getfield 296, 3) := by decide +kernel
theorem dX12_tellLaw_139 : decode cX12_tellLaw 139 = .ok (.iastore, 1) := by decide +kernel
theorem dX12_tellLaw_140 : decode cX12_tellLaw 140 = .ok (.aload_n 0, 1) := by decide +kernel
theorem dX12_tellLaw_141 : decode cX12_tellLaw 141 = .ok (.getfield 61, 3) := by decide +kernel
theorem dX12_tellLaw_144 : decode cX12_tellLaw 144 = .ok (.aload_n 0, 1) := by decide +kernel
theorem dX12_tellLaw_145 : decode cX12_tellLaw 145 = .ok (.getfield 293, 3) := by decide +kernel
theorem dX12_tellLaw_148 : decode cX12_tellLaw 148 = .ok (.aload_n 0, 1) := by decide +kernel
theorem dX12_tellLaw_149 : decode cX12_tellLaw 149 = .ok (.getfield 296, 3) := by decide +kernel
theorem dX12_tellLaw_152 : decode cX12_tellLaw 152 = .ok (.iastore, 1) := by decide +kernel
theorem dX12_tellLaw_153 : decode cX12_tellLaw 153 = .ok (.aload_n 0, 1) := by decide +kernel
theorem dX12_tellLaw_154 : decode cX12_tellLaw 154 = .ok (.invokevirtual 353, 3) := by decide +kernel
theorem dX12_tellLaw_157 : decode cX12_tellLaw 157 = .ok (.aload_n 0, 1) := by decide +kernel
theorem dX12_tellLaw_158 : decode cX12_tellLaw 158 = .ok (.getfield 55, 3) := by decide +kernel
theorem dX12_tellLaw_161 : decode cX12_tellLaw 161 = .ok (.iload_n 1, 1) := by decide +kernel
theorem dX12_tellLaw_162 : decode cX12_tellLaw 162 = .ok (.aload_n 0, 1) := by decide +kernel
theorem dX12_tellLaw_163 : decode cX12_tellLaw 163 = .ok (.getfield 293, 3) := by decide +kernel
theorem dX12_tellLaw_166 : decode cX12_tellLaw 166 = .ok (.iastore, 1) := by decide +kernel
theorem dX12_tellLaw_167 : decode cX12_tellLaw 167 = .ok (.aload_n 0, 1) := by decide +kernel
theorem dX12_tellLaw_168 : decode cX12_tellLaw 168 = .ok (.iconst 4, 1) := by decide +kernel
theorem dX12_tellLaw_169 : decode cX12_tellLaw 169 = .ok (.invokevirtual 321, 3) := by decide +kernel
theorem dX12_tellLaw_172 : decode cX12_tellLaw 172 = .ok (.aload_n 0, 1) := by decide +kernel
theorem dX12_tellLaw_173 : decode cX12_tellLaw 173 = .ok (.getfield 254, 3) := by decide +kernel
theorem dX12_tellLaw_176 : decode cX12_tellLaw 176 = .ok (.ifCond .le 4, 3) := by decide +kernel
theorem dX12_tellLaw_179 : decode cX12_tellLaw 179 = .ok (.return_, 1) := by decide +kernel
theorem dX12_tellLaw_180 : decode cX12_tellLaw 180 = .ok (.aload_n 0, 1) := by decide +kernel
theorem dX12_tellLaw_181 : decode cX12_tellLaw 181 = .ok (.iload_n 2, 1) := by decide +kernel
theorem dX12_tellLaw_182 : decode cX12_tellLaw 182 = .ok (.aload_n 0, 1) := by decide +kernel
theorem dX12_tellLaw_183 : decode cX12_tellLaw 183 = .ok (.getfield 49, 3) := by decide +kernel
theorem dX12_tellLaw_186 : decode cX12_tellLaw 186 = .ok (.aload_n 0, 1) := by decide +kernel
theorem dX12_tellLaw_187 : decode cX12_tellLaw 187 = .ok (.getfield 287, 3) := by decide +kernel
theorem dX12_tellLaw_190 : decode cX12_tellLaw 190 = .ok (.iaload, 1) := by decide +kernel
theorem dX12_tellLaw_191 : decode cX12_tellLaw 191 = .ok (.invokevirtual 347, 3) := by decide +kernel
theorem dX12_tellLaw_194 : decode cX12_tellLaw 194 = .ok (.aload_n 0, 1) := by decide +kernel
theorem dX12_tellLaw_195 : decode cX12_tellLaw 195 = .ok (.getfield 49, 3) := by decide +kernel
theorem dX12_tellLaw_198 : decode cX12_tellLaw 198 = .ok (.aload_n 0, 1) := by decide +kernel
theorem dX12_tellLaw_199 : decode cX12_tellLaw 199 = .ok (.getfield 287, 3) := by decide +kernel
theorem dX12_tellLaw_202 : decode cX12_tellLaw 202 = .ok (.dup2, 1) := by decide +kernel
theorem dX12_tellLaw_203 : decode cX12_tellLaw 203 = .ok (.iaload, 1) := by decide +kernel
theorem dX12_tellLaw_204 : decode cX12_tellLaw 204 = .ok (.iconst 1, 1) := by decide +kernel
theorem dX12_tellLaw_205 : decode cX12_tellLaw 205 = .ok (.iadd, 1) := by decide +kernel
theorem dX12_tellLaw_206 : decode cX12_tellLaw 206 = .ok (.iastore, 1) := by decide +kernel
theorem dX12_tellLaw_207 : decode cX12_tellLaw 207 = .ok (.return_, 1) := by decide +kernel
def k_X12_tellLaw_40 (X : CX) (T : List Dsc) (n1 n2 : Nat) (x0 : Nat) (x1 : Int32) (x2 : Int32) (r : ((Int32 × Mem) ⊕ ((Mem) ⊕ (Mem)))) : Prop := match r with
  | .inl s => Wp X cX12_tellLaw RX12 4 T s.2 n1 n2 40 [(0, .ref x0), (1, .int x1), (2, .int x2), (3, .int s.1)] []
  | .inr (.inl e) => Wp X cX12_tellLaw RX12 4 T e n1 n2 74 [] []
  | .inr (.inr e) => Wp X cX12_tellLaw RX12 4 T e n1 n2 127 [(0, .ref x0), (1, .int x1), (2, .int x2)] []
set_option maxHeartbeats 4000000 in
set_option maxRecDepth 100000 in
theorem w_X12_tellLaw_67 {X : CX} {T : List Dsc} {n1 n2 : Nat} {x0 : Nat} {x1 : Int32} {x2 : Int32} {x3 : Int32} {μ : Mem} {r : ((Int32 × Mem) ⊕ ((Mem) ⊕ (Mem)))} (hX : XR X 7 n1 n2) (hx0 : T[x0]? = some (.inl 11)) (hf : f_X12_tellLaw_67 T x0 x1 x2 x3 μ = some r) (hk : k_X12_tellLaw_40 X T n1 n2 x0 x1 x2 r) : Wp X cX12_tellLaw RX12 4 T μ n1 n2 67 [(0, .ref x0), (1, .int x1), (2, .int x2), (3, .int x3)] [] := by
  unfold f_X12_tellLaw_67 at hf
  refine Wp.aload_n (pc := 67) 0 rfl rfl dX12_tellLaw_67 ?_
  refine Wp.getI (pc := 68) hx0 fk_RX12_254 rfl dX12_tellLaw_68 ?_
  refine Wp.if_le (pc := 71) 75 dX12_tellLaw_71 (by decide) (fun hc1 => ?_) (fun hc1 => ?_)
  · rw [if_pos hc1] at hf
    obtain ⟨v2, h3, hf⟩ := bnd hf
    refine Wp.iincN (pc := 75) (lo' := [(0, .ref x0), (1, .int x1), (2, .int x2), (3, .int v2)]) (1 : Int32) (by decide) h3 3 rfl [1, 2, 3, 0] rfl (by decide) dX12_tellLaw_75 ?_
    refine Wp.aload_n (pc := 78) 0 rfl rfl dX12_tellLaw_78 ?_
    obtain ⟨a4, h5, hf⟩ := bnd hf
    refine Wp.getR (pc := 79) (gA_R h5) hx0 fk_RX12_58 rfl dX12_tellLaw_79 ?_
    refine Wp.aload_n (pc := 82) 0 rfl rfl dX12_tellLaw_82 ?_
    refine Wp.getI (pc := 83) hx0 fk_RX12_293 rfl dX12_tellLaw_83 ?_
    refine Wp.aload_n (pc := 86) 0 rfl rfl dX12_tellLaw_86 ?_
    refine Wp.getI (pc := 87) hx0 fk_RX12_296 rfl dX12_tellLaw_87 ?_
    obtain ⟨μ6, h7, hf⟩ := bnd hf
    refine Wp.iast (pc := 90) h7 (gA_T h5) dX12_tellLaw_90 ?_
    refine Wp.aload_n (pc := 91) 0 rfl rfl dX12_tellLaw_91 ?_
    obtain ⟨c8, h9, hf⟩ := bnd hf
    refine Wp.callVv (pc := 92) (st := []) (as := []) (c_X12_condition hx0 h9) ml_RX12_350 mv_X12_condition mb_X12_condition hX (Nat.le_of_ble_eq_true rfl) (by decide) rfl hx0 rfl (by simp) dX12_tellLaw_92 rfl ?_
    refine Wp.aload_n (pc := 95) 0 rfl rfl dX12_tellLaw_95 ?_
    obtain ⟨a10, h11, hf⟩ := bnd hf
    refine Wp.getR (pc := 96) (gA_R h11) hx0 fk_RX12_61 rfl dX12_tellLaw_96 ?_
    refine Wp.aload_n (pc := 99) 0 rfl rfl dX12_tellLaw_99 ?_
    refine Wp.getI (pc := 100) hx0 fk_RX12_293 rfl dX12_tellLaw_100 ?_
    refine Wp.aload_n (pc := 103) 0 rfl rfl dX12_tellLaw_103 ?_
    refine Wp.getI (pc := 104) hx0 fk_RX12_296 rfl dX12_tellLaw_104 ?_
    obtain ⟨μ12, h13, hf⟩ := bnd hf
    refine Wp.iast (pc := 107) h13 (gA_T h11) dX12_tellLaw_107 ?_
    refine Wp.aload_n (pc := 108) 0 rfl rfl dX12_tellLaw_108 ?_
    refine Wp.bipush (pc := 109) (23 : Int32) (by decide) dX12_tellLaw_109 ?_
    obtain ⟨c14, h15, hf⟩ := bnd hf
    refine Wp.callVv (pc := 111) (st := []) (as := [.int (23 : Int32)]) (c_X12_must hx0 h15) ml_RX12_321 mv_X12_must mb_X12_must hX (Nat.le_of_ble_eq_true rfl) (by decide) rfl hx0 rfl (by simp) dX12_tellLaw_111 rfl ?_
    refine Wp.aload_n (pc := 114) 0 rfl rfl dX12_tellLaw_114 ?_
    obtain ⟨c16, h17, hf⟩ := bnd hf
    refine Wp.callVv (pc := 115) (st := []) (as := []) (c_X12_term hx0 h17) ml_RX12_353 mv_X12_term mb_X12_term hX (Nat.le_of_ble_eq_true rfl) (by decide) rfl hx0 rfl (by simp) dX12_tellLaw_115 rfl ?_
    refine Wp.aload_n (pc := 118) 0 rfl rfl dX12_tellLaw_118 ?_
    refine Wp.bipush (pc := 119) (24 : Int32) (by decide) dX12_tellLaw_119 ?_
    obtain ⟨c18, h19, hf⟩ := bnd hf
    refine Wp.callVv (pc := 121) (st := []) (as := [.int (24 : Int32)]) (c_X12_must hx0 h19) ml_RX12_321 mv_X12_must mb_X12_must hX (Nat.le_of_ble_eq_true rfl) (by decide) rfl hx0 rfl (by simp) dX12_tellLaw_121 rfl ?_
    refine Wp.goto (pc := 124) 40 dX12_tellLaw_124 (by decide) ?_
    cases hf
    exact hk
  · rw [if_neg hc1] at hf
    refine Wp.lo' (lo' := []) [] rfl ?_
    cases hf
    exact hk
set_option maxHeartbeats 4000000 in
set_option maxRecDepth 100000 in
theorem w_X12_tellLaw_40 {X : CX} {T : List Dsc} {n1 n2 : Nat} {x0 : Nat} {x1 : Int32} {x2 : Int32} {x3 : Int32} {μ : Mem} {r : ((Int32 × Mem) ⊕ ((Mem) ⊕ (Mem)))} (hX : XR X 7 n1 n2) (hx0 : T[x0]? = some (.inl 11)) (hf : f_X12_tellLaw_40 T x0 x1 x2 x3 μ = some r) (hk : k_X12_tellLaw_40 X T n1 n2 x0 x1 x2 r) : Wp X cX12_tellLaw RX12 4 T μ n1 n2 40 [(0, .ref x0), (1, .int x1), (2, .int x2), (3, .int x3)] [] := by
  unfold f_X12_tellLaw_40 at hf
  refine Wp.aload_n (pc := 40) 0 rfl rfl dX12_tellLaw_40 ?_
  refine Wp.getI (pc := 41) hx0 fk_RX12_254 rfl dX12_tellLaw_41 ?_
  refine Wp.if_ne (pc := 44) 127 dX12_tellLaw_44 (by decide) (fun hc1 => ?_) (fun hc1 => ?_)
  · rw [if_neg hc1] at hf
    refine Wp.lo' (lo' := [(0, .ref x0), (1, .int x1), (2, .int x2)]) [0, 1, 2] rfl ?_
    cases hf
    exact hk
  · rw [if_pos hc1] at hf
    refine Wp.aload_n (pc := 47) 0 rfl rfl dX12_tellLaw_47 ?_
    refine Wp.bipush (pc := 48) (22 : Int32) (by decide) dX12_tellLaw_48 ?_
    obtain ⟨c2, h3, hf⟩ := bnd hf
    refine Wp.callVi (pc := 50) (st := []) (as := [.int (22 : Int32)]) (c_X12_is hx0 h3) ml_RX12_272 mv_X12_is mb_X12_is hX (Nat.le_of_ble_eq_true rfl) (by decide) rfl hx0 rfl (by simp) dX12_tellLaw_50 rfl ?_
    refine Wp.if_eq (pc := 53) 127 dX12_tellLaw_53 (by decide) (fun hc4 => ?_) (fun hc4 => ?_)
    · rw [if_pos hc4] at hf
      refine Wp.lo' (lo' := [(0, .ref x0), (1, .int x1), (2, .int x2)]) [0, 1, 2] rfl ?_
      cases hf
      exact hk
    · rw [if_neg hc4] at hf
      refine Wp.iload_n (pc := 56) 3 rfl rfl dX12_tellLaw_56 ?_
      refine Wp.bipush (pc := 57) (8 : Int32) (by decide) dX12_tellLaw_57 ?_
      refine Wp.icmp_ne (pc := 59) 67 dX12_tellLaw_59 (by decide) (fun hc5 => ?_) (fun hc5 => ?_)
      · rw [if_neg hc5] at hf
        exact w_X12_tellLaw_67 hX hx0 hf hk
      · rw [if_pos hc5] at hf
        refine Wp.aload_n (pc := 62) 0 rfl rfl dX12_tellLaw_62 ?_
        refine Wp.iconst (pc := 63) (2 : Int32) (by decide) dX12_tellLaw_63 ?_
        obtain ⟨c6, h7, hf⟩ := bnd hf
        refine Wp.callVv (pc := 64) (st := []) (as := [.int (2 : Int32)]) (c_X12_fail hx0 h7) ml_RX12_269 mv_X12_fail mb_X12_fail hX (Nat.le_of_ble_eq_true rfl) (by decide) rfl hx0 rfl (by simp) dX12_tellLaw_64 rfl ?_
        exact w_X12_tellLaw_67 hX hx0 hf hk
theorem wl_X12_tellLaw_40 {X : CX} {T : List Dsc} {n1 n2 : Nat} {x0 : Nat} {x1 : Int32} {x2 : Int32} {x3 : Int32} {μ : Mem} {e : ((Mem) ⊕ (Mem))} (hX : XR X 7 n1 n2) (hx0 : T[x0]? = some (.inl 11)) (h : loop (g_X12_tellLaw_40 T x0 x1 x2) (x3, μ) = some e) (he0 : ∀ e_, e = (Sum.inl e_) → Wp X cX12_tellLaw RX12 4 T e_ n1 n2 74 [] []) (he1 : ∀ e_, e = (Sum.inr e_) → Wp X cX12_tellLaw RX12 4 T e_ n1 n2 127 [(0, .ref x0), (1, .int x1), (2, .int x2)] []) : Wp X cX12_tellLaw RX12 4 T μ n1 n2 40 [(0, .ref x0), (1, .int x1), (2, .int x2), (3, .int x3)] [] :=
  loop_ok (K := k_X12_tellLaw_40 X T n1 n2 x0 x1 x2) (fun s r hf hk => w_X12_tellLaw_40 hX hx0 hf hk) h (by rcases e with e | e <;> first | exact he0 _ rfl | exact he1 _ rfl)
set_option maxHeartbeats 4000000 in
set_option maxRecDepth 100000 in
theorem w_X12_tellLaw_127 {X : CX} {T : List Dsc} {n1 n2 : Nat} {x0 : Nat} {x1 : Int32} {x2 : Int32} {μ : Mem} {r : Mem} (hX : XR X 7 n1 n2) (hx0 : T[x0]? = some (.inl 11)) (hf : f_X12_tellLaw_127 T x0 x1 x2 μ = some r) (hk : FnV X cX12_tellLaw RX12 4 T n1 n2 r) : Wp X cX12_tellLaw RX12 4 T μ n1 n2 127 [(0, .ref x0), (1, .int x1), (2, .int x2)] [] := by
  unfold f_X12_tellLaw_127 at hf
  refine Wp.aload_n (pc := 127) 0 rfl rfl dX12_tellLaw_127 ?_
  obtain ⟨a1, h2, hf⟩ := bnd hf
  refine Wp.getR (pc := 128) (gA_R h2) hx0 fk_RX12_58 rfl dX12_tellLaw_128 ?_
  refine Wp.aload_n (pc := 131) 0 rfl rfl dX12_tellLaw_131 ?_
  refine Wp.getI (pc := 132) hx0 fk_RX12_293 rfl dX12_tellLaw_132 ?_
  refine Wp.aload_n (pc := 135) 0 rfl rfl dX12_tellLaw_135 ?_
  refine Wp.getI (pc := 136) hx0 fk_RX12_296 rfl dX12_tellLaw_136 ?_
  obtain ⟨μ3, h4, hf⟩ := bnd hf
  refine Wp.iast (pc := 139) h4 (gA_T h2) dX12_tellLaw_139 ?_
  refine Wp.aload_n (pc := 140) 0 rfl rfl dX12_tellLaw_140 ?_
  obtain ⟨a5, h6, hf⟩ := bnd hf
  refine Wp.getR (pc := 141) (gA_R h6) hx0 fk_RX12_61 rfl dX12_tellLaw_141 ?_
  refine Wp.aload_n (pc := 144) 0 rfl rfl dX12_tellLaw_144 ?_
  refine Wp.getI (pc := 145) hx0 fk_RX12_293 rfl dX12_tellLaw_145 ?_
  refine Wp.aload_n (pc := 148) 0 rfl rfl dX12_tellLaw_148 ?_
  refine Wp.getI (pc := 149) hx0 fk_RX12_296 rfl dX12_tellLaw_149 ?_
  obtain ⟨μ7, h8, hf⟩ := bnd hf
  refine Wp.iast (pc := 152) h8 (gA_T h6) dX12_tellLaw_152 ?_
  refine Wp.aload_n (pc := 153) 0 rfl rfl dX12_tellLaw_153 ?_
  obtain ⟨c9, h10, hf⟩ := bnd hf
  refine Wp.callVv (pc := 154) (st := []) (as := []) (c_X12_term hx0 h10) ml_RX12_353 mv_X12_term mb_X12_term hX (Nat.le_of_ble_eq_true rfl) (by decide) rfl hx0 rfl (by simp) dX12_tellLaw_154 rfl ?_
  refine Wp.aload_n (pc := 157) 0 rfl rfl dX12_tellLaw_157 ?_
  obtain ⟨a11, h12, hf⟩ := bnd hf
  refine Wp.getR (pc := 158) (gA_R h12) hx0 fk_RX12_55 rfl dX12_tellLaw_158 ?_
  refine Wp.iload_n (pc := 161) 1 rfl rfl dX12_tellLaw_161 ?_
  refine Wp.aload_n (pc := 162) 0 rfl rfl dX12_tellLaw_162 ?_
  refine Wp.getI (pc := 163) hx0 fk_RX12_293 rfl dX12_tellLaw_163 ?_
  obtain ⟨μ13, h14, hf⟩ := bnd hf
  refine Wp.iast (pc := 166) h14 (gA_T h12) dX12_tellLaw_166 ?_
  refine Wp.aload_n (pc := 167) 0 rfl rfl dX12_tellLaw_167 ?_
  refine Wp.iconst (pc := 168) (4 : Int32) (by decide) dX12_tellLaw_168 ?_
  obtain ⟨c15, h16, hf⟩ := bnd hf
  refine Wp.callVv (pc := 169) (st := []) (as := [.int (4 : Int32)]) (c_X12_must hx0 h16) ml_RX12_321 mv_X12_must mb_X12_must hX (Nat.le_of_ble_eq_true rfl) (by decide) rfl hx0 rfl (by simp) dX12_tellLaw_169 rfl ?_
  refine Wp.aload_n (pc := 172) 0 rfl rfl dX12_tellLaw_172 ?_
  refine Wp.getI (pc := 173) hx0 fk_RX12_254 rfl dX12_tellLaw_173 ?_
  refine Wp.if_le (pc := 176) 180 dX12_tellLaw_176 (by decide) (fun hc17 => ?_) (fun hc17 => ?_)
  · rw [if_pos hc17] at hf
    refine Wp.aload_n (pc := 180) 0 rfl rfl dX12_tellLaw_180 ?_
    refine Wp.iload_n (pc := 181) 2 rfl rfl dX12_tellLaw_181 ?_
    refine Wp.aload_n (pc := 182) 0 rfl rfl dX12_tellLaw_182 ?_
    obtain ⟨a18, h19, hf⟩ := bnd hf
    refine Wp.getR (pc := 183) (gA_R h19) hx0 fk_RX12_49 rfl dX12_tellLaw_183 ?_
    refine Wp.aload_n (pc := 186) 0 rfl rfl dX12_tellLaw_186 ?_
    refine Wp.getI (pc := 187) hx0 fk_RX12_287 rfl dX12_tellLaw_187 ?_
    obtain ⟨v20, h21, hf⟩ := bnd hf
    refine Wp.iald (pc := 190) h21 (gA_T h19) dX12_tellLaw_190 ?_
    obtain ⟨c22, h23, hf⟩ := bnd hf
    refine Wp.callVv (pc := 191) (st := []) (as := [.int x2, .int v20]) (c_X12_notes hx0 h23) ml_RX12_347 mv_X12_notes mb_X12_notes hX (Nat.le_of_ble_eq_true rfl) (by decide) rfl hx0 rfl (by simp) dX12_tellLaw_191 rfl ?_
    refine Wp.aload_n (pc := 194) 0 rfl rfl dX12_tellLaw_194 ?_
    obtain ⟨a24, h25, hf⟩ := bnd hf
    refine Wp.getR (pc := 195) (gA_R h25) hx0 fk_RX12_49 rfl dX12_tellLaw_195 ?_
    refine Wp.aload_n (pc := 198) 0 rfl rfl dX12_tellLaw_198 ?_
    refine Wp.getI (pc := 199) hx0 fk_RX12_287 rfl dX12_tellLaw_199 ?_
    refine Wp.dup2 (pc := 202) rfl rfl dX12_tellLaw_202 ?_
    obtain ⟨v26, h27, hf⟩ := bnd hf
    refine Wp.iald (pc := 203) h27 (gA_T h25) dX12_tellLaw_203 ?_
    refine Wp.iconst (pc := 204) (1 : Int32) (by decide) dX12_tellLaw_204 ?_
    refine Wp.iadd (pc := 205) dX12_tellLaw_205 ?_
    obtain ⟨μ28, h29, hf⟩ := bnd hf
    refine Wp.iast (pc := 206) h29 (gA_T h25) dX12_tellLaw_206 ?_
    cases hf
    exact hk _ _ dX12_tellLaw_207
  · rw [if_neg hc17] at hf
    cases hf
    exact hk _ _ dX12_tellLaw_179
set_option maxHeartbeats 4000000 in
set_option maxRecDepth 100000 in
theorem w_X12_tellLaw {X : CX} {T : List Dsc} {n1 n2 : Nat} {x0 : Nat} {μ : Mem} {r : Mem} (hX : XR X 7 n1 n2) (hx0 : T[x0]? = some (.inl 11)) (hf : F_X12_tellLaw T x0 μ = some r) (hk : FnV X cX12_tellLaw RX12 4 T n1 n2 r) : Wp X cX12_tellLaw RX12 4 T μ n1 n2 0 [(0, .ref x0)] [] := by
  unfold F_X12_tellLaw at hf
  refine Wp.bipush (pc := 0) (6 : Int32) (by decide) dX12_tellLaw_0 ?_
  refine Wp.aload_n (pc := 2) 0 rfl rfl dX12_tellLaw_2 ?_
  refine Wp.getI (pc := 3) hx0 fk_RX12_287 rfl dX12_tellLaw_3 ?_
  refine Wp.imul (pc := 6) dX12_tellLaw_6 ?_
  refine Wp.aload_n (pc := 7) 0 rfl rfl dX12_tellLaw_7 ?_
  obtain ⟨a1, h2, hf⟩ := bnd hf
  refine Wp.getR (pc := 8) (gA_R h2) hx0 fk_RX12_49 rfl dX12_tellLaw_8 ?_
  refine Wp.aload_n (pc := 11) 0 rfl rfl dX12_tellLaw_11 ?_
  refine Wp.getI (pc := 12) hx0 fk_RX12_287 rfl dX12_tellLaw_12 ?_
  obtain ⟨v3, h4, hf⟩ := bnd hf
  refine Wp.iald (pc := 15) h4 (gA_T h2) dX12_tellLaw_15 ?_
  refine Wp.iadd (pc := 16) dX12_tellLaw_16 ?_
  obtain ⟨v5, h6, hf⟩ := bnd hf
  refine Wp.nI' h6 ?_
  refine Wp.istore_n (pc := 17) (lo' := [(0, .ref x0), (1, .int v5)]) [1, 0] rfl (by decide) rfl dX12_tellLaw_17 ?_
  refine Wp.aload_n (pc := 18) 0 rfl rfl dX12_tellLaw_18 ?_
  obtain ⟨c7, h8, hf⟩ := bnd hf
  refine Wp.callVi (pc := 19) (st := []) (as := []) (c_X12_named hx0 h8) ml_RX12_344 mv_X12_named mb_X12_named hX (Nat.le_of_ble_eq_true rfl) (by decide) rfl hx0 rfl (by simp) dX12_tellLaw_19 rfl ?_
  refine Wp.istore_n (pc := 22) (lo' := [(0, .ref x0), (1, .int v5), (2, .int c7.1)]) [1, 2, 0] rfl (by decide) rfl dX12_tellLaw_22 ?_
  refine Wp.aload_n (pc := 23) 0 rfl rfl dX12_tellLaw_23 ?_
  refine Wp.iconst (pc := 24) (5 : Int32) (by decide) dX12_tellLaw_24 ?_
  obtain ⟨c9, h10, hf⟩ := bnd hf
  refine Wp.callVv (pc := 25) (st := []) (as := [.int (5 : Int32)]) (c_X12_must hx0 h10) ml_RX12_321 mv_X12_must mb_X12_must hX (Nat.le_of_ble_eq_true rfl) (by decide) rfl hx0 rfl (by simp) dX12_tellLaw_25 rfl ?_
  refine Wp.aload_n (pc := 28) 0 rfl rfl dX12_tellLaw_28 ?_
  obtain ⟨a11, h12, hf⟩ := bnd hf
  refine Wp.getR (pc := 29) (gA_R h12) hx0 fk_RX12_52 rfl dX12_tellLaw_29 ?_
  refine Wp.iload_n (pc := 32) 1 rfl rfl dX12_tellLaw_32 ?_
  refine Wp.aload_n (pc := 33) 0 rfl rfl dX12_tellLaw_33 ?_
  refine Wp.getI (pc := 34) hx0 fk_RX12_293 rfl dX12_tellLaw_34 ?_
  obtain ⟨μ13, h14, hf⟩ := bnd hf
  refine Wp.iast (pc := 37) h14 (gA_T h12) dX12_tellLaw_37 ?_
  refine Wp.iconst (pc := 38) (0 : Int32) (by decide) dX12_tellLaw_38 ?_
  refine Wp.istore_n (pc := 39) (lo' := [(0, .ref x0), (1, .int v5), (2, .int c7.1), (3, .int (0 : Int32))]) [1, 2, 3, 0] rfl (by decide) rfl dX12_tellLaw_39 ?_
  obtain ⟨e15, h16, hf⟩ := bnd hf
  refine wl_X12_tellLaw_40 hX hx0 h16 (fun e15_0 hq => ?_) (fun e15_1 hq => ?_)
  · rw [hq, Sum.elim_inl] at hf
    cases hf
    exact hk _ _ dX12_tellLaw_74
  · rw [hq, Sum.elim_inr] at hf
    exact w_X12_tellLaw_127 hX hx0 hf hk
theorem c_X12_tellLaw {T : List Dsc} {x0 : Nat} {μ : Mem} {r : Mem} (hx0 : T[x0]? = some (.inl 11)) (hf : F_X12_tellLaw T x0 μ = some r) : Ct 7 yX12_tellLaw cX12_tellLaw 4 none T μ [.ref x0] none r := Ct.ofV (by decide +kernel) (Nat.le_of_ble_eq_true rfl) (fun X hX hk => w_X12_tellLaw hX hx0 hf hk)
theorem dX12_part_0 : decode cX12_part 0 = .ok (.aload_n 0, 1) := by decide +kernel
theorem dX12_part_1 : decode cX12_part 1 = .ok (.getfield 257, 3) := by decide +kernel
theorem dX12_part_4 : decode cX12_part 4 = .ok (.istore_n 1, 1) := by decide +kernel
theorem dX12_part_5 : decode cX12_part 5 = .ok (.aload_n 0, 1) := by decide +kernel
theorem dX12_part_6 : decode cX12_part 6 = .ok (.iconst 0, 1) := by decide +kernel
theorem dX12_part_7 : decode cX12_part 7 = .ok (.sipush 9999, 3) := by decide +kernel
theorem dX12_part_10 : decode cX12_part 10 = .ok (.invokevirtual 317, 3) := by decide +kernel
theorem dX12_part_13 : decode cX12_part 13 = .ok (.istore_n 2, 1) := by decide +kernel
theorem dX12_part_14 : decode cX12_part 14 = .ok (.aload_n 0, 1) := by decide +kernel
theorem dX12_part_15 : decode cX12_part 15 = .ok (.getfield 254, 3) := by decide +kernel
theorem dX12_part_18 : decode cX12_part 18 = .ok (.ifCond .le 5, 3) := by decide +kernel
theorem dX12_part_21 : decode cX12_part 21 = .ok (.iconst 0, 1) := by decide +kernel
theorem dX12_part_22 : decode cX12_part 22 = .ok (.ireturn, 1) := by decide +kernel
theorem dX12_part_23 : decode cX12_part 23 = .ok (.aload_n 0, 1) := by decide +kernel
theorem dX12_part_24 : decode cX12_part 24 = .ok (.getfield 122, 3) := by decide +kernel
theorem dX12_part_27 : decode cX12_part 27 = .ok (.aload_n 0, 1) := by decide +kernel
theorem dX12_part_28 : decode cX12_part 28 = .ok (.getfield 302, 3) := by decide +kernel
theorem dX12_part_31 : decode cX12_part 31 = .ok (.iload_n 1, 1) := by decide +kernel
theorem dX12_part_32 : decode cX12_part 32 = .ok (.iastore, 1) := by decide +kernel
theorem dX12_part_33 : decode cX12_part 33 = .ok (.aload_n 0, 1) := by decide +kernel
theorem dX12_part_34 : decode cX12_part 34 = .ok (.dup, 1) := by decide +kernel
theorem dX12_part_35 : decode cX12_part 35 = .ok (.getfield 302, 3) := by decide +kernel
theorem dX12_part_38 : decode cX12_part 38 = .ok (.iconst 1, 1) := by decide +kernel
theorem dX12_part_39 : decode cX12_part 39 = .ok (.iadd, 1) := by decide +kernel
theorem dX12_part_40 : decode cX12_part 40 = .ok (.putfield 302, 3) := by decide +kernel
theorem dX12_part_43 : decode cX12_part 43 = .ok (.iload_n 2, 1) := by decide +kernel
theorem dX12_part_44 : decode cX12_part 44 = .ok (.ireturn, 1) := by decide +kernel
set_option maxHeartbeats 4000000 in
set_option maxRecDepth 100000 in
theorem w_X12_part {X : CX} {T : List Dsc} {n1 n2 : Nat} {x0 : Nat} {μ : Mem} {r : (Int32 × Mem)} (hX : XR X 4 n1 n2) (hx0 : T[x0]? = some (.inl 11)) (hf : F_X12_part T x0 μ = some r) (hk : FnI X cX12_part RX12 3 T n1 n2 r) : Wp X cX12_part RX12 3 T μ n1 n2 0 [(0, .ref x0)] [] := by
  unfold F_X12_part at hf
  refine Wp.aload_n (pc := 0) 0 rfl rfl dX12_part_0 ?_
  refine Wp.getI (pc := 1) hx0 fk_RX12_257 rfl dX12_part_1 ?_
  obtain ⟨v1, h2, hf⟩ := bnd hf
  refine Wp.nI' h2 ?_
  refine Wp.istore_n (pc := 4) (lo' := [(0, .ref x0), (1, .int v1)]) [1, 0] rfl (by decide) rfl dX12_part_4 ?_
  refine Wp.aload_n (pc := 5) 0 rfl rfl dX12_part_5 ?_
  refine Wp.iconst (pc := 6) (0 : Int32) (by decide) dX12_part_6 ?_
  refine Wp.sipush (pc := 7) (9999 : Int32) (by decide) dX12_part_7 ?_
  obtain ⟨c3, h4, hf⟩ := bnd hf
  refine Wp.callVi (pc := 10) (st := []) (as := [.int (0 : Int32), .int (9999 : Int32)]) (c_X12_bounded hx0 h4) ml_RX12_317 mv_X12_bounded mb_X12_bounded hX (Nat.le_of_ble_eq_true rfl) (by decide) rfl hx0 rfl (by simp) dX12_part_10 rfl ?_
  refine Wp.istore_n (pc := 13) (lo' := [(0, .ref x0), (1, .int v1), (2, .int c3.1)]) [1, 2, 0] rfl (by decide) rfl dX12_part_13 ?_
  refine Wp.aload_n (pc := 14) 0 rfl rfl dX12_part_14 ?_
  refine Wp.getI (pc := 15) hx0 fk_RX12_254 rfl dX12_part_15 ?_
  refine Wp.if_le (pc := 18) 23 dX12_part_18 (by decide) (fun hc5 => ?_) (fun hc5 => ?_)
  · rw [if_pos hc5] at hf
    refine Wp.aload_n (pc := 23) 0 rfl rfl dX12_part_23 ?_
    obtain ⟨a6, h7, hf⟩ := bnd hf
    refine Wp.getR (pc := 24) (gA_R h7) hx0 fk_RX12_122 rfl dX12_part_24 ?_
    refine Wp.aload_n (pc := 27) 0 rfl rfl dX12_part_27 ?_
    refine Wp.getI (pc := 28) hx0 fk_RX12_302 rfl dX12_part_28 ?_
    refine Wp.iload_n (pc := 31) 1 rfl rfl dX12_part_31 ?_
    obtain ⟨μ8, h9, hf⟩ := bnd hf
    refine Wp.iast (pc := 32) h9 (gA_T h7) dX12_part_32 ?_
    refine Wp.aload_n (pc := 33) 0 rfl rfl dX12_part_33 ?_
    refine Wp.dup (pc := 34) rfl dX12_part_34 ?_
    refine Wp.getI (pc := 35) hx0 fk_RX12_302 rfl dX12_part_35 ?_
    refine Wp.iconst (pc := 38) (1 : Int32) (by decide) dX12_part_38 ?_
    refine Wp.iadd (pc := 39) dX12_part_39 ?_
    obtain ⟨μ10, h11, hf⟩ := bnd hf
    refine Wp.ptI (pc := 40) h11 hx0 fk_RX12_302 ff_RX12_11_51 rfl dX12_part_40 ?_
    refine Wp.iload_n (pc := 43) 2 rfl rfl dX12_part_43 ?_
    cases hf
    exact hk _ _ dX12_part_44
  · rw [if_neg hc5] at hf
    refine Wp.iconst (pc := 21) (0 : Int32) (by decide) dX12_part_21 ?_
    cases hf
    exact hk _ _ dX12_part_22
theorem c_X12_part {T : List Dsc} {x0 : Nat} {μ : Mem} {r : (Int32 × Mem)} (hx0 : T[x0]? = some (.inl 11)) (hf : F_X12_part T x0 μ = some r) : Ct 4 yX12_part cX12_part 3 (some .int) T μ [.ref x0] (some (.int r.1)) r.2 := Ct.ofI (by decide +kernel) (Nat.le_of_ble_eq_true rfl) (fun X hX hk => w_X12_part hX hx0 hf hk)
theorem dX12_tellMan_0 : decode cX12_tellMan 0 = .ok (.bipush 12, 2) := by decide +kernel
theorem dX12_tellMan_2 : decode cX12_tellMan 2 = .ok (.aload_n 0, 1) := by decide +kernel
theorem dX12_tellMan_3 : decode cX12_tellMan 3 = .ok (.getfield 287, 3) := by decide +kernel
theorem dX12_tellMan_6 : decode cX12_tellMan 6 = .ok (.imul, 1) := by decide +kernel
theorem dX12_tellMan_7 : decode cX12_tellMan 7 = .ok (.aload_n 0, 1) := by decide +kernel
theorem dX12_tellMan_8 : decode cX12_tellMan 8 = .ok (.getfield 70, 3) := by decide +kernel
theorem dX12_tellMan_11 : decode cX12_tellMan 11 = .ok (.aload_n 0, 1) := by decide +kernel
theorem dX12_tellMan_12 : decode cX12_tellMan 12 = .ok (.getfield 287, 3) := by decide +kernel
theorem dX12_tellMan_15 : decode cX12_tellMan 15 = .ok (.iaload, 1) := by decide +kernel
theorem dX12_tellMan_16 : decode cX12_tellMan 16 = .ok (.iadd, 1) := by decide +kernel
theorem dX12_tellMan_17 : decode cX12_tellMan 17 = .ok (.istore_n 1, 1) := by decide +kernel
theorem dX12_tellMan_18 : decode cX12_tellMan 18 = .ok (.aload_n 0, 1) := by decide +kernel
theorem dX12_tellMan_19 : decode cX12_tellMan 19 = .ok (.invokevirtual 344, 3) := by decide +kernel
theorem dX12_tellMan_22 : decode cX12_tellMan 22 = .ok (.istore_n 2, 1) := by decide +kernel
theorem dX12_tellMan_23 : decode cX12_tellMan 23 = .ok (.aload_n 0, 1) := by decide +kernel
theorem dX12_tellMan_24 : decode cX12_tellMan 24 = .ok (.getfield 257, 3) := by decide +kernel
theorem dX12_tellMan_27 : decode cX12_tellMan 27 = .ok (.istore_n 3, 1) := by decide +kernel
theorem dX12_tellMan_28 : decode cX12_tellMan 28 = .ok (.aload_n 0, 1) := by decide +kernel
theorem dX12_tellMan_29 : decode cX12_tellMan 29 = .ok (.iconst 1, 1) := by decide +kernel
theorem dX12_tellMan_30 : decode cX12_tellMan 30 = .ok (.invokevirtual 321, 3) := by decide +kernel
theorem dX12_tellMan_33 : decode cX12_tellMan 33 = .ok (.aload_n 0, 1) := by decide +kernel
theorem dX12_tellMan_34 : decode cX12_tellMan 34 = .ok (.getfield 73, 3) := by decide +kernel
theorem dX12_tellMan_37 : decode cX12_tellMan 37 = .ok (.iload_n 1, 1) := by decide +kernel
theorem dX12_tellMan_38 : decode cX12_tellMan 38 = .ok (.iconst (-1), 1) := by decide +kernel
theorem dX12_tellMan_39 : decode cX12_tellMan 39 = .ok (.iastore, 1) := by decide +kernel
theorem dX12_tellMan_40 : decode cX12_tellMan 40 = .ok (.iconst 0, 1) := by decide +kernel
theorem dX12_tellMan_41 : decode cX12_tellMan 41 = .ok (.istore 4, 2) := by decide +kernel
theorem dX12_tellMan_43 : decode cX12_tellMan 43 = .ok (.iload 4, 2) := by decide +kernel
theorem dX12_tellMan_45 : decode cX12_tellMan 45 = .ok (.aload_n 0, 1) := by decide +kernel
theorem dX12_tellMan_46 : decode cX12_tellMan 46 = .ok (.getfield 290, 3) := by decide +kernel
theorem dX12_tellMan_49 : decode cX12_tellMan 49 = .ok (.if_icmp .ge 56, 3) := by decide +kernel
theorem dX12_tellMan_52 : decode cX12_tellMan 52 = .ok (.aload_n 0, 1) := by decide +kernel
theorem dX12_tellMan_53 : decode cX12_tellMan 53 = .ok (.getfield 254, 3) := by decide +kernel
theorem dX12_tellMan_56 : decode cX12_tellMan 56 = .ok (.ifCond .ne 49, 3) := by decide +kernel
theorem dX12_tellMan_59 : decode cX12_tellMan 59 = .ok (.aload_n 0, 1) := by decide +kernel
theorem dX12_tellMan_60 : decode cX12_tellMan 60 = .ok (.getfield 40, 3) := by decide +kernel
theorem dX12_tellMan_63 : decode cX12_tellMan 63 = .ok (.iload 4, 2) := by decide +kernel
theorem dX12_tellMan_65 : decode cX12_tellMan 65 = .ok (.laload, 1) := by decide +kernel
theorem dX12_tellMan_66 : decode cX12_tellMan 66 = .ok (.aload_n 0, 1) := by decide +kernel
theorem dX12_tellMan_67 : decode cX12_tellMan 67 = .ok (.getfield 30, 3) := by decide +kernel
theorem dX12_tellMan_70 : decode cX12_tellMan 70 = .ok (.iload_n 3, 1) := by decide +kernel
theorem dX12_tellMan_71 : decode cX12_tellMan 71 = .ok (.laload, 1) := by decide +kernel
theorem dX12_tellMan_72 : decode cX12_tellMan 72 = .ok (.lcmp, 1) := by decide +kernel
theorem dX12_tellMan_73 : decode cX12_tellMan 73 = .ok (.ifCond .ne 26, 3) := by decide +kernel
theorem dX12_tellMan_76 : decode cX12_tellMan 76 = .ok (.aload_n 0, 1) := by decide +kernel
theorem dX12_tellMan_77 : decode cX12_tellMan 77 = .ok (.getfield 43, 3) := by decide +kernel
theorem dX12_tellMan_80 : decode cX12_tellMan 80 = .ok (.iload 4, 2) := by decide +kernel
theorem dX12_tellMan_82 : decode cX12_tellMan 82 = .ok (.iaload, 1) := by decide +kernel
theorem dX12_tellMan_83 : decode cX12_tellMan 83 = .ok (.ifCond .lt 16, 3) := by decide +kernel
theorem dX12_tellMan_86 : decode cX12_tellMan 86 = .ok (.aload_n 0, 1) := by decide +kernel
theorem dX12_tellMan_87 : decode cX12_tellMan 87 = .ok (.getfield 73, 3) := by decide +kernel
theorem dX12_tellMan_90 : decode cX12_tellMan 90 = .ok (.iload_n 1, 1) := by decide +kernel
theorem dX12_tellMan_91 : decode cX12_tellMan 91 = .ok (.aload_n 0, 1) := by decide +kernel
theorem dX12_tellMan_92 : decode cX12_tellMan 92 = .ok (.getfield 43, 3) := by decide +kernel
theorem dX12_tellMan_95 : decode cX12_tellMan 95 = .ok (.iload 4, 2) := by decide +kernel
theorem dX12_tellMan_97 : decode cX12_tellMan 97 = .ok (.iaload, 1) := by decide +kernel
theorem dX12_tellMan_98 : decode cX12_tellMan 98 = .ok (.iastore, 1) := by decide +kernel
theorem dX12_tellMan_99 : decode cX12_tellMan 99 = .ok (.iinc 4 1, 3) := by decide +kernel
theorem dX12_tellMan_102 : decode cX12_tellMan 102 = .ok (.goto (-59), 3) := by decide +kernel
theorem dX12_tellMan_105 : decode cX12_tellMan 105 = .ok (.aload_n 0, 1) := by decide +kernel
theorem dX12_tellMan_106 : decode cX12_tellMan 106 = .ok (.getfield 254, 3) := by decide +kernel
theorem dX12_tellMan_109 : decode cX12_tellMan 109 = .ok (.ifCond .ne 18, 3) := by decide +kernel
theorem dX12_tellMan_112 : decode cX12_tellMan 112 = .ok (.aload_n 0, 1) := by decide +kernel
theorem dX12_tellMan_113 : decode cX12_tellMan 113 = .ok (.getfield 73, 3) := by decide +kernel
theorem dX12_tellMan_116 : decode cX12_tellMan 116 = .ok (.iload_n 1, 1) := by decide +kernel
theorem dX12_tellMan_117 : decode cX12_tellMan 117 = .ok (.iaload, 1) := by decide +kernel
theorem dX12_tellMan_118 : decode cX12_tellMan 118 = .ok (.ifCond .ge 9, 3) := by decide +kernel
theorem dX12_tellMan_121 : decode cX12_tellMan 121 = .ok (.aload_n 0, 1) := by decide +kernel
theorem dX12_tellMan_122 : decode cX12_tellMan 122 = .ok (.iconst 4, 1) := by decide +kernel
theorem dX12_tellMan_123 : decode cX12_tellMan 123 = .ok (.iload_n 3, 1) := by decide +kernel
theorem dX12_tellMan_124 : decode cX12_tellMan 124 = .ok (.invokevirtual 341, 3) := by decide +kernel
theorem dX12_tellMan_127 : decode cX12_tellMan 127 = .ok (.aload_n 0, 1) := by decide +kernel
theorem dX12_tellMan_128 : decode cX12_tellMan 128 = .ok (.getfield 76, 3) := by decide +kernel
theorem dX12_tellMan_131 : decode cX12_tellMan 131 = .ok (.iload_n 1, 1) := by decide +kernel
theorem dX12_tellMan_132 : decode cX12_tellMan 132 = .ok (.aload_n 0, 1) := by decide +kernel
theorem dX12_tellMan_133 : decode cX12_tellMan 133 = .ok (.invokevirtual 334, 3) := by decide +kernel
theorem dX12_tellMan_136 : decode cX12_tellMan 136 = .ok (.iastore, 1) := by decide +kernel
theorem dX12_tellMan_137 : decode cX12_tellMan 137 = .ok (.aload_n 0, 1) := by decide +kernel
theorem dX12_tellMan_138 : decode cX12_tellMan 138 = .ok (.iconst 4, 1) := by decide +kernel
theorem dX12_tellMan_139 : decode cX12_tellMan 139 = .ok (.invokevirtual 321, 3) := by decide +kernel
theorem dX12_tellMan_142 : decode cX12_tellMan 142 = .ok (.aload_n 0, 1) := by decide +kernel
theorem dX12_tellMan_143 : decode cX12_tellMan 143 = .ok (.getfield 254, 3) := by decide +kernel
theorem dX12_tellMan_146 : decode cX12_tellMan 146 = .ok (.ifCond .le 4, 3) := by decide +kernel
theorem dX12_tellMan_149 : decode cX12_tellMan 149 = .ok (.return_, 1) := by decide +kernel
theorem dX12_tellMan_150 : decode cX12_tellMan 150 = .ok (.aload_n 0, 1) := by decide +kernel
theorem dX12_tellMan_151 : decode cX12_tellMan 151 = .ok (.iload_n 2, 1) := by decide +kernel
theorem dX12_tellMan_152 : decode cX12_tellMan 152 = .ok (.iconst (-1), 1) := by decide +kernel
theorem dX12_tellMan_153 : decode cX12_tellMan 153 = .ok (.invokevirtual 347, 3) := by decide +kernel
theorem dX12_tellMan_156 : decode cX12_tellMan 156 = .ok (.aload_n 0, 1) := by decide +kernel
theorem dX12_tellMan_157 : decode cX12_tellMan 157 = .ok (.getfield 70, 3) := by decide +kernel
theorem dX12_tellMan_160 : decode cX12_tellMan 160 = .ok (.aload_n 0, 1) := by decide +kernel
theorem dX12_tellMan_161 : decode cX12_tellMan 161 = .ok (.getfield 287, 3) := by decide +kernel
theorem dX12_tellMan_164 : decode cX12_tellMan 164 = .ok (.dup2, 1) := by decide +kernel
theorem dX12_tellMan_165 : decode cX12_tellMan 165 = .ok (.iaload, 1) := by decide +kernel
theorem dX12_tellMan_166 : decode cX12_tellMan 166 = .ok (.iconst 1, 1) := by decide +kernel
theorem dX12_tellMan_167 : decode cX12_tellMan 167 = .ok (.iadd, 1) := by decide +kernel
theorem dX12_tellMan_168 : decode cX12_tellMan 168 = .ok (.iastore, 1) := by decide +kernel
theorem dX12_tellMan_169 : decode cX12_tellMan 169 = .ok (.return_, 1) := by decide +kernel
def k_X12_tellMan_43 (X : CX) (T : List Dsc) (n1 n2 : Nat) (x0 : Nat) (x1 : Int32) (x2 : Int32) (x3 : Int32) (r : ((Int32 × Mem) ⊕ ((Mem)))) : Prop := match r with
  | .inl s => Wp X cX12_tellMan RX12 5 T s.2 n1 n2 43 [(0, .ref x0), (1, .int x1), (2, .int x2), (3, .int x3), (4, .int s.1)] []
  | .inr e => Wp X cX12_tellMan RX12 5 T e n1 n2 105 [(0, .ref x0), (1, .int x1), (2, .int x2), (3, .int x3)] []
set_option maxHeartbeats 4000000 in
set_option maxRecDepth 100000 in
theorem w_X12_tellMan_99 {X : CX} {T : List Dsc} {n1 n2 : Nat} {x0 : Nat} {x1 : Int32} {x2 : Int32} {x3 : Int32} {x4 : Int32} {μ : Mem} {r : ((Int32 × Mem) ⊕ ((Mem)))} (hX : XR X 5 n1 n2) (hx0 : T[x0]? = some (.inl 11)) (hf : f_X12_tellMan_99 T x0 x1 x2 x3 x4 μ = some r) (hk : k_X12_tellMan_43 X T n1 n2 x0 x1 x2 x3 r) : Wp X cX12_tellMan RX12 5 T μ n1 n2 99 [(0, .ref x0), (1, .int x1), (2, .int x2), (3, .int x3), (4, .int x4)] [] := by
  unfold f_X12_tellMan_99 at hf
  obtain ⟨v1, h2, hf⟩ := bnd hf
  refine Wp.iincN (pc := 99) (lo' := [(0, .ref x0), (1, .int x1), (2, .int x2), (3, .int x3), (4, .int v1)]) (1 : Int32) (by decide) h2 4 rfl [1, 2, 3, 4, 0] rfl (by decide) dX12_tellMan_99 ?_
  refine Wp.goto (pc := 102) 43 dX12_tellMan_102 (by decide) ?_
  cases hf
  exact hk
set_option maxHeartbeats 4000000 in
set_option maxRecDepth 100000 in
theorem w_X12_tellMan_43 {X : CX} {T : List Dsc} {n1 n2 : Nat} {x0 : Nat} {x1 : Int32} {x2 : Int32} {x3 : Int32} {x4 : Int32} {μ : Mem} {r : ((Int32 × Mem) ⊕ ((Mem)))} (hX : XR X 5 n1 n2) (hx0 : T[x0]? = some (.inl 11)) (hf : f_X12_tellMan_43 T x0 x1 x2 x3 x4 μ = some r) (hk : k_X12_tellMan_43 X T n1 n2 x0 x1 x2 x3 r) : Wp X cX12_tellMan RX12 5 T μ n1 n2 43 [(0, .ref x0), (1, .int x1), (2, .int x2), (3, .int x3), (4, .int x4)] [] := by
  unfold f_X12_tellMan_43 at hf
  refine Wp.iload (pc := 43) 4 rfl dX12_tellMan_43 ?_
  refine Wp.aload_n (pc := 45) 0 rfl rfl dX12_tellMan_45 ?_
  refine Wp.getI (pc := 46) hx0 fk_RX12_290 rfl dX12_tellMan_46 ?_
  refine Wp.icmp_ge (pc := 49) 105 dX12_tellMan_49 (by decide) (fun hc1 => ?_) (fun hc1 => ?_)
  · rw [if_pos hc1] at hf
    refine Wp.lo' (lo' := [(0, .ref x0), (1, .int x1), (2, .int x2), (3, .int x3)]) [0, 1, 2, 3] rfl ?_
    cases hf
    exact hk
  · rw [if_neg hc1] at hf
    refine Wp.aload_n (pc := 52) 0 rfl rfl dX12_tellMan_52 ?_
    refine Wp.getI (pc := 53) hx0 fk_RX12_254 rfl dX12_tellMan_53 ?_
    refine Wp.if_ne (pc := 56) 105 dX12_tellMan_56 (by decide) (fun hc2 => ?_) (fun hc2 => ?_)
    · rw [if_neg hc2] at hf
      refine Wp.lo' (lo' := [(0, .ref x0), (1, .int x1), (2, .int x2), (3, .int x3)]) [0, 1, 2, 3] rfl ?_
      cases hf
      exact hk
    · rw [if_pos hc2] at hf
      refine Wp.aload_n (pc := 59) 0 rfl rfl dX12_tellMan_59 ?_
      obtain ⟨a3, h4, hf⟩ := bnd hf
      refine Wp.getR (pc := 60) (gA_R h4) hx0 fk_RX12_40 rfl dX12_tellMan_60 ?_
      refine Wp.iload (pc := 63) 4 rfl dX12_tellMan_63 ?_
      obtain ⟨v5, h6, hf⟩ := bnd hf
      refine Wp.lald (pc := 65) h6 (gA_T h4) dX12_tellMan_65 ?_
      refine Wp.aload_n (pc := 66) 0 rfl rfl dX12_tellMan_66 ?_
      obtain ⟨a7, h8, hf⟩ := bnd hf
      refine Wp.getR (pc := 67) (gA_R h8) hx0 fk_RX12_30 rfl dX12_tellMan_67 ?_
      refine Wp.iload_n (pc := 70) 3 rfl rfl dX12_tellMan_70 ?_
      obtain ⟨v9, h10, hf⟩ := bnd hf
      refine Wp.lald (pc := 71) h10 (gA_T h8) dX12_tellMan_71 ?_
      refine Wp.lcmp (pc := 72) dX12_tellMan_72 ?_
      refine Wp.if_ne (pc := 73) 99 dX12_tellMan_73 (by decide) (fun hc11 => ?_) (fun hc11 => ?_)
      · rw [if_neg hc11] at hf
        exact w_X12_tellMan_99 hX hx0 hf hk
      · rw [if_pos hc11] at hf
        refine Wp.aload_n (pc := 76) 0 rfl rfl dX12_tellMan_76 ?_
        obtain ⟨a12, h13, hf⟩ := bnd hf
        refine Wp.getR (pc := 77) (gA_R h13) hx0 fk_RX12_43 rfl dX12_tellMan_77 ?_
        refine Wp.iload (pc := 80) 4 rfl dX12_tellMan_80 ?_
        obtain ⟨v14, h15, hf⟩ := bnd hf
        refine Wp.iald (pc := 82) h15 (gA_T h13) dX12_tellMan_82 ?_
        refine Wp.if_lt (pc := 83) 99 dX12_tellMan_83 (by decide) (fun hc16 => ?_) (fun hc16 => ?_)
        · rw [if_pos hc16] at hf
          exact w_X12_tellMan_99 hX hx0 hf hk
        · rw [if_neg hc16] at hf
          refine Wp.aload_n (pc := 86) 0 rfl rfl dX12_tellMan_86 ?_
          obtain ⟨a17, h18, hf⟩ := bnd hf
          refine Wp.getR (pc := 87) (gA_R h18) hx0 fk_RX12_73 rfl dX12_tellMan_87 ?_
          refine Wp.iload_n (pc := 90) 1 rfl rfl dX12_tellMan_90 ?_
          refine Wp.aload_n (pc := 91) 0 rfl rfl dX12_tellMan_91 ?_
          obtain ⟨a19, h20, hf⟩ := bnd hf
          refine Wp.getR (pc := 92) (gA_R h20) hx0 fk_RX12_43 rfl dX12_tellMan_92 ?_
          refine Wp.iload (pc := 95) 4 rfl dX12_tellMan_95 ?_
          obtain ⟨v21, h22, hf⟩ := bnd hf
          refine Wp.iald (pc := 97) h22 (gA_T h20) dX12_tellMan_97 ?_
          obtain ⟨μ23, h24, hf⟩ := bnd hf
          refine Wp.iast (pc := 98) h24 (gA_T h18) dX12_tellMan_98 ?_
          exact w_X12_tellMan_99 hX hx0 hf hk
theorem wl_X12_tellMan_43 {X : CX} {T : List Dsc} {n1 n2 : Nat} {x0 : Nat} {x1 : Int32} {x2 : Int32} {x3 : Int32} {x4 : Int32} {μ : Mem} {e : ((Mem))} (hX : XR X 5 n1 n2) (hx0 : T[x0]? = some (.inl 11)) (h : loop (g_X12_tellMan_43 T x0 x1 x2 x3) (x4, μ) = some e) (he : Wp X cX12_tellMan RX12 5 T e n1 n2 105 [(0, .ref x0), (1, .int x1), (2, .int x2), (3, .int x3)] []) : Wp X cX12_tellMan RX12 5 T μ n1 n2 43 [(0, .ref x0), (1, .int x1), (2, .int x2), (3, .int x3), (4, .int x4)] [] :=
  loop_ok (K := k_X12_tellMan_43 X T n1 n2 x0 x1 x2 x3) (fun s r hf hk => w_X12_tellMan_43 hX hx0 hf hk) h he
set_option maxHeartbeats 4000000 in
set_option maxRecDepth 100000 in
theorem w_X12_tellMan_127 {X : CX} {T : List Dsc} {n1 n2 : Nat} {x0 : Nat} {x1 : Int32} {x2 : Int32} {μ : Mem} {r : Mem} (hX : XR X 5 n1 n2) (hx0 : T[x0]? = some (.inl 11)) (hf : f_X12_tellMan_127 T x0 x1 x2 μ = some r) (hk : FnV X cX12_tellMan RX12 5 T n1 n2 r) : Wp X cX12_tellMan RX12 5 T μ n1 n2 127 [(0, .ref x0), (1, .int x1), (2, .int x2)] [] := by
  unfold f_X12_tellMan_127 at hf
  refine Wp.aload_n (pc := 127) 0 rfl rfl dX12_tellMan_127 ?_
  obtain ⟨a1, h2, hf⟩ := bnd hf
  refine Wp.getR (pc := 128) (gA_R h2) hx0 fk_RX12_76 rfl dX12_tellMan_128 ?_
  refine Wp.iload_n (pc := 131) 1 rfl rfl dX12_tellMan_131 ?_
  refine Wp.aload_n (pc := 132) 0 rfl rfl dX12_tellMan_132 ?_
  obtain ⟨c3, h4, hf⟩ := bnd hf
  refine Wp.callVi (pc := 133) (st := [.int x1, .ref a1.1]) (as := []) (c_X12_part hx0 h4) ml_RX12_334 mv_X12_part mb_X12_part hX (Nat.le_of_ble_eq_true rfl) (by decide) rfl hx0 rfl (by simp [Value.category]) dX12_tellMan_133 rfl ?_
  obtain ⟨μ5, h6, hf⟩ := bnd hf
  refine Wp.iast (pc := 136) h6 (gA_T h2) dX12_tellMan_136 ?_
  refine Wp.aload_n (pc := 137) 0 rfl rfl dX12_tellMan_137 ?_
  refine Wp.iconst (pc := 138) (4 : Int32) (by decide) dX12_tellMan_138 ?_
  obtain ⟨c7, h8, hf⟩ := bnd hf
  refine Wp.callVv (pc := 139) (st := []) (as := [.int (4 : Int32)]) (c_X12_must hx0 h8) ml_RX12_321 mv_X12_must mb_X12_must hX (Nat.le_of_ble_eq_true rfl) (by decide) rfl hx0 rfl (by simp) dX12_tellMan_139 rfl ?_
  refine Wp.aload_n (pc := 142) 0 rfl rfl dX12_tellMan_142 ?_
  refine Wp.getI (pc := 143) hx0 fk_RX12_254 rfl dX12_tellMan_143 ?_
  refine Wp.if_le (pc := 146) 150 dX12_tellMan_146 (by decide) (fun hc9 => ?_) (fun hc9 => ?_)
  · rw [if_pos hc9] at hf
    refine Wp.aload_n (pc := 150) 0 rfl rfl dX12_tellMan_150 ?_
    refine Wp.iload_n (pc := 151) 2 rfl rfl dX12_tellMan_151 ?_
    refine Wp.iconst (pc := 152) (-1 : Int32) (by decide) dX12_tellMan_152 ?_
    obtain ⟨c10, h11, hf⟩ := bnd hf
    refine Wp.callVv (pc := 153) (st := []) (as := [.int x2, .int (-1 : Int32)]) (c_X12_notes hx0 h11) ml_RX12_347 mv_X12_notes mb_X12_notes hX (Nat.le_of_ble_eq_true rfl) (by decide) rfl hx0 rfl (by simp) dX12_tellMan_153 rfl ?_
    refine Wp.aload_n (pc := 156) 0 rfl rfl dX12_tellMan_156 ?_
    obtain ⟨a12, h13, hf⟩ := bnd hf
    refine Wp.getR (pc := 157) (gA_R h13) hx0 fk_RX12_70 rfl dX12_tellMan_157 ?_
    refine Wp.aload_n (pc := 160) 0 rfl rfl dX12_tellMan_160 ?_
    refine Wp.getI (pc := 161) hx0 fk_RX12_287 rfl dX12_tellMan_161 ?_
    refine Wp.dup2 (pc := 164) rfl rfl dX12_tellMan_164 ?_
    obtain ⟨v14, h15, hf⟩ := bnd hf
    refine Wp.iald (pc := 165) h15 (gA_T h13) dX12_tellMan_165 ?_
    refine Wp.iconst (pc := 166) (1 : Int32) (by decide) dX12_tellMan_166 ?_
    refine Wp.iadd (pc := 167) dX12_tellMan_167 ?_
    obtain ⟨μ16, h17, hf⟩ := bnd hf
    refine Wp.iast (pc := 168) h17 (gA_T h13) dX12_tellMan_168 ?_
    cases hf
    exact hk _ _ dX12_tellMan_169
  · rw [if_neg hc9] at hf
    cases hf
    exact hk _ _ dX12_tellMan_149
set_option maxHeartbeats 4000000 in
set_option maxRecDepth 100000 in
theorem w_X12_tellMan_105 {X : CX} {T : List Dsc} {n1 n2 : Nat} {x0 : Nat} {x1 : Int32} {x2 : Int32} {x3 : Int32} {μ : Mem} {r : Mem} (hX : XR X 5 n1 n2) (hx0 : T[x0]? = some (.inl 11)) (hf : f_X12_tellMan_105 T x0 x1 x2 x3 μ = some r) (hk : FnV X cX12_tellMan RX12 5 T n1 n2 r) : Wp X cX12_tellMan RX12 5 T μ n1 n2 105 [(0, .ref x0), (1, .int x1), (2, .int x2), (3, .int x3)] [] := by
  unfold f_X12_tellMan_105 at hf
  refine Wp.aload_n (pc := 105) 0 rfl rfl dX12_tellMan_105 ?_
  refine Wp.getI (pc := 106) hx0 fk_RX12_254 rfl dX12_tellMan_106 ?_
  refine Wp.if_ne (pc := 109) 127 dX12_tellMan_109 (by decide) (fun hc1 => ?_) (fun hc1 => ?_)
  · rw [if_neg hc1] at hf
    refine Wp.lo' (lo' := [(0, .ref x0), (1, .int x1), (2, .int x2)]) [0, 1, 2] rfl ?_
    exact w_X12_tellMan_127 hX hx0 hf hk
  · rw [if_pos hc1] at hf
    refine Wp.aload_n (pc := 112) 0 rfl rfl dX12_tellMan_112 ?_
    obtain ⟨a2, h3, hf⟩ := bnd hf
    refine Wp.getR (pc := 113) (gA_R h3) hx0 fk_RX12_73 rfl dX12_tellMan_113 ?_
    refine Wp.iload_n (pc := 116) 1 rfl rfl dX12_tellMan_116 ?_
    obtain ⟨v4, h5, hf⟩ := bnd hf
    refine Wp.iald (pc := 117) h5 (gA_T h3) dX12_tellMan_117 ?_
    refine Wp.if_ge (pc := 118) 127 dX12_tellMan_118 (by decide) (fun hc6 => ?_) (fun hc6 => ?_)
    · rw [if_pos hc6] at hf
      refine Wp.lo' (lo' := [(0, .ref x0), (1, .int x1), (2, .int x2)]) [0, 1, 2] rfl ?_
      exact w_X12_tellMan_127 hX hx0 hf hk
    · rw [if_neg hc6] at hf
      refine Wp.aload_n (pc := 121) 0 rfl rfl dX12_tellMan_121 ?_
      refine Wp.iconst (pc := 122) (4 : Int32) (by decide) dX12_tellMan_122 ?_
      refine Wp.iload_n (pc := 123) 3 rfl rfl dX12_tellMan_123 ?_
      obtain ⟨c7, h8, hf⟩ := bnd hf
      refine Wp.callVv (pc := 124) (st := []) (as := [.int (4 : Int32), .int x3]) (c_X12_wrong hx0 h8) ml_RX12_341 mv_X12_wrong mb_X12_wrong hX (Nat.le_of_ble_eq_true rfl) (by decide) rfl hx0 rfl (by simp) dX12_tellMan_124 rfl ?_
      refine Wp.lo' (lo' := [(0, .ref x0), (1, .int x1), (2, .int x2)]) [0, 1, 2] rfl ?_
      exact w_X12_tellMan_127 hX hx0 hf hk
set_option maxHeartbeats 4000000 in
set_option maxRecDepth 100000 in
theorem w_X12_tellMan {X : CX} {T : List Dsc} {n1 n2 : Nat} {x0 : Nat} {μ : Mem} {r : Mem} (hX : XR X 5 n1 n2) (hx0 : T[x0]? = some (.inl 11)) (hf : F_X12_tellMan T x0 μ = some r) (hk : FnV X cX12_tellMan RX12 5 T n1 n2 r) : Wp X cX12_tellMan RX12 5 T μ n1 n2 0 [(0, .ref x0)] [] := by
  unfold F_X12_tellMan at hf
  refine Wp.bipush (pc := 0) (12 : Int32) (by decide) dX12_tellMan_0 ?_
  refine Wp.aload_n (pc := 2) 0 rfl rfl dX12_tellMan_2 ?_
  refine Wp.getI (pc := 3) hx0 fk_RX12_287 rfl dX12_tellMan_3 ?_
  refine Wp.imul (pc := 6) dX12_tellMan_6 ?_
  refine Wp.aload_n (pc := 7) 0 rfl rfl dX12_tellMan_7 ?_
  obtain ⟨a1, h2, hf⟩ := bnd hf
  refine Wp.getR (pc := 8) (gA_R h2) hx0 fk_RX12_70 rfl dX12_tellMan_8 ?_
  refine Wp.aload_n (pc := 11) 0 rfl rfl dX12_tellMan_11 ?_
  refine Wp.getI (pc := 12) hx0 fk_RX12_287 rfl dX12_tellMan_12 ?_
  obtain ⟨v3, h4, hf⟩ := bnd hf
  refine Wp.iald (pc := 15) h4 (gA_T h2) dX12_tellMan_15 ?_
  refine Wp.iadd (pc := 16) dX12_tellMan_16 ?_
  obtain ⟨v5, h6, hf⟩ := bnd hf
  refine Wp.nI' h6 ?_
  refine Wp.istore_n (pc := 17) (lo' := [(0, .ref x0), (1, .int v5)]) [1, 0] rfl (by decide) rfl dX12_tellMan_17 ?_
  refine Wp.aload_n (pc := 18) 0 rfl rfl dX12_tellMan_18 ?_
  obtain ⟨c7, h8, hf⟩ := bnd hf
  refine Wp.callVi (pc := 19) (st := []) (as := []) (c_X12_named hx0 h8) ml_RX12_344 mv_X12_named mb_X12_named hX (Nat.le_of_ble_eq_true rfl) (by decide) rfl hx0 rfl (by simp) dX12_tellMan_19 rfl ?_
  refine Wp.istore_n (pc := 22) (lo' := [(0, .ref x0), (1, .int v5), (2, .int c7.1)]) [1, 2, 0] rfl (by decide) rfl dX12_tellMan_22 ?_
  refine Wp.aload_n (pc := 23) 0 rfl rfl dX12_tellMan_23 ?_
  refine Wp.getI (pc := 24) hx0 fk_RX12_257 rfl dX12_tellMan_24 ?_
  obtain ⟨v9, h10, hf⟩ := bnd hf
  refine Wp.nI' h10 ?_
  refine Wp.istore_n (pc := 27) (lo' := [(0, .ref x0), (1, .int v5), (2, .int c7.1), (3, .int v9)]) [1, 2, 3, 0] rfl (by decide) rfl dX12_tellMan_27 ?_
  refine Wp.aload_n (pc := 28) 0 rfl rfl dX12_tellMan_28 ?_
  refine Wp.iconst (pc := 29) (1 : Int32) (by decide) dX12_tellMan_29 ?_
  obtain ⟨c11, h12, hf⟩ := bnd hf
  refine Wp.callVv (pc := 30) (st := []) (as := [.int (1 : Int32)]) (c_X12_must hx0 h12) ml_RX12_321 mv_X12_must mb_X12_must hX (Nat.le_of_ble_eq_true rfl) (by decide) rfl hx0 rfl (by simp) dX12_tellMan_30 rfl ?_
  refine Wp.aload_n (pc := 33) 0 rfl rfl dX12_tellMan_33 ?_
  obtain ⟨a13, h14, hf⟩ := bnd hf
  refine Wp.getR (pc := 34) (gA_R h14) hx0 fk_RX12_73 rfl dX12_tellMan_34 ?_
  refine Wp.iload_n (pc := 37) 1 rfl rfl dX12_tellMan_37 ?_
  refine Wp.iconst (pc := 38) (-1 : Int32) (by decide) dX12_tellMan_38 ?_
  obtain ⟨μ15, h16, hf⟩ := bnd hf
  refine Wp.iast (pc := 39) h16 (gA_T h14) dX12_tellMan_39 ?_
  refine Wp.iconst (pc := 40) (0 : Int32) (by decide) dX12_tellMan_40 ?_
  refine Wp.istore (pc := 41) (lo' := [(0, .ref x0), (1, .int v5), (2, .int c7.1), (3, .int v9), (4, .int (0 : Int32))]) [1, 2, 3, 4, 0] rfl (by decide) dX12_tellMan_41 ?_
  obtain ⟨e17, h18, hf⟩ := bnd hf
  refine wl_X12_tellMan_43 hX hx0 h18 ?_
  exact w_X12_tellMan_105 hX hx0 hf hk
theorem c_X12_tellMan {T : List Dsc} {x0 : Nat} {μ : Mem} {r : Mem} (hx0 : T[x0]? = some (.inl 11)) (hf : F_X12_tellMan T x0 μ = some r) : Ct 5 yX12_tellMan cX12_tellMan 5 none T μ [.ref x0] none r := Ct.ofV (by decide +kernel) (Nat.le_of_ble_eq_true rfl) (fun X hX hk => w_X12_tellMan hX hx0 hf hk)
theorem dX12_tellFog_0 : decode cX12_tellFog 0 = .ok (.iconst 4, 1) := by decide +kernel
theorem dX12_tellFog_1 : decode cX12_tellFog 1 = .ok (.aload_n 0, 1) := by decide +kernel
theorem dX12_tellFog_2 : decode cX12_tellFog 2 = .ok (.getfield 287, 3) := by decide +kernel
theorem dX12_tellFog_5 : decode cX12_tellFog 5 = .ok (.imul, 1) := by decide +kernel
theorem dX12_tellFog_6 : decode cX12_tellFog 6 = .ok (.aload_n 0, 1) := by decide +kernel
theorem dX12_tellFog_7 : decode cX12_tellFog 7 = .ok (.getfield 88, 3) := by decide +kernel
theorem dX12_tellFog_10 : decode cX12_tellFog 10 = .ok (.aload_n 0, 1) := by decide +kernel
theorem dX12_tellFog_11 : decode cX12_tellFog 11 = .ok (.getfield 287, 3) := by decide +kernel
theorem dX12_tellFog_14 : decode cX12_tellFog 14 = .ok (.iaload, 1) := by decide +kernel
theorem dX12_tellFog_15 : decode cX12_tellFog 15 = .ok (.iadd, 1) := by decide +kernel
theorem dX12_tellFog_16 : decode cX12_tellFog 16 = .ok (.istore_n 1, 1) := by decide +kernel
theorem dX12_tellFog_17 : decode cX12_tellFog 17 = .ok (.aload_n 0, 1) := by decide +kernel
theorem dX12_tellFog_18 : decode cX12_tellFog 18 = .ok (.getfield 91, 3) := by decide +kernel
theorem dX12_tellFog_21 : decode cX12_tellFog 21 = .ok (.iload_n 1, 1) := by decide +kernel
theorem dX12_tellFog_22 : decode cX12_tellFog 22 = .ok (.aload_n 0, 1) := by decide +kernel
theorem dX12_tellFog_23 : decode cX12_tellFog 23 = .ok (.iconst 0, 1) := by decide +kernel
theorem dX12_tellFog_24 : decode cX12_tellFog 24 = .ok (.sipush 999, 3) := by decide +kernel
theorem dX12_tellFog_27 : decode cX12_tellFog 27 = .ok (.invokevirtual 317, 3) := by decide +kernel
theorem dX12_tellFog_30 : decode cX12_tellFog 30 = .ok (.iastore, 1) := by decide +kernel
theorem dX12_tellFog_31 : decode cX12_tellFog 31 = .ok (.aload_n 0, 1) := by decide +kernel
theorem dX12_tellFog_32 : decode cX12_tellFog 32 = .ok (.getfield 94, 3) := by decide +kernel
theorem dX12_tellFog_35 : decode cX12_tellFog 35 = .ok (.iload_n 1, 1) := by decide +kernel
theorem dX12_tellFog_36 : decode cX12_tellFog 36 = .ok (.aload_n 0, 1) := by decide +kernel
theorem dX12_tellFog_37 : decode cX12_tellFog 37 = .ok (.aload_n 0, 1) := by decide +kernel
theorem dX12_tellFog_38 : decode cX12_tellFog 38 = .ok (.getfield 91, 3) := by decide +kernel
theorem dX12_tellFog_41 : decode cX12_tellFog 41 = .ok (.iload_n 1, 1) := by decide +kernel
theorem dX12_tellFog_42 : decode cX12_tellFog 42 = .ok (.iaload, 1) := by decide +kernel
theorem dX12_tellFog_43 : decode cX12_tellFog 43 = .ok (.sipush 999, 3) := by decide +kernel
theorem dX12_tellFog_46 : decode cX12_tellFog 46 = .ok (.invokevirtual 317, 3) := by decide +kernel
theorem dX12_tellFog_49 : decode cX12_tellFog 49 = .ok (.iastore, 1) := by decide +kernel
theorem dX12_tellFog_50 : decode cX12_tellFog 50 = .ok (.aload_n 0, 1) := by decide +kernel
theorem dX12_tellFog_51 : decode cX12_tellFog 51 = .ok (.iconst 4, 1) := by decide +kernel
theorem dX12_tellFog_52 : decode cX12_tellFog 52 = .ok (.invokevirtual 321, 3) := by decide +kernel
theorem dX12_tellFog_55 : decode cX12_tellFog 55 = .ok (.aload_n 0, 1) := by decide +kernel
theorem dX12_tellFog_56 : decode cX12_tellFog 56 = .ok (.getfield 254, 3) := by decide +kernel
theorem dX12_tellFog_59 : decode cX12_tellFog 59 = .ok (.ifCond .ne 16, 3) := by decide +kernel
theorem dX12_tellFog_62 : decode cX12_tellFog 62 = .ok (.aload_n 0, 1) := by decide +kernel
theorem dX12_tellFog_63 : decode cX12_tellFog 63 = .ok (.getfield 88, 3) := by decide +kernel
theorem dX12_tellFog_66 : decode cX12_tellFog 66 = .ok (.aload_n 0, 1) := by decide +kernel
theorem dX12_tellFog_67 : decode cX12_tellFog 67 = .ok (.getfield 287, 3) := by decide +kernel
theorem dX12_tellFog_70 : decode cX12_tellFog 70 = .ok (.dup2, 1) := by decide +kernel
theorem dX12_tellFog_71 : decode cX12_tellFog 71 = .ok (.iaload, 1) := by decide +kernel
theorem dX12_tellFog_72 : decode cX12_tellFog 72 = .ok (.iconst 1, 1) := by decide +kernel
theorem dX12_tellFog_73 : decode cX12_tellFog 73 = .ok (.iadd, 1) := by decide +kernel
theorem dX12_tellFog_74 : decode cX12_tellFog 74 = .ok (.iastore, 1) := by decide +kernel
theorem dX12_tellFog_75 : decode cX12_tellFog 75 = .ok (.return_, 1) := by decide +kernel
set_option maxHeartbeats 4000000 in
set_option maxRecDepth 100000 in
theorem w_X12_tellFog_75 {X : CX} {T : List Dsc} {n1 n2 : Nat} {μ : Mem} {r : Mem} (hX : XR X 4 n1 n2) (hf : f_X12_tellFog_75 T μ = some r) (hk : FnV X cX12_tellFog RX12 2 T n1 n2 r) : Wp X cX12_tellFog RX12 2 T μ n1 n2 75 [] [] := by
  unfold f_X12_tellFog_75 at hf
  cases hf
  exact hk _ _ dX12_tellFog_75
set_option maxHeartbeats 4000000 in
set_option maxRecDepth 100000 in
theorem w_X12_tellFog {X : CX} {T : List Dsc} {n1 n2 : Nat} {x0 : Nat} {μ : Mem} {r : Mem} (hX : XR X 4 n1 n2) (hx0 : T[x0]? = some (.inl 11)) (hf : F_X12_tellFog T x0 μ = some r) (hk : FnV X cX12_tellFog RX12 2 T n1 n2 r) : Wp X cX12_tellFog RX12 2 T μ n1 n2 0 [(0, .ref x0)] [] := by
  unfold F_X12_tellFog at hf
  refine Wp.iconst (pc := 0) (4 : Int32) (by decide) dX12_tellFog_0 ?_
  refine Wp.aload_n (pc := 1) 0 rfl rfl dX12_tellFog_1 ?_
  refine Wp.getI (pc := 2) hx0 fk_RX12_287 rfl dX12_tellFog_2 ?_
  refine Wp.imul (pc := 5) dX12_tellFog_5 ?_
  refine Wp.aload_n (pc := 6) 0 rfl rfl dX12_tellFog_6 ?_
  obtain ⟨a1, h2, hf⟩ := bnd hf
  refine Wp.getR (pc := 7) (gA_R h2) hx0 fk_RX12_88 rfl dX12_tellFog_7 ?_
  refine Wp.aload_n (pc := 10) 0 rfl rfl dX12_tellFog_10 ?_
  refine Wp.getI (pc := 11) hx0 fk_RX12_287 rfl dX12_tellFog_11 ?_
  obtain ⟨v3, h4, hf⟩ := bnd hf
  refine Wp.iald (pc := 14) h4 (gA_T h2) dX12_tellFog_14 ?_
  refine Wp.iadd (pc := 15) dX12_tellFog_15 ?_
  obtain ⟨v5, h6, hf⟩ := bnd hf
  refine Wp.nI' h6 ?_
  refine Wp.istore_n (pc := 16) (lo' := [(0, .ref x0), (1, .int v5)]) [1, 0] rfl (by decide) rfl dX12_tellFog_16 ?_
  refine Wp.aload_n (pc := 17) 0 rfl rfl dX12_tellFog_17 ?_
  obtain ⟨a7, h8, hf⟩ := bnd hf
  refine Wp.getR (pc := 18) (gA_R h8) hx0 fk_RX12_91 rfl dX12_tellFog_18 ?_
  refine Wp.iload_n (pc := 21) 1 rfl rfl dX12_tellFog_21 ?_
  refine Wp.aload_n (pc := 22) 0 rfl rfl dX12_tellFog_22 ?_
  refine Wp.iconst (pc := 23) (0 : Int32) (by decide) dX12_tellFog_23 ?_
  refine Wp.sipush (pc := 24) (999 : Int32) (by decide) dX12_tellFog_24 ?_
  obtain ⟨c9, h10, hf⟩ := bnd hf
  refine Wp.callVi (pc := 27) (st := [.int v5, .ref a7.1]) (as := [.int (0 : Int32), .int (999 : Int32)]) (c_X12_bounded hx0 h10) ml_RX12_317 mv_X12_bounded mb_X12_bounded hX (Nat.le_of_ble_eq_true rfl) (by decide) rfl hx0 rfl (by simp [Value.category]) dX12_tellFog_27 rfl ?_
  obtain ⟨μ11, h12, hf⟩ := bnd hf
  refine Wp.iast (pc := 30) h12 (gA_T h8) dX12_tellFog_30 ?_
  refine Wp.aload_n (pc := 31) 0 rfl rfl dX12_tellFog_31 ?_
  obtain ⟨a13, h14, hf⟩ := bnd hf
  refine Wp.getR (pc := 32) (gA_R h14) hx0 fk_RX12_94 rfl dX12_tellFog_32 ?_
  refine Wp.iload_n (pc := 35) 1 rfl rfl dX12_tellFog_35 ?_
  refine Wp.aload_n (pc := 36) 0 rfl rfl dX12_tellFog_36 ?_
  refine Wp.aload_n (pc := 37) 0 rfl rfl dX12_tellFog_37 ?_
  obtain ⟨a15, h16, hf⟩ := bnd hf
  refine Wp.getR (pc := 38) (gA_R h16) hx0 fk_RX12_91 rfl dX12_tellFog_38 ?_
  refine Wp.iload_n (pc := 41) 1 rfl rfl dX12_tellFog_41 ?_
  obtain ⟨v17, h18, hf⟩ := bnd hf
  refine Wp.iald (pc := 42) h18 (gA_T h16) dX12_tellFog_42 ?_
  refine Wp.sipush (pc := 43) (999 : Int32) (by decide) dX12_tellFog_43 ?_
  obtain ⟨c19, h20, hf⟩ := bnd hf
  refine Wp.callVi (pc := 46) (st := [.int v5, .ref a13.1]) (as := [.int v17, .int (999 : Int32)]) (c_X12_bounded hx0 h20) ml_RX12_317 mv_X12_bounded mb_X12_bounded hX (Nat.le_of_ble_eq_true rfl) (by decide) rfl hx0 rfl (by simp [Value.category]) dX12_tellFog_46 rfl ?_
  obtain ⟨μ21, h22, hf⟩ := bnd hf
  refine Wp.iast (pc := 49) h22 (gA_T h14) dX12_tellFog_49 ?_
  refine Wp.aload_n (pc := 50) 0 rfl rfl dX12_tellFog_50 ?_
  refine Wp.iconst (pc := 51) (4 : Int32) (by decide) dX12_tellFog_51 ?_
  obtain ⟨c23, h24, hf⟩ := bnd hf
  refine Wp.callVv (pc := 52) (st := []) (as := [.int (4 : Int32)]) (c_X12_must hx0 h24) ml_RX12_321 mv_X12_must mb_X12_must hX (Nat.le_of_ble_eq_true rfl) (by decide) rfl hx0 rfl (by simp) dX12_tellFog_52 rfl ?_
  refine Wp.aload_n (pc := 55) 0 rfl rfl dX12_tellFog_55 ?_
  refine Wp.getI (pc := 56) hx0 fk_RX12_254 rfl dX12_tellFog_56 ?_
  refine Wp.if_ne (pc := 59) 75 dX12_tellFog_59 (by decide) (fun hc25 => ?_) (fun hc25 => ?_)
  · rw [if_neg hc25] at hf
    refine Wp.lo' (lo' := []) [] rfl ?_
    exact w_X12_tellFog_75 hX hf hk
  · rw [if_pos hc25] at hf
    refine Wp.aload_n (pc := 62) 0 rfl rfl dX12_tellFog_62 ?_
    obtain ⟨a26, h27, hf⟩ := bnd hf
    refine Wp.getR (pc := 63) (gA_R h27) hx0 fk_RX12_88 rfl dX12_tellFog_63 ?_
    refine Wp.aload_n (pc := 66) 0 rfl rfl dX12_tellFog_66 ?_
    refine Wp.getI (pc := 67) hx0 fk_RX12_287 rfl dX12_tellFog_67 ?_
    refine Wp.dup2 (pc := 70) rfl rfl dX12_tellFog_70 ?_
    obtain ⟨v28, h29, hf⟩ := bnd hf
    refine Wp.iald (pc := 71) h29 (gA_T h27) dX12_tellFog_71 ?_
    refine Wp.iconst (pc := 72) (1 : Int32) (by decide) dX12_tellFog_72 ?_
    refine Wp.iadd (pc := 73) dX12_tellFog_73 ?_
    obtain ⟨μ30, h31, hf⟩ := bnd hf
    refine Wp.iast (pc := 74) h31 (gA_T h27) dX12_tellFog_74 ?_
    refine Wp.lo' (lo' := []) [] rfl ?_
    exact w_X12_tellFog_75 hX hf hk
theorem c_X12_tellFog {T : List Dsc} {x0 : Nat} {μ : Mem} {r : Mem} (hx0 : T[x0]? = some (.inl 11)) (hf : F_X12_tellFog T x0 μ = some r) : Ct 4 yX12_tellFog cX12_tellFog 2 none T μ [.ref x0] none r := Ct.ofV (by decide +kernel) (Nat.le_of_ble_eq_true rfl) (fun X hX hk => w_X12_tellFog hX hx0 hf hk)
