theorem dX11_soon_0 : decode cX11_soon 0 = .ok (.iload_n 1, 1) := by decide +kernel
theorem dX11_soon_1 : decode cX11_soon 1 = .ok (.iconst 1, 1) := by decide +kernel
theorem dX11_soon_2 : decode cX11_soon 2 = .ok (.if_icmp .lt 14, 3) := by decide +kernel
theorem dX11_soon_5 : decode cX11_soon 5 = .ok (.iload_n 1, 1) := by decide +kernel
theorem dX11_soon_6 : decode cX11_soon 6 = .ok (.aload_n 0, 1) := by decide +kernel
theorem dX11_soon_7 : decode cX11_soon 7 = .ok (.getfield 16, 3) := by decide +kernel
theorem dX11_soon_10 : decode cX11_soon 10 = .ok (.getfield 153, 3) := by decide +kernel
theorem dX11_soon_13 : decode cX11_soon 13 = .ok (.if_icmp .le 5, 3) := by decide +kernel
theorem dX11_soon_16 : decode cX11_soon 16 = .ok (.iconst (-1), 1) := by decide +kernel
theorem dX11_soon_17 : decode cX11_soon 17 = .ok (.ireturn, 1) := by decide +kernel
theorem dX11_soon_18 : decode cX11_soon 18 = .ok (.aload_n 0, 1) := by decide +kernel
theorem dX11_soon_19 : decode cX11_soon 19 = .ok (.getfield 44, 3) := by decide +kernel
theorem dX11_soon_22 : decode cX11_soon 22 = .ok (.getfield 125, 3) := by decide +kernel
theorem dX11_soon_25 : decode cX11_soon 25 = .ok (.lstore_n 2, 1) := by decide +kernel
theorem dX11_soon_26 : decode cX11_soon 26 = .ok (.iconst 0, 1) := by decide +kernel
theorem dX11_soon_27 : decode cX11_soon 27 = .ok (.istore 4, 2) := by decide +kernel
theorem dX11_soon_29 : decode cX11_soon 29 = .ok (.iload 4, 2) := by decide +kernel
theorem dX11_soon_31 : decode cX11_soon 31 = .ok (.bipush 100, 2) := by decide +kernel
theorem dX11_soon_33 : decode cX11_soon 33 = .ok (.if_icmp .gt 64, 3) := by decide +kernel
theorem dX11_soon_36 : decode cX11_soon 36 = .ok (.aload_n 0, 1) := by decide +kernel
theorem dX11_soon_37 : decode cX11_soon 37 = .ok (.getfield 37, 3) := by decide +kernel
theorem dX11_soon_40 : decode cX11_soon 40 = .ok (.lload_n 2, 1) := by decide +kernel
theorem dX11_soon_41 : decode cX11_soon 41 = .ok (.invokevirtual 183, 3) := by decide +kernel
theorem dX11_soon_44 : decode cX11_soon 44 = .ok (.iload_n 1, 1) := by decide +kernel
theorem dX11_soon_45 : decode cX11_soon 45 = .ok (.if_icmp .lt 6, 3) := by decide +kernel
theorem dX11_soon_48 : decode cX11_soon 48 = .ok (.iload 4, 2) := by decide +kernel
theorem dX11_soon_50 : decode cX11_soon 50 = .ok (.ireturn, 1) := by decide +kernel
theorem dX11_soon_51 : decode cX11_soon 51 = .ok (.aload_n 0, 1) := by decide +kernel
theorem dX11_soon_52 : decode cX11_soon 52 = .ok (.getfield 37, 3) := by decide +kernel
theorem dX11_soon_55 : decode cX11_soon 55 = .ok (.lload_n 2, 1) := by decide +kernel
theorem dX11_soon_56 : decode cX11_soon 56 = .ok (.aload_n 0, 1) := by decide +kernel
theorem dX11_soon_57 : decode cX11_soon 57 = .ok (.getfield 44, 3) := by decide +kernel
theorem dX11_soon_60 : decode cX11_soon 60 = .ok (.getfield 137, 3) := by decide +kernel
theorem dX11_soon_63 : decode cX11_soon 63 = .ok (.aload_n 0, 1) := by decide +kernel
theorem dX11_soon_64 : decode cX11_soon 64 = .ok (.getfield 44, 3) := by decide +kernel
theorem dX11_soon_67 : decode cX11_soon 67 = .ok (.getfield 140, 3) := by decide +kernel
theorem dX11_soon_70 : decode cX11_soon 70 = .ok (.aload_n 0, 1) := by decide +kernel
theorem dX11_soon_71 : decode cX11_soon 71 = .ok (.getfield 16, 3) := by decide +kernel
theorem dX11_soon_74 : decode cX11_soon 74 = .ok (.aload_n 0, 1) := by decide +kernel
theorem dX11_soon_75 : decode cX11_soon 75 = .ok (.getfield 44, 3) := by decide +kernel
theorem dX11_soon_78 : decode cX11_soon 78 = .ok (.getfield 143, 3) := by decide +kernel
theorem dX11_soon_81 : decode cX11_soon 81 = .ok (.iload 4, 2) := by decide +kernel
theorem dX11_soon_83 : decode cX11_soon 83 = .ok (.iadd, 1) := by decide +kernel
theorem dX11_soon_84 : decode cX11_soon 84 = .ok (.invokevirtual 146, 3) := by decide +kernel
theorem dX11_soon_87 : decode cX11_soon 87 = .ok (.invokevirtual 159, 3) := by decide +kernel
theorem dX11_soon_90 : decode cX11_soon 90 = .ok (.lstore_n 2, 1) := by decide +kernel
theorem dX11_soon_91 : decode cX11_soon 91 = .ok (.iinc 4 1, 3) := by decide +kernel
theorem dX11_soon_94 : decode cX11_soon 94 = .ok (.goto (-65), 3) := by decide +kernel
theorem dX11_soon_97 : decode cX11_soon 97 = .ok (.bipush (-2), 2) := by decide +kernel
theorem dX11_soon_99 : decode cX11_soon 99 = .ok (.ireturn, 1) := by decide +kernel
def k_X11_soon_29 (X : CX) (T : List Dsc) (n1 n2 : Nat) (x0 : Nat) (x1 : Int32) (r : ((Int64 × Int32 × Mem) ⊕ ((Int32 × Mem) ⊕ (Mem)))) : Prop := match r with
  | .inl s => Wp X cX11_soon RX11 5 T s.2.2 n1 n2 29 [(0, .ref x0), (1, .int x1), (2, .long s.1), (4, .int s.2.1)] []
  | .inr (.inl e) => Wp X cX11_soon RX11 5 T e.2 n1 n2 48 [(4, .int e.1)] []
  | .inr (.inr e) => Wp X cX11_soon RX11 5 T e n1 n2 97 [] []
set_option maxHeartbeats 4000000 in
set_option maxRecDepth 100000 in
theorem w_X11_soon_16 {X : CX} {T : List Dsc} {n1 n2 : Nat} {μ : Mem} {r : (Int32 × Mem)} (hX : XR X 6 n1 n2) (hf : f_X11_soon_16 T μ = some r) (hk : FnI X cX11_soon RX11 5 T n1 n2 r) : Wp X cX11_soon RX11 5 T μ n1 n2 16 [] [] := by
  unfold f_X11_soon_16 at hf
  refine Wp.iconst (pc := 16) (-1 : Int32) (by decide) dX11_soon_16 ?_
  cases hf
  exact hk _ _ dX11_soon_17
set_option maxHeartbeats 4000000 in
set_option maxRecDepth 100000 in
theorem w_X11_soon_29 {X : CX} {T : List Dsc} {n1 n2 : Nat} {x0 : Nat} {x1 : Int32} {x2 : Int64} {x4 : Int32} {μ : Mem} {r : ((Int64 × Int32 × Mem) ⊕ ((Int32 × Mem) ⊕ (Mem)))} (hX : XR X 6 n1 n2) (hx0 : T[x0]? = some (.inl 10)) (hf : f_X11_soon_29 T x0 x1 x2 x4 μ = some r) (hk : k_X11_soon_29 X T n1 n2 x0 x1 r) : Wp X cX11_soon RX11 5 T μ n1 n2 29 [(0, .ref x0), (1, .int x1), (2, .long x2), (4, .int x4)] [] := by
  unfold f_X11_soon_29 at hf
  refine Wp.iload (pc := 29) 3 rfl dX11_soon_29 ?_
  refine Wp.bipush (pc := 31) (100 : Int32) (by decide) dX11_soon_31 ?_
  refine Wp.icmp_gt (pc := 33) 97 dX11_soon_33 (by decide) (fun hc1 => ?_) (fun hc1 => ?_)
  · rw [if_pos hc1] at hf
    refine Wp.lo' (lo' := []) [] rfl ?_
    cases hf
    exact hk
  · rw [if_neg hc1] at hf
    refine Wp.aload_n (pc := 36) 0 rfl rfl dX11_soon_36 ?_
    obtain ⟨r2, h3, hf⟩ := bnd hf
    refine Wp.getR (pc := 37) (gO_R h3) hx0 fk_RX11_37 rfl dX11_soon_37 ?_
    refine Wp.lload_n (pc := 40) 2 rfl rfl dX11_soon_40 ?_
    obtain ⟨c4, h5, hf⟩ := bnd hf
    refine Wp.callVi (pc := 41) (st := []) (as := [.long x2]) (c_X5_wayOf (gO_T h3) h5) ml_RX11_183 mv_X5_wayOf mb_X5_wayOf hX (Nat.le_of_ble_eq_true rfl) (by decide) rfl (gO_T h3) rfl (by simp) dX11_soon_41 rfl ?_
    refine Wp.iload_n (pc := 44) 1 rfl rfl dX11_soon_44 ?_
    refine Wp.icmp_lt (pc := 45) 51 dX11_soon_45 (by decide) (fun hc6 => ?_) (fun hc6 => ?_)
    · rw [if_pos hc6] at hf
      refine Wp.aload_n (pc := 51) 0 rfl rfl dX11_soon_51 ?_
      obtain ⟨r7, h8, hf⟩ := bnd hf
      refine Wp.getR (pc := 52) (gO_R h8) hx0 fk_RX11_37 rfl dX11_soon_52 ?_
      refine Wp.lload_n (pc := 55) 2 rfl rfl dX11_soon_55 ?_
      refine Wp.aload_n (pc := 56) 0 rfl rfl dX11_soon_56 ?_
      obtain ⟨r9, h10, hf⟩ := bnd hf
      refine Wp.getR (pc := 57) (gO_R h10) hx0 fk_RX11_44 rfl dX11_soon_57 ?_
      obtain ⟨a11, h12, hf⟩ := bnd hf
      refine Wp.getR (pc := 60) (gA_R h12) (gO_T h10) fk_RX11_137 rfl dX11_soon_60 ?_
      refine Wp.aload_n (pc := 63) 0 rfl rfl dX11_soon_63 ?_
      obtain ⟨r13, h14, hf⟩ := bnd hf
      refine Wp.getR (pc := 64) (gO_R h14) hx0 fk_RX11_44 rfl dX11_soon_64 ?_
      refine Wp.getI (pc := 67) (gO_T h14) fk_RX11_140 rfl dX11_soon_67 ?_
      refine Wp.aload_n (pc := 70) 0 rfl rfl dX11_soon_70 ?_
      obtain ⟨r15, h16, hf⟩ := bnd hf
      refine Wp.getR (pc := 71) (gO_R h16) hx0 fk_RX11_16 rfl dX11_soon_71 ?_
      refine Wp.aload_n (pc := 74) 0 rfl rfl dX11_soon_74 ?_
      obtain ⟨r17, h18, hf⟩ := bnd hf
      refine Wp.getR (pc := 75) (gO_R h18) hx0 fk_RX11_44 rfl dX11_soon_75 ?_
      refine Wp.getI (pc := 78) (gO_T h18) fk_RX11_143 rfl dX11_soon_78 ?_
      refine Wp.iload (pc := 81) 3 rfl dX11_soon_81 ?_
      refine Wp.iadd (pc := 83) dX11_soon_83 ?_
      obtain ⟨c19, h20, hf⟩ := bnd hf
      refine Wp.callVi (pc := 84) (st := [.int (gI c4.2 r13 3), .ref a11.1, .long x2, .ref r7]) (as := [.int ((gI c4.2 r17 4) + x4)]) (c_X7_isFog (gO_T h16) h20) ml_RX11_146 mv_X7_isFog mb_X7_isFog hX (Nat.le_of_ble_eq_true rfl) (by decide) rfl (gO_T h16) rfl (by simp [Value.category]) dX11_soon_84 rfl ?_
      obtain ⟨c21, h22, hf⟩ := bnd hf
      refine Wp.callVl (pc := 87) (st := []) (as := [.long x2, .ref a11.1, .int (gI c4.2 r13 3), .int c19.1]) (c_X5_stroke (gO_T h8) (gA_T h12) h22) ml_RX11_159 mv_X5_stroke mb_X5_stroke hX (Nat.le_of_ble_eq_true rfl) (by decide) rfl (gO_T h8) rfl (by simp) dX11_soon_87 rfl ?_
      refine Wp.lstore_n (pc := 90) (lo' := [(0, .ref x0), (1, .int x1), (2, .long c21.1), (4, .int x4)]) [1, 2, 0, 3] rfl (by decide) rfl dX11_soon_90 ?_
      obtain ⟨v23, h24, hf⟩ := bnd hf
      refine Wp.iincN (pc := 91) (lo' := [(0, .ref x0), (1, .int x1), (2, .long c21.1), (4, .int v23)]) (1 : Int32) (by decide) h24 3 rfl [1, 2, 3, 0] rfl (by decide) dX11_soon_91 ?_
      refine Wp.goto (pc := 94) 29 dX11_soon_94 (by decide) ?_
      cases hf
      exact hk
    · rw [if_neg hc6] at hf
      refine Wp.lo' (lo' := [(4, .int x4)]) [3] rfl ?_
      cases hf
      exact hk
theorem wl_X11_soon_29 {X : CX} {T : List Dsc} {n1 n2 : Nat} {x0 : Nat} {x1 : Int32} {x2 : Int64} {x4 : Int32} {μ : Mem} {e : ((Int32 × Mem) ⊕ (Mem))} (hX : XR X 6 n1 n2) (hx0 : T[x0]? = some (.inl 10)) (h : loop (g_X11_soon_29 T x0 x1) (x2, x4, μ) = some e) (he0 : ∀ e_, e = (Sum.inl e_) → Wp X cX11_soon RX11 5 T e_.2 n1 n2 48 [(4, .int e_.1)] []) (he1 : ∀ e_, e = (Sum.inr e_) → Wp X cX11_soon RX11 5 T e_ n1 n2 97 [] []) : Wp X cX11_soon RX11 5 T μ n1 n2 29 [(0, .ref x0), (1, .int x1), (2, .long x2), (4, .int x4)] [] :=
  loop_ok (K := k_X11_soon_29 X T n1 n2 x0 x1) (fun s r hf hk => w_X11_soon_29 hX hx0 hf hk) h (by rcases e with e | e <;> first | exact he0 _ rfl | exact he1 _ rfl)
set_option maxHeartbeats 4000000 in
set_option maxRecDepth 100000 in
theorem w_X11_soon {X : CX} {T : List Dsc} {n1 n2 : Nat} {x0 : Nat} {x1 : Int32} {μ : Mem} {r : (Int32 × Mem)} (hX : XR X 6 n1 n2) (hx0 : T[x0]? = some (.inl 10)) (hf : F_X11_soon T x0 x1 μ = some r) (hk : FnI X cX11_soon RX11 5 T n1 n2 r) : Wp X cX11_soon RX11 5 T μ n1 n2 0 [(0, .ref x0), (1, .int x1)] [] := by
  unfold F_X11_soon at hf
  refine Wp.iload_n (pc := 0) 1 rfl rfl dX11_soon_0 ?_
  refine Wp.iconst (pc := 1) (1 : Int32) (by decide) dX11_soon_1 ?_
  refine Wp.icmp_lt (pc := 2) 16 dX11_soon_2 (by decide) (fun hc1 => ?_) (fun hc1 => ?_)
  · rw [if_pos hc1] at hf
    refine Wp.lo' (lo' := []) [] rfl ?_
    exact w_X11_soon_16 hX hf hk
  · rw [if_neg hc1] at hf
    refine Wp.iload_n (pc := 5) 1 rfl rfl dX11_soon_5 ?_
    refine Wp.aload_n (pc := 6) 0 rfl rfl dX11_soon_6 ?_
    obtain ⟨r2, h3, hf⟩ := bnd hf
    refine Wp.getR (pc := 7) (gO_R h3) hx0 fk_RX11_16 rfl dX11_soon_7 ?_
    refine Wp.getI (pc := 10) (gO_T h3) fk_RX11_153 rfl dX11_soon_10 ?_
    refine Wp.icmp_le (pc := 13) 18 dX11_soon_13 (by decide) (fun hc4 => ?_) (fun hc4 => ?_)
    · rw [if_pos hc4] at hf
      refine Wp.aload_n (pc := 18) 0 rfl rfl dX11_soon_18 ?_
      obtain ⟨r5, h6, hf⟩ := bnd hf
      refine Wp.getR (pc := 19) (gO_R h6) hx0 fk_RX11_44 rfl dX11_soon_19 ?_
      refine Wp.getJ (pc := 22) (gO_T h6) fk_RX11_125 rfl dX11_soon_22 ?_
      obtain ⟨v7, h8, hf⟩ := bnd hf
      refine Wp.nJ' h8 ?_
      refine Wp.lstore_n (pc := 25) (lo' := [(0, .ref x0), (1, .int x1), (2, .long v7)]) [1, 2, 0] rfl (by decide) rfl dX11_soon_25 ?_
      refine Wp.iconst (pc := 26) (0 : Int32) (by decide) dX11_soon_26 ?_
      refine Wp.istore (pc := 27) (lo' := [(0, .ref x0), (1, .int x1), (2, .long v7), (4, .int (0 : Int32))]) [1, 2, 3, 0] rfl (by decide) dX11_soon_27 ?_
      obtain ⟨e9, h10, hf⟩ := bnd hf
      refine wl_X11_soon_29 hX hx0 h10 (fun e9_0 hq => ?_) (fun e9_1 hq => ?_)
      · rw [hq, Sum.elim_inl] at hf
        refine Wp.iload (pc := 48) 0 rfl dX11_soon_48 ?_
        cases hf
        exact hk _ _ dX11_soon_50
      · rw [hq, Sum.elim_inr] at hf
        refine Wp.bipush (pc := 97) (-2 : Int32) (by decide) dX11_soon_97 ?_
        cases hf
        exact hk _ _ dX11_soon_99
    · rw [if_neg hc4] at hf
      refine Wp.lo' (lo' := []) [] rfl ?_
      exact w_X11_soon_16 hX hf hk
theorem c_X11_soon {T : List Dsc} {x0 : Nat} {x1 : Int32} {μ : Mem} {r : (Int32 × Mem)} (hx0 : T[x0]? = some (.inl 10)) (hf : F_X11_soon T x0 x1 μ = some r) : Ct 6 yX11_soon cX11_soon 5 (some .int) T μ [.ref x0, .int x1] (some (.int r.1)) r.2 := Ct.ofI (by decide +kernel) (Nat.le_of_ble_eq_true rfl) (fun X hX hk => w_X11_soon hX hx0 hf hk)
theorem dX11_rubs_0 : decode cX11_rubs 0 = .ok (.iload_n 1, 1) := by decide +kernel
theorem dX11_rubs_1 : decode cX11_rubs 1 = .ok (.iconst 1, 1) := by decide +kernel
theorem dX11_rubs_2 : decode cX11_rubs 2 = .ok (.if_icmp .lt 9, 3) := by decide +kernel
theorem dX11_rubs_5 : decode cX11_rubs 5 = .ok (.iload_n 1, 1) := by decide +kernel
theorem dX11_rubs_6 : decode cX11_rubs 6 = .ok (.bipush 100, 2) := by decide +kernel
theorem dX11_rubs_8 : decode cX11_rubs 8 = .ok (.if_icmp .le 5, 3) := by decide +kernel
theorem dX11_rubs_11 : decode cX11_rubs 11 = .ok (.iconst (-1), 1) := by decide +kernel
theorem dX11_rubs_12 : decode cX11_rubs 12 = .ok (.ireturn, 1) := by decide +kernel
theorem dX11_rubs_13 : decode cX11_rubs 13 = .ok (.aload_n 0, 1) := by decide +kernel
theorem dX11_rubs_14 : decode cX11_rubs 14 = .ok (.getfield 37, 3) := by decide +kernel
theorem dX11_rubs_17 : decode cX11_rubs 17 = .ok (.aload_n 0, 1) := by decide +kernel
theorem dX11_rubs_18 : decode cX11_rubs 18 = .ok (.getfield 44, 3) := by decide +kernel
theorem dX11_rubs_21 : decode cX11_rubs 21 = .ok (.iload_n 1, 1) := by decide +kernel
theorem dX11_rubs_22 : decode cX11_rubs 22 = .ok (.invokevirtual 186, 3) := by decide +kernel
theorem dX11_rubs_25 : decode cX11_rubs 25 = .ok (.ireturn, 1) := by decide +kernel
set_option maxHeartbeats 4000000 in
set_option maxRecDepth 100000 in
theorem w_X11_rubs_11 {X : CX} {T : List Dsc} {n1 n2 : Nat} {μ : Mem} {r : (Int32 × Mem)} (hX : XR X 7 n1 n2) (hf : f_X11_rubs_11 T μ = some r) (hk : FnI X cX11_rubs RX11 2 T n1 n2 r) : Wp X cX11_rubs RX11 2 T μ n1 n2 11 [] [] := by
  unfold f_X11_rubs_11 at hf
  refine Wp.iconst (pc := 11) (-1 : Int32) (by decide) dX11_rubs_11 ?_
  cases hf
  exact hk _ _ dX11_rubs_12
set_option maxHeartbeats 4000000 in
set_option maxRecDepth 100000 in
theorem w_X11_rubs {X : CX} {T : List Dsc} {n1 n2 : Nat} {x0 : Nat} {x1 : Int32} {μ : Mem} {r : (Int32 × Mem)} (hX : XR X 7 n1 n2) (hx0 : T[x0]? = some (.inl 10)) (hf : F_X11_rubs T x0 x1 μ = some r) (hk : FnI X cX11_rubs RX11 2 T n1 n2 r) : Wp X cX11_rubs RX11 2 T μ n1 n2 0 [(0, .ref x0), (1, .int x1)] [] := by
  unfold F_X11_rubs at hf
  refine Wp.iload_n (pc := 0) 1 rfl rfl dX11_rubs_0 ?_
  refine Wp.iconst (pc := 1) (1 : Int32) (by decide) dX11_rubs_1 ?_
  refine Wp.icmp_lt (pc := 2) 11 dX11_rubs_2 (by decide) (fun hc1 => ?_) (fun hc1 => ?_)
  · rw [if_pos hc1] at hf
    refine Wp.lo' (lo' := []) [] rfl ?_
    exact w_X11_rubs_11 hX hf hk
  · rw [if_neg hc1] at hf
    refine Wp.iload_n (pc := 5) 1 rfl rfl dX11_rubs_5 ?_
    refine Wp.bipush (pc := 6) (100 : Int32) (by decide) dX11_rubs_6 ?_
    refine Wp.icmp_le (pc := 8) 13 dX11_rubs_8 (by decide) (fun hc2 => ?_) (fun hc2 => ?_)
    · rw [if_pos hc2] at hf
      refine Wp.aload_n (pc := 13) 0 rfl rfl dX11_rubs_13 ?_
      obtain ⟨r3, h4, hf⟩ := bnd hf
      refine Wp.getR (pc := 14) (gO_R h4) hx0 fk_RX11_37 rfl dX11_rubs_14 ?_
      refine Wp.aload_n (pc := 17) 0 rfl rfl dX11_rubs_17 ?_
      obtain ⟨r5, h6, hf⟩ := bnd hf
      refine Wp.getR (pc := 18) (gO_R h6) hx0 fk_RX11_44 rfl dX11_rubs_18 ?_
      refine Wp.iload_n (pc := 21) 1 rfl rfl dX11_rubs_21 ?_
      obtain ⟨c7, h8, hf⟩ := bnd hf
      refine Wp.callVi (pc := 22) (st := []) (as := [.ref r5, .int x1]) (c_X5_mostClashing (gO_T h4) (gO_T h6) h8) ml_RX11_186 mv_X5_mostClashing mb_X5_mostClashing hX (Nat.le_of_ble_eq_true rfl) (by decide) rfl (gO_T h4) rfl (by simp) dX11_rubs_22 rfl ?_
      cases hf
      exact hk _ _ dX11_rubs_25
    · rw [if_neg hc2] at hf
      refine Wp.lo' (lo' := []) [] rfl ?_
      exact w_X11_rubs_11 hX hf hk
theorem c_X11_rubs {T : List Dsc} {x0 : Nat} {x1 : Int32} {μ : Mem} {r : (Int32 × Mem)} (hx0 : T[x0]? = some (.inl 10)) (hf : F_X11_rubs T x0 x1 μ = some r) : Ct 7 yX11_rubs cX11_rubs 2 (some .int) T μ [.ref x0, .int x1] (some (.int r.1)) r.2 := Ct.ofI (by decide +kernel) (Nat.le_of_ble_eq_true rfl) (fun X hX hk => w_X11_rubs hX hx0 hf hk)
theorem dX11_still_0 : decode cX11_still 0 = .ok (.aload_n 0, 1) := by decide +kernel
theorem dX11_still_1 : decode cX11_still 1 = .ok (.getfield 37, 3) := by decide +kernel
theorem dX11_still_4 : decode cX11_still 4 = .ok (.aload_n 0, 1) := by decide +kernel
theorem dX11_still_5 : decode cX11_still 5 = .ok (.getfield 44, 3) := by decide +kernel
theorem dX11_still_8 : decode cX11_still 8 = .ok (.getfield 125, 3) := by decide +kernel
theorem dX11_still_11 : decode cX11_still 11 = .ok (.aload_n 0, 1) := by decide +kernel
theorem dX11_still_12 : decode cX11_still 12 = .ok (.getfield 44, 3) := by decide +kernel
theorem dX11_still_15 : decode cX11_still 15 = .ok (.getfield 137, 3) := by decide +kernel
theorem dX11_still_18 : decode cX11_still 18 = .ok (.aload_n 0, 1) := by decide +kernel
theorem dX11_still_19 : decode cX11_still 19 = .ok (.getfield 44, 3) := by decide +kernel
theorem dX11_still_22 : decode cX11_still 22 = .ok (.getfield 140, 3) := by decide +kernel
theorem dX11_still_25 : decode cX11_still 25 = .ok (.iconst 0, 1) := by decide +kernel
theorem dX11_still_26 : decode cX11_still 26 = .ok (.invokevirtual 159, 3) := by decide +kernel
theorem dX11_still_29 : decode cX11_still 29 = .ok (.aload_n 0, 1) := by decide +kernel
theorem dX11_still_30 : decode cX11_still 30 = .ok (.getfield 44, 3) := by decide +kernel
theorem dX11_still_33 : decode cX11_still 33 = .ok (.getfield 125, 3) := by decide +kernel
theorem dX11_still_36 : decode cX11_still 36 = .ok (.lcmp, 1) := by decide +kernel
theorem dX11_still_37 : decode cX11_still 37 = .ok (.ifCond .ne 7, 3) := by decide +kernel
theorem dX11_still_40 : decode cX11_still 40 = .ok (.iconst 1, 1) := by decide +kernel
theorem dX11_still_41 : decode cX11_still 41 = .ok (.goto 4, 3) := by decide +kernel
theorem dX11_still_44 : decode cX11_still 44 = .ok (.iconst 0, 1) := by decide +kernel
theorem dX11_still_45 : decode cX11_still 45 = .ok (.ireturn, 1) := by decide +kernel
set_option maxHeartbeats 4000000 in
set_option maxRecDepth 100000 in
theorem w_X11_still_45 {X : CX} {T : List Dsc} {n1 n2 : Nat} {s0 : Int32} {μ : Mem} {r : (Int32 × Mem)} (hX : XR X 6 n1 n2) (hf : f_X11_still_45 T s0 μ = some r) (hk : FnI X cX11_still RX11 1 T n1 n2 r) : Wp X cX11_still RX11 1 T μ n1 n2 45 [] [.int s0] := by
  unfold f_X11_still_45 at hf
  cases hf
  exact hk _ _ dX11_still_45
set_option maxHeartbeats 4000000 in
set_option maxRecDepth 100000 in
theorem w_X11_still {X : CX} {T : List Dsc} {n1 n2 : Nat} {x0 : Nat} {μ : Mem} {r : (Int32 × Mem)} (hX : XR X 6 n1 n2) (hx0 : T[x0]? = some (.inl 10)) (hf : F_X11_still T x0 μ = some r) (hk : FnI X cX11_still RX11 1 T n1 n2 r) : Wp X cX11_still RX11 1 T μ n1 n2 0 [(0, .ref x0)] [] := by
  unfold F_X11_still at hf
  refine Wp.aload_n (pc := 0) 0 rfl rfl dX11_still_0 ?_
  obtain ⟨r1, h2, hf⟩ := bnd hf
  refine Wp.getR (pc := 1) (gO_R h2) hx0 fk_RX11_37 rfl dX11_still_1 ?_
  refine Wp.aload_n (pc := 4) 0 rfl rfl dX11_still_4 ?_
  obtain ⟨r3, h4, hf⟩ := bnd hf
  refine Wp.getR (pc := 5) (gO_R h4) hx0 fk_RX11_44 rfl dX11_still_5 ?_
  refine Wp.getJ (pc := 8) (gO_T h4) fk_RX11_125 rfl dX11_still_8 ?_
  refine Wp.aload_n (pc := 11) 0 rfl rfl dX11_still_11 ?_
  obtain ⟨r5, h6, hf⟩ := bnd hf
  refine Wp.getR (pc := 12) (gO_R h6) hx0 fk_RX11_44 rfl dX11_still_12 ?_
  obtain ⟨a7, h8, hf⟩ := bnd hf
  refine Wp.getR (pc := 15) (gA_R h8) (gO_T h6) fk_RX11_137 rfl dX11_still_15 ?_
  refine Wp.aload_n (pc := 18) 0 rfl rfl dX11_still_18 ?_
  obtain ⟨r9, h10, hf⟩ := bnd hf
  refine Wp.getR (pc := 19) (gO_R h10) hx0 fk_RX11_44 rfl dX11_still_19 ?_
  refine Wp.getI (pc := 22) (gO_T h10) fk_RX11_140 rfl dX11_still_22 ?_
  refine Wp.iconst (pc := 25) (0 : Int32) (by decide) dX11_still_25 ?_
  obtain ⟨c11, h12, hf⟩ := bnd hf
  refine Wp.callVl (pc := 26) (st := []) (as := [.long (gJ μ r3 0), .ref a7.1, .int (gI μ r9 3), .int (0 : Int32)]) (c_X5_stroke (gO_T h2) (gA_T h8) h12) ml_RX11_159 mv_X5_stroke mb_X5_stroke hX (Nat.le_of_ble_eq_true rfl) (by decide) rfl (gO_T h2) rfl (by simp) dX11_still_26 rfl ?_
  refine Wp.aload_n (pc := 29) 0 rfl rfl dX11_still_29 ?_
  obtain ⟨r13, h14, hf⟩ := bnd hf
  refine Wp.getR (pc := 30) (gO_R h14) hx0 fk_RX11_44 rfl dX11_still_30 ?_
  refine Wp.getJ (pc := 33) (gO_T h14) fk_RX11_125 rfl dX11_still_33 ?_
  refine Wp.lcmp (pc := 36) dX11_still_36 ?_
  refine Wp.if_ne (pc := 37) 44 dX11_still_37 (by decide) (fun hc15 => ?_) (fun hc15 => ?_)
  · rw [if_neg hc15] at hf
    refine Wp.iconst (pc := 44) (0 : Int32) (by decide) dX11_still_44 ?_
    refine Wp.lo' (lo' := []) [] rfl ?_
    exact w_X11_still_45 hX hf hk
  · rw [if_pos hc15] at hf
    refine Wp.iconst (pc := 40) (1 : Int32) (by decide) dX11_still_40 ?_
    refine Wp.goto (pc := 41) 45 dX11_still_41 (by decide) ?_
    refine Wp.lo' (lo' := []) [] rfl ?_
    exact w_X11_still_45 hX hf hk
theorem c_X11_still {T : List Dsc} {x0 : Nat} {μ : Mem} {r : (Int32 × Mem)} (hx0 : T[x0]? = some (.inl 10)) (hf : F_X11_still T x0 μ = some r) : Ct 6 yX11_still cX11_still 1 (some .int) T μ [.ref x0] (some (.int r.1)) r.2 := Ct.ofI (by decide +kernel) (Nat.le_of_ble_eq_true rfl) (fun X hX hk => w_X11_still hX hx0 hf hk)
theorem dX11_round_0 : decode cX11_round 0 = .ok (.iload_n 1, 1) := by decide +kernel
theorem dX11_round_1 : decode cX11_round 1 = .ok (.ifCond .lt 8, 3) := by decide +kernel
theorem dX11_round_4 : decode cX11_round 4 = .ok (.iload_n 1, 1) := by decide +kernel
theorem dX11_round_5 : decode cX11_round 5 = .ok (.iconst 1, 1) := by decide +kernel
theorem dX11_round_6 : decode cX11_round 6 = .ok (.if_icmp .le 5, 3) := by decide +kernel
theorem dX11_round_9 : decode cX11_round 9 = .ok (.iconst (-1), 1) := by decide +kernel
theorem dX11_round_10 : decode cX11_round 10 = .ok (.ireturn, 1) := by decide +kernel
theorem dX11_round_11 : decode cX11_round 11 = .ok (.aload_n 0, 1) := by decide +kernel
theorem dX11_round_12 : decode cX11_round 12 = .ok (.getfield 78, 3) := by decide +kernel
theorem dX11_round_15 : decode cX11_round 15 = .ok (.aload_n 0, 1) := by decide +kernel
theorem dX11_round_16 : decode cX11_round 16 = .ok (.getfield 44, 3) := by decide +kernel
theorem dX11_round_19 : decode cX11_round 19 = .ok (.invokevirtual 190, 3) := by decide +kernel
theorem dX11_round_22 : decode cX11_round 22 = .ok (.ifCond .ne 6, 3) := by decide +kernel
theorem dX11_round_25 : decode cX11_round 25 = .ok (.bipush (-2), 2) := by decide +kernel
theorem dX11_round_27 : decode cX11_round 27 = .ok (.ireturn, 1) := by decide +kernel
theorem dX11_round_28 : decode cX11_round 28 = .ok (.iload_n 1, 1) := by decide +kernel
theorem dX11_round_29 : decode cX11_round 29 = .ok (.ifCond .ne 13, 3) := by decide +kernel
theorem dX11_round_32 : decode cX11_round 32 = .ok (.aload_n 0, 1) := by decide +kernel
theorem dX11_round_33 : decode cX11_round 33 = .ok (.getfield 78, 3) := by decide +kernel
theorem dX11_round_36 : decode cX11_round 36 = .ok (.getfield 194, 3) := by decide +kernel
theorem dX11_round_39 : decode cX11_round 39 = .ok (.goto 10, 3) := by decide +kernel
theorem dX11_round_42 : decode cX11_round 42 = .ok (.aload_n 0, 1) := by decide +kernel
theorem dX11_round_43 : decode cX11_round 43 = .ok (.getfield 78, 3) := by decide +kernel
theorem dX11_round_46 : decode cX11_round 46 = .ok (.getfield 197, 3) := by decide +kernel
theorem dX11_round_49 : decode cX11_round 49 = .ok (.ireturn, 1) := by decide +kernel
set_option maxHeartbeats 4000000 in
set_option maxRecDepth 100000 in
theorem w_X11_round_9 {X : CX} {T : List Dsc} {n1 n2 : Nat} {μ : Mem} {r : (Int32 × Mem)} (hX : XR X 7 n1 n2) (hf : f_X11_round_9 T μ = some r) (hk : FnI X cX11_round RX11 2 T n1 n2 r) : Wp X cX11_round RX11 2 T μ n1 n2 9 [] [] := by
  unfold f_X11_round_9 at hf
  refine Wp.iconst (pc := 9) (-1 : Int32) (by decide) dX11_round_9 ?_
  cases hf
  exact hk _ _ dX11_round_10
set_option maxHeartbeats 4000000 in
set_option maxRecDepth 100000 in
theorem w_X11_round_49 {X : CX} {T : List Dsc} {n1 n2 : Nat} {s0 : Int32} {μ : Mem} {r : (Int32 × Mem)} (hX : XR X 7 n1 n2) (hf : f_X11_round_49 T s0 μ = some r) (hk : FnI X cX11_round RX11 2 T n1 n2 r) : Wp X cX11_round RX11 2 T μ n1 n2 49 [] [.int s0] := by
  unfold f_X11_round_49 at hf
  cases hf
  exact hk _ _ dX11_round_49
set_option maxHeartbeats 4000000 in
set_option maxRecDepth 100000 in
theorem w_X11_round {X : CX} {T : List Dsc} {n1 n2 : Nat} {x0 : Nat} {x1 : Int32} {μ : Mem} {r : (Int32 × Mem)} (hX : XR X 7 n1 n2) (hx0 : T[x0]? = some (.inl 10)) (hf : F_X11_round T x0 x1 μ = some r) (hk : FnI X cX11_round RX11 2 T n1 n2 r) : Wp X cX11_round RX11 2 T μ n1 n2 0 [(0, .ref x0), (1, .int x1)] [] := by
  unfold F_X11_round at hf
  refine Wp.iload_n (pc := 0) 1 rfl rfl dX11_round_0 ?_
  refine Wp.if_lt (pc := 1) 9 dX11_round_1 (by decide) (fun hc1 => ?_) (fun hc1 => ?_)
  · rw [if_pos hc1] at hf
    refine Wp.lo' (lo' := []) [] rfl ?_
    exact w_X11_round_9 hX hf hk
  · rw [if_neg hc1] at hf
    refine Wp.iload_n (pc := 4) 1 rfl rfl dX11_round_4 ?_
    refine Wp.iconst (pc := 5) (1 : Int32) (by decide) dX11_round_5 ?_
    refine Wp.icmp_le (pc := 6) 11 dX11_round_6 (by decide) (fun hc2 => ?_) (fun hc2 => ?_)
    · rw [if_pos hc2] at hf
      refine Wp.aload_n (pc := 11) 0 rfl rfl dX11_round_11 ?_
      obtain ⟨r3, h4, hf⟩ := bnd hf
      refine Wp.getR (pc := 12) (gO_R h4) hx0 fk_RX11_78 rfl dX11_round_12 ?_
      refine Wp.aload_n (pc := 15) 0 rfl rfl dX11_round_15 ?_
      obtain ⟨r5, h6, hf⟩ := bnd hf
      refine Wp.getR (pc := 16) (gO_R h6) hx0 fk_RX11_44 rfl dX11_round_16 ?_
      obtain ⟨c7, h8, hf⟩ := bnd hf
      refine Wp.callVi (pc := 19) (st := []) (as := [.ref r5]) (c_X9_findRound (gO_T h4) (gO_T h6) h8) ml_RX11_190 mv_X9_findRound mb_X9_findRound hX (Nat.le_of_ble_eq_true rfl) (by decide) rfl (gO_T h4) rfl (by simp) dX11_round_19 rfl ?_
      refine Wp.if_ne (pc := 22) 28 dX11_round_22 (by decide) (fun hc9 => ?_) (fun hc9 => ?_)
      · rw [if_neg hc9] at hf
        refine Wp.iload_n (pc := 28) 1 rfl rfl dX11_round_28 ?_
        refine Wp.if_ne (pc := 29) 42 dX11_round_29 (by decide) (fun hc10 => ?_) (fun hc10 => ?_)
        · rw [if_neg hc10] at hf
          refine Wp.aload_n (pc := 42) 0 rfl rfl dX11_round_42 ?_
          obtain ⟨r11, h12, hf⟩ := bnd hf
          refine Wp.getR (pc := 43) (gO_R h12) hx0 fk_RX11_78 rfl dX11_round_43 ?_
          refine Wp.getI (pc := 46) (gO_T h12) fk_RX11_197 rfl dX11_round_46 ?_
          refine Wp.lo' (lo' := []) [] rfl ?_
          exact w_X11_round_49 hX hf hk
        · rw [if_pos hc10] at hf
          refine Wp.aload_n (pc := 32) 0 rfl rfl dX11_round_32 ?_
          obtain ⟨r13, h14, hf⟩ := bnd hf
          refine Wp.getR (pc := 33) (gO_R h14) hx0 fk_RX11_78 rfl dX11_round_33 ?_
          refine Wp.getI (pc := 36) (gO_T h14) fk_RX11_194 rfl dX11_round_36 ?_
          refine Wp.goto (pc := 39) 49 dX11_round_39 (by decide) ?_
          refine Wp.lo' (lo' := []) [] rfl ?_
          exact w_X11_round_49 hX hf hk
      · rw [if_pos hc9] at hf
        refine Wp.bipush (pc := 25) (-2 : Int32) (by decide) dX11_round_25 ?_
        cases hf
        exact hk _ _ dX11_round_27
    · rw [if_neg hc2] at hf
      refine Wp.lo' (lo' := []) [] rfl ?_
      exact w_X11_round_9 hX hf hk
theorem c_X11_round {T : List Dsc} {x0 : Nat} {x1 : Int32} {μ : Mem} {r : (Int32 × Mem)} (hx0 : T[x0]? = some (.inl 10)) (hf : F_X11_round T x0 x1 μ = some r) : Ct 7 yX11_round cX11_round 2 (some .int) T μ [.ref x0, .int x1] (some (.int r.1)) r.2 := Ct.ofI (by decide +kernel) (Nat.le_of_ble_eq_true rfl) (fun X hX hk => w_X11_round hX hx0 hf hk)
theorem dX11_change_0 : decode cX11_change 0 = .ok (.aload_n 0, 1) := by decide +kernel
theorem dX11_change_1 : decode cX11_change 1 = .ok (.iload_n 1, 1) := by decide +kernel
theorem dX11_change_2 : decode cX11_change 2 = .ok (.invokevirtual 121, 3) := by decide +kernel
theorem dX11_change_5 : decode cX11_change 5 = .ok (.ifCond .eq 16, 3) := by decide +kernel
theorem dX11_change_8 : decode cX11_change 8 = .ok (.aload_n 0, 1) := by decide +kernel
theorem dX11_change_9 : decode cX11_change 9 = .ok (.iload_n 2, 1) := by decide +kernel
theorem dX11_change_10 : decode cX11_change 10 = .ok (.invokevirtual 121, 3) := by decide +kernel
theorem dX11_change_13 : decode cX11_change 13 = .ok (.ifCond .eq 8, 3) := by decide +kernel
theorem dX11_change_16 : decode cX11_change 16 = .ok (.iload_n 1, 1) := by decide +kernel
theorem dX11_change_17 : decode cX11_change 17 = .ok (.iload_n 2, 1) := by decide +kernel
theorem dX11_change_18 : decode cX11_change 18 = .ok (.if_icmp .ne 5, 3) := by decide +kernel
theorem dX11_change_21 : decode cX11_change 21 = .ok (.iconst 0, 1) := by decide +kernel
theorem dX11_change_22 : decode cX11_change 22 = .ok (.ireturn, 1) := by decide +kernel
theorem dX11_change_23 : decode cX11_change 23 = .ok (.aload_n 0, 1) := by decide +kernel
theorem dX11_change_24 : decode cX11_change 24 = .ok (.getfield 44, 3) := by decide +kernel
theorem dX11_change_27 : decode cX11_change 27 = .ok (.iload_n 1, 1) := by decide +kernel
theorem dX11_change_28 : decode cX11_change 28 = .ok (.iload_n 2, 1) := by decide +kernel
theorem dX11_change_29 : decode cX11_change 29 = .ok (.invokevirtual 200, 3) := by decide +kernel
theorem dX11_change_32 : decode cX11_change 32 = .ok (.iconst 1, 1) := by decide +kernel
theorem dX11_change_33 : decode cX11_change 33 = .ok (.ireturn, 1) := by decide +kernel
set_option maxHeartbeats 4000000 in
set_option maxRecDepth 100000 in
theorem w_X11_change_21 {X : CX} {T : List Dsc} {n1 n2 : Nat} {μ : Mem} {r : (Int32 × Mem)} (hX : XR X 3 n1 n2) (hf : f_X11_change_21 T μ = some r) (hk : FnZ X cX11_change RX11 3 T n1 n2 r) : Wp X cX11_change RX11 3 T μ n1 n2 21 [] [] := by
  unfold f_X11_change_21 at hf
  refine Wp.iconst (pc := 21) (0 : Int32) (by decide) dX11_change_21 ?_
  cases hf
  exact hk _ _ (Or.inl rfl) dX11_change_22
set_option maxHeartbeats 4000000 in
set_option maxRecDepth 100000 in
theorem w_X11_change {X : CX} {T : List Dsc} {n1 n2 : Nat} {x0 : Nat} {x1 : Int32} {x2 : Int32} {μ : Mem} {r : (Int32 × Mem)} (hX : XR X 3 n1 n2) (hx0 : T[x0]? = some (.inl 10)) (hf : F_X11_change T x0 x1 x2 μ = some r) (hk : FnZ X cX11_change RX11 3 T n1 n2 r) : Wp X cX11_change RX11 3 T μ n1 n2 0 [(0, .ref x0), (1, .int x1), (2, .int x2)] [] := by
  unfold F_X11_change at hf
  refine Wp.aload_n (pc := 0) 0 rfl rfl dX11_change_0 ?_
  refine Wp.iload_n (pc := 1) 1 rfl rfl dX11_change_1 ?_
  obtain ⟨c1, h2, hf⟩ := bnd hf
  refine Wp.callVi (pc := 2) (st := []) (as := [.int x1]) (c_X11_isBench hx0 h2) ml_RX11_121 mv_X11_isBench mb_X11_isBench hX (Nat.le_of_ble_eq_true rfl) (by decide) rfl hx0 rfl (by simp) dX11_change_2 rfl ?_
  refine Wp.if_eq (pc := 5) 21 dX11_change_5 (by decide) (fun hc3 => ?_) (fun hc3 => ?_)
  · rw [if_pos hc3] at hf
    refine Wp.lo' (lo' := []) [] rfl ?_
    exact w_X11_change_21 hX hf hk
  · rw [if_neg hc3] at hf
    refine Wp.aload_n (pc := 8) 0 rfl rfl dX11_change_8 ?_
    refine Wp.iload_n (pc := 9) 2 rfl rfl dX11_change_9 ?_
    obtain ⟨c4, h5, hf⟩ := bnd hf
    refine Wp.callVi (pc := 10) (st := []) (as := [.int x2]) (c_X11_isBench hx0 h5) ml_RX11_121 mv_X11_isBench mb_X11_isBench hX (Nat.le_of_ble_eq_true rfl) (by decide) rfl hx0 rfl (by simp) dX11_change_10 rfl ?_
    refine Wp.if_eq (pc := 13) 21 dX11_change_13 (by decide) (fun hc6 => ?_) (fun hc6 => ?_)
    · rw [if_pos hc6] at hf
      refine Wp.lo' (lo' := []) [] rfl ?_
      exact w_X11_change_21 hX hf hk
    · rw [if_neg hc6] at hf
      refine Wp.iload_n (pc := 16) 1 rfl rfl dX11_change_16 ?_
      refine Wp.iload_n (pc := 17) 2 rfl rfl dX11_change_17 ?_
      refine Wp.icmp_ne (pc := 18) 23 dX11_change_18 (by decide) (fun hc7 => ?_) (fun hc7 => ?_)
      · rw [if_neg hc7] at hf
        refine Wp.aload_n (pc := 23) 0 rfl rfl dX11_change_23 ?_
        obtain ⟨r8, h9, hf⟩ := bnd hf
        refine Wp.getR (pc := 24) (gO_R h9) hx0 fk_RX11_44 rfl dX11_change_24 ?_
        refine Wp.iload_n (pc := 27) 1 rfl rfl dX11_change_27 ?_
        refine Wp.iload_n (pc := 28) 2 rfl rfl dX11_change_28 ?_
        obtain ⟨c10, h11, hf⟩ := bnd hf
        refine Wp.callVv (pc := 29) (st := []) (as := [.int x1, .int x2]) (c_X1_exchange (gO_T h9) h11) ml_RX11_200 mv_X1_exchange mb_X1_exchange hX (Nat.le_of_ble_eq_true rfl) (by decide) rfl (gO_T h9) rfl (by simp) dX11_change_29 rfl ?_
        refine Wp.iconst (pc := 32) (1 : Int32) (by decide) dX11_change_32 ?_
        cases hf
        exact hk _ _ (Or.inr rfl) dX11_change_33
      · rw [if_pos hc7] at hf
        refine Wp.lo' (lo' := []) [] rfl ?_
        exact w_X11_change_21 hX hf hk
theorem c_X11_change {T : List Dsc} {x0 : Nat} {x1 : Int32} {x2 : Int32} {μ : Mem} {r : (Int32 × Mem)} (hx0 : T[x0]? = some (.inl 10)) (hf : F_X11_change T x0 x1 x2 μ = some r) : Ct 3 yX11_change cX11_change 3 (some .boolean) T μ [.ref x0, .int x1, .int x2] (some (.int r.1)) r.2 := Ct.ofZ (by decide +kernel) (Nat.le_of_ble_eq_true rfl) (fun X hX hk => w_X11_change hX hx0 hf hk)
theorem dX11_teach_0 : decode cX11_teach 0 = .ok (.aload_n 0, 1) := by decide +kernel
theorem dX11_teach_1 : decode cX11_teach 1 = .ok (.iload_n 1, 1) := by decide +kernel
theorem dX11_teach_2 : decode cX11_teach 2 = .ok (.invokevirtual 121, 3) := by decide +kernel
theorem dX11_teach_5 : decode cX11_teach 5 = .ok (.ifCond .eq 18, 3) := by decide +kernel
theorem dX11_teach_8 : decode cX11_teach 8 = .ok (.iload_n 2, 1) := by decide +kernel
theorem dX11_teach_9 : decode cX11_teach 9 = .ok (.ifCond .lt 14, 3) := by decide +kernel
theorem dX11_teach_12 : decode cX11_teach 12 = .ok (.iload_n 2, 1) := by decide +kernel
theorem dX11_teach_13 : decode cX11_teach 13 = .ok (.aload_n 0, 1) := by decide +kernel
theorem dX11_teach_14 : decode cX11_teach 14 = .ok (.getfield 16, 3) := by decide +kernel
theorem dX11_teach_17 : decode cX11_teach 17 = .ok (.getfield 204, 3) := by decide +kernel
theorem dX11_teach_20 : decode cX11_teach 20 = .ok (.if_icmp .lt 5, 3) := by decide +kernel
theorem dX11_teach_23 : decode cX11_teach 23 = .ok (.iconst 0, 1) := by decide +kernel
theorem dX11_teach_24 : decode cX11_teach 24 = .ok (.ireturn, 1) := by decide +kernel
theorem dX11_teach_25 : decode cX11_teach 25 = .ok (.aload_n 0, 1) := by decide +kernel
theorem dX11_teach_26 : decode cX11_teach 26 = .ok (.getfield 44, 3) := by decide +kernel
theorem dX11_teach_29 : decode cX11_teach 29 = .ok (.getfield 137, 3) := by decide +kernel
theorem dX11_teach_32 : decode cX11_teach 32 = .ok (.iload_n 1, 1) := by decide +kernel
theorem dX11_teach_33 : decode cX11_teach 33 = .ok (.iload_n 2, 1) := by decide +kernel
theorem dX11_teach_34 : decode cX11_teach 34 = .ok (.iastore, 1) := by decide +kernel
theorem dX11_teach_35 : decode cX11_teach 35 = .ok (.iconst 1, 1) := by decide +kernel
theorem dX11_teach_36 : decode cX11_teach 36 = .ok (.ireturn, 1) := by decide +kernel
set_option maxHeartbeats 4000000 in
set_option maxRecDepth 100000 in
theorem w_X11_teach_23 {X : CX} {T : List Dsc} {n1 n2 : Nat} {μ : Mem} {r : (Int32 × Mem)} (hX : XR X 2 n1 n2) (hf : f_X11_teach_23 T μ = some r) (hk : FnZ X cX11_teach RX11 3 T n1 n2 r) : Wp X cX11_teach RX11 3 T μ n1 n2 23 [] [] := by
  unfold f_X11_teach_23 at hf
  refine Wp.iconst (pc := 23) (0 : Int32) (by decide) dX11_teach_23 ?_
  cases hf
  exact hk _ _ (Or.inl rfl) dX11_teach_24
set_option maxHeartbeats 4000000 in
set_option maxRecDepth 100000 in
theorem w_X11_teach {X : CX} {T : List Dsc} {n1 n2 : Nat} {x0 : Nat} {x1 : Int32} {x2 : Int32} {μ : Mem} {r : (Int32 × Mem)} (hX : XR X 2 n1 n2) (hx0 : T[x0]? = some (.inl 10)) (hf : F_X11_teach T x0 x1 x2 μ = some r) (hk : FnZ X cX11_teach RX11 3 T n1 n2 r) : Wp X cX11_teach RX11 3 T μ n1 n2 0 [(0, .ref x0), (1, .int x1), (2, .int x2)] [] := by
  unfold F_X11_teach at hf
  refine Wp.aload_n (pc := 0) 0 rfl rfl dX11_teach_0 ?_
  refine Wp.iload_n (pc := 1) 1 rfl rfl dX11_teach_1 ?_
  obtain ⟨c1, h2, hf⟩ := bnd hf
  refine Wp.callVi (pc := 2) (st := []) (as := [.int x1]) (c_X11_isBench hx0 h2) ml_RX11_121 mv_X11_isBench mb_X11_isBench hX (Nat.le_of_ble_eq_true rfl) (by decide) rfl hx0 rfl (by simp) dX11_teach_2 rfl ?_
  refine Wp.if_eq (pc := 5) 23 dX11_teach_5 (by decide) (fun hc3 => ?_) (fun hc3 => ?_)
  · rw [if_pos hc3] at hf
    refine Wp.lo' (lo' := []) [] rfl ?_
    exact w_X11_teach_23 hX hf hk
  · rw [if_neg hc3] at hf
    refine Wp.iload_n (pc := 8) 2 rfl rfl dX11_teach_8 ?_
    refine Wp.if_lt (pc := 9) 23 dX11_teach_9 (by decide) (fun hc4 => ?_) (fun hc4 => ?_)
    · rw [if_pos hc4] at hf
      refine Wp.lo' (lo' := []) [] rfl ?_
      exact w_X11_teach_23 hX hf hk
    · rw [if_neg hc4] at hf
      refine Wp.iload_n (pc := 12) 2 rfl rfl dX11_teach_12 ?_
      refine Wp.aload_n (pc := 13) 0 rfl rfl dX11_teach_13 ?_
      obtain ⟨r5, h6, hf⟩ := bnd hf
      refine Wp.getR (pc := 14) (gO_R h6) hx0 fk_RX11_16 rfl dX11_teach_14 ?_
      refine Wp.getI (pc := 17) (gO_T h6) fk_RX11_204 rfl dX11_teach_17 ?_
      refine Wp.icmp_lt (pc := 20) 25 dX11_teach_20 (by decide) (fun hc7 => ?_) (fun hc7 => ?_)
      · rw [if_pos hc7] at hf
        refine Wp.aload_n (pc := 25) 0 rfl rfl dX11_teach_25 ?_
        obtain ⟨r8, h9, hf⟩ := bnd hf
        refine Wp.getR (pc := 26) (gO_R h9) hx0 fk_RX11_44 rfl dX11_teach_26 ?_
        obtain ⟨a10, h11, hf⟩ := bnd hf
        refine Wp.getR (pc := 29) (gA_R h11) (gO_T h9) fk_RX11_137 rfl dX11_teach_29 ?_
        refine Wp.iload_n (pc := 32) 1 rfl rfl dX11_teach_32 ?_
        refine Wp.iload_n (pc := 33) 2 rfl rfl dX11_teach_33 ?_
        obtain ⟨μ12, h13, hf⟩ := bnd hf
        refine Wp.iast (pc := 34) h13 (gA_T h11) dX11_teach_34 ?_
        refine Wp.iconst (pc := 35) (1 : Int32) (by decide) dX11_teach_35 ?_
        cases hf
        exact hk _ _ (Or.inr rfl) dX11_teach_36
      · rw [if_neg hc7] at hf
        refine Wp.lo' (lo' := []) [] rfl ?_
        exact w_X11_teach_23 hX hf hk
theorem c_X11_teach {T : List Dsc} {x0 : Nat} {x1 : Int32} {x2 : Int32} {μ : Mem} {r : (Int32 × Mem)} (hx0 : T[x0]? = some (.inl 10)) (hf : F_X11_teach T x0 x1 x2 μ = some r) : Ct 2 yX11_teach cX11_teach 3 (some .boolean) T μ [.ref x0, .int x1, .int x2] (some (.int r.1)) r.2 := Ct.ofZ (by decide +kernel) (Nat.le_of_ble_eq_true rfl) (fun X hX hk => w_X11_teach hX hx0 hf hk)
theorem dX11_set_0 : decode cX11_set 0 = .ok (.aload_n 0, 1) := by decide +kernel
theorem dX11_set_1 : decode cX11_set 1 = .ok (.iload_n 1, 1) := by decide +kernel
theorem dX11_set_2 : decode cX11_set 2 = .ok (.invokevirtual 121, 3) := by decide +kernel
theorem dX11_set_5 : decode cX11_set 5 = .ok (.ifCond .eq 18, 3) := by decide +kernel
theorem dX11_set_8 : decode cX11_set 8 = .ok (.iload_n 2, 1) := by decide +kernel
theorem dX11_set_9 : decode cX11_set 9 = .ok (.ifCond .lt 14, 3) := by decide +kernel
theorem dX11_set_12 : decode cX11_set 12 = .ok (.iload_n 2, 1) := by decide +kernel
theorem dX11_set_13 : decode cX11_set 13 = .ok (.aload_n 0, 1) := by decide +kernel
theorem dX11_set_14 : decode cX11_set 14 = .ok (.getfield 16, 3) := by decide +kernel
theorem dX11_set_17 : decode cX11_set 17 = .ok (.getfield 206, 3) := by decide +kernel
theorem dX11_set_20 : decode cX11_set 20 = .ok (.if_icmp .lt 5, 3) := by decide +kernel
theorem dX11_set_23 : decode cX11_set 23 = .ok (.iconst 0, 1) := by decide +kernel
theorem dX11_set_24 : decode cX11_set 24 = .ok (.ireturn, 1) := by decide +kernel
theorem dX11_set_25 : decode cX11_set 25 = .ok (.aload_n 0, 1) := by decide +kernel
theorem dX11_set_26 : decode cX11_set 26 = .ok (.getfield 44, 3) := by decide +kernel
theorem dX11_set_29 : decode cX11_set 29 = .ok (.aload_n 0, 1) := by decide +kernel
theorem dX11_set_30 : decode cX11_set 30 = .ok (.getfield 44, 3) := by decide +kernel
theorem dX11_set_33 : decode cX11_set 33 = .ok (.getfield 125, 3) := by decide +kernel
theorem dX11_set_36 : decode cX11_set 36 = .ok (.iload_n 1, 1) := by decide +kernel
theorem dX11_set_37 : decode cX11_set 37 = .ok (.iload_n 2, 1) := by decide +kernel
theorem dX11_set_38 : decode cX11_set 38 = .ok (.invokestatic 209, 3) := by decide +kernel
theorem dX11_set_41 : decode cX11_set 41 = .ok (.putfield 125, 3) := by decide +kernel
theorem dX11_set_44 : decode cX11_set 44 = .ok (.iconst 1, 1) := by decide +kernel
theorem dX11_set_45 : decode cX11_set 45 = .ok (.ireturn, 1) := by decide +kernel
set_option maxHeartbeats 4000000 in
set_option maxRecDepth 100000 in
theorem w_X11_set_23 {X : CX} {T : List Dsc} {n1 n2 : Nat} {μ : Mem} {r : (Int32 × Mem)} (hX : XR X 2 n1 n2) (hf : f_X11_set_23 T μ = some r) (hk : FnZ X cX11_set RX11 3 T n1 n2 r) : Wp X cX11_set RX11 3 T μ n1 n2 23 [] [] := by
  unfold f_X11_set_23 at hf
  refine Wp.iconst (pc := 23) (0 : Int32) (by decide) dX11_set_23 ?_
  cases hf
  exact hk _ _ (Or.inl rfl) dX11_set_24
set_option maxHeartbeats 4000000 in
set_option maxRecDepth 100000 in
theorem w_X11_set {X : CX} {T : List Dsc} {n1 n2 : Nat} {x0 : Nat} {x1 : Int32} {x2 : Int32} {μ : Mem} {r : (Int32 × Mem)} (hX : XR X 2 n1 n2) (hx0 : T[x0]? = some (.inl 10)) (hf : F_X11_set T x0 x1 x2 μ = some r) (hk : FnZ X cX11_set RX11 3 T n1 n2 r) : Wp X cX11_set RX11 3 T μ n1 n2 0 [(0, .ref x0), (1, .int x1), (2, .int x2)] [] := by
  unfold F_X11_set at hf
  refine Wp.aload_n (pc := 0) 0 rfl rfl dX11_set_0 ?_
  refine Wp.iload_n (pc := 1) 1 rfl rfl dX11_set_1 ?_
  obtain ⟨c1, h2, hf⟩ := bnd hf
  refine Wp.callVi (pc := 2) (st := []) (as := [.int x1]) (c_X11_isBench hx0 h2) ml_RX11_121 mv_X11_isBench mb_X11_isBench hX (Nat.le_of_ble_eq_true rfl) (by decide) rfl hx0 rfl (by simp) dX11_set_2 rfl ?_
  refine Wp.if_eq (pc := 5) 23 dX11_set_5 (by decide) (fun hc3 => ?_) (fun hc3 => ?_)
  · rw [if_pos hc3] at hf
    refine Wp.lo' (lo' := []) [] rfl ?_
    exact w_X11_set_23 hX hf hk
  · rw [if_neg hc3] at hf
    refine Wp.iload_n (pc := 8) 2 rfl rfl dX11_set_8 ?_
    refine Wp.if_lt (pc := 9) 23 dX11_set_9 (by decide) (fun hc4 => ?_) (fun hc4 => ?_)
    · rw [if_pos hc4] at hf
      refine Wp.lo' (lo' := []) [] rfl ?_
      exact w_X11_set_23 hX hf hk
    · rw [if_neg hc4] at hf
      refine Wp.iload_n (pc := 12) 2 rfl rfl dX11_set_12 ?_
      refine Wp.aload_n (pc := 13) 0 rfl rfl dX11_set_13 ?_
      obtain ⟨r5, h6, hf⟩ := bnd hf
      refine Wp.getR (pc := 14) (gO_R h6) hx0 fk_RX11_16 rfl dX11_set_14 ?_
      refine Wp.getI (pc := 17) (gO_T h6) fk_RX11_206 rfl dX11_set_17 ?_
      refine Wp.icmp_lt (pc := 20) 25 dX11_set_20 (by decide) (fun hc7 => ?_) (fun hc7 => ?_)
      · rw [if_pos hc7] at hf
        refine Wp.aload_n (pc := 25) 0 rfl rfl dX11_set_25 ?_
        obtain ⟨r8, h9, hf⟩ := bnd hf
        refine Wp.getR (pc := 26) (gO_R h9) hx0 fk_RX11_44 rfl dX11_set_26 ?_
        refine Wp.aload_n (pc := 29) 0 rfl rfl dX11_set_29 ?_
        obtain ⟨r10, h11, hf⟩ := bnd hf
        refine Wp.getR (pc := 30) (gO_R h11) hx0 fk_RX11_44 rfl dX11_set_30 ?_
        refine Wp.getJ (pc := 33) (gO_T h11) fk_RX11_125 rfl dX11_set_33 ?_
        refine Wp.iload_n (pc := 36) 1 rfl rfl dX11_set_36 ?_
        refine Wp.iload_n (pc := 37) 2 rfl rfl dX11_set_37 ?_
        obtain ⟨c12, h13, hf⟩ := bnd hf
        refine Wp.callSl (pc := 38) (st := [.ref r8]) (as := [.long (gJ c1.2 r10 0), .int x1, .int x2]) (c_X11_withTime h13) ml_RX11_209 ms_X11_withTime mb_X11_withTime hX (Nat.le_of_ble_eq_true rfl) (by decide) rfl (by simp [Value.category]) dX11_set_38 rfl ?_
        obtain ⟨μ14, h15, hf⟩ := bnd hf
        refine Wp.ptJ (pc := 41) h15 (gO_T h9) fk_RX11_125 ff_RX11_1_0 rfl dX11_set_41 ?_
        refine Wp.iconst (pc := 44) (1 : Int32) (by decide) dX11_set_44 ?_
        cases hf
        exact hk _ _ (Or.inr rfl) dX11_set_45
      · rw [if_neg hc7] at hf
        refine Wp.lo' (lo' := []) [] rfl ?_
        exact w_X11_set_23 hX hf hk
theorem c_X11_set {T : List Dsc} {x0 : Nat} {x1 : Int32} {x2 : Int32} {μ : Mem} {r : (Int32 × Mem)} (hx0 : T[x0]? = some (.inl 10)) (hf : F_X11_set T x0 x1 x2 μ = some r) : Ct 2 yX11_set cX11_set 3 (some .boolean) T μ [.ref x0, .int x1, .int x2] (some (.int r.1)) r.2 := Ct.ofZ (by decide +kernel) (Nat.le_of_ble_eq_true rfl) (fun X hX hk => w_X11_set hX hx0 hf hk)
theorem dX11_beat_0 : decode cX11_beat 0 = .ok (.iload_n 1, 1) := by decide +kernel
theorem dX11_beat_1 : decode cX11_beat 1 = .ok (.ifCond .lt 14, 3) := by decide +kernel
theorem dX11_beat_4 : decode cX11_beat 4 = .ok (.iload_n 1, 1) := by decide +kernel
theorem dX11_beat_5 : decode cX11_beat 5 = .ok (.aload_n 0, 1) := by decide +kernel
theorem dX11_beat_6 : decode cX11_beat 6 = .ok (.getfield 16, 3) := by decide +kernel
theorem dX11_beat_9 : decode cX11_beat 9 = .ok (.getfield 206, 3) := by decide +kernel
theorem dX11_beat_12 : decode cX11_beat 12 = .ok (.if_icmp .lt 5, 3) := by decide +kernel
theorem dX11_beat_15 : decode cX11_beat 15 = .ok (.iconst 0, 1) := by decide +kernel
theorem dX11_beat_16 : decode cX11_beat 16 = .ok (.ireturn, 1) := by decide +kernel
theorem dX11_beat_17 : decode cX11_beat 17 = .ok (.aload_n 0, 1) := by decide +kernel
theorem dX11_beat_18 : decode cX11_beat 18 = .ok (.getfield 44, 3) := by decide +kernel
theorem dX11_beat_21 : decode cX11_beat 21 = .ok (.iload_n 1, 1) := by decide +kernel
theorem dX11_beat_22 : decode cX11_beat 22 = .ok (.putfield 140, 3) := by decide +kernel
theorem dX11_beat_25 : decode cX11_beat 25 = .ok (.iconst 1, 1) := by decide +kernel
theorem dX11_beat_26 : decode cX11_beat 26 = .ok (.ireturn, 1) := by decide +kernel
set_option maxHeartbeats 4000000 in
set_option maxRecDepth 100000 in
theorem w_X11_beat_15 {X : CX} {T : List Dsc} {n1 n2 : Nat} {μ : Mem} {r : (Int32 × Mem)} (hX : XR X 1 n1 n2) (hf : f_X11_beat_15 T μ = some r) (hk : FnZ X cX11_beat RX11 2 T n1 n2 r) : Wp X cX11_beat RX11 2 T μ n1 n2 15 [] [] := by
  unfold f_X11_beat_15 at hf
  refine Wp.iconst (pc := 15) (0 : Int32) (by decide) dX11_beat_15 ?_
  cases hf
  exact hk _ _ (Or.inl rfl) dX11_beat_16
set_option maxHeartbeats 4000000 in
set_option maxRecDepth 100000 in
theorem w_X11_beat {X : CX} {T : List Dsc} {n1 n2 : Nat} {x0 : Nat} {x1 : Int32} {μ : Mem} {r : (Int32 × Mem)} (hX : XR X 1 n1 n2) (hx0 : T[x0]? = some (.inl 10)) (hf : F_X11_beat T x0 x1 μ = some r) (hk : FnZ X cX11_beat RX11 2 T n1 n2 r) : Wp X cX11_beat RX11 2 T μ n1 n2 0 [(0, .ref x0), (1, .int x1)] [] := by
  unfold F_X11_beat at hf
  refine Wp.iload_n (pc := 0) 1 rfl rfl dX11_beat_0 ?_
  refine Wp.if_lt (pc := 1) 15 dX11_beat_1 (by decide) (fun hc1 => ?_) (fun hc1 => ?_)
  · rw [if_pos hc1] at hf
    refine Wp.lo' (lo' := []) [] rfl ?_
    exact w_X11_beat_15 hX hf hk
  · rw [if_neg hc1] at hf
    refine Wp.iload_n (pc := 4) 1 rfl rfl dX11_beat_4 ?_
    refine Wp.aload_n (pc := 5) 0 rfl rfl dX11_beat_5 ?_
    obtain ⟨r2, h3, hf⟩ := bnd hf
    refine Wp.getR (pc := 6) (gO_R h3) hx0 fk_RX11_16 rfl dX11_beat_6 ?_
    refine Wp.getI (pc := 9) (gO_T h3) fk_RX11_206 rfl dX11_beat_9 ?_
    refine Wp.icmp_lt (pc := 12) 17 dX11_beat_12 (by decide) (fun hc4 => ?_) (fun hc4 => ?_)
    · rw [if_pos hc4] at hf
      refine Wp.aload_n (pc := 17) 0 rfl rfl dX11_beat_17 ?_
      obtain ⟨r5, h6, hf⟩ := bnd hf
      refine Wp.getR (pc := 18) (gO_R h6) hx0 fk_RX11_44 rfl dX11_beat_18 ?_
      refine Wp.iload_n (pc := 21) 1 rfl rfl dX11_beat_21 ?_
      obtain ⟨μ7, h8, hf⟩ := bnd hf
      refine Wp.ptI (pc := 22) h8 (gO_T h6) fk_RX11_140 ff_RX11_1_3 rfl dX11_beat_22 ?_
      refine Wp.iconst (pc := 25) (1 : Int32) (by decide) dX11_beat_25 ?_
      cases hf
      exact hk _ _ (Or.inr rfl) dX11_beat_26
    · rw [if_neg hc4] at hf
      refine Wp.lo' (lo' := []) [] rfl ?_
      exact w_X11_beat_15 hX hf hk
theorem c_X11_beat {T : List Dsc} {x0 : Nat} {x1 : Int32} {μ : Mem} {r : (Int32 × Mem)} (hx0 : T[x0]? = some (.inl 10)) (hf : F_X11_beat T x0 x1 μ = some r) : Ct 1 yX11_beat cX11_beat 2 (some .boolean) T μ [.ref x0, .int x1] (some (.int r.1)) r.2 := Ct.ofZ (by decide +kernel) (Nat.le_of_ble_eq_true rfl) (fun X hX hk => w_X11_beat hX hx0 hf hk)
theorem dX11_seating_0 : decode cX11_seating 0 = .ok (.iload_n 1, 1) := by decide +kernel
theorem dX11_seating_1 : decode cX11_seating 1 = .ok (.iload_n 2, 1) := by decide +kernel
theorem dX11_seating_2 : decode cX11_seating 2 = .ok (.invokestatic 213, 3) := by decide +kernel
theorem dX11_seating_5 : decode cX11_seating 5 = .ok (.ifCond .eq 13, 3) := by decide +kernel
theorem dX11_seating_8 : decode cX11_seating 8 = .ok (.aload_n 0, 1) := by decide +kernel
theorem dX11_seating_9 : decode cX11_seating 9 = .ok (.getfield 16, 3) := by decide +kernel
theorem dX11_seating_12 : decode cX11_seating 12 = .ok (.getfield 153, 3) := by decide +kernel
theorem dX11_seating_15 : decode cX11_seating 15 = .ok (.ifCond .ne 5, 3) := by decide +kernel
theorem dX11_seating_18 : decode cX11_seating 18 = .ok (.iconst (-1), 1) := by decide +kernel
theorem dX11_seating_19 : decode cX11_seating 19 = .ok (.ireturn, 1) := by decide +kernel
theorem dX11_seating_20 : decode cX11_seating 20 = .ok (.aload_n 0, 1) := by decide +kernel
theorem dX11_seating_21 : decode cX11_seating 21 = .ok (.getfield 16, 3) := by decide +kernel
theorem dX11_seating_24 : decode cX11_seating 24 = .ok (.getfield 153, 3) := by decide +kernel
theorem dX11_seating_27 : decode cX11_seating 27 = .ok (.bipush 6, 2) := by decide +kernel
theorem dX11_seating_29 : decode cX11_seating 29 = .ok (.if_icmp .le 6, 3) := by decide +kernel
theorem dX11_seating_32 : decode cX11_seating 32 = .ok (.bipush (-2), 2) := by decide +kernel
theorem dX11_seating_34 : decode cX11_seating 34 = .ok (.ireturn, 1) := by decide +kernel
theorem dX11_seating_35 : decode cX11_seating 35 = .ok (.aload_n 0, 1) := by decide +kernel
theorem dX11_seating_36 : decode cX11_seating 36 = .ok (.getfield 64, 3) := by decide +kernel
theorem dX11_seating_39 : decode cX11_seating 39 = .ok (.aload_n 0, 1) := by decide +kernel
theorem dX11_seating_40 : decode cX11_seating 40 = .ok (.getfield 44, 3) := by decide +kernel
theorem dX11_seating_43 : decode cX11_seating 43 = .ok (.iload_n 1, 1) := by decide +kernel
theorem dX11_seating_44 : decode cX11_seating 44 = .ok (.iload_n 2, 1) := by decide +kernel
theorem dX11_seating_45 : decode cX11_seating 45 = .ok (.invokevirtual 217, 3) := by decide +kernel
theorem dX11_seating_48 : decode cX11_seating 48 = .ok (.ireturn, 1) := by decide +kernel
set_option maxHeartbeats 4000000 in
set_option maxRecDepth 100000 in
theorem w_X11_seating_18 {X : CX} {T : List Dsc} {n1 n2 : Nat} {μ : Mem} {r : (Int32 × Mem)} (hX : XR X 8 n1 n2) (hf : f_X11_seating_18 T μ = some r) (hk : FnI X cX11_seating RX11 3 T n1 n2 r) : Wp X cX11_seating RX11 3 T μ n1 n2 18 [] [] := by
  unfold f_X11_seating_18 at hf
  refine Wp.iconst (pc := 18) (-1 : Int32) (by decide) dX11_seating_18 ?_
  cases hf
  exact hk _ _ dX11_seating_19
set_option maxHeartbeats 4000000 in
set_option maxRecDepth 100000 in
theorem w_X11_seating {X : CX} {T : List Dsc} {n1 n2 : Nat} {x0 : Nat} {x1 : Int32} {x2 : Int32} {μ : Mem} {r : (Int32 × Mem)} (hX : XR X 8 n1 n2) (hx0 : T[x0]? = some (.inl 10)) (hf : F_X11_seating T x0 x1 x2 μ = some r) (hk : FnI X cX11_seating RX11 3 T n1 n2 r) : Wp X cX11_seating RX11 3 T μ n1 n2 0 [(0, .ref x0), (1, .int x1), (2, .int x2)] [] := by
  unfold F_X11_seating at hf
  refine Wp.iload_n (pc := 0) 1 rfl rfl dX11_seating_0 ?_
  refine Wp.iload_n (pc := 1) 2 rfl rfl dX11_seating_1 ?_
  obtain ⟨c1, h2, hf⟩ := bnd hf
  refine Wp.callSi (pc := 2) (st := []) (as := [.int x1, .int x2]) (c_X6_isAim h2) ml_RX11_213 ms_X6_isAim mb_X6_isAim hX (Nat.le_of_ble_eq_true rfl) (by decide) rfl (by simp) dX11_seating_2 rfl ?_
  refine Wp.if_eq (pc := 5) 18 dX11_seating_5 (by decide) (fun hc3 => ?_) (fun hc3 => ?_)
  · rw [if_pos hc3] at hf
    refine Wp.lo' (lo' := []) [] rfl ?_
    exact w_X11_seating_18 hX hf hk
  · rw [if_neg hc3] at hf
    refine Wp.aload_n (pc := 8) 0 rfl rfl dX11_seating_8 ?_
    obtain ⟨r4, h5, hf⟩ := bnd hf
    refine Wp.getR (pc := 9) (gO_R h5) hx0 fk_RX11_16 rfl dX11_seating_9 ?_
    refine Wp.getI (pc := 12) (gO_T h5) fk_RX11_153 rfl dX11_seating_12 ?_
    refine Wp.if_ne (pc := 15) 20 dX11_seating_15 (by decide) (fun hc6 => ?_) (fun hc6 => ?_)
    · rw [if_neg hc6] at hf
      refine Wp.aload_n (pc := 20) 0 rfl rfl dX11_seating_20 ?_
      obtain ⟨r7, h8, hf⟩ := bnd hf
      refine Wp.getR (pc := 21) (gO_R h8) hx0 fk_RX11_16 rfl dX11_seating_21 ?_
      refine Wp.getI (pc := 24) (gO_T h8) fk_RX11_153 rfl dX11_seating_24 ?_
      refine Wp.bipush (pc := 27) (6 : Int32) (by decide) dX11_seating_27 ?_
      refine Wp.icmp_le (pc := 29) 35 dX11_seating_29 (by decide) (fun hc9 => ?_) (fun hc9 => ?_)
      · rw [if_pos hc9] at hf
        refine Wp.aload_n (pc := 35) 0 rfl rfl dX11_seating_35 ?_
        obtain ⟨r10, h11, hf⟩ := bnd hf
        refine Wp.getR (pc := 36) (gO_R h11) hx0 fk_RX11_64 rfl dX11_seating_36 ?_
        refine Wp.aload_n (pc := 39) 0 rfl rfl dX11_seating_39 ?_
        obtain ⟨r12, h13, hf⟩ := bnd hf
        refine Wp.getR (pc := 40) (gO_R h13) hx0 fk_RX11_44 rfl dX11_seating_40 ?_
        refine Wp.iload_n (pc := 43) 1 rfl rfl dX11_seating_43 ?_
        refine Wp.iload_n (pc := 44) 2 rfl rfl dX11_seating_44 ?_
        obtain ⟨c14, h15, hf⟩ := bnd hf
        refine Wp.callVi (pc := 45) (st := []) (as := [.ref r12, .int x1, .int x2]) (c_X6_bestOrder (gO_T h11) (gO_T h13) h15) ml_RX11_217 mv_X6_bestOrder mb_X6_bestOrder hX (Nat.le_of_ble_eq_true rfl) (by decide) rfl (gO_T h11) rfl (by simp) dX11_seating_45 rfl ?_
        cases hf
        exact hk _ _ dX11_seating_48
      · rw [if_neg hc9] at hf
        refine Wp.bipush (pc := 32) (-2 : Int32) (by decide) dX11_seating_32 ?_
        cases hf
        exact hk _ _ dX11_seating_34
    · rw [if_pos hc6] at hf
      refine Wp.lo' (lo' := []) [] rfl ?_
      exact w_X11_seating_18 hX hf hk
theorem c_X11_seating {T : List Dsc} {x0 : Nat} {x1 : Int32} {x2 : Int32} {μ : Mem} {r : (Int32 × Mem)} (hx0 : T[x0]? = some (.inl 10)) (hf : F_X11_seating T x0 x1 x2 μ = some r) : Ct 8 yX11_seating cX11_seating 3 (some .int) T μ [.ref x0, .int x1, .int x2] (some (.int r.1)) r.2 := Ct.ofI (by decide +kernel) (Nat.le_of_ble_eq_true rfl) (fun X hX hk => w_X11_seating hX hx0 hf hk)
theorem dX11_seat_0 : decode cX11_seat 0 = .ok (.iload_n 1, 1) := by decide +kernel
theorem dX11_seat_1 : decode cX11_seat 1 = .ok (.iload_n 2, 1) := by decide +kernel
theorem dX11_seat_2 : decode cX11_seat 2 = .ok (.invokestatic 213, 3) := by decide +kernel
theorem dX11_seat_5 : decode cX11_seat 5 = .ok (.ifCond .eq 11, 3) := by decide +kernel
theorem dX11_seat_8 : decode cX11_seat 8 = .ok (.aload_n 0, 1) := by decide +kernel
theorem dX11_seat_9 : decode cX11_seat 9 = .ok (.iload_n 3, 1) := by decide +kernel
theorem dX11_seat_10 : decode cX11_seat 10 = .ok (.invokevirtual 121, 3) := by decide +kernel
theorem dX11_seat_13 : decode cX11_seat 13 = .ok (.ifCond .ne 5, 3) := by decide +kernel
theorem dX11_seat_16 : decode cX11_seat 16 = .ok (.iconst (-1), 1) := by decide +kernel
theorem dX11_seat_17 : decode cX11_seat 17 = .ok (.ireturn, 1) := by decide +kernel
theorem dX11_seat_18 : decode cX11_seat 18 = .ok (.aload_n 0, 1) := by decide +kernel
theorem dX11_seat_19 : decode cX11_seat 19 = .ok (.getfield 16, 3) := by decide +kernel
theorem dX11_seat_22 : decode cX11_seat 22 = .ok (.getfield 153, 3) := by decide +kernel
theorem dX11_seat_25 : decode cX11_seat 25 = .ok (.bipush 6, 2) := by decide +kernel
theorem dX11_seat_27 : decode cX11_seat 27 = .ok (.if_icmp .le 6, 3) := by decide +kernel
theorem dX11_seat_30 : decode cX11_seat 30 = .ok (.bipush (-2), 2) := by decide +kernel
theorem dX11_seat_32 : decode cX11_seat 32 = .ok (.ireturn, 1) := by decide +kernel
theorem dX11_seat_33 : decode cX11_seat 33 = .ok (.aload_n 0, 1) := by decide +kernel
theorem dX11_seat_34 : decode cX11_seat 34 = .ok (.getfield 64, 3) := by decide +kernel
theorem dX11_seat_37 : decode cX11_seat 37 = .ok (.aload_n 0, 1) := by decide +kernel
theorem dX11_seat_38 : decode cX11_seat 38 = .ok (.getfield 44, 3) := by decide +kernel
theorem dX11_seat_41 : decode cX11_seat 41 = .ok (.iload_n 1, 1) := by decide +kernel
theorem dX11_seat_42 : decode cX11_seat 42 = .ok (.iload_n 2, 1) := by decide +kernel
theorem dX11_seat_43 : decode cX11_seat 43 = .ok (.invokevirtual 217, 3) := by decide +kernel
theorem dX11_seat_46 : decode cX11_seat 46 = .ok (.pop, 1) := by decide +kernel
theorem dX11_seat_47 : decode cX11_seat 47 = .ok (.aload_n 0, 1) := by decide +kernel
theorem dX11_seat_48 : decode cX11_seat 48 = .ok (.getfield 64, 3) := by decide +kernel
theorem dX11_seat_51 : decode cX11_seat 51 = .ok (.getfield 221, 3) := by decide +kernel
theorem dX11_seat_54 : decode cX11_seat 54 = .ok (.iload_n 3, 1) := by decide +kernel
theorem dX11_seat_55 : decode cX11_seat 55 = .ok (.iaload, 1) := by decide +kernel
theorem dX11_seat_56 : decode cX11_seat 56 = .ok (.ireturn, 1) := by decide +kernel
set_option maxHeartbeats 4000000 in
set_option maxRecDepth 100000 in
theorem w_X11_seat_16 {X : CX} {T : List Dsc} {n1 n2 : Nat} {μ : Mem} {r : (Int32 × Mem)} (hX : XR X 8 n1 n2) (hf : f_X11_seat_16 T μ = some r) (hk : FnI X cX11_seat RX11 4 T n1 n2 r) : Wp X cX11_seat RX11 4 T μ n1 n2 16 [] [] := by
  unfold f_X11_seat_16 at hf
  refine Wp.iconst (pc := 16) (-1 : Int32) (by decide) dX11_seat_16 ?_
  cases hf
  exact hk _ _ dX11_seat_17
set_option maxHeartbeats 4000000 in
set_option maxRecDepth 100000 in
theorem w_X11_seat {X : CX} {T : List Dsc} {n1 n2 : Nat} {x0 : Nat} {x1 : Int32} {x2 : Int32} {x3 : Int32} {μ : Mem} {r : (Int32 × Mem)} (hX : XR X 8 n1 n2) (hx0 : T[x0]? = some (.inl 10)) (hf : F_X11_seat T x0 x1 x2 x3 μ = some r) (hk : FnI X cX11_seat RX11 4 T n1 n2 r) : Wp X cX11_seat RX11 4 T μ n1 n2 0 [(0, .ref x0), (1, .int x1), (2, .int x2), (3, .int x3)] [] := by
  unfold F_X11_seat at hf
  refine Wp.iload_n (pc := 0) 1 rfl rfl dX11_seat_0 ?_
  refine Wp.iload_n (pc := 1) 2 rfl rfl dX11_seat_1 ?_
  obtain ⟨c1, h2, hf⟩ := bnd hf
  refine Wp.callSi (pc := 2) (st := []) (as := [.int x1, .int x2]) (c_X6_isAim h2) ml_RX11_213 ms_X6_isAim mb_X6_isAim hX (Nat.le_of_ble_eq_true rfl) (by decide) rfl (by simp) dX11_seat_2 rfl ?_
  refine Wp.if_eq (pc := 5) 16 dX11_seat_5 (by decide) (fun hc3 => ?_) (fun hc3 => ?_)
  · rw [if_pos hc3] at hf
    refine Wp.lo' (lo' := []) [] rfl ?_
    exact w_X11_seat_16 hX hf hk
  · rw [if_neg hc3] at hf
    refine Wp.aload_n (pc := 8) 0 rfl rfl dX11_seat_8 ?_
    refine Wp.iload_n (pc := 9) 3 rfl rfl dX11_seat_9 ?_
    obtain ⟨c4, h5, hf⟩ := bnd hf
    refine Wp.callVi (pc := 10) (st := []) (as := [.int x3]) (c_X11_isBench hx0 h5) ml_RX11_121 mv_X11_isBench mb_X11_isBench hX (Nat.le_of_ble_eq_true rfl) (by decide) rfl hx0 rfl (by simp) dX11_seat_10 rfl ?_
    refine Wp.if_ne (pc := 13) 18 dX11_seat_13 (by decide) (fun hc6 => ?_) (fun hc6 => ?_)
    · rw [if_neg hc6] at hf
      refine Wp.aload_n (pc := 18) 0 rfl rfl dX11_seat_18 ?_
      obtain ⟨r7, h8, hf⟩ := bnd hf
      refine Wp.getR (pc := 19) (gO_R h8) hx0 fk_RX11_16 rfl dX11_seat_19 ?_
      refine Wp.getI (pc := 22) (gO_T h8) fk_RX11_153 rfl dX11_seat_22 ?_
      refine Wp.bipush (pc := 25) (6 : Int32) (by decide) dX11_seat_25 ?_
      refine Wp.icmp_le (pc := 27) 33 dX11_seat_27 (by decide) (fun hc9 => ?_) (fun hc9 => ?_)
      · rw [if_pos hc9] at hf
        refine Wp.aload_n (pc := 33) 0 rfl rfl dX11_seat_33 ?_
        obtain ⟨r10, h11, hf⟩ := bnd hf
        refine Wp.getR (pc := 34) (gO_R h11) hx0 fk_RX11_64 rfl dX11_seat_34 ?_
        refine Wp.aload_n (pc := 37) 0 rfl rfl dX11_seat_37 ?_
        obtain ⟨r12, h13, hf⟩ := bnd hf
        refine Wp.getR (pc := 38) (gO_R h13) hx0 fk_RX11_44 rfl dX11_seat_38 ?_
        refine Wp.iload_n (pc := 41) 1 rfl rfl dX11_seat_41 ?_
        refine Wp.iload_n (pc := 42) 2 rfl rfl dX11_seat_42 ?_
        obtain ⟨c14, h15, hf⟩ := bnd hf
        refine Wp.callVi (pc := 43) (st := []) (as := [.ref r12, .int x1, .int x2]) (c_X6_bestOrder (gO_T h11) (gO_T h13) h15) ml_RX11_217 mv_X6_bestOrder mb_X6_bestOrder hX (Nat.le_of_ble_eq_true rfl) (by decide) rfl (gO_T h11) rfl (by simp) dX11_seat_43 rfl ?_
        refine Wp.pop (pc := 46) rfl dX11_seat_46 ?_
        refine Wp.aload_n (pc := 47) 0 rfl rfl dX11_seat_47 ?_
        obtain ⟨r16, h17, hf⟩ := bnd hf
        refine Wp.getR (pc := 48) (gO_R h17) hx0 fk_RX11_64 rfl dX11_seat_48 ?_
        obtain ⟨a18, h19, hf⟩ := bnd hf
        refine Wp.getR (pc := 51) (gA_R h19) (gO_T h17) fk_RX11_221 rfl dX11_seat_51 ?_
        refine Wp.iload_n (pc := 54) 3 rfl rfl dX11_seat_54 ?_
        obtain ⟨v20, h21, hf⟩ := bnd hf
        refine Wp.iald (pc := 55) h21 (gA_T h19) dX11_seat_55 ?_
        cases hf
        exact hk _ _ dX11_seat_56
      · rw [if_neg hc9] at hf
        refine Wp.bipush (pc := 30) (-2 : Int32) (by decide) dX11_seat_30 ?_
        cases hf
        exact hk _ _ dX11_seat_32
    · rw [if_pos hc6] at hf
      refine Wp.lo' (lo' := []) [] rfl ?_
      exact w_X11_seat_16 hX hf hk
theorem c_X11_seat {T : List Dsc} {x0 : Nat} {x1 : Int32} {x2 : Int32} {x3 : Int32} {μ : Mem} {r : (Int32 × Mem)} (hx0 : T[x0]? = some (.inl 10)) (hf : F_X11_seat T x0 x1 x2 x3 μ = some r) : Ct 8 yX11_seat cX11_seat 4 (some .int) T μ [.ref x0, .int x1, .int x2, .int x3] (some (.int r.1)) r.2 := Ct.ofI (by decide +kernel) (Nat.le_of_ble_eq_true rfl) (fun X hX hk => w_X11_seat hX hx0 hf hk)
theorem dX11_better_0 : decode cX11_better 0 = .ok (.iload_n 1, 1) := by decide +kernel
theorem dX11_better_1 : decode cX11_better 1 = .ok (.iload_n 2, 1) := by decide +kernel
theorem dX11_better_2 : decode cX11_better 2 = .ok (.invokestatic 213, 3) := by decide +kernel
theorem dX11_better_5 : decode cX11_better 5 = .ok (.ifCond .eq 13, 3) := by decide +kernel
theorem dX11_better_8 : decode cX11_better 8 = .ok (.aload_n 0, 1) := by decide +kernel
theorem dX11_better_9 : decode cX11_better 9 = .ok (.getfield 16, 3) := by decide +kernel
theorem dX11_better_12 : decode cX11_better 12 = .ok (.getfield 153, 3) := by decide +kernel
theorem dX11_better_15 : decode cX11_better 15 = .ok (.ifCond .ne 5, 3) := by decide +kernel
theorem dX11_better_18 : decode cX11_better 18 = .ok (.iconst (-1), 1) := by decide +kernel
theorem dX11_better_19 : decode cX11_better 19 = .ok (.ireturn, 1) := by decide +kernel
theorem dX11_better_20 : decode cX11_better 20 = .ok (.aload_n 0, 1) := by decide +kernel
theorem dX11_better_21 : decode cX11_better 21 = .ok (.getfield 64, 3) := by decide +kernel
theorem dX11_better_24 : decode cX11_better 24 = .ok (.aload_n 0, 1) := by decide +kernel
theorem dX11_better_25 : decode cX11_better 25 = .ok (.getfield 44, 3) := by decide +kernel
theorem dX11_better_28 : decode cX11_better 28 = .ok (.iload_n 1, 1) := by decide +kernel
theorem dX11_better_29 : decode cX11_better 29 = .ok (.iload_n 2, 1) := by decide +kernel
theorem dX11_better_30 : decode cX11_better 30 = .ok (.invokevirtual 224, 3) := by decide +kernel
theorem dX11_better_33 : decode cX11_better 33 = .ok (.ireturn, 1) := by decide +kernel
set_option maxHeartbeats 4000000 in
set_option maxRecDepth 100000 in
theorem w_X11_better_18 {X : CX} {T : List Dsc} {n1 n2 : Nat} {μ : Mem} {r : (Int32 × Mem)} (hX : XR X 8 n1 n2) (hf : f_X11_better_18 T μ = some r) (hk : FnI X cX11_better RX11 3 T n1 n2 r) : Wp X cX11_better RX11 3 T μ n1 n2 18 [] [] := by
  unfold f_X11_better_18 at hf
  refine Wp.iconst (pc := 18) (-1 : Int32) (by decide) dX11_better_18 ?_
  cases hf
  exact hk _ _ dX11_better_19
set_option maxHeartbeats 4000000 in
set_option maxRecDepth 100000 in
theorem w_X11_better {X : CX} {T : List Dsc} {n1 n2 : Nat} {x0 : Nat} {x1 : Int32} {x2 : Int32} {μ : Mem} {r : (Int32 × Mem)} (hX : XR X 8 n1 n2) (hx0 : T[x0]? = some (.inl 10)) (hf : F_X11_better T x0 x1 x2 μ = some r) (hk : FnI X cX11_better RX11 3 T n1 n2 r) : Wp X cX11_better RX11 3 T μ n1 n2 0 [(0, .ref x0), (1, .int x1), (2, .int x2)] [] := by
  unfold F_X11_better at hf
  refine Wp.iload_n (pc := 0) 1 rfl rfl dX11_better_0 ?_
  refine Wp.iload_n (pc := 1) 2 rfl rfl dX11_better_1 ?_
  obtain ⟨c1, h2, hf⟩ := bnd hf
  refine Wp.callSi (pc := 2) (st := []) (as := [.int x1, .int x2]) (c_X6_isAim h2) ml_RX11_213 ms_X6_isAim mb_X6_isAim hX (Nat.le_of_ble_eq_true rfl) (by decide) rfl (by simp) dX11_better_2 rfl ?_
  refine Wp.if_eq (pc := 5) 18 dX11_better_5 (by decide) (fun hc3 => ?_) (fun hc3 => ?_)
  · rw [if_pos hc3] at hf
    refine Wp.lo' (lo' := []) [] rfl ?_
    exact w_X11_better_18 hX hf hk
  · rw [if_neg hc3] at hf
    refine Wp.aload_n (pc := 8) 0 rfl rfl dX11_better_8 ?_
    obtain ⟨r4, h5, hf⟩ := bnd hf
    refine Wp.getR (pc := 9) (gO_R h5) hx0 fk_RX11_16 rfl dX11_better_9 ?_
    refine Wp.getI (pc := 12) (gO_T h5) fk_RX11_153 rfl dX11_better_12 ?_
    refine Wp.if_ne (pc := 15) 20 dX11_better_15 (by decide) (fun hc6 => ?_) (fun hc6 => ?_)
    · rw [if_neg hc6] at hf
      refine Wp.aload_n (pc := 20) 0 rfl rfl dX11_better_20 ?_
      obtain ⟨r7, h8, hf⟩ := bnd hf
      refine Wp.getR (pc := 21) (gO_R h8) hx0 fk_RX11_64 rfl dX11_better_21 ?_
      refine Wp.aload_n (pc := 24) 0 rfl rfl dX11_better_24 ?_
      obtain ⟨r9, h10, hf⟩ := bnd hf
      refine Wp.getR (pc := 25) (gO_R h10) hx0 fk_RX11_44 rfl dX11_better_25 ?_
      refine Wp.iload_n (pc := 28) 1 rfl rfl dX11_better_28 ?_
      refine Wp.iload_n (pc := 29) 2 rfl rfl dX11_better_29 ?_
      obtain ⟨c11, h12, hf⟩ := bnd hf
      refine Wp.callVi (pc := 30) (st := []) (as := [.ref r9, .int x1, .int x2]) (c_X6_bestExchange (gO_T h8) (gO_T h10) h12) ml_RX11_224 mv_X6_bestExchange mb_X6_bestExchange hX (Nat.le_of_ble_eq_true rfl) (by decide) rfl (gO_T h8) rfl (by simp) dX11_better_30 rfl ?_
      cases hf
      exact hk _ _ dX11_better_33
    · rw [if_pos hc6] at hf
      refine Wp.lo' (lo' := []) [] rfl ?_
      exact w_X11_better_18 hX hf hk
theorem c_X11_better {T : List Dsc} {x0 : Nat} {x1 : Int32} {x2 : Int32} {μ : Mem} {r : (Int32 × Mem)} (hx0 : T[x0]? = some (.inl 10)) (hf : F_X11_better T x0 x1 x2 μ = some r) : Ct 8 yX11_better cX11_better 3 (some .int) T μ [.ref x0, .int x1, .int x2] (some (.int r.1)) r.2 := Ct.ofI (by decide +kernel) (Nat.le_of_ble_eq_true rfl) (fun X hX hk => w_X11_better hX hx0 hf hk)
theorem dX11_ram_0 : decode cX11_ram 0 = .ok (.iload_n 1, 1) := by decide +kernel
theorem dX11_ram_1 : decode cX11_ram 1 = .ok (.iconst 1, 1) := by decide +kernel
theorem dX11_ram_2 : decode cX11_ram 2 = .ok (.if_icmp .lt 28, 3) := by decide +kernel
theorem dX11_ram_5 : decode cX11_ram 5 = .ok (.iload_n 1, 1) := by decide +kernel
theorem dX11_ram_6 : decode cX11_ram 6 = .ok (.bipush 60, 2) := by decide +kernel
theorem dX11_ram_8 : decode cX11_ram 8 = .ok (.if_icmp .gt 22, 3) := by decide +kernel
theorem dX11_ram_11 : decode cX11_ram 11 = .ok (.iload_n 2, 1) := by decide +kernel
theorem dX11_ram_12 : decode cX11_ram 12 = .ok (.ifCond .lt 18, 3) := by decide +kernel
theorem dX11_ram_15 : decode cX11_ram 15 = .ok (.iload_n 2, 1) := by decide +kernel
theorem dX11_ram_16 : decode cX11_ram 16 = .ok (.iconst 2, 1) := by decide +kernel
theorem dX11_ram_17 : decode cX11_ram 17 = .ok (.if_icmp .gt 13, 3) := by decide +kernel
theorem dX11_ram_20 : decode cX11_ram 20 = .ok (.aload_n 0, 1) := by decide +kernel
theorem dX11_ram_21 : decode cX11_ram 21 = .ok (.getfield 16, 3) := by decide +kernel
theorem dX11_ram_24 : decode cX11_ram 24 = .ok (.getfield 153, 3) := by decide +kernel
theorem dX11_ram_27 : decode cX11_ram 27 = .ok (.ifCond .ne 5, 3) := by decide +kernel
theorem dX11_ram_30 : decode cX11_ram 30 = .ok (.iconst (-1), 1) := by decide +kernel
theorem dX11_ram_31 : decode cX11_ram 31 = .ok (.ireturn, 1) := by decide +kernel
theorem dX11_ram_32 : decode cX11_ram 32 = .ok (.aload_n 0, 1) := by decide +kernel
theorem dX11_ram_33 : decode cX11_ram 33 = .ok (.getfield 44, 3) := by decide +kernel
theorem dX11_ram_36 : decode cX11_ram 36 = .ok (.getfield 140, 3) := by decide +kernel
theorem dX11_ram_39 : decode cX11_ram 39 = .ok (.ifCond .ge 6, 3) := by decide +kernel
theorem dX11_ram_42 : decode cX11_ram 42 = .ok (.bipush (-2), 2) := by decide +kernel
theorem dX11_ram_44 : decode cX11_ram 44 = .ok (.ireturn, 1) := by decide +kernel
theorem dX11_ram_45 : decode cX11_ram 45 = .ok (.aload_n 0, 1) := by decide +kernel
theorem dX11_ram_46 : decode cX11_ram 46 = .ok (.getfield 78, 3) := by decide +kernel
theorem dX11_ram_49 : decode cX11_ram 49 = .ok (.aload_n 0, 1) := by decide +kernel
theorem dX11_ram_50 : decode cX11_ram 50 = .ok (.getfield 44, 3) := by decide +kernel
theorem dX11_ram_53 : decode cX11_ram 53 = .ok (.iload_n 1, 1) := by decide +kernel
theorem dX11_ram_54 : decode cX11_ram 54 = .ok (.invokevirtual 240, 3) := by decide +kernel
theorem dX11_ram_57 : decode cX11_ram 57 = .ok (.iload_n 2, 1) := by decide +kernel
theorem dX11_ram_58 : decode cX11_ram 58 = .ok (.ifCond .ne 11, 3) := by decide +kernel
theorem dX11_ram_61 : decode cX11_ram 61 = .ok (.aload_n 0, 1) := by decide +kernel
theorem dX11_ram_62 : decode cX11_ram 62 = .ok (.getfield 78, 3) := by decide +kernel
theorem dX11_ram_65 : decode cX11_ram 65 = .ok (.getfield 244, 3) := by decide +kernel
theorem dX11_ram_68 : decode cX11_ram 68 = .ok (.ireturn, 1) := by decide +kernel
theorem dX11_ram_69 : decode cX11_ram 69 = .ok (.iload_n 2, 1) := by decide +kernel
theorem dX11_ram_70 : decode cX11_ram 70 = .ok (.iconst 1, 1) := by decide +kernel
theorem dX11_ram_71 : decode cX11_ram 71 = .ok (.if_icmp .ne 13, 3) := by decide +kernel
theorem dX11_ram_74 : decode cX11_ram 74 = .ok (.aload_n 0, 1) := by decide +kernel
theorem dX11_ram_75 : decode cX11_ram 75 = .ok (.getfield 78, 3) := by decide +kernel
theorem dX11_ram_78 : decode cX11_ram 78 = .ok (.getfield 247, 3) := by decide +kernel
theorem dX11_ram_81 : decode cX11_ram 81 = .ok (.goto 10, 3) := by decide +kernel
theorem dX11_ram_84 : decode cX11_ram 84 = .ok (.aload_n 0, 1) := by decide +kernel
theorem dX11_ram_85 : decode cX11_ram 85 = .ok (.getfield 78, 3) := by decide +kernel
theorem dX11_ram_88 : decode cX11_ram 88 = .ok (.getfield 250, 3) := by decide +kernel
theorem dX11_ram_91 : decode cX11_ram 91 = .ok (.ireturn, 1) := by decide +kernel
set_option maxHeartbeats 4000000 in
set_option maxRecDepth 100000 in
theorem w_X11_ram_30 {X : CX} {T : List Dsc} {n1 n2 : Nat} {μ : Mem} {r : (Int32 × Mem)} (hX : XR X 8 n1 n2) (hf : f_X11_ram_30 T μ = some r) (hk : FnI X cX11_ram RX11 3 T n1 n2 r) : Wp X cX11_ram RX11 3 T μ n1 n2 30 [] [] := by
  unfold f_X11_ram_30 at hf
  refine Wp.iconst (pc := 30) (-1 : Int32) (by decide) dX11_ram_30 ?_
  cases hf
  exact hk _ _ dX11_ram_31
set_option maxHeartbeats 4000000 in
set_option maxRecDepth 100000 in
theorem w_X11_ram_91 {X : CX} {T : List Dsc} {n1 n2 : Nat} {s0 : Int32} {μ : Mem} {r : (Int32 × Mem)} (hX : XR X 8 n1 n2) (hf : f_X11_ram_91 T s0 μ = some r) (hk : FnI X cX11_ram RX11 3 T n1 n2 r) : Wp X cX11_ram RX11 3 T μ n1 n2 91 [] [.int s0] := by
  unfold f_X11_ram_91 at hf
  cases hf
  exact hk _ _ dX11_ram_91
set_option maxHeartbeats 4000000 in
set_option maxRecDepth 100000 in
theorem w_X11_ram {X : CX} {T : List Dsc} {n1 n2 : Nat} {x0 : Nat} {x1 : Int32} {x2 : Int32} {μ : Mem} {r : (Int32 × Mem)} (hX : XR X 8 n1 n2) (hx0 : T[x0]? = some (.inl 10)) (hf : F_X11_ram T x0 x1 x2 μ = some r) (hk : FnI X cX11_ram RX11 3 T n1 n2 r) : Wp X cX11_ram RX11 3 T μ n1 n2 0 [(0, .ref x0), (1, .int x1), (2, .int x2)] [] := by
  unfold F_X11_ram at hf
  refine Wp.iload_n (pc := 0) 1 rfl rfl dX11_ram_0 ?_
  refine Wp.iconst (pc := 1) (1 : Int32) (by decide) dX11_ram_1 ?_
  refine Wp.icmp_lt (pc := 2) 30 dX11_ram_2 (by decide) (fun hc1 => ?_) (fun hc1 => ?_)
  · rw [if_pos hc1] at hf
    refine Wp.lo' (lo' := []) [] rfl ?_
    exact w_X11_ram_30 hX hf hk
  · rw [if_neg hc1] at hf
    refine Wp.iload_n (pc := 5) 1 rfl rfl dX11_ram_5 ?_
    refine Wp.bipush (pc := 6) (60 : Int32) (by decide) dX11_ram_6 ?_
    refine Wp.icmp_gt (pc := 8) 30 dX11_ram_8 (by decide) (fun hc2 => ?_) (fun hc2 => ?_)
    · rw [if_pos hc2] at hf
      refine Wp.lo' (lo' := []) [] rfl ?_
      exact w_X11_ram_30 hX hf hk
    · rw [if_neg hc2] at hf
      refine Wp.iload_n (pc := 11) 2 rfl rfl dX11_ram_11 ?_
      refine Wp.if_lt (pc := 12) 30 dX11_ram_12 (by decide) (fun hc3 => ?_) (fun hc3 => ?_)
      · rw [if_pos hc3] at hf
        refine Wp.lo' (lo' := []) [] rfl ?_
        exact w_X11_ram_30 hX hf hk
      · rw [if_neg hc3] at hf
        refine Wp.iload_n (pc := 15) 2 rfl rfl dX11_ram_15 ?_
        refine Wp.iconst (pc := 16) (2 : Int32) (by decide) dX11_ram_16 ?_
        refine Wp.icmp_gt (pc := 17) 30 dX11_ram_17 (by decide) (fun hc4 => ?_) (fun hc4 => ?_)
        · rw [if_pos hc4] at hf
          refine Wp.lo' (lo' := []) [] rfl ?_
          exact w_X11_ram_30 hX hf hk
        · rw [if_neg hc4] at hf
          refine Wp.aload_n (pc := 20) 0 rfl rfl dX11_ram_20 ?_
          obtain ⟨r5, h6, hf⟩ := bnd hf
          refine Wp.getR (pc := 21) (gO_R h6) hx0 fk_RX11_16 rfl dX11_ram_21 ?_
          refine Wp.getI (pc := 24) (gO_T h6) fk_RX11_153 rfl dX11_ram_24 ?_
          refine Wp.if_ne (pc := 27) 32 dX11_ram_27 (by decide) (fun hc7 => ?_) (fun hc7 => ?_)
          · rw [if_neg hc7] at hf
            refine Wp.aload_n (pc := 32) 0 rfl rfl dX11_ram_32 ?_
            obtain ⟨r8, h9, hf⟩ := bnd hf
            refine Wp.getR (pc := 33) (gO_R h9) hx0 fk_RX11_44 rfl dX11_ram_33 ?_
            refine Wp.getI (pc := 36) (gO_T h9) fk_RX11_140 rfl dX11_ram_36 ?_
            refine Wp.if_ge (pc := 39) 45 dX11_ram_39 (by decide) (fun hc10 => ?_) (fun hc10 => ?_)
            · rw [if_pos hc10] at hf
              refine Wp.aload_n (pc := 45) 0 rfl rfl dX11_ram_45 ?_
              obtain ⟨r11, h12, hf⟩ := bnd hf
              refine Wp.getR (pc := 46) (gO_R h12) hx0 fk_RX11_78 rfl dX11_ram_46 ?_
              refine Wp.aload_n (pc := 49) 0 rfl rfl dX11_ram_49 ?_
              obtain ⟨r13, h14, hf⟩ := bnd hf
              refine Wp.getR (pc := 50) (gO_R h14) hx0 fk_RX11_44 rfl dX11_ram_50 ?_
              refine Wp.iload_n (pc := 53) 1 rfl rfl dX11_ram_53 ?_
              obtain ⟨c15, h16, hf⟩ := bnd hf
              refine Wp.callVv (pc := 54) (st := []) (as := [.ref r13, .int x1]) (c_X9_planRam (gO_T h12) (gO_T h14) h16) ml_RX11_240 mv_X9_planRam mb_X9_planRam hX (Nat.le_of_ble_eq_true rfl) (by decide) rfl (gO_T h12) rfl (by simp) dX11_ram_54 rfl ?_
              refine Wp.iload_n (pc := 57) 2 rfl rfl dX11_ram_57 ?_
              refine Wp.if_ne (pc := 58) 69 dX11_ram_58 (by decide) (fun hc17 => ?_) (fun hc17 => ?_)
              · rw [if_neg hc17] at hf
                refine Wp.iload_n (pc := 69) 2 rfl rfl dX11_ram_69 ?_
                refine Wp.iconst (pc := 70) (1 : Int32) (by decide) dX11_ram_70 ?_
                refine Wp.icmp_ne (pc := 71) 84 dX11_ram_71 (by decide) (fun hc18 => ?_) (fun hc18 => ?_)
                · rw [if_neg hc18] at hf
                  refine Wp.aload_n (pc := 84) 0 rfl rfl dX11_ram_84 ?_
                  obtain ⟨r19, h20, hf⟩ := bnd hf
                  refine Wp.getR (pc := 85) (gO_R h20) hx0 fk_RX11_78 rfl dX11_ram_85 ?_
                  refine Wp.getI (pc := 88) (gO_T h20) fk_RX11_250 rfl dX11_ram_88 ?_
                  refine Wp.lo' (lo' := []) [] rfl ?_
                  exact w_X11_ram_91 hX hf hk
                · rw [if_pos hc18] at hf
                  refine Wp.aload_n (pc := 74) 0 rfl rfl dX11_ram_74 ?_
                  obtain ⟨r21, h22, hf⟩ := bnd hf
                  refine Wp.getR (pc := 75) (gO_R h22) hx0 fk_RX11_78 rfl dX11_ram_75 ?_
                  refine Wp.getI (pc := 78) (gO_T h22) fk_RX11_247 rfl dX11_ram_78 ?_
                  refine Wp.goto (pc := 81) 91 dX11_ram_81 (by decide) ?_
                  refine Wp.lo' (lo' := []) [] rfl ?_
                  exact w_X11_ram_91 hX hf hk
              · rw [if_pos hc17] at hf
                refine Wp.aload_n (pc := 61) 0 rfl rfl dX11_ram_61 ?_
                obtain ⟨r23, h24, hf⟩ := bnd hf
                refine Wp.getR (pc := 62) (gO_R h24) hx0 fk_RX11_78 rfl dX11_ram_62 ?_
                refine Wp.getI (pc := 65) (gO_T h24) fk_RX11_244 rfl dX11_ram_65 ?_
                cases hf
                exact hk _ _ dX11_ram_68
            · rw [if_neg hc10] at hf
              refine Wp.bipush (pc := 42) (-2 : Int32) (by decide) dX11_ram_42 ?_
              cases hf
              exact hk _ _ dX11_ram_44
          · rw [if_pos hc7] at hf
            refine Wp.lo' (lo' := []) [] rfl ?_
            exact w_X11_ram_30 hX hf hk
theorem c_X11_ram {T : List Dsc} {x0 : Nat} {x1 : Int32} {x2 : Int32} {μ : Mem} {r : (Int32 × Mem)} (hx0 : T[x0]? = some (.inl 10)) (hf : F_X11_ram T x0 x1 x2 μ = some r) : Ct 8 yX11_ram cX11_ram 3 (some .int) T μ [.ref x0, .int x1, .int x2] (some (.int r.1)) r.2 := Ct.ofI (by decide +kernel) (Nat.le_of_ble_eq_true rfl) (fun X hX hk => w_X11_ram hX hx0 hf hk)
theorem dX11_odds_0 : decode cX11_odds 0 = .ok (.iload_n 1, 1) := by decide +kernel
theorem dX11_odds_1 : decode cX11_odds 1 = .ok (.iconst 1, 1) := by decide +kernel
theorem dX11_odds_2 : decode cX11_odds 2 = .ok (.if_icmp .lt 39, 3) := by decide +kernel
theorem dX11_odds_5 : decode cX11_odds 5 = .ok (.iload_n 1, 1) := by decide +kernel
theorem dX11_odds_6 : decode cX11_odds 6 = .ok (.bipush 10, 2) := by decide +kernel
theorem dX11_odds_8 : decode cX11_odds 8 = .ok (.if_icmp .gt 33, 3) := by decide +kernel
theorem dX11_odds_11 : decode cX11_odds 11 = .ok (.iload_n 3, 1) := by decide +kernel
theorem dX11_odds_12 : decode cX11_odds 12 = .ok (.iconst 1, 1) := by decide +kernel
theorem dX11_odds_13 : decode cX11_odds 13 = .ok (.if_icmp .lt 28, 3) := by decide +kernel
theorem dX11_odds_16 : decode cX11_odds 16 = .ok (.iload_n 3, 1) := by decide +kernel
theorem dX11_odds_17 : decode cX11_odds 17 = .ok (.bipush 9, 2) := by decide +kernel
theorem dX11_odds_19 : decode cX11_odds 19 = .ok (.if_icmp .gt 22, 3) := by decide +kernel
theorem dX11_odds_22 : decode cX11_odds 22 = .ok (.iload_n 2, 1) := by decide +kernel
theorem dX11_odds_23 : decode cX11_odds 23 = .ok (.ifCond .lt 18, 3) := by decide +kernel
theorem dX11_odds_26 : decode cX11_odds 26 = .ok (.iload_n 2, 1) := by decide +kernel
theorem dX11_odds_27 : decode cX11_odds 27 = .ok (.iload_n 3, 1) := by decide +kernel
theorem dX11_odds_28 : decode cX11_odds 28 = .ok (.if_icmp .gt 13, 3) := by decide +kernel
theorem dX11_odds_31 : decode cX11_odds 31 = .ok (.aload_n 0, 1) := by decide +kernel
theorem dX11_odds_32 : decode cX11_odds 32 = .ok (.getfield 16, 3) := by decide +kernel
theorem dX11_odds_35 : decode cX11_odds 35 = .ok (.getfield 153, 3) := by decide +kernel
theorem dX11_odds_38 : decode cX11_odds 38 = .ok (.ifCond .ne 7, 3) := by decide +kernel
theorem dX11_odds_41 : decode cX11_odds 41 = .ok (.ldc2_w 253, 3) := by decide +kernel
theorem dX11_odds_44 : decode cX11_odds 44 = .ok (.lreturn, 1) := by decide +kernel
theorem dX11_odds_45 : decode cX11_odds 45 = .ok (.aload_n 0, 1) := by decide +kernel
theorem dX11_odds_46 : decode cX11_odds 46 = .ok (.getfield 78, 3) := by decide +kernel
theorem dX11_odds_49 : decode cX11_odds 49 = .ok (.aload_n 0, 1) := by decide +kernel
theorem dX11_odds_50 : decode cX11_odds 50 = .ok (.getfield 44, 3) := by decide +kernel
theorem dX11_odds_53 : decode cX11_odds 53 = .ok (.aload_n 0, 1) := by decide +kernel
theorem dX11_odds_54 : decode cX11_odds 54 = .ok (.getfield 44, 3) := by decide +kernel
theorem dX11_odds_57 : decode cX11_odds 57 = .ok (.getfield 125, 3) := by decide +kernel
theorem dX11_odds_60 : decode cX11_odds 60 = .ok (.iload_n 1, 1) := by decide +kernel
theorem dX11_odds_61 : decode cX11_odds 61 = .ok (.iload_n 2, 1) := by decide +kernel
theorem dX11_odds_62 : decode cX11_odds 62 = .ok (.iload_n 3, 1) := by decide +kernel
theorem dX11_odds_63 : decode cX11_odds 63 = .ok (.invokevirtual 255, 3) := by decide +kernel
theorem dX11_odds_66 : decode cX11_odds 66 = .ok (.lreturn, 1) := by decide +kernel
set_option maxHeartbeats 4000000 in
set_option maxRecDepth 100000 in
theorem w_X11_odds_41 {X : CX} {T : List Dsc} {n1 n2 : Nat} {μ : Mem} {r : (Int64 × Mem)} (hX : XR X 41 n1 n2) (hf : f_X11_odds_41 T μ = some r) (hk : FnJ X cX11_odds RX11 4 T n1 n2 r) : Wp X cX11_odds RX11 4 T μ n1 n2 41 [] [] := by
  unfold f_X11_odds_41 at hf
  refine Wp.ldc2 (pc := 41) (v := (-1 : Int64)) (gw_tb 636 (by decide +kernel) rfl) dX11_odds_41 ?_
  cases hf
  exact hk _ _ dX11_odds_44
set_option maxHeartbeats 4000000 in
set_option maxRecDepth 100000 in
theorem w_X11_odds {X : CX} {T : List Dsc} {n1 n2 : Nat} {x0 : Nat} {x1 : Int32} {x2 : Int32} {x3 : Int32} {μ : Mem} {r : (Int64 × Mem)} (hX : XR X 41 n1 n2) (hx0 : T[x0]? = some (.inl 10)) (hf : F_X11_odds T x0 x1 x2 x3 μ = some r) (hk : FnJ X cX11_odds RX11 4 T n1 n2 r) : Wp X cX11_odds RX11 4 T μ n1 n2 0 [(0, .ref x0), (1, .int x1), (2, .int x2), (3, .int x3)] [] := by
  unfold F_X11_odds at hf
  refine Wp.iload_n (pc := 0) 1 rfl rfl dX11_odds_0 ?_
  refine Wp.iconst (pc := 1) (1 : Int32) (by decide) dX11_odds_1 ?_
  refine Wp.icmp_lt (pc := 2) 41 dX11_odds_2 (by decide) (fun hc1 => ?_) (fun hc1 => ?_)
  · rw [if_pos hc1] at hf
    refine Wp.lo' (lo' := []) [] rfl ?_
    exact w_X11_odds_41 hX hf hk
  · rw [if_neg hc1] at hf
    refine Wp.iload_n (pc := 5) 1 rfl rfl dX11_odds_5 ?_
    refine Wp.bipush (pc := 6) (10 : Int32) (by decide) dX11_odds_6 ?_
    refine Wp.icmp_gt (pc := 8) 41 dX11_odds_8 (by decide) (fun hc2 => ?_) (fun hc2 => ?_)
    · rw [if_pos hc2] at hf
      refine Wp.lo' (lo' := []) [] rfl ?_
      exact w_X11_odds_41 hX hf hk
    · rw [if_neg hc2] at hf
      refine Wp.iload_n (pc := 11) 3 rfl rfl dX11_odds_11 ?_
      refine Wp.iconst (pc := 12) (1 : Int32) (by decide) dX11_odds_12 ?_
      refine Wp.icmp_lt (pc := 13) 41 dX11_odds_13 (by decide) (fun hc3 => ?_) (fun hc3 => ?_)
      · rw [if_pos hc3] at hf
        refine Wp.lo' (lo' := []) [] rfl ?_
        exact w_X11_odds_41 hX hf hk
      · rw [if_neg hc3] at hf
        refine Wp.iload_n (pc := 16) 3 rfl rfl dX11_odds_16 ?_
        refine Wp.bipush (pc := 17) (9 : Int32) (by decide) dX11_odds_17 ?_
        refine Wp.icmp_gt (pc := 19) 41 dX11_odds_19 (by decide) (fun hc4 => ?_) (fun hc4 => ?_)
        · rw [if_pos hc4] at hf
          refine Wp.lo' (lo' := []) [] rfl ?_
          exact w_X11_odds_41 hX hf hk
        · rw [if_neg hc4] at hf
          refine Wp.iload_n (pc := 22) 2 rfl rfl dX11_odds_22 ?_
          refine Wp.if_lt (pc := 23) 41 dX11_odds_23 (by decide) (fun hc5 => ?_) (fun hc5 => ?_)
          · rw [if_pos hc5] at hf
            refine Wp.lo' (lo' := []) [] rfl ?_
            exact w_X11_odds_41 hX hf hk
          · rw [if_neg hc5] at hf
            refine Wp.iload_n (pc := 26) 2 rfl rfl dX11_odds_26 ?_
            refine Wp.iload_n (pc := 27) 3 rfl rfl dX11_odds_27 ?_
            refine Wp.icmp_gt (pc := 28) 41 dX11_odds_28 (by decide) (fun hc6 => ?_) (fun hc6 => ?_)
            · rw [if_pos hc6] at hf
              refine Wp.lo' (lo' := []) [] rfl ?_
              exact w_X11_odds_41 hX hf hk
            · rw [if_neg hc6] at hf
              refine Wp.aload_n (pc := 31) 0 rfl rfl dX11_odds_31 ?_
              obtain ⟨r7, h8, hf⟩ := bnd hf
              refine Wp.getR (pc := 32) (gO_R h8) hx0 fk_RX11_16 rfl dX11_odds_32 ?_
              refine Wp.getI (pc := 35) (gO_T h8) fk_RX11_153 rfl dX11_odds_35 ?_
              refine Wp.if_ne (pc := 38) 45 dX11_odds_38 (by decide) (fun hc9 => ?_) (fun hc9 => ?_)
              · rw [if_neg hc9] at hf
                refine Wp.aload_n (pc := 45) 0 rfl rfl dX11_odds_45 ?_
                obtain ⟨r10, h11, hf⟩ := bnd hf
                refine Wp.getR (pc := 46) (gO_R h11) hx0 fk_RX11_78 rfl dX11_odds_46 ?_
                refine Wp.aload_n (pc := 49) 0 rfl rfl dX11_odds_49 ?_
                obtain ⟨r12, h13, hf⟩ := bnd hf
                refine Wp.getR (pc := 50) (gO_R h13) hx0 fk_RX11_44 rfl dX11_odds_50 ?_
                refine Wp.aload_n (pc := 53) 0 rfl rfl dX11_odds_53 ?_
                obtain ⟨r14, h15, hf⟩ := bnd hf
                refine Wp.getR (pc := 54) (gO_R h15) hx0 fk_RX11_44 rfl dX11_odds_54 ?_
                refine Wp.getJ (pc := 57) (gO_T h15) fk_RX11_125 rfl dX11_odds_57 ?_
                refine Wp.iload_n (pc := 60) 1 rfl rfl dX11_odds_60 ?_
                refine Wp.iload_n (pc := 61) 2 rfl rfl dX11_odds_61 ?_
                refine Wp.iload_n (pc := 62) 3 rfl rfl dX11_odds_62 ?_
                obtain ⟨c16, h17, hf⟩ := bnd hf
                refine Wp.callVl (pc := 63) (st := []) (as := [.ref r12, .long (gJ μ r14 0), .int x1, .int x2, .int x3]) (c_X9_weighed (gO_T h11) (gO_T h13) h17) ml_RX11_255 mv_X9_weighed mb_X9_weighed hX (Nat.le_of_ble_eq_true rfl) (by decide) rfl (gO_T h11) rfl (by simp) dX11_odds_63 rfl ?_
                cases hf
                exact hk _ _ dX11_odds_66
              · rw [if_pos hc9] at hf
                refine Wp.lo' (lo' := []) [] rfl ?_
                exact w_X11_odds_41 hX hf hk
theorem c_X11_odds {T : List Dsc} {x0 : Nat} {x1 : Int32} {x2 : Int32} {x3 : Int32} {μ : Mem} {r : (Int64 × Mem)} (hx0 : T[x0]? = some (.inl 10)) (hf : F_X11_odds T x0 x1 x2 x3 μ = some r) : Ct 41 yX11_odds cX11_odds 4 (some .long) T μ [.ref x0, .int x1, .int x2, .int x3] (some (.long r.1)) r.2 := Ct.ofJ (by decide +kernel) (Nat.le_of_ble_eq_true rfl) (fun X hX hk => w_X11_odds hX hx0 hf hk)
theorem dX11_tell_0 : decode cX11_tell 0 = .ok (.aload_n 0, 1) := by decide +kernel
theorem dX11_tell_1 : decode cX11_tell 1 = .ok (.getfield 85, 3) := by decide +kernel
theorem dX11_tell_4 : decode cX11_tell 4 = .ok (.getfield 111, 3) := by decide +kernel
theorem dX11_tell_7 : decode cX11_tell 7 = .ok (.bipush 20, 2) := by decide +kernel
theorem dX11_tell_9 : decode cX11_tell 9 = .ok (.if_icmp .ge 23, 3) := by decide +kernel
theorem dX11_tell_12 : decode cX11_tell 12 = .ok (.iload_n 1, 1) := by decide +kernel
theorem dX11_tell_13 : decode cX11_tell 13 = .ok (.invokestatic 259, 3) := by decide +kernel
theorem dX11_tell_16 : decode cX11_tell 16 = .ok (.ifCond .eq 16, 3) := by decide +kernel
theorem dX11_tell_19 : decode cX11_tell 19 = .ok (.iload_n 2, 1) := by decide +kernel
theorem dX11_tell_20 : decode cX11_tell 20 = .ok (.iconst 1, 1) := by decide +kernel
theorem dX11_tell_21 : decode cX11_tell 21 = .ok (.if_icmp .lt 11, 3) := by decide +kernel
theorem dX11_tell_24 : decode cX11_tell 24 = .ok (.aload_n 0, 1) := by decide +kernel
theorem dX11_tell_25 : decode cX11_tell 25 = .ok (.iload_n 2, 1) := by decide +kernel
theorem dX11_tell_26 : decode cX11_tell 26 = .ok (.invokevirtual 121, 3) := by decide +kernel
theorem dX11_tell_29 : decode cX11_tell 29 = .ok (.ifCond .ne 5, 3) := by decide +kernel
theorem dX11_tell_32 : decode cX11_tell 32 = .ok (.iconst (-1), 1) := by decide +kernel
theorem dX11_tell_33 : decode cX11_tell 33 = .ok (.ireturn, 1) := by decide +kernel
theorem dX11_tell_34 : decode cX11_tell 34 = .ok (.aload_n 0, 1) := by decide +kernel
theorem dX11_tell_35 : decode cX11_tell 35 = .ok (.getfield 85, 3) := by decide +kernel
theorem dX11_tell_38 : decode cX11_tell 38 = .ok (.iload_n 1, 1) := by decide +kernel
theorem dX11_tell_39 : decode cX11_tell 39 = .ok (.iload_n 2, 1) := by decide +kernel
theorem dX11_tell_40 : decode cX11_tell 40 = .ok (.iload_n 3, 1) := by decide +kernel
theorem dX11_tell_41 : decode cX11_tell 41 = .ok (.invokevirtual 262, 3) := by decide +kernel
theorem dX11_tell_44 : decode cX11_tell 44 = .ok (.ireturn, 1) := by decide +kernel
set_option maxHeartbeats 4000000 in
set_option maxRecDepth 100000 in
theorem w_X11_tell_32 {X : CX} {T : List Dsc} {n1 n2 : Nat} {μ : Mem} {r : (Int32 × Mem)} (hX : XR X 2 n1 n2) (hf : f_X11_tell_32 T μ = some r) (hk : FnI X cX11_tell RX11 4 T n1 n2 r) : Wp X cX11_tell RX11 4 T μ n1 n2 32 [] [] := by
  unfold f_X11_tell_32 at hf
  refine Wp.iconst (pc := 32) (-1 : Int32) (by decide) dX11_tell_32 ?_
  cases hf
  exact hk _ _ dX11_tell_33
set_option maxHeartbeats 4000000 in
set_option maxRecDepth 100000 in
theorem w_X11_tell {X : CX} {T : List Dsc} {n1 n2 : Nat} {x0 : Nat} {x1 : Int32} {x2 : Int32} {x3 : Int32} {μ : Mem} {r : (Int32 × Mem)} (hX : XR X 2 n1 n2) (hx0 : T[x0]? = some (.inl 10)) (hf : F_X11_tell T x0 x1 x2 x3 μ = some r) (hk : FnI X cX11_tell RX11 4 T n1 n2 r) : Wp X cX11_tell RX11 4 T μ n1 n2 0 [(0, .ref x0), (1, .int x1), (2, .int x2), (3, .int x3)] [] := by
  unfold F_X11_tell at hf
  refine Wp.aload_n (pc := 0) 0 rfl rfl dX11_tell_0 ?_
  obtain ⟨r1, h2, hf⟩ := bnd hf
  refine Wp.getR (pc := 1) (gO_R h2) hx0 fk_RX11_85 rfl dX11_tell_1 ?_
  refine Wp.getI (pc := 4) (gO_T h2) fk_RX11_111 rfl dX11_tell_4 ?_
  refine Wp.bipush (pc := 7) (20 : Int32) (by decide) dX11_tell_7 ?_
  refine Wp.icmp_ge (pc := 9) 32 dX11_tell_9 (by decide) (fun hc3 => ?_) (fun hc3 => ?_)
  · rw [if_pos hc3] at hf
    refine Wp.lo' (lo' := []) [] rfl ?_
    exact w_X11_tell_32 hX hf hk
  · rw [if_neg hc3] at hf
    refine Wp.iload_n (pc := 12) 1 rfl rfl dX11_tell_12 ?_
    obtain ⟨c4, h5, hf⟩ := bnd hf
    refine Wp.callSi (pc := 13) (st := []) (as := [.int x1]) (c_X10_isStroke h5) ml_RX11_259 ms_X10_isStroke mb_X10_isStroke hX (Nat.le_of_ble_eq_true rfl) (by decide) rfl (by simp) dX11_tell_13 rfl ?_
    refine Wp.if_eq (pc := 16) 32 dX11_tell_16 (by decide) (fun hc6 => ?_) (fun hc6 => ?_)
    · rw [if_pos hc6] at hf
      refine Wp.lo' (lo' := []) [] rfl ?_
      exact w_X11_tell_32 hX hf hk
    · rw [if_neg hc6] at hf
      refine Wp.iload_n (pc := 19) 2 rfl rfl dX11_tell_19 ?_
      refine Wp.iconst (pc := 20) (1 : Int32) (by decide) dX11_tell_20 ?_
      refine Wp.icmp_lt (pc := 21) 32 dX11_tell_21 (by decide) (fun hc7 => ?_) (fun hc7 => ?_)
      · rw [if_pos hc7] at hf
        refine Wp.lo' (lo' := []) [] rfl ?_
        exact w_X11_tell_32 hX hf hk
      · rw [if_neg hc7] at hf
        refine Wp.aload_n (pc := 24) 0 rfl rfl dX11_tell_24 ?_
        refine Wp.iload_n (pc := 25) 2 rfl rfl dX11_tell_25 ?_
        obtain ⟨c8, h9, hf⟩ := bnd hf
        refine Wp.callVi (pc := 26) (st := []) (as := [.int x2]) (c_X11_isBench hx0 h9) ml_RX11_121 mv_X11_isBench mb_X11_isBench hX (Nat.le_of_ble_eq_true rfl) (by decide) rfl hx0 rfl (by simp) dX11_tell_26 rfl ?_
        refine Wp.if_ne (pc := 29) 34 dX11_tell_29 (by decide) (fun hc10 => ?_) (fun hc10 => ?_)
        · rw [if_neg hc10] at hf
          refine Wp.aload_n (pc := 34) 0 rfl rfl dX11_tell_34 ?_
          obtain ⟨r11, h12, hf⟩ := bnd hf
          refine Wp.getR (pc := 35) (gO_R h12) hx0 fk_RX11_85 rfl dX11_tell_35 ?_
          refine Wp.iload_n (pc := 38) 1 rfl rfl dX11_tell_38 ?_
          refine Wp.iload_n (pc := 39) 2 rfl rfl dX11_tell_39 ?_
          refine Wp.iload_n (pc := 40) 3 rfl rfl dX11_tell_40 ?_
          obtain ⟨c13, h14, hf⟩ := bnd hf
          refine Wp.callVi (pc := 41) (st := []) (as := [.int x1, .int x2, .int x3]) (c_X10_note (gO_T h12) h14) ml_RX11_262 mv_X10_note mb_X10_note hX (Nat.le_of_ble_eq_true rfl) (by decide) rfl (gO_T h12) rfl (by simp) dX11_tell_41 rfl ?_
          cases hf
          exact hk _ _ dX11_tell_44
        · rw [if_pos hc10] at hf
          refine Wp.lo' (lo' := []) [] rfl ?_
          exact w_X11_tell_32 hX hf hk
theorem c_X11_tell {T : List Dsc} {x0 : Nat} {x1 : Int32} {x2 : Int32} {x3 : Int32} {μ : Mem} {r : (Int32 × Mem)} (hx0 : T[x0]? = some (.inl 10)) (hf : F_X11_tell T x0 x1 x2 x3 μ = some r) : Ct 2 yX11_tell cX11_tell 4 (some .int) T μ [.ref x0, .int x1, .int x2, .int x3] (some (.int r.1)) r.2 := Ct.ofI (by decide +kernel) (Nat.le_of_ble_eq_true rfl) (fun X hX hk => w_X11_tell hX hx0 hf hk)
theorem dX11_forget_0 : decode cX11_forget 0 = .ok (.aload_n 0, 1) := by decide +kernel
theorem dX11_forget_1 : decode cX11_forget 1 = .ok (.getfield 85, 3) := by decide +kernel
theorem dX11_forget_4 : decode cX11_forget 4 = .ok (.getfield 111, 3) := by decide +kernel
theorem dX11_forget_7 : decode cX11_forget 7 = .ok (.istore_n 1, 1) := by decide +kernel
theorem dX11_forget_8 : decode cX11_forget 8 = .ok (.aload_n 0, 1) := by decide +kernel
theorem dX11_forget_9 : decode cX11_forget 9 = .ok (.getfield 85, 3) := by decide +kernel
theorem dX11_forget_12 : decode cX11_forget 12 = .ok (.iconst 0, 1) := by decide +kernel
theorem dX11_forget_13 : decode cX11_forget 13 = .ok (.putfield 111, 3) := by decide +kernel
theorem dX11_forget_16 : decode cX11_forget 16 = .ok (.iload_n 1, 1) := by decide +kernel
theorem dX11_forget_17 : decode cX11_forget 17 = .ok (.ireturn, 1) := by decide +kernel
set_option maxHeartbeats 4000000 in
set_option maxRecDepth 100000 in
theorem w_X11_forget {X : CX} {T : List Dsc} {n1 n2 : Nat} {x0 : Nat} {μ : Mem} {r : (Int32 × Mem)} (hX : XR X 1 n1 n2) (hx0 : T[x0]? = some (.inl 10)) (hf : F_X11_forget T x0 μ = some r) (hk : FnI X cX11_forget RX11 2 T n1 n2 r) : Wp X cX11_forget RX11 2 T μ n1 n2 0 [(0, .ref x0)] [] := by
  unfold F_X11_forget at hf
  refine Wp.aload_n (pc := 0) 0 rfl rfl dX11_forget_0 ?_
  obtain ⟨r1, h2, hf⟩ := bnd hf
  refine Wp.getR (pc := 1) (gO_R h2) hx0 fk_RX11_85 rfl dX11_forget_1 ?_
  refine Wp.getI (pc := 4) (gO_T h2) fk_RX11_111 rfl dX11_forget_4 ?_
  obtain ⟨v3, h4, hf⟩ := bnd hf
  refine Wp.nI' h4 ?_
  refine Wp.istore_n (pc := 7) (lo' := [(0, .ref x0), (1, .int v3)]) [1, 0] rfl (by decide) rfl dX11_forget_7 ?_
  refine Wp.aload_n (pc := 8) 0 rfl rfl dX11_forget_8 ?_
  obtain ⟨r5, h6, hf⟩ := bnd hf
  refine Wp.getR (pc := 9) (gO_R h6) hx0 fk_RX11_85 rfl dX11_forget_9 ?_
  refine Wp.iconst (pc := 12) (0 : Int32) (by decide) dX11_forget_12 ?_
  obtain ⟨μ7, h8, hf⟩ := bnd hf
  refine Wp.ptI (pc := 13) h8 (gO_T h6) fk_RX11_111 ff_RX11_9_1 rfl dX11_forget_13 ?_
  refine Wp.iload_n (pc := 16) 1 rfl rfl dX11_forget_16 ?_
  cases hf
  exact hk _ _ dX11_forget_17
theorem c_X11_forget {T : List Dsc} {x0 : Nat} {μ : Mem} {r : (Int32 × Mem)} (hx0 : T[x0]? = some (.inl 10)) (hf : F_X11_forget T x0 μ = some r) : Ct 1 yX11_forget cX11_forget 2 (some .int) T μ [.ref x0] (some (.int r.1)) r.2 := Ct.ofI (by decide +kernel) (Nat.le_of_ble_eq_true rfl) (fun X hX hk => w_X11_forget hX hx0 hf hk)
theorem dX11_suspects_0 : decode cX11_suspects 0 = .ok (.aload_n 0, 1) := by decide +kernel
theorem dX11_suspects_1 : decode cX11_suspects 1 = .ok (.getfield 85, 3) := by decide +kernel
theorem dX11_suspects_4 : decode cX11_suspects 4 = .ok (.iload_n 1, 1) := by decide +kernel
theorem dX11_suspects_5 : decode cX11_suspects 5 = .ok (.iload_n 2, 1) := by decide +kernel
theorem dX11_suspects_6 : decode cX11_suspects 6 = .ok (.invokevirtual 266, 3) := by decide +kernel
theorem dX11_suspects_9 : decode cX11_suspects 9 = .ok (.ifCond .eq 15, 3) := by decide +kernel
theorem dX11_suspects_12 : decode cX11_suspects 12 = .ok (.aload_n 0, 1) := by decide +kernel
theorem dX11_suspects_13 : decode cX11_suspects 13 = .ok (.getfield 85, 3) := by decide +kernel
theorem dX11_suspects_16 : decode cX11_suspects 16 = .ok (.iload_n 1, 1) := by decide +kernel
theorem dX11_suspects_17 : decode cX11_suspects 17 = .ok (.iload_n 2, 1) := by decide +kernel
theorem dX11_suspects_18 : decode cX11_suspects 18 = .ok (.invokevirtual 269, 3) := by decide +kernel
theorem dX11_suspects_21 : decode cX11_suspects 21 = .ok (.goto 4, 3) := by decide +kernel
theorem dX11_suspects_24 : decode cX11_suspects 24 = .ok (.iconst (-1), 1) := by decide +kernel
theorem dX11_suspects_25 : decode cX11_suspects 25 = .ok (.ireturn, 1) := by decide +kernel
set_option maxHeartbeats 4000000 in
set_option maxRecDepth 100000 in
theorem w_X11_suspects_25 {X : CX} {T : List Dsc} {n1 n2 : Nat} {s0 : Int32} {μ : Mem} {r : (Int32 × Mem)} (hX : XR X 8 n1 n2) (hf : f_X11_suspects_25 T s0 μ = some r) (hk : FnI X cX11_suspects RX11 3 T n1 n2 r) : Wp X cX11_suspects RX11 3 T μ n1 n2 25 [] [.int s0] := by
  unfold f_X11_suspects_25 at hf
  cases hf
  exact hk _ _ dX11_suspects_25
set_option maxHeartbeats 4000000 in
set_option maxRecDepth 100000 in
theorem w_X11_suspects {X : CX} {T : List Dsc} {n1 n2 : Nat} {x0 : Nat} {x1 : Int32} {x2 : Int32} {μ : Mem} {r : (Int32 × Mem)} (hX : XR X 8 n1 n2) (hx0 : T[x0]? = some (.inl 10)) (hf : F_X11_suspects T x0 x1 x2 μ = some r) (hk : FnI X cX11_suspects RX11 3 T n1 n2 r) : Wp X cX11_suspects RX11 3 T μ n1 n2 0 [(0, .ref x0), (1, .int x1), (2, .int x2)] [] := by
  unfold F_X11_suspects at hf
  refine Wp.aload_n (pc := 0) 0 rfl rfl dX11_suspects_0 ?_
  obtain ⟨r1, h2, hf⟩ := bnd hf
  refine Wp.getR (pc := 1) (gO_R h2) hx0 fk_RX11_85 rfl dX11_suspects_1 ?_
  refine Wp.iload_n (pc := 4) 1 rfl rfl dX11_suspects_4 ?_
  refine Wp.iload_n (pc := 5) 2 rfl rfl dX11_suspects_5 ?_
  obtain ⟨c3, h4, hf⟩ := bnd hf
  refine Wp.callVi (pc := 6) (st := []) (as := [.int x1, .int x2]) (c_X10_isQuestion (gO_T h2) h4) ml_RX11_266 mv_X10_isQuestion mb_X10_isQuestion hX (Nat.le_of_ble_eq_true rfl) (by decide) rfl (gO_T h2) rfl (by simp) dX11_suspects_6 rfl ?_
  refine Wp.if_eq (pc := 9) 24 dX11_suspects_9 (by decide) (fun hc5 => ?_) (fun hc5 => ?_)
  · rw [if_pos hc5] at hf
    refine Wp.iconst (pc := 24) (-1 : Int32) (by decide) dX11_suspects_24 ?_
    refine Wp.lo' (lo' := []) [] rfl ?_
    exact w_X11_suspects_25 hX hf hk
  · rw [if_neg hc5] at hf
    refine Wp.aload_n (pc := 12) 0 rfl rfl dX11_suspects_12 ?_
    obtain ⟨r6, h7, hf⟩ := bnd hf
    refine Wp.getR (pc := 13) (gO_R h7) hx0 fk_RX11_85 rfl dX11_suspects_13 ?_
    refine Wp.iload_n (pc := 16) 1 rfl rfl dX11_suspects_16 ?_
    refine Wp.iload_n (pc := 17) 2 rfl rfl dX11_suspects_17 ?_
    obtain ⟨c8, h9, hf⟩ := bnd hf
    refine Wp.callVi (pc := 18) (st := []) (as := [.int x1, .int x2]) (c_X10_countSets (gO_T h7) h9) ml_RX11_269 mv_X10_countSets mb_X10_countSets hX (Nat.le_of_ble_eq_true rfl) (by decide) rfl (gO_T h7) rfl (by simp) dX11_suspects_18 rfl ?_
    refine Wp.goto (pc := 21) 25 dX11_suspects_21 (by decide) ?_
    refine Wp.lo' (lo' := []) [] rfl ?_
    exact w_X11_suspects_25 hX hf hk
theorem c_X11_suspects {T : List Dsc} {x0 : Nat} {x1 : Int32} {x2 : Int32} {μ : Mem} {r : (Int32 × Mem)} (hx0 : T[x0]? = some (.inl 10)) (hf : F_X11_suspects T x0 x1 x2 μ = some r) : Ct 8 yX11_suspects cX11_suspects 3 (some .int) T μ [.ref x0, .int x1, .int x2] (some (.int r.1)) r.2 := Ct.ofI (by decide +kernel) (Nat.le_of_ble_eq_true rfl) (fun X hX hk => w_X11_suspects hX hx0 hf hk)
theorem dX11_suspect_0 : decode cX11_suspect 0 = .ok (.aload_n 0, 1) := by decide +kernel
theorem dX11_suspect_1 : decode cX11_suspect 1 = .ok (.getfield 85, 3) := by decide +kernel
theorem dX11_suspect_4 : decode cX11_suspect 4 = .ok (.iload_n 1, 1) := by decide +kernel
theorem dX11_suspect_5 : decode cX11_suspect 5 = .ok (.iload_n 2, 1) := by decide +kernel
theorem dX11_suspect_6 : decode cX11_suspect 6 = .ok (.invokevirtual 266, 3) := by decide +kernel
theorem dX11_suspect_9 : decode cX11_suspect 9 = .ok (.ifCond .eq 20, 3) := by decide +kernel
theorem dX11_suspect_12 : decode cX11_suspect 12 = .ok (.iload_n 3, 1) := by decide +kernel
theorem dX11_suspect_13 : decode cX11_suspect 13 = .ok (.ifCond .lt 16, 3) := by decide +kernel
theorem dX11_suspect_16 : decode cX11_suspect 16 = .ok (.aload_n 0, 1) := by decide +kernel
theorem dX11_suspect_17 : decode cX11_suspect 17 = .ok (.getfield 85, 3) := by decide +kernel
theorem dX11_suspect_20 : decode cX11_suspect 20 = .ok (.iload_n 1, 1) := by decide +kernel
theorem dX11_suspect_21 : decode cX11_suspect 21 = .ok (.iload_n 2, 1) := by decide +kernel
theorem dX11_suspect_22 : decode cX11_suspect 22 = .ok (.iload_n 3, 1) := by decide +kernel
theorem dX11_suspect_23 : decode cX11_suspect 23 = .ok (.invokevirtual 273, 3) := by decide +kernel
theorem dX11_suspect_26 : decode cX11_suspect 26 = .ok (.goto 4, 3) := by decide +kernel
theorem dX11_suspect_29 : decode cX11_suspect 29 = .ok (.iconst (-1), 1) := by decide +kernel
theorem dX11_suspect_30 : decode cX11_suspect 30 = .ok (.ireturn, 1) := by decide +kernel
set_option maxHeartbeats 4000000 in
set_option maxRecDepth 100000 in
theorem w_X11_suspect_30 {X : CX} {T : List Dsc} {n1 n2 : Nat} {s0 : Int32} {μ : Mem} {r : (Int32 × Mem)} (hX : XR X 8 n1 n2) (hf : f_X11_suspect_30 T s0 μ = some r) (hk : FnI X cX11_suspect RX11 4 T n1 n2 r) : Wp X cX11_suspect RX11 4 T μ n1 n2 30 [] [.int s0] := by
  unfold f_X11_suspect_30 at hf
  cases hf
  exact hk _ _ dX11_suspect_30
set_option maxHeartbeats 4000000 in
set_option maxRecDepth 100000 in
theorem w_X11_suspect_29 {X : CX} {T : List Dsc} {n1 n2 : Nat} {μ : Mem} {r : (Int32 × Mem)} (hX : XR X 8 n1 n2) (hf : f_X11_suspect_29 T μ = some r) (hk : FnI X cX11_suspect RX11 4 T n1 n2 r) : Wp X cX11_suspect RX11 4 T μ n1 n2 29 [] [] := by
  unfold f_X11_suspect_29 at hf
  refine Wp.iconst (pc := 29) (-1 : Int32) (by decide) dX11_suspect_29 ?_
  exact w_X11_suspect_30 hX hf hk
set_option maxHeartbeats 4000000 in
set_option maxRecDepth 100000 in
theorem w_X11_suspect {X : CX} {T : List Dsc} {n1 n2 : Nat} {x0 : Nat} {x1 : Int32} {x2 : Int32} {x3 : Int32} {μ : Mem} {r : (Int32 × Mem)} (hX : XR X 8 n1 n2) (hx0 : T[x0]? = some (.inl 10)) (hf : F_X11_suspect T x0 x1 x2 x3 μ = some r) (hk : FnI X cX11_suspect RX11 4 T n1 n2 r) : Wp X cX11_suspect RX11 4 T μ n1 n2 0 [(0, .ref x0), (1, .int x1), (2, .int x2), (3, .int x3)] [] := by
  unfold F_X11_suspect at hf
  refine Wp.aload_n (pc := 0) 0 rfl rfl dX11_suspect_0 ?_
  obtain ⟨r1, h2, hf⟩ := bnd hf
  refine Wp.getR (pc := 1) (gO_R h2) hx0 fk_RX11_85 rfl dX11_suspect_1 ?_
  refine Wp.iload_n (pc := 4) 1 rfl rfl dX11_suspect_4 ?_
  refine Wp.iload_n (pc := 5) 2 rfl rfl dX11_suspect_5 ?_
  obtain ⟨c3, h4, hf⟩ := bnd hf
  refine Wp.callVi (pc := 6) (st := []) (as := [.int x1, .int x2]) (c_X10_isQuestion (gO_T h2) h4) ml_RX11_266 mv_X10_isQuestion mb_X10_isQuestion hX (Nat.le_of_ble_eq_true rfl) (by decide) rfl (gO_T h2) rfl (by simp) dX11_suspect_6 rfl ?_
  refine Wp.if_eq (pc := 9) 29 dX11_suspect_9 (by decide) (fun hc5 => ?_) (fun hc5 => ?_)
  · rw [if_pos hc5] at hf
    refine Wp.lo' (lo' := []) [] rfl ?_
    exact w_X11_suspect_29 hX hf hk
  · rw [if_neg hc5] at hf
    refine Wp.iload_n (pc := 12) 3 rfl rfl dX11_suspect_12 ?_
    refine Wp.if_lt (pc := 13) 29 dX11_suspect_13 (by decide) (fun hc6 => ?_) (fun hc6 => ?_)
    · rw [if_pos hc6] at hf
      refine Wp.lo' (lo' := []) [] rfl ?_
      exact w_X11_suspect_29 hX hf hk
    · rw [if_neg hc6] at hf
      refine Wp.aload_n (pc := 16) 0 rfl rfl dX11_suspect_16 ?_
      obtain ⟨r7, h8, hf⟩ := bnd hf
      refine Wp.getR (pc := 17) (gO_R h8) hx0 fk_RX11_85 rfl dX11_suspect_17 ?_
      refine Wp.iload_n (pc := 20) 1 rfl rfl dX11_suspect_20 ?_
      refine Wp.iload_n (pc := 21) 2 rfl rfl dX11_suspect_21 ?_
      refine Wp.iload_n (pc := 22) 3 rfl rfl dX11_suspect_22 ?_
      obtain ⟨c9, h10, hf⟩ := bnd hf
      refine Wp.callVi (pc := 23) (st := []) (as := [.int x1, .int x2, .int x3]) (c_X10_setNumber (gO_T h8) h10) ml_RX11_273 mv_X10_setNumber mb_X10_setNumber hX (Nat.le_of_ble_eq_true rfl) (by decide) rfl (gO_T h8) rfl (by simp) dX11_suspect_23 rfl ?_
      refine Wp.goto (pc := 26) 30 dX11_suspect_26 (by decide) ?_
      refine Wp.lo' (lo' := []) [] rfl ?_
      exact w_X11_suspect_30 hX hf hk
theorem c_X11_suspect {T : List Dsc} {x0 : Nat} {x1 : Int32} {x2 : Int32} {x3 : Int32} {μ : Mem} {r : (Int32 × Mem)} (hx0 : T[x0]? = some (.inl 10)) (hf : F_X11_suspect T x0 x1 x2 x3 μ = some r) : Ct 8 yX11_suspect cX11_suspect 4 (some .int) T μ [.ref x0, .int x1, .int x2, .int x3] (some (.int r.1)) r.2 := Ct.ofI (by decide +kernel) (Nat.le_of_ble_eq_true rfl) (fun X hX hk => w_X11_suspect hX hx0 hf hk)
theorem dX11_check_0 : decode cX11_check 0 = .ok (.aload_n 0, 1) := by decide +kernel
theorem dX11_check_1 : decode cX11_check 1 = .ok (.getfield 85, 3) := by decide +kernel
theorem dX11_check_4 : decode cX11_check 4 = .ok (.iload_n 1, 1) := by decide +kernel
theorem dX11_check_5 : decode cX11_check 5 = .ok (.iload_n 2, 1) := by decide +kernel
theorem dX11_check_6 : decode cX11_check 6 = .ok (.invokevirtual 266, 3) := by decide +kernel
theorem dX11_check_9 : decode cX11_check 9 = .ok (.ifCond .eq 10, 3) := by decide +kernel
theorem dX11_check_12 : decode cX11_check 12 = .ok (.iload_n 3, 1) := by decide +kernel
theorem dX11_check_13 : decode cX11_check 13 = .ok (.invokestatic 259, 3) := by decide +kernel
theorem dX11_check_16 : decode cX11_check 16 = .ok (.ifCond .ne 5, 3) := by decide +kernel
theorem dX11_check_19 : decode cX11_check 19 = .ok (.iconst (-1), 1) := by decide +kernel
theorem dX11_check_20 : decode cX11_check 20 = .ok (.ireturn, 1) := by decide +kernel
theorem dX11_check_21 : decode cX11_check 21 = .ok (.aload_n 0, 1) := by decide +kernel
theorem dX11_check_22 : decode cX11_check 22 = .ok (.getfield 85, 3) := by decide +kernel
theorem dX11_check_25 : decode cX11_check 25 = .ok (.iload_n 1, 1) := by decide +kernel
theorem dX11_check_26 : decode cX11_check 26 = .ok (.iload_n 2, 1) := by decide +kernel
theorem dX11_check_27 : decode cX11_check 27 = .ok (.iload_n 3, 1) := by decide +kernel
theorem dX11_check_28 : decode cX11_check 28 = .ok (.invokevirtual 277, 3) := by decide +kernel
theorem dX11_check_31 : decode cX11_check 31 = .ok (.ireturn, 1) := by decide +kernel
set_option maxHeartbeats 4000000 in
set_option maxRecDepth 100000 in
theorem w_X11_check_19 {X : CX} {T : List Dsc} {n1 n2 : Nat} {μ : Mem} {r : (Int32 × Mem)} (hX : XR X 8 n1 n2) (hf : f_X11_check_19 T μ = some r) (hk : FnI X cX11_check RX11 4 T n1 n2 r) : Wp X cX11_check RX11 4 T μ n1 n2 19 [] [] := by
  unfold f_X11_check_19 at hf
  refine Wp.iconst (pc := 19) (-1 : Int32) (by decide) dX11_check_19 ?_
  cases hf
  exact hk _ _ dX11_check_20
set_option maxHeartbeats 4000000 in
set_option maxRecDepth 100000 in
theorem w_X11_check {X : CX} {T : List Dsc} {n1 n2 : Nat} {x0 : Nat} {x1 : Int32} {x2 : Int32} {x3 : Int32} {μ : Mem} {r : (Int32 × Mem)} (hX : XR X 8 n1 n2) (hx0 : T[x0]? = some (.inl 10)) (hf : F_X11_check T x0 x1 x2 x3 μ = some r) (hk : FnI X cX11_check RX11 4 T n1 n2 r) : Wp X cX11_check RX11 4 T μ n1 n2 0 [(0, .ref x0), (1, .int x1), (2, .int x2), (3, .int x3)] [] := by
  unfold F_X11_check at hf
  refine Wp.aload_n (pc := 0) 0 rfl rfl dX11_check_0 ?_
  obtain ⟨r1, h2, hf⟩ := bnd hf
  refine Wp.getR (pc := 1) (gO_R h2) hx0 fk_RX11_85 rfl dX11_check_1 ?_
  refine Wp.iload_n (pc := 4) 1 rfl rfl dX11_check_4 ?_
  refine Wp.iload_n (pc := 5) 2 rfl rfl dX11_check_5 ?_
  obtain ⟨c3, h4, hf⟩ := bnd hf
  refine Wp.callVi (pc := 6) (st := []) (as := [.int x1, .int x2]) (c_X10_isQuestion (gO_T h2) h4) ml_RX11_266 mv_X10_isQuestion mb_X10_isQuestion hX (Nat.le_of_ble_eq_true rfl) (by decide) rfl (gO_T h2) rfl (by simp) dX11_check_6 rfl ?_
  refine Wp.if_eq (pc := 9) 19 dX11_check_9 (by decide) (fun hc5 => ?_) (fun hc5 => ?_)
  · rw [if_pos hc5] at hf
    refine Wp.lo' (lo' := []) [] rfl ?_
    exact w_X11_check_19 hX hf hk
  · rw [if_neg hc5] at hf
    refine Wp.iload_n (pc := 12) 3 rfl rfl dX11_check_12 ?_
    obtain ⟨c6, h7, hf⟩ := bnd hf
    refine Wp.callSi (pc := 13) (st := []) (as := [.int x3]) (c_X10_isStroke h7) ml_RX11_259 ms_X10_isStroke mb_X10_isStroke hX (Nat.le_of_ble_eq_true rfl) (by decide) rfl (by simp) dX11_check_13 rfl ?_
    refine Wp.if_ne (pc := 16) 21 dX11_check_16 (by decide) (fun hc8 => ?_) (fun hc8 => ?_)
    · rw [if_neg hc8] at hf
      refine Wp.aload_n (pc := 21) 0 rfl rfl dX11_check_21 ?_
      obtain ⟨r9, h10, hf⟩ := bnd hf
      refine Wp.getR (pc := 22) (gO_R h10) hx0 fk_RX11_85 rfl dX11_check_22 ?_
      refine Wp.iload_n (pc := 25) 1 rfl rfl dX11_check_25 ?_
      refine Wp.iload_n (pc := 26) 2 rfl rfl dX11_check_26 ?_
      refine Wp.iload_n (pc := 27) 3 rfl rfl dX11_check_27 ?_
      obtain ⟨c11, h12, hf⟩ := bnd hf
      refine Wp.callVi (pc := 28) (st := []) (as := [.int x1, .int x2, .int x3]) (c_X10_evenestBench (gO_T h10) h12) ml_RX11_277 mv_X10_evenestBench mb_X10_evenestBench hX (Nat.le_of_ble_eq_true rfl) (by decide) rfl (gO_T h10) rfl (by simp) dX11_check_28 rfl ?_
      cases hf
      exact hk _ _ dX11_check_31
    · rw [if_pos hc8] at hf
      refine Wp.lo' (lo' := []) [] rfl ?_
      exact w_X11_check_19 hX hf hk
theorem c_X11_check {T : List Dsc} {x0 : Nat} {x1 : Int32} {x2 : Int32} {x3 : Int32} {μ : Mem} {r : (Int32 × Mem)} (hx0 : T[x0]? = some (.inl 10)) (hf : F_X11_check T x0 x1 x2 x3 μ = some r) : Ct 8 yX11_check cX11_check 4 (some .int) T μ [.ref x0, .int x1, .int x2, .int x3] (some (.int r.1)) r.2 := Ct.ofI (by decide +kernel) (Nat.le_of_ble_eq_true rfl) (fun X hX hk => w_X11_check hX hx0 hf hk)
theorem dX11_hold_0 : decode cX11_hold 0 = .ok (.iload_n 1, 1) := by decide +kernel
theorem dX11_hold_1 : decode cX11_hold 1 = .ok (.ifCond .lt 8, 3) := by decide +kernel
theorem dX11_hold_4 : decode cX11_hold 4 = .ok (.iload_n 1, 1) := by decide +kernel
theorem dX11_hold_5 : decode cX11_hold 5 = .ok (.iconst 3, 1) := by decide +kernel
theorem dX11_hold_6 : decode cX11_hold 6 = .ok (.if_icmp .lt 5, 3) := by decide +kernel
theorem dX11_hold_9 : decode cX11_hold 9 = .ok (.iconst 0, 1) := by decide +kernel
theorem dX11_hold_10 : decode cX11_hold 10 = .ok (.ireturn, 1) := by decide +kernel
theorem dX11_hold_11 : decode cX11_hold 11 = .ok (.aload_n 0, 1) := by decide +kernel
theorem dX11_hold_12 : decode cX11_hold 12 = .ok (.getfield 48, 3) := by decide +kernel
theorem dX11_hold_15 : decode cX11_hold 15 = .ok (.iload_n 1, 1) := by decide +kernel
theorem dX11_hold_16 : decode cX11_hold 16 = .ok (.aaload, 1) := by decide +kernel
theorem dX11_hold_17 : decode cX11_hold 17 = .ok (.aload_n 0, 1) := by decide +kernel
theorem dX11_hold_18 : decode cX11_hold 18 = .ok (.getfield 44, 3) := by decide +kernel
theorem dX11_hold_21 : decode cX11_hold 21 = .ok (.invokevirtual 280, 3) := by decide +kernel
theorem dX11_hold_24 : decode cX11_hold 24 = .ok (.aload_n 0, 1) := by decide +kernel
theorem dX11_hold_25 : decode cX11_hold 25 = .ok (.getfield 48, 3) := by decide +kernel
theorem dX11_hold_28 : decode cX11_hold 28 = .ok (.iload_n 1, 1) := by decide +kernel
theorem dX11_hold_29 : decode cX11_hold 29 = .ok (.aaload, 1) := by decide +kernel
theorem dX11_hold_30 : decode cX11_hold 30 = .ok (.iconst 1, 1) := by decide +kernel
theorem dX11_hold_31 : decode cX11_hold 31 = .ok (.putfield 114, 3) := by decide +kernel
theorem dX11_hold_34 : decode cX11_hold 34 = .ok (.iconst 1, 1) := by decide +kernel
theorem dX11_hold_35 : decode cX11_hold 35 = .ok (.ireturn, 1) := by decide +kernel
set_option maxHeartbeats 4000000 in
set_option maxRecDepth 100000 in
theorem w_X11_hold_9 {X : CX} {T : List Dsc} {n1 n2 : Nat} {μ : Mem} {r : (Int32 × Mem)} (hX : XR X 2 n1 n2) (hf : f_X11_hold_9 T μ = some r) (hk : FnZ X cX11_hold RX11 2 T n1 n2 r) : Wp X cX11_hold RX11 2 T μ n1 n2 9 [] [] := by
  unfold f_X11_hold_9 at hf
  refine Wp.iconst (pc := 9) (0 : Int32) (by decide) dX11_hold_9 ?_
  cases hf
  exact hk _ _ (Or.inl rfl) dX11_hold_10
set_option maxHeartbeats 4000000 in
set_option maxRecDepth 100000 in
theorem w_X11_hold {X : CX} {T : List Dsc} {n1 n2 : Nat} {x0 : Nat} {x1 : Int32} {μ : Mem} {r : (Int32 × Mem)} (hX : XR X 2 n1 n2) (hx0 : T[x0]? = some (.inl 10)) (hf : F_X11_hold T x0 x1 μ = some r) (hk : FnZ X cX11_hold RX11 2 T n1 n2 r) : Wp X cX11_hold RX11 2 T μ n1 n2 0 [(0, .ref x0), (1, .int x1)] [] := by
  unfold F_X11_hold at hf
  refine Wp.iload_n (pc := 0) 1 rfl rfl dX11_hold_0 ?_
  refine Wp.if_lt (pc := 1) 9 dX11_hold_1 (by decide) (fun hc1 => ?_) (fun hc1 => ?_)
  · rw [if_pos hc1] at hf
    refine Wp.lo' (lo' := []) [] rfl ?_
    exact w_X11_hold_9 hX hf hk
  · rw [if_neg hc1] at hf
    refine Wp.iload_n (pc := 4) 1 rfl rfl dX11_hold_4 ?_
    refine Wp.iconst (pc := 5) (3 : Int32) (by decide) dX11_hold_5 ?_
    refine Wp.icmp_lt (pc := 6) 11 dX11_hold_6 (by decide) (fun hc2 => ?_) (fun hc2 => ?_)
    · rw [if_pos hc2] at hf
      refine Wp.aload_n (pc := 11) 0 rfl rfl dX11_hold_11 ?_
      obtain ⟨a3, h4, hf⟩ := bnd hf
      refine Wp.getR (pc := 12) (gA_R h4) hx0 fk_RX11_48 rfl dX11_hold_12 ?_
      refine Wp.iload_n (pc := 15) 1 rfl rfl dX11_hold_15 ?_
      obtain ⟨v5, h6, hf⟩ := bnd hf
      refine Wp.aald (pc := 16) h6 (gA_T h4) dX11_hold_16 ?_
      refine Wp.aload_n (pc := 17) 0 rfl rfl dX11_hold_17 ?_
      obtain ⟨r7, h8, hf⟩ := bnd hf
      refine Wp.getR (pc := 18) (gO_R h8) hx0 fk_RX11_44 rfl dX11_hold_18 ?_
      obtain ⟨c9, h10, hf⟩ := bnd hf
      refine Wp.callVv (pc := 21) (st := []) (as := [.ref r7]) (c_X1_take (rO_T h6) (gO_T h8) h10) ml_RX11_280 mv_X1_take mb_X1_take hX (Nat.le_of_ble_eq_true rfl) (by decide) rfl (rO_T h6) rfl (by simp) dX11_hold_21 rfl ?_
      refine Wp.aload_n (pc := 24) 0 rfl rfl dX11_hold_24 ?_
      obtain ⟨a11, h12, hf⟩ := bnd hf
      refine Wp.getR (pc := 25) (gA_R h12) hx0 fk_RX11_48 rfl dX11_hold_25 ?_
      refine Wp.iload_n (pc := 28) 1 rfl rfl dX11_hold_28 ?_
      obtain ⟨v13, h14, hf⟩ := bnd hf
      refine Wp.aald (pc := 29) h14 (gA_T h12) dX11_hold_29 ?_
      refine Wp.iconst (pc := 30) (1 : Int32) (by decide) dX11_hold_30 ?_
      obtain ⟨μ15, h16, hf⟩ := bnd hf
      refine Wp.ptZ (pc := 31) (Or.inr rfl) h16 (rO_T h14) fk_RX11_114 ff_RX11_1_5 rfl dX11_hold_31 ?_
      refine Wp.iconst (pc := 34) (1 : Int32) (by decide) dX11_hold_34 ?_
      cases hf
      exact hk _ _ (Or.inr rfl) dX11_hold_35
    · rw [if_neg hc2] at hf
      refine Wp.lo' (lo' := []) [] rfl ?_
      exact w_X11_hold_9 hX hf hk
theorem c_X11_hold {T : List Dsc} {x0 : Nat} {x1 : Int32} {μ : Mem} {r : (Int32 × Mem)} (hx0 : T[x0]? = some (.inl 10)) (hf : F_X11_hold T x0 x1 μ = some r) : Ct 2 yX11_hold cX11_hold 2 (some .boolean) T μ [.ref x0, .int x1] (some (.int r.1)) r.2 := Ct.ofZ (by decide +kernel) (Nat.le_of_ble_eq_true rfl) (fun X hX hk => w_X11_hold hX hx0 hf hk)
theorem dX11_restore_0 : decode cX11_restore 0 = .ok (.iload_n 1, 1) := by decide +kernel
theorem dX11_restore_1 : decode cX11_restore 1 = .ok (.ifCond .lt 20, 3) := by decide +kernel
theorem dX11_restore_4 : decode cX11_restore 4 = .ok (.iload_n 1, 1) := by decide +kernel
theorem dX11_restore_5 : decode cX11_restore 5 = .ok (.iconst 3, 1) := by decide +kernel
theorem dX11_restore_6 : decode cX11_restore 6 = .ok (.if_icmp .ge 15, 3) := by decide +kernel
theorem dX11_restore_9 : decode cX11_restore 9 = .ok (.aload_n 0, 1) := by decide +kernel
theorem dX11_restore_10 : decode cX11_restore 10 = .ok (.getfield 48, 3) := by decide +kernel
theorem dX11_restore_13 : decode cX11_restore 13 = .ok (.iload_n 1, 1) := by decide +kernel
theorem dX11_restore_14 : decode cX11_restore 14 = .ok (.aaload, 1) := by decide +kernel
theorem dX11_restore_15 : decode cX11_restore 15 = .ok (.getfield 114, 3) := by decide +kernel
theorem dX11_restore_18 : decode cX11_restore 18 = .ok (.ifCond .ne 5, 3) := by decide +kernel
theorem dX11_restore_21 : decode cX11_restore 21 = .ok (.iconst 0, 1) := by decide +kernel
theorem dX11_restore_22 : decode cX11_restore 22 = .ok (.ireturn, 1) := by decide +kernel
theorem dX11_restore_23 : decode cX11_restore 23 = .ok (.aload_n 0, 1) := by decide +kernel
theorem dX11_restore_24 : decode cX11_restore 24 = .ok (.getfield 44, 3) := by decide +kernel
theorem dX11_restore_27 : decode cX11_restore 27 = .ok (.aload_n 0, 1) := by decide +kernel
theorem dX11_restore_28 : decode cX11_restore 28 = .ok (.getfield 48, 3) := by decide +kernel
theorem dX11_restore_31 : decode cX11_restore 31 = .ok (.iload_n 1, 1) := by decide +kernel
theorem dX11_restore_32 : decode cX11_restore 32 = .ok (.aaload, 1) := by decide +kernel
theorem dX11_restore_33 : decode cX11_restore 33 = .ok (.invokevirtual 280, 3) := by decide +kernel
theorem dX11_restore_36 : decode cX11_restore 36 = .ok (.aload_n 0, 1) := by decide +kernel
theorem dX11_restore_37 : decode cX11_restore 37 = .ok (.getfield 55, 3) := by decide +kernel
theorem dX11_restore_40 : decode cX11_restore 40 = .ok (.invokevirtual 108, 3) := by decide +kernel
theorem dX11_restore_43 : decode cX11_restore 43 = .ok (.iconst 1, 1) := by decide +kernel
theorem dX11_restore_44 : decode cX11_restore 44 = .ok (.ireturn, 1) := by decide +kernel
set_option maxHeartbeats 4000000 in
set_option maxRecDepth 100000 in
theorem w_X11_restore_21 {X : CX} {T : List Dsc} {n1 n2 : Nat} {μ : Mem} {r : (Int32 × Mem)} (hX : XR X 2 n1 n2) (hf : f_X11_restore_21 T μ = some r) (hk : FnZ X cX11_restore RX11 2 T n1 n2 r) : Wp X cX11_restore RX11 2 T μ n1 n2 21 [] [] := by
  unfold f_X11_restore_21 at hf
  refine Wp.iconst (pc := 21) (0 : Int32) (by decide) dX11_restore_21 ?_
  cases hf
  exact hk _ _ (Or.inl rfl) dX11_restore_22
set_option maxHeartbeats 4000000 in
set_option maxRecDepth 100000 in
theorem w_X11_restore {X : CX} {T : List Dsc} {n1 n2 : Nat} {x0 : Nat} {x1 : Int32} {μ : Mem} {r : (Int32 × Mem)} (hX : XR X 2 n1 n2) (hx0 : T[x0]? = some (.inl 10)) (hf : F_X11_restore T x0 x1 μ = some r) (hk : FnZ X cX11_restore RX11 2 T n1 n2 r) : Wp X cX11_restore RX11 2 T μ n1 n2 0 [(0, .ref x0), (1, .int x1)] [] := by
  unfold F_X11_restore at hf
  refine Wp.iload_n (pc := 0) 1 rfl rfl dX11_restore_0 ?_
  refine Wp.if_lt (pc := 1) 21 dX11_restore_1 (by decide) (fun hc1 => ?_) (fun hc1 => ?_)
  · rw [if_pos hc1] at hf
    refine Wp.lo' (lo' := []) [] rfl ?_
    exact w_X11_restore_21 hX hf hk
  · rw [if_neg hc1] at hf
    refine Wp.iload_n (pc := 4) 1 rfl rfl dX11_restore_4 ?_
    refine Wp.iconst (pc := 5) (3 : Int32) (by decide) dX11_restore_5 ?_
    refine Wp.icmp_ge (pc := 6) 21 dX11_restore_6 (by decide) (fun hc2 => ?_) (fun hc2 => ?_)
    · rw [if_pos hc2] at hf
      refine Wp.lo' (lo' := []) [] rfl ?_
      exact w_X11_restore_21 hX hf hk
    · rw [if_neg hc2] at hf
      refine Wp.aload_n (pc := 9) 0 rfl rfl dX11_restore_9 ?_
      obtain ⟨a3, h4, hf⟩ := bnd hf
      refine Wp.getR (pc := 10) (gA_R h4) hx0 fk_RX11_48 rfl dX11_restore_10 ?_
      refine Wp.iload_n (pc := 13) 1 rfl rfl dX11_restore_13 ?_
      obtain ⟨v5, h6, hf⟩ := bnd hf
      refine Wp.aald (pc := 14) h6 (gA_T h4) dX11_restore_14 ?_
      refine Wp.getI (pc := 15) (rO_T h6) fk_RX11_114 rfl dX11_restore_15 ?_
      refine Wp.if_ne (pc := 18) 23 dX11_restore_18 (by decide) (fun hc7 => ?_) (fun hc7 => ?_)
      · rw [if_neg hc7] at hf
        refine Wp.aload_n (pc := 23) 0 rfl rfl dX11_restore_23 ?_
        obtain ⟨r8, h9, hf⟩ := bnd hf
        refine Wp.getR (pc := 24) (gO_R h9) hx0 fk_RX11_44 rfl dX11_restore_24 ?_
        refine Wp.aload_n (pc := 27) 0 rfl rfl dX11_restore_27 ?_
        obtain ⟨a10, h11, hf⟩ := bnd hf
        refine Wp.getR (pc := 28) (gA_R h11) hx0 fk_RX11_48 rfl dX11_restore_28 ?_
        refine Wp.iload_n (pc := 31) 1 rfl rfl dX11_restore_31 ?_
        obtain ⟨v12, h13, hf⟩ := bnd hf
        refine Wp.aald (pc := 32) h13 (gA_T h11) dX11_restore_32 ?_
        obtain ⟨c14, h15, hf⟩ := bnd hf
        refine Wp.callVv (pc := 33) (st := []) (as := [.ref v12]) (c_X1_take (gO_T h9) (rO_T h13) h15) ml_RX11_280 mv_X1_take mb_X1_take hX (Nat.le_of_ble_eq_true rfl) (by decide) rfl (gO_T h9) rfl (by simp) dX11_restore_33 rfl ?_
        refine Wp.aload_n (pc := 36) 0 rfl rfl dX11_restore_36 ?_
        obtain ⟨r16, h17, hf⟩ := bnd hf
        refine Wp.getR (pc := 37) (gO_R h17) hx0 fk_RX11_55 rfl dX11_restore_37 ?_
        obtain ⟨c18, h19, hf⟩ := bnd hf
        refine Wp.callVv (pc := 40) (st := []) (as := []) (c_X3_clear (gO_T h17) h19) ml_RX11_108 mv_X3_clear mb_X3_clear hX (Nat.le_of_ble_eq_true rfl) (by decide) rfl (gO_T h17) rfl (by simp) dX11_restore_40 rfl ?_
        refine Wp.iconst (pc := 43) (1 : Int32) (by decide) dX11_restore_43 ?_
        cases hf
        exact hk _ _ (Or.inr rfl) dX11_restore_44
      · rw [if_pos hc7] at hf
        refine Wp.lo' (lo' := []) [] rfl ?_
        exact w_X11_restore_21 hX hf hk
theorem c_X11_restore {T : List Dsc} {x0 : Nat} {x1 : Int32} {μ : Mem} {r : (Int32 × Mem)} (hx0 : T[x0]? = some (.inl 10)) (hf : F_X11_restore T x0 x1 μ = some r) : Ct 2 yX11_restore cX11_restore 2 (some .boolean) T μ [.ref x0, .int x1] (some (.int r.1)) r.2 := Ct.ofZ (by decide +kernel) (Nat.le_of_ble_eq_true rfl) (fun X hX hk => w_X11_restore hX hx0 hf hk)
theorem dX11_orNotSo_0 : decode cX11_orNotSo 0 = .ok (.iload_n 0, 1) := by decide +kernel
theorem dX11_orNotSo_1 : decode cX11_orNotSo 1 = .ok (.ifCond .ge 8, 3) := by decide +kernel
theorem dX11_orNotSo_4 : decode cX11_orNotSo 4 = .ok (.bipush (-2), 2) := by decide +kernel
theorem dX11_orNotSo_6 : decode cX11_orNotSo 6 = .ok (.goto 4, 3) := by decide +kernel
theorem dX11_orNotSo_9 : decode cX11_orNotSo 9 = .ok (.iload_n 0, 1) := by decide +kernel
theorem dX11_orNotSo_10 : decode cX11_orNotSo 10 = .ok (.ireturn, 1) := by decide +kernel
set_option maxHeartbeats 4000000 in
set_option maxRecDepth 100000 in
theorem w_X11_orNotSo_10 {X : CX} {T : List Dsc} {n1 n2 : Nat} {s0 : Int32} {μ : Mem} {r : (Int32 × Mem)} (hX : XR X 1 n1 n2) (hf : f_X11_orNotSo_10 T s0 μ = some r) (hk : FnI X cX11_orNotSo RX11 1 T n1 n2 r) : Wp X cX11_orNotSo RX11 1 T μ n1 n2 10 [] [.int s0] := by
  unfold f_X11_orNotSo_10 at hf
  cases hf
  exact hk _ _ dX11_orNotSo_10
set_option maxHeartbeats 4000000 in
set_option maxRecDepth 100000 in
theorem w_X11_orNotSo {X : CX} {T : List Dsc} {n1 n2 : Nat} {x0 : Int32} {μ : Mem} {r : (Int32 × Mem)} (hX : XR X 1 n1 n2) (hf : F_X11_orNotSo T x0 μ = some r) (hk : FnI X cX11_orNotSo RX11 1 T n1 n2 r) : Wp X cX11_orNotSo RX11 1 T μ n1 n2 0 [(0, .int x0)] [] := by
  unfold F_X11_orNotSo at hf
  refine Wp.iload_n (pc := 0) 0 rfl rfl dX11_orNotSo_0 ?_
  refine Wp.if_ge (pc := 1) 9 dX11_orNotSo_1 (by decide) (fun hc1 => ?_) (fun hc1 => ?_)
  · rw [if_pos hc1] at hf
    refine Wp.iload_n (pc := 9) 0 rfl rfl dX11_orNotSo_9 ?_
    refine Wp.lo' (lo' := []) [] rfl ?_
    exact w_X11_orNotSo_10 hX hf hk
  · rw [if_neg hc1] at hf
    refine Wp.bipush (pc := 4) (-2 : Int32) (by decide) dX11_orNotSo_4 ?_
    refine Wp.goto (pc := 6) 10 dX11_orNotSo_6 (by decide) ?_
    refine Wp.lo' (lo' := []) [] rfl ?_
    exact w_X11_orNotSo_10 hX hf hk
theorem c_X11_orNotSo {T : List Dsc} {x0 : Int32} {μ : Mem} {r : (Int32 × Mem)} (hf : F_X11_orNotSo T x0 μ = some r) : Ct 1 yX11_orNotSo cX11_orNotSo 1 (some .int) T μ [.int x0] (some (.int r.1)) r.2 := Ct.ofI (by decide +kernel) (Nat.le_of_ble_eq_true rfl) (fun X hX hk => w_X11_orNotSo hX hf hk)
theorem dX11_heldSlots_0 : decode cX11_heldSlots 0 = .ok (.iconst 0, 1) := by decide +kernel
theorem dX11_heldSlots_1 : decode cX11_heldSlots 1 = .ok (.istore_n 1, 1) := by decide +kernel
theorem dX11_heldSlots_2 : decode cX11_heldSlots 2 = .ok (.iconst 0, 1) := by decide +kernel
theorem dX11_heldSlots_3 : decode cX11_heldSlots 3 = .ok (.istore_n 2, 1) := by decide +kernel
theorem dX11_heldSlots_4 : decode cX11_heldSlots 4 = .ok (.iload_n 2, 1) := by decide +kernel
theorem dX11_heldSlots_5 : decode cX11_heldSlots 5 = .ok (.iconst 3, 1) := by decide +kernel
theorem dX11_heldSlots_6 : decode cX11_heldSlots 6 = .ok (.if_icmp .ge 24, 3) := by decide +kernel
theorem dX11_heldSlots_9 : decode cX11_heldSlots 9 = .ok (.aload_n 0, 1) := by decide +kernel
theorem dX11_heldSlots_10 : decode cX11_heldSlots 10 = .ok (.getfield 48, 3) := by decide +kernel
theorem dX11_heldSlots_13 : decode cX11_heldSlots 13 = .ok (.iload_n 2, 1) := by decide +kernel
theorem dX11_heldSlots_14 : decode cX11_heldSlots 14 = .ok (.aaload, 1) := by decide +kernel
theorem dX11_heldSlots_15 : decode cX11_heldSlots 15 = .ok (.getfield 114, 3) := by decide +kernel
theorem dX11_heldSlots_18 : decode cX11_heldSlots 18 = .ok (.ifCond .eq 6, 3) := by decide +kernel
theorem dX11_heldSlots_21 : decode cX11_heldSlots 21 = .ok (.iinc 1 1, 3) := by decide +kernel
theorem dX11_heldSlots_24 : decode cX11_heldSlots 24 = .ok (.iinc 2 1, 3) := by decide +kernel
theorem dX11_heldSlots_27 : decode cX11_heldSlots 27 = .ok (.goto (-23), 3) := by decide +kernel
theorem dX11_heldSlots_30 : decode cX11_heldSlots 30 = .ok (.iload_n 1, 1) := by decide +kernel
theorem dX11_heldSlots_31 : decode cX11_heldSlots 31 = .ok (.ireturn, 1) := by decide +kernel
def k_X11_heldSlots_4 (X : CX) (T : List Dsc) (n1 n2 : Nat) (x0 : Nat) (r : ((Int32 × Int32 × Mem) ⊕ ((Int32 × Mem)))) : Prop := match r with
  | .inl s => Wp X cX11_heldSlots RX11 3 T s.2.2 n1 n2 4 [(0, .ref x0), (1, .int s.1), (2, .int s.2.1)] []
  | .inr e => Wp X cX11_heldSlots RX11 3 T e.2 n1 n2 30 [(1, .int e.1)] []
set_option maxHeartbeats 4000000 in
set_option maxRecDepth 100000 in
theorem w_X11_heldSlots_24 {X : CX} {T : List Dsc} {n1 n2 : Nat} {x0 : Nat} {x1 : Int32} {x2 : Int32} {μ : Mem} {r : ((Int32 × Int32 × Mem) ⊕ ((Int32 × Mem)))} (hX : XR X 1 n1 n2) (hx0 : T[x0]? = some (.inl 10)) (hf : f_X11_heldSlots_24 T x0 x1 x2 μ = some r) (hk : k_X11_heldSlots_4 X T n1 n2 x0 r) : Wp X cX11_heldSlots RX11 3 T μ n1 n2 24 [(0, .ref x0), (1, .int x1), (2, .int x2)] [] := by
  unfold f_X11_heldSlots_24 at hf
  obtain ⟨v1, h2, hf⟩ := bnd hf
  refine Wp.iincN (pc := 24) (lo' := [(0, .ref x0), (1, .int x1), (2, .int v1)]) (1 : Int32) (by decide) h2 2 rfl [1, 2, 0] rfl (by decide) dX11_heldSlots_24 ?_
  refine Wp.goto (pc := 27) 4 dX11_heldSlots_27 (by decide) ?_
  cases hf
  exact hk
set_option maxHeartbeats 4000000 in
set_option maxRecDepth 100000 in
theorem w_X11_heldSlots_4 {X : CX} {T : List Dsc} {n1 n2 : Nat} {x0 : Nat} {x1 : Int32} {x2 : Int32} {μ : Mem} {r : ((Int32 × Int32 × Mem) ⊕ ((Int32 × Mem)))} (hX : XR X 1 n1 n2) (hx0 : T[x0]? = some (.inl 10)) (hf : f_X11_heldSlots_4 T x0 x1 x2 μ = some r) (hk : k_X11_heldSlots_4 X T n1 n2 x0 r) : Wp X cX11_heldSlots RX11 3 T μ n1 n2 4 [(0, .ref x0), (1, .int x1), (2, .int x2)] [] := by
  unfold f_X11_heldSlots_4 at hf
  refine Wp.iload_n (pc := 4) 2 rfl rfl dX11_heldSlots_4 ?_
  refine Wp.iconst (pc := 5) (3 : Int32) (by decide) dX11_heldSlots_5 ?_
  refine Wp.icmp_ge (pc := 6) 30 dX11_heldSlots_6 (by decide) (fun hc1 => ?_) (fun hc1 => ?_)
  · rw [if_pos hc1] at hf
    refine Wp.lo' (lo' := [(1, .int x1)]) [1] rfl ?_
    cases hf
    exact hk
  · rw [if_neg hc1] at hf
    refine Wp.aload_n (pc := 9) 0 rfl rfl dX11_heldSlots_9 ?_
    obtain ⟨a2, h3, hf⟩ := bnd hf
    refine Wp.getR (pc := 10) (gA_R h3) hx0 fk_RX11_48 rfl dX11_heldSlots_10 ?_
    refine Wp.iload_n (pc := 13) 2 rfl rfl dX11_heldSlots_13 ?_
    obtain ⟨v4, h5, hf⟩ := bnd hf
    refine Wp.aald (pc := 14) h5 (gA_T h3) dX11_heldSlots_14 ?_
    refine Wp.getI (pc := 15) (rO_T h5) fk_RX11_114 rfl dX11_heldSlots_15 ?_
    refine Wp.if_eq (pc := 18) 24 dX11_heldSlots_18 (by decide) (fun hc6 => ?_) (fun hc6 => ?_)
    · rw [if_pos hc6] at hf
      exact w_X11_heldSlots_24 hX hx0 hf hk
    · rw [if_neg hc6] at hf
      obtain ⟨v7, h8, hf⟩ := bnd hf
      refine Wp.iincN (pc := 21) (lo' := [(0, .ref x0), (1, .int v7), (2, .int x2)]) (1 : Int32) (by decide) h8 1 rfl [1, 0, 2] rfl (by decide) dX11_heldSlots_21 ?_
      exact w_X11_heldSlots_24 hX hx0 hf hk
theorem wl_X11_heldSlots_4 {X : CX} {T : List Dsc} {n1 n2 : Nat} {x0 : Nat} {x1 : Int32} {x2 : Int32} {μ : Mem} {e : ((Int32 × Mem))} (hX : XR X 1 n1 n2) (hx0 : T[x0]? = some (.inl 10)) (h : loop (g_X11_heldSlots_4 T x0) (x1, x2, μ) = some e) (he : Wp X cX11_heldSlots RX11 3 T e.2 n1 n2 30 [(1, .int e.1)] []) : Wp X cX11_heldSlots RX11 3 T μ n1 n2 4 [(0, .ref x0), (1, .int x1), (2, .int x2)] [] :=
  loop_ok (K := k_X11_heldSlots_4 X T n1 n2 x0) (fun s r hf hk => w_X11_heldSlots_4 hX hx0 hf hk) h he
set_option maxHeartbeats 4000000 in
set_option maxRecDepth 100000 in
theorem w_X11_heldSlots {X : CX} {T : List Dsc} {n1 n2 : Nat} {x0 : Nat} {μ : Mem} {r : (Int32 × Mem)} (hX : XR X 1 n1 n2) (hx0 : T[x0]? = some (.inl 10)) (hf : F_X11_heldSlots T x0 μ = some r) (hk : FnI X cX11_heldSlots RX11 3 T n1 n2 r) : Wp X cX11_heldSlots RX11 3 T μ n1 n2 0 [(0, .ref x0)] [] := by
  unfold F_X11_heldSlots at hf
  refine Wp.iconst (pc := 0) (0 : Int32) (by decide) dX11_heldSlots_0 ?_
  refine Wp.istore_n (pc := 1) (lo' := [(0, .ref x0), (1, .int (0 : Int32))]) [1, 0] rfl (by decide) rfl dX11_heldSlots_1 ?_
  refine Wp.iconst (pc := 2) (0 : Int32) (by decide) dX11_heldSlots_2 ?_
  refine Wp.istore_n (pc := 3) (lo' := [(0, .ref x0), (1, .int (0 : Int32)), (2, .int (0 : Int32))]) [1, 2, 0] rfl (by decide) rfl dX11_heldSlots_3 ?_
  obtain ⟨e1, h2, hf⟩ := bnd hf
  refine wl_X11_heldSlots_4 hX hx0 h2 ?_
  refine Wp.iload_n (pc := 30) 0 rfl rfl dX11_heldSlots_30 ?_
  cases hf
  exact hk _ _ dX11_heldSlots_31
theorem c_X11_heldSlots {T : List Dsc} {x0 : Nat} {μ : Mem} {r : (Int32 × Mem)} (hx0 : T[x0]? = some (.inl 10)) (hf : F_X11_heldSlots T x0 μ = some r) : Ct 1 yX11_heldSlots cX11_heldSlots 3 (some .int) T μ [.ref x0] (some (.int r.1)) r.2 := Ct.ofI (by decide +kernel) (Nat.le_of_ble_eq_true rfl) (fun X hX hk => w_X11_heldSlots hX hx0 hf hk)
theorem dX11_count_0 : decode cX11_count 0 = .ok (.iload_n 1, 1) := by decide +kernel
theorem dX11_count_1 : decode cX11_count 1 = .ok (.tableswitch 186 0 12 #[67, 75, 83, 91, 99, 110, 118, 129, 137, 142, 150, 158, 163], 67) := by decide +kernel
theorem dX11_count_68 : decode cX11_count 68 = .ok (.aload_n 0, 1) := by decide +kernel
theorem dX11_count_69 : decode cX11_count 69 = .ok (.getfield 16, 3) := by decide +kernel
theorem dX11_count_72 : decode cX11_count 72 = .ok (.getfield 206, 3) := by decide +kernel
theorem dX11_count_75 : decode cX11_count 75 = .ok (.ireturn, 1) := by decide +kernel
theorem dX11_count_76 : decode cX11_count 76 = .ok (.aload_n 0, 1) := by decide +kernel
theorem dX11_count_77 : decode cX11_count 77 = .ok (.getfield 16, 3) := by decide +kernel
theorem dX11_count_80 : decode cX11_count 80 = .ok (.getfield 204, 3) := by decide +kernel
theorem dX11_count_83 : decode cX11_count 83 = .ok (.ireturn, 1) := by decide +kernel
theorem dX11_count_84 : decode cX11_count 84 = .ok (.aload_n 0, 1) := by decide +kernel
theorem dX11_count_85 : decode cX11_count 85 = .ok (.getfield 16, 3) := by decide +kernel
theorem dX11_count_88 : decode cX11_count 88 = .ok (.getfield 153, 3) := by decide +kernel
theorem dX11_count_91 : decode cX11_count 91 = .ok (.ireturn, 1) := by decide +kernel
theorem dX11_count_92 : decode cX11_count 92 = .ok (.aload_n 0, 1) := by decide +kernel
theorem dX11_count_93 : decode cX11_count 93 = .ok (.getfield 44, 3) := by decide +kernel
theorem dX11_count_96 : decode cX11_count 96 = .ok (.getfield 143, 3) := by decide +kernel
theorem dX11_count_99 : decode cX11_count 99 = .ok (.ireturn, 1) := by decide +kernel
theorem dX11_count_100 : decode cX11_count 100 = .ok (.aload_n 0, 1) := by decide +kernel
theorem dX11_count_101 : decode cX11_count 101 = .ok (.getfield 44, 3) := by decide +kernel
theorem dX11_count_104 : decode cX11_count 104 = .ok (.getfield 140, 3) := by decide +kernel
theorem dX11_count_107 : decode cX11_count 107 = .ok (.invokestatic 284, 3) := by decide +kernel
theorem dX11_count_110 : decode cX11_count 110 = .ok (.ireturn, 1) := by decide +kernel
theorem dX11_count_111 : decode cX11_count 111 = .ok (.aload_n 0, 1) := by decide +kernel
theorem dX11_count_112 : decode cX11_count 112 = .ok (.getfield 16, 3) := by decide +kernel
theorem dX11_count_115 : decode cX11_count 115 = .ok (.getfield 287, 3) := by decide +kernel
theorem dX11_count_118 : decode cX11_count 118 = .ok (.ireturn, 1) := by decide +kernel
theorem dX11_count_119 : decode cX11_count 119 = .ok (.aload_n 0, 1) := by decide +kernel
theorem dX11_count_120 : decode cX11_count 120 = .ok (.getfield 16, 3) := by decide +kernel
theorem dX11_count_123 : decode cX11_count 123 = .ok (.getfield 290, 3) := by decide +kernel
theorem dX11_count_126 : decode cX11_count 126 = .ok (.invokestatic 284, 3) := by decide +kernel
theorem dX11_count_129 : decode cX11_count 129 = .ok (.ireturn, 1) := by decide +kernel
theorem dX11_count_130 : decode cX11_count 130 = .ok (.aload_n 0, 1) := by decide +kernel
theorem dX11_count_131 : decode cX11_count 131 = .ok (.getfield 16, 3) := by decide +kernel
theorem dX11_count_134 : decode cX11_count 134 = .ok (.getfield 293, 3) := by decide +kernel
theorem dX11_count_137 : decode cX11_count 137 = .ok (.ireturn, 1) := by decide +kernel
theorem dX11_count_138 : decode cX11_count 138 = .ok (.aload_n 0, 1) := by decide +kernel
theorem dX11_count_139 : decode cX11_count 139 = .ok (.getfield 92, 3) := by decide +kernel
theorem dX11_count_142 : decode cX11_count 142 = .ok (.ireturn, 1) := by decide +kernel
theorem dX11_count_143 : decode cX11_count 143 = .ok (.aload_n 0, 1) := by decide +kernel
theorem dX11_count_144 : decode cX11_count 144 = .ok (.getfield 55, 3) := by decide +kernel
theorem dX11_count_147 : decode cX11_count 147 = .ok (.getfield 162, 3) := by decide +kernel
theorem dX11_count_150 : decode cX11_count 150 = .ok (.ireturn, 1) := by decide +kernel
theorem dX11_count_151 : decode cX11_count 151 = .ok (.aload_n 0, 1) := by decide +kernel
theorem dX11_count_152 : decode cX11_count 152 = .ok (.getfield 85, 3) := by decide +kernel
theorem dX11_count_155 : decode cX11_count 155 = .ok (.getfield 111, 3) := by decide +kernel
theorem dX11_count_158 : decode cX11_count 158 = .ok (.ireturn, 1) := by decide +kernel
theorem dX11_count_159 : decode cX11_count 159 = .ok (.aload_n 0, 1) := by decide +kernel
theorem dX11_count_160 : decode cX11_count 160 = .ok (.invokevirtual 296, 3) := by decide +kernel
theorem dX11_count_163 : decode cX11_count 163 = .ok (.ireturn, 1) := by decide +kernel
theorem dX11_count_164 : decode cX11_count 164 = .ok (.aload_n 0, 1) := by decide +kernel
theorem dX11_count_165 : decode cX11_count 165 = .ok (.getfield 16, 3) := by decide +kernel
theorem dX11_count_168 : decode cX11_count 168 = .ok (.aload_n 0, 1) := by decide +kernel
theorem dX11_count_169 : decode cX11_count 169 = .ok (.getfield 44, 3) := by decide +kernel
theorem dX11_count_172 : decode cX11_count 172 = .ok (.getfield 143, 3) := by decide +kernel
theorem dX11_count_175 : decode cX11_count 175 = .ok (.invokevirtual 146, 3) := by decide +kernel
theorem dX11_count_178 : decode cX11_count 178 = .ok (.ifCond .eq 7, 3) := by decide +kernel
theorem dX11_count_181 : decode cX11_count 181 = .ok (.iconst 1, 1) := by decide +kernel
theorem dX11_count_182 : decode cX11_count 182 = .ok (.goto 4, 3) := by decide +kernel
theorem dX11_count_185 : decode cX11_count 185 = .ok (.iconst 0, 1) := by decide +kernel
theorem dX11_count_186 : decode cX11_count 186 = .ok (.ireturn, 1) := by decide +kernel
theorem dX11_count_187 : decode cX11_count 187 = .ok (.iconst (-1), 1) := by decide +kernel
theorem dX11_count_188 : decode cX11_count 188 = .ok (.ireturn, 1) := by decide +kernel
set_option maxHeartbeats 4000000 in
set_option maxRecDepth 100000 in
theorem w_X11_count_186 {X : CX} {T : List Dsc} {n1 n2 : Nat} {s0 : Int32} {μ : Mem} {r : (Int32 × Mem)} (hX : XR X 2 n1 n2) (hf : f_X11_count_186 T s0 μ = some r) (hk : FnI X cX11_count RX11 2 T n1 n2 r) : Wp X cX11_count RX11 2 T μ n1 n2 186 [] [.int s0] := by
  unfold f_X11_count_186 at hf
  cases hf
  exact hk _ _ dX11_count_186
set_option maxHeartbeats 4000000 in
set_option maxRecDepth 100000 in
theorem w_X11_count {X : CX} {T : List Dsc} {n1 n2 : Nat} {x0 : Nat} {x1 : Int32} {μ : Mem} {r : (Int32 × Mem)} (hX : XR X 2 n1 n2) (hx0 : T[x0]? = some (.inl 10)) (hf : F_X11_count T x0 x1 μ = some r) (hk : FnI X cX11_count RX11 2 T n1 n2 r) : Wp X cX11_count RX11 2 T μ n1 n2 0 [(0, .ref x0), (1, .int x1)] [] := by
  unfold F_X11_count at hf
  refine Wp.iload_n (pc := 0) 1 rfl rfl dX11_count_0 ?_
  by_cases hc1 : x1 = (0 : Int32)
  · rw [if_pos hc1] at hf
    refine Wp.swIn (pc := 1) 68 dX11_count_1 hc1 (by decide) (by decide) rfl (by decide) ?_
    refine Wp.aload_n (pc := 68) 0 rfl rfl dX11_count_68 ?_
    obtain ⟨r2, h3, hf⟩ := bnd hf
    refine Wp.getR (pc := 69) (gO_R h3) hx0 fk_RX11_16 rfl dX11_count_69 ?_
    refine Wp.getI (pc := 72) (gO_T h3) fk_RX11_206 rfl dX11_count_72 ?_
    cases hf
    exact hk _ _ dX11_count_75
  · rw [if_neg hc1] at hf
    by_cases hc4 : x1 = (1 : Int32)
    · rw [if_pos hc4] at hf
      refine Wp.swIn (pc := 1) 76 dX11_count_1 hc4 (by decide) (by decide) rfl (by decide) ?_
      refine Wp.aload_n (pc := 76) 0 rfl rfl dX11_count_76 ?_
      obtain ⟨r5, h6, hf⟩ := bnd hf
      refine Wp.getR (pc := 77) (gO_R h6) hx0 fk_RX11_16 rfl dX11_count_77 ?_
      refine Wp.getI (pc := 80) (gO_T h6) fk_RX11_204 rfl dX11_count_80 ?_
      cases hf
      exact hk _ _ dX11_count_83
    · rw [if_neg hc4] at hf
      by_cases hc7 : x1 = (2 : Int32)
      · rw [if_pos hc7] at hf
        refine Wp.swIn (pc := 1) 84 dX11_count_1 hc7 (by decide) (by decide) rfl (by decide) ?_
        refine Wp.aload_n (pc := 84) 0 rfl rfl dX11_count_84 ?_
        obtain ⟨r8, h9, hf⟩ := bnd hf
        refine Wp.getR (pc := 85) (gO_R h9) hx0 fk_RX11_16 rfl dX11_count_85 ?_
        refine Wp.getI (pc := 88) (gO_T h9) fk_RX11_153 rfl dX11_count_88 ?_
        cases hf
        exact hk _ _ dX11_count_91
      · rw [if_neg hc7] at hf
        by_cases hc10 : x1 = (3 : Int32)
        · rw [if_pos hc10] at hf
          refine Wp.swIn (pc := 1) 92 dX11_count_1 hc10 (by decide) (by decide) rfl (by decide) ?_
          refine Wp.aload_n (pc := 92) 0 rfl rfl dX11_count_92 ?_
          obtain ⟨r11, h12, hf⟩ := bnd hf
          refine Wp.getR (pc := 93) (gO_R h12) hx0 fk_RX11_44 rfl dX11_count_93 ?_
          refine Wp.getI (pc := 96) (gO_T h12) fk_RX11_143 rfl dX11_count_96 ?_
          cases hf
          exact hk _ _ dX11_count_99
        · rw [if_neg hc10] at hf
          by_cases hc13 : x1 = (4 : Int32)
          · rw [if_pos hc13] at hf
            refine Wp.swIn (pc := 1) 100 dX11_count_1 hc13 (by decide) (by decide) rfl (by decide) ?_
            refine Wp.aload_n (pc := 100) 0 rfl rfl dX11_count_100 ?_
            obtain ⟨r14, h15, hf⟩ := bnd hf
            refine Wp.getR (pc := 101) (gO_R h15) hx0 fk_RX11_44 rfl dX11_count_101 ?_
            refine Wp.getI (pc := 104) (gO_T h15) fk_RX11_140 rfl dX11_count_104 ?_
            obtain ⟨c16, h17, hf⟩ := bnd hf
            refine Wp.callSi (pc := 107) (st := []) (as := [.int (gI μ r14 3)]) (c_X11_orNotSo h17) ml_RX11_284 ms_X11_orNotSo mb_X11_orNotSo hX (Nat.le_of_ble_eq_true rfl) (by decide) rfl (by simp) dX11_count_107 rfl ?_
            cases hf
            exact hk _ _ dX11_count_110
          · rw [if_neg hc13] at hf
            by_cases hc18 : x1 = (5 : Int32)
            · rw [if_pos hc18] at hf
              refine Wp.swIn (pc := 1) 111 dX11_count_1 hc18 (by decide) (by decide) rfl (by decide) ?_
              refine Wp.aload_n (pc := 111) 0 rfl rfl dX11_count_111 ?_
              obtain ⟨r19, h20, hf⟩ := bnd hf
              refine Wp.getR (pc := 112) (gO_R h20) hx0 fk_RX11_16 rfl dX11_count_112 ?_
              refine Wp.getI (pc := 115) (gO_T h20) fk_RX11_287 rfl dX11_count_115 ?_
              cases hf
              exact hk _ _ dX11_count_118
            · rw [if_neg hc18] at hf
              by_cases hc21 : x1 = (6 : Int32)
              · rw [if_pos hc21] at hf
                refine Wp.swIn (pc := 1) 119 dX11_count_1 hc21 (by decide) (by decide) rfl (by decide) ?_
                refine Wp.aload_n (pc := 119) 0 rfl rfl dX11_count_119 ?_
                obtain ⟨r22, h23, hf⟩ := bnd hf
                refine Wp.getR (pc := 120) (gO_R h23) hx0 fk_RX11_16 rfl dX11_count_120 ?_
                refine Wp.getI (pc := 123) (gO_T h23) fk_RX11_290 rfl dX11_count_123 ?_
                obtain ⟨c24, h25, hf⟩ := bnd hf
                refine Wp.callSi (pc := 126) (st := []) (as := [.int (gI μ r22 10)]) (c_X11_orNotSo h25) ml_RX11_284 ms_X11_orNotSo mb_X11_orNotSo hX (Nat.le_of_ble_eq_true rfl) (by decide) rfl (by simp) dX11_count_126 rfl ?_
                cases hf
                exact hk _ _ dX11_count_129
              · rw [if_neg hc21] at hf
                by_cases hc26 : x1 = (7 : Int32)
                · rw [if_pos hc26] at hf
                  refine Wp.swIn (pc := 1) 130 dX11_count_1 hc26 (by decide) (by decide) rfl (by decide) ?_
                  refine Wp.aload_n (pc := 130) 0 rfl rfl dX11_count_130 ?_
                  obtain ⟨r27, h28, hf⟩ := bnd hf
                  refine Wp.getR (pc := 131) (gO_R h28) hx0 fk_RX11_16 rfl dX11_count_131 ?_
                  refine Wp.getI (pc := 134) (gO_T h28) fk_RX11_293 rfl dX11_count_134 ?_
                  cases hf
                  exact hk _ _ dX11_count_137
                · rw [if_neg hc26] at hf
                  by_cases hc29 : x1 = (8 : Int32)
                  · rw [if_pos hc29] at hf
                    refine Wp.swIn (pc := 1) 138 dX11_count_1 hc29 (by decide) (by decide) rfl (by decide) ?_
                    refine Wp.aload_n (pc := 138) 0 rfl rfl dX11_count_138 ?_
                    refine Wp.getI (pc := 139) hx0 fk_RX11_92 rfl dX11_count_139 ?_
                    cases hf
                    exact hk _ _ dX11_count_142
                  · rw [if_neg hc29] at hf
                    by_cases hc30 : x1 = (9 : Int32)
                    · rw [if_pos hc30] at hf
                      refine Wp.swIn (pc := 1) 143 dX11_count_1 hc30 (by decide) (by decide) rfl (by decide) ?_
                      refine Wp.aload_n (pc := 143) 0 rfl rfl dX11_count_143 ?_
                      obtain ⟨r31, h32, hf⟩ := bnd hf
                      refine Wp.getR (pc := 144) (gO_R h32) hx0 fk_RX11_55 rfl dX11_count_144 ?_
                      refine Wp.getI (pc := 147) (gO_T h32) fk_RX11_162 rfl dX11_count_147 ?_
                      cases hf
                      exact hk _ _ dX11_count_150
                    · rw [if_neg hc30] at hf
                      by_cases hc33 : x1 = (10 : Int32)
                      · rw [if_pos hc33] at hf
                        refine Wp.swIn (pc := 1) 151 dX11_count_1 hc33 (by decide) (by decide) rfl (by decide) ?_
                        refine Wp.aload_n (pc := 151) 0 rfl rfl dX11_count_151 ?_
                        obtain ⟨r34, h35, hf⟩ := bnd hf
                        refine Wp.getR (pc := 152) (gO_R h35) hx0 fk_RX11_85 rfl dX11_count_152 ?_
                        refine Wp.getI (pc := 155) (gO_T h35) fk_RX11_111 rfl dX11_count_155 ?_
                        cases hf
                        exact hk _ _ dX11_count_158
                      · rw [if_neg hc33] at hf
                        by_cases hc36 : x1 = (11 : Int32)
                        · rw [if_pos hc36] at hf
                          refine Wp.swIn (pc := 1) 159 dX11_count_1 hc36 (by decide) (by decide) rfl (by decide) ?_
                          refine Wp.aload_n (pc := 159) 0 rfl rfl dX11_count_159 ?_
                          obtain ⟨c37, h38, hf⟩ := bnd hf
                          refine Wp.callVi (pc := 160) (st := []) (as := []) (c_X11_heldSlots hx0 h38) ml_RX11_296 mv_X11_heldSlots mb_X11_heldSlots hX (Nat.le_of_ble_eq_true rfl) (by decide) rfl hx0 rfl (by simp) dX11_count_160 rfl ?_
                          cases hf
                          exact hk _ _ dX11_count_163
                        · rw [if_neg hc36] at hf
                          by_cases hc39 : x1 = (12 : Int32)
                          · rw [if_pos hc39] at hf
                            refine Wp.swIn (pc := 1) 164 dX11_count_1 hc39 (by decide) (by decide) rfl (by decide) ?_
                            refine Wp.aload_n (pc := 164) 0 rfl rfl dX11_count_164 ?_
                            obtain ⟨r40, h41, hf⟩ := bnd hf
                            refine Wp.getR (pc := 165) (gO_R h41) hx0 fk_RX11_16 rfl dX11_count_165 ?_
                            refine Wp.aload_n (pc := 168) 0 rfl rfl dX11_count_168 ?_
                            obtain ⟨r42, h43, hf⟩ := bnd hf
                            refine Wp.getR (pc := 169) (gO_R h43) hx0 fk_RX11_44 rfl dX11_count_169 ?_
                            refine Wp.getI (pc := 172) (gO_T h43) fk_RX11_143 rfl dX11_count_172 ?_
                            obtain ⟨c44, h45, hf⟩ := bnd hf
                            refine Wp.callVi (pc := 175) (st := []) (as := [.int (gI μ r42 4)]) (c_X7_isFog (gO_T h41) h45) ml_RX11_146 mv_X7_isFog mb_X7_isFog hX (Nat.le_of_ble_eq_true rfl) (by decide) rfl (gO_T h41) rfl (by simp) dX11_count_175 rfl ?_
                            refine Wp.if_eq (pc := 178) 185 dX11_count_178 (by decide) (fun hc46 => ?_) (fun hc46 => ?_)
                            · rw [if_pos hc46] at hf
                              refine Wp.iconst (pc := 185) (0 : Int32) (by decide) dX11_count_185 ?_
                              refine Wp.lo' (lo' := []) [] rfl ?_
                              exact w_X11_count_186 hX hf hk
                            · rw [if_neg hc46] at hf
                              refine Wp.iconst (pc := 181) (1 : Int32) (by decide) dX11_count_181 ?_
                              refine Wp.goto (pc := 182) 186 dX11_count_182 (by decide) ?_
                              refine Wp.lo' (lo' := []) [] rfl ?_
                              exact w_X11_count_186 hX hf hk
                          · rw [if_neg hc39] at hf
                            refine Wp.swOut (pc := 1) 187 dX11_count_1 (swx (fun k h1 h2 => ?_)) (by decide) ?_
                            · have z0 := lv_neT hc1 (a := 0) (by decide); have z1 := lv_neT hc4 (a := 1) (by decide); have z2 := lv_neT hc7 (a := 2) (by decide); have z3 := lv_neT hc10 (a := 3) (by decide); have z4 := lv_neT hc13 (a := 4) (by decide); have z5 := lv_neT hc18 (a := 5) (by decide); have z6 := lv_neT hc21 (a := 6) (by decide); have z7 := lv_neT hc26 (a := 7) (by decide); have z8 := lv_neT hc29 (a := 8) (by decide); have z9 := lv_neT hc30 (a := 9) (by decide); have z10 := lv_neT hc33 (a := 10) (by decide); have z11 := lv_neT hc36 (a := 11) (by decide); have z12 := lv_neT hc39 (a := 12) (by decide); omega
                            · skip
                              refine Wp.iconst (pc := 187) (-1 : Int32) (by decide) dX11_count_187 ?_
                              cases hf
                              exact hk _ _ dX11_count_188
theorem c_X11_count {T : List Dsc} {x0 : Nat} {x1 : Int32} {μ : Mem} {r : (Int32 × Mem)} (hx0 : T[x0]? = some (.inl 10)) (hf : F_X11_count T x0 x1 μ = some r) : Ct 2 yX11_count cX11_count 2 (some .int) T μ [.ref x0, .int x1] (some (.int r.1)) r.2 := Ct.ofI (by decide +kernel) (Nat.le_of_ble_eq_true rfl) (fun X hX hk => w_X11_count hX hx0 hf hk)
theorem dX12_put_0 : decode cX12_put 0 = .ok (.bipush 24, 2) := by decide +kernel
theorem dX12_put_2 : decode cX12_put 2 = .ok (.istore_n 2, 1) := by decide +kernel
theorem dX12_put_3 : decode cX12_put 3 = .ok (.iload_n 2, 1) := by decide +kernel
theorem dX12_put_4 : decode cX12_put 4 = .ok (.ifCond .lt 32, 3) := by decide +kernel
theorem dX12_put_7 : decode cX12_put 7 = .ok (.aload_n 0, 1) := by decide +kernel
theorem dX12_put_8 : decode cX12_put 8 = .ok (.getfield 13, 3) := by decide +kernel
theorem dX12_put_11 : decode cX12_put 11 = .ok (.aload_n 0, 1) := by decide +kernel
theorem dX12_put_12 : decode cX12_put 12 = .ok (.getfield 216, 3) := by decide +kernel
theorem dX12_put_15 : decode cX12_put 15 = .ok (.iload_n 1, 1) := by decide +kernel
theorem dX12_put_16 : decode cX12_put 16 = .ok (.iload_n 2, 1) := by decide +kernel
theorem dX12_put_17 : decode cX12_put 17 = .ok (.ishr, 1) := by decide +kernel
theorem dX12_put_18 : decode cX12_put 18 = .ok (.i2b, 1) := by decide +kernel
theorem dX12_put_19 : decode cX12_put 19 = .ok (.bastore, 1) := by decide +kernel
theorem dX12_put_20 : decode cX12_put 20 = .ok (.aload_n 0, 1) := by decide +kernel
theorem dX12_put_21 : decode cX12_put 21 = .ok (.dup, 1) := by decide +kernel
theorem dX12_put_22 : decode cX12_put 22 = .ok (.getfield 216, 3) := by decide +kernel
theorem dX12_put_25 : decode cX12_put 25 = .ok (.iconst 1, 1) := by decide +kernel
theorem dX12_put_26 : decode cX12_put 26 = .ok (.iadd, 1) := by decide +kernel
theorem dX12_put_27 : decode cX12_put 27 = .ok (.putfield 216, 3) := by decide +kernel
theorem dX12_put_30 : decode cX12_put 30 = .ok (.iinc 2 (-8), 3) := by decide +kernel
theorem dX12_put_33 : decode cX12_put 33 = .ok (.goto (-30), 3) := by decide +kernel
theorem dX12_put_36 : decode cX12_put 36 = .ok (.return_, 1) := by decide +kernel
def k_X12_put_3 (X : CX) (T : List Dsc) (n1 n2 : Nat) (x0 : Nat) (x1 : Int32) (r : ((Int32 × Mem) ⊕ ((Mem)))) : Prop := match r with
  | .inl s => Wp X cX12_put RX12 3 T s.2 n1 n2 3 [(0, .ref x0), (1, .int x1), (2, .int s.1)] []
  | .inr e => Wp X cX12_put RX12 3 T e n1 n2 36 [] []
set_option maxHeartbeats 4000000 in
set_option maxRecDepth 100000 in
theorem w_X12_put_3 {X : CX} {T : List Dsc} {n1 n2 : Nat} {x0 : Nat} {x1 : Int32} {x2 : Int32} {μ : Mem} {r : ((Int32 × Mem) ⊕ ((Mem)))} (hX : XR X 1 n1 n2) (hx0 : T[x0]? = some (.inl 11)) (hf : f_X12_put_3 T x0 x1 x2 μ = some r) (hk : k_X12_put_3 X T n1 n2 x0 x1 r) : Wp X cX12_put RX12 3 T μ n1 n2 3 [(0, .ref x0), (1, .int x1), (2, .int x2)] [] := by
  unfold f_X12_put_3 at hf
  refine Wp.iload_n (pc := 3) 2 rfl rfl dX12_put_3 ?_
  refine Wp.if_lt (pc := 4) 36 dX12_put_4 (by decide) (fun hc1 => ?_) (fun hc1 => ?_)
  · rw [if_pos hc1] at hf
    refine Wp.lo' (lo' := []) [] rfl ?_
    cases hf
    exact hk
  · rw [if_neg hc1] at hf
    refine Wp.aload_n (pc := 7) 0 rfl rfl dX12_put_7 ?_
    obtain ⟨a2, h3, hf⟩ := bnd hf
    refine Wp.getR (pc := 8) (gA_R h3) hx0 fk_RX12_13 rfl dX12_put_8 ?_
    refine Wp.aload_n (pc := 11) 0 rfl rfl dX12_put_11 ?_
    refine Wp.getI (pc := 12) hx0 fk_RX12_216 rfl dX12_put_12 ?_
    refine Wp.iload_n (pc := 15) 1 rfl rfl dX12_put_15 ?_
    refine Wp.iload_n (pc := 16) 2 rfl rfl dX12_put_16 ?_
    refine Wp.ishr (pc := 17) dX12_put_17 ?_
    refine Wp.i2b (pc := 18) dX12_put_18 ?_
    obtain ⟨μ4, h5, hf⟩ := bnd hf
    refine Wp.bast (pc := 19) h5 (gA_T h3) dX12_put_19 ?_
    refine Wp.aload_n (pc := 20) 0 rfl rfl dX12_put_20 ?_
    refine Wp.dup (pc := 21) rfl dX12_put_21 ?_
    refine Wp.getI (pc := 22) hx0 fk_RX12_216 rfl dX12_put_22 ?_
    refine Wp.iconst (pc := 25) (1 : Int32) (by decide) dX12_put_25 ?_
    refine Wp.iadd (pc := 26) dX12_put_26 ?_
    obtain ⟨μ6, h7, hf⟩ := bnd hf
    refine Wp.ptI (pc := 27) h7 hx0 fk_RX12_216 ff_RX12_11_2 rfl dX12_put_27 ?_
    obtain ⟨v8, h9, hf⟩ := bnd hf
    refine Wp.iincN (pc := 30) (lo' := [(0, .ref x0), (1, .int x1), (2, .int v8)]) (-8 : Int32) (by decide) h9 2 rfl [1, 2, 0] rfl (by decide) dX12_put_30 ?_
    refine Wp.goto (pc := 33) 3 dX12_put_33 (by decide) ?_
    cases hf
    exact hk
theorem wl_X12_put_3 {X : CX} {T : List Dsc} {n1 n2 : Nat} {x0 : Nat} {x1 : Int32} {x2 : Int32} {μ : Mem} {e : ((Mem))} (hX : XR X 1 n1 n2) (hx0 : T[x0]? = some (.inl 11)) (h : loop (g_X12_put_3 T x0 x1) (x2, μ) = some e) (he : Wp X cX12_put RX12 3 T e n1 n2 36 [] []) : Wp X cX12_put RX12 3 T μ n1 n2 3 [(0, .ref x0), (1, .int x1), (2, .int x2)] [] :=
  loop_ok (K := k_X12_put_3 X T n1 n2 x0 x1) (fun s r hf hk => w_X12_put_3 hX hx0 hf hk) h he
set_option maxHeartbeats 4000000 in
set_option maxRecDepth 100000 in
theorem w_X12_put {X : CX} {T : List Dsc} {n1 n2 : Nat} {x0 : Nat} {x1 : Int32} {μ : Mem} {r : Mem} (hX : XR X 1 n1 n2) (hx0 : T[x0]? = some (.inl 11)) (hf : F_X12_put T x0 x1 μ = some r) (hk : FnV X cX12_put RX12 3 T n1 n2 r) : Wp X cX12_put RX12 3 T μ n1 n2 0 [(0, .ref x0), (1, .int x1)] [] := by
  unfold F_X12_put at hf
  refine Wp.bipush (pc := 0) (24 : Int32) (by decide) dX12_put_0 ?_
  refine Wp.istore_n (pc := 2) (lo' := [(0, .ref x0), (1, .int x1), (2, .int (24 : Int32))]) [1, 2, 0] rfl (by decide) rfl dX12_put_2 ?_
  obtain ⟨e1, h2, hf⟩ := bnd hf
  refine wl_X12_put_3 hX hx0 h2 ?_
  cases hf
  exact hk _ _ dX12_put_36
theorem c_X12_put {T : List Dsc} {x0 : Nat} {x1 : Int32} {μ : Mem} {r : Mem} (hx0 : T[x0]? = some (.inl 11)) (hf : F_X12_put T x0 x1 μ = some r) : Ct 1 yX12_put cX12_put 3 none T μ [.ref x0, .int x1] none r := Ct.ofV (by decide +kernel) (Nat.le_of_ble_eq_true rfl) (fun X hX hk => w_X12_put hX hx0 hf hk)
theorem dX12_feed_0 : decode cX12_feed 0 = .ok (.aload_n 0, 1) := by decide +kernel
theorem dX12_feed_1 : decode cX12_feed 1 = .ok (.getfield 216, 3) := by decide +kernel
theorem dX12_feed_4 : decode cX12_feed 4 = .ok (.bipush 20, 2) := by decide +kernel
theorem dX12_feed_6 : decode cX12_feed 6 = .ok (.iadd, 1) := by decide +kernel
theorem dX12_feed_7 : decode cX12_feed 7 = .ok (.sipush 2000, 3) := by decide +kernel
theorem dX12_feed_10 : decode cX12_feed 10 = .ok (.if_icmp .le 5, 3) := by decide +kernel
theorem dX12_feed_13 : decode cX12_feed 13 = .ok (.iconst (-1), 1) := by decide +kernel
theorem dX12_feed_14 : decode cX12_feed 14 = .ok (.ireturn, 1) := by decide +kernel
theorem dX12_feed_15 : decode cX12_feed 15 = .ok (.aload_n 0, 1) := by decide +kernel
theorem dX12_feed_16 : decode cX12_feed 16 = .ok (.iload_n 1, 1) := by decide +kernel
theorem dX12_feed_17 : decode cX12_feed 17 = .ok (.invokevirtual 219, 3) := by decide +kernel
theorem dX12_feed_20 : decode cX12_feed 20 = .ok (.aload_n 0, 1) := by decide +kernel
theorem dX12_feed_21 : decode cX12_feed 21 = .ok (.iload_n 2, 1) := by decide +kernel
theorem dX12_feed_22 : decode cX12_feed 22 = .ok (.invokevirtual 219, 3) := by decide +kernel
theorem dX12_feed_25 : decode cX12_feed 25 = .ok (.aload_n 0, 1) := by decide +kernel
theorem dX12_feed_26 : decode cX12_feed 26 = .ok (.iload_n 3, 1) := by decide +kernel
theorem dX12_feed_27 : decode cX12_feed 27 = .ok (.invokevirtual 219, 3) := by decide +kernel
theorem dX12_feed_30 : decode cX12_feed 30 = .ok (.aload_n 0, 1) := by decide +kernel
theorem dX12_feed_31 : decode cX12_feed 31 = .ok (.iload 4, 2) := by decide +kernel
theorem dX12_feed_33 : decode cX12_feed 33 = .ok (.invokevirtual 219, 3) := by decide +kernel
theorem dX12_feed_36 : decode cX12_feed 36 = .ok (.aload_n 0, 1) := by decide +kernel
theorem dX12_feed_37 : decode cX12_feed 37 = .ok (.iload 5, 2) := by decide +kernel
theorem dX12_feed_39 : decode cX12_feed 39 = .ok (.invokevirtual 219, 3) := by decide +kernel
theorem dX12_feed_42 : decode cX12_feed 42 = .ok (.aload_n 0, 1) := by decide +kernel
theorem dX12_feed_43 : decode cX12_feed 43 = .ok (.getfield 216, 3) := by decide +kernel
theorem dX12_feed_46 : decode cX12_feed 46 = .ok (.ireturn, 1) := by decide +kernel
set_option maxHeartbeats 4000000 in
set_option maxRecDepth 100000 in
theorem w_X12_feed {X : CX} {T : List Dsc} {n1 n2 : Nat} {x0 : Nat} {x1 : Int32} {x2 : Int32} {x3 : Int32} {x4 : Int32} {x5 : Int32} {μ : Mem} {r : (Int32 × Mem)} (hX : XR X 2 n1 n2) (hx0 : T[x0]? = some (.inl 11)) (hf : F_X12_feed T x0 x1 x2 x3 x4 x5 μ = some r) (hk : FnI X cX12_feed RX12 6 T n1 n2 r) : Wp X cX12_feed RX12 6 T μ n1 n2 0 [(0, .ref x0), (1, .int x1), (2, .int x2), (3, .int x3), (4, .int x4), (5, .int x5)] [] := by
  unfold F_X12_feed at hf
  refine Wp.aload_n (pc := 0) 0 rfl rfl dX12_feed_0 ?_
  refine Wp.getI (pc := 1) hx0 fk_RX12_216 rfl dX12_feed_1 ?_
  refine Wp.bipush (pc := 4) (20 : Int32) (by decide) dX12_feed_4 ?_
  refine Wp.iadd (pc := 6) dX12_feed_6 ?_
  refine Wp.sipush (pc := 7) (2000 : Int32) (by decide) dX12_feed_7 ?_
  refine Wp.icmp_le (pc := 10) 15 dX12_feed_10 (by decide) (fun hc1 => ?_) (fun hc1 => ?_)
  · rw [if_pos hc1] at hf
    refine Wp.aload_n (pc := 15) 0 rfl rfl dX12_feed_15 ?_
    refine Wp.iload_n (pc := 16) 1 rfl rfl dX12_feed_16 ?_
    obtain ⟨c2, h3, hf⟩ := bnd hf
    refine Wp.callVv (pc := 17) (st := []) (as := [.int x1]) (c_X12_put hx0 h3) ml_RX12_219 mv_X12_put mb_X12_put hX (Nat.le_of_ble_eq_true rfl) (by decide) rfl hx0 rfl (by simp) dX12_feed_17 rfl ?_
    refine Wp.aload_n (pc := 20) 0 rfl rfl dX12_feed_20 ?_
    refine Wp.iload_n (pc := 21) 2 rfl rfl dX12_feed_21 ?_
    obtain ⟨c4, h5, hf⟩ := bnd hf
    refine Wp.callVv (pc := 22) (st := []) (as := [.int x2]) (c_X12_put hx0 h5) ml_RX12_219 mv_X12_put mb_X12_put hX (Nat.le_of_ble_eq_true rfl) (by decide) rfl hx0 rfl (by simp) dX12_feed_22 rfl ?_
    refine Wp.aload_n (pc := 25) 0 rfl rfl dX12_feed_25 ?_
    refine Wp.iload_n (pc := 26) 3 rfl rfl dX12_feed_26 ?_
    obtain ⟨c6, h7, hf⟩ := bnd hf
    refine Wp.callVv (pc := 27) (st := []) (as := [.int x3]) (c_X12_put hx0 h7) ml_RX12_219 mv_X12_put mb_X12_put hX (Nat.le_of_ble_eq_true rfl) (by decide) rfl hx0 rfl (by simp) dX12_feed_27 rfl ?_
    refine Wp.aload_n (pc := 30) 0 rfl rfl dX12_feed_30 ?_
    refine Wp.iload (pc := 31) 4 rfl dX12_feed_31 ?_
    obtain ⟨c8, h9, hf⟩ := bnd hf
    refine Wp.callVv (pc := 33) (st := []) (as := [.int x4]) (c_X12_put hx0 h9) ml_RX12_219 mv_X12_put mb_X12_put hX (Nat.le_of_ble_eq_true rfl) (by decide) rfl hx0 rfl (by simp) dX12_feed_33 rfl ?_
    refine Wp.aload_n (pc := 36) 0 rfl rfl dX12_feed_36 ?_
    refine Wp.iload (pc := 37) 5 rfl dX12_feed_37 ?_
    obtain ⟨c10, h11, hf⟩ := bnd hf
    refine Wp.callVv (pc := 39) (st := []) (as := [.int x5]) (c_X12_put hx0 h11) ml_RX12_219 mv_X12_put mb_X12_put hX (Nat.le_of_ble_eq_true rfl) (by decide) rfl hx0 rfl (by simp) dX12_feed_39 rfl ?_
    refine Wp.aload_n (pc := 42) 0 rfl rfl dX12_feed_42 ?_
    refine Wp.getI (pc := 43) hx0 fk_RX12_216 rfl dX12_feed_43 ?_
    cases hf
    exact hk _ _ dX12_feed_46
  · rw [if_neg hc1] at hf
    refine Wp.iconst (pc := 13) (-1 : Int32) (by decide) dX12_feed_13 ?_
    cases hf
    exact hk _ _ dX12_feed_14
theorem c_X12_feed {T : List Dsc} {x0 : Nat} {x1 : Int32} {x2 : Int32} {x3 : Int32} {x4 : Int32} {x5 : Int32} {μ : Mem} {r : (Int32 × Mem)} (hx0 : T[x0]? = some (.inl 11)) (hf : F_X12_feed T x0 x1 x2 x3 x4 x5 μ = some r) : Ct 2 yX12_feed cX12_feed 6 (some .int) T μ [.ref x0, .int x1, .int x2, .int x3, .int x4, .int x5] (some (.int r.1)) r.2 := Ct.ofI (by decide +kernel) (Nat.le_of_ble_eq_true rfl) (fun X hX hk => w_X12_feed hX hx0 hf hk)
theorem dX12_back_0 : decode cX12_back 0 = .ok (.iload_n 1, 1) := by decide +kernel
theorem dX12_back_1 : decode cX12_back 1 = .ok (.ifCond .lt 11, 3) := by decide +kernel
theorem dX12_back_4 : decode cX12_back 4 = .ok (.iload_n 1, 1) := by decide +kernel
theorem dX12_back_5 : decode cX12_back 5 = .ok (.aload_n 0, 1) := by decide +kernel
theorem dX12_back_6 : decode cX12_back 6 = .ok (.getfield 216, 3) := by decide +kernel
theorem dX12_back_9 : decode cX12_back 9 = .ok (.if_icmp .le 5, 3) := by decide +kernel
theorem dX12_back_12 : decode cX12_back 12 = .ok (.iconst (-1), 1) := by decide +kernel
theorem dX12_back_13 : decode cX12_back 13 = .ok (.ireturn, 1) := by decide +kernel
theorem dX12_back_14 : decode cX12_back 14 = .ok (.aload_n 0, 1) := by decide +kernel
theorem dX12_back_15 : decode cX12_back 15 = .ok (.dup, 1) := by decide +kernel
theorem dX12_back_16 : decode cX12_back 16 = .ok (.getfield 216, 3) := by decide +kernel
theorem dX12_back_19 : decode cX12_back 19 = .ok (.iload_n 1, 1) := by decide +kernel
theorem dX12_back_20 : decode cX12_back 20 = .ok (.isub, 1) := by decide +kernel
theorem dX12_back_21 : decode cX12_back 21 = .ok (.putfield 216, 3) := by decide +kernel
theorem dX12_back_24 : decode cX12_back 24 = .ok (.aload_n 0, 1) := by decide +kernel
theorem dX12_back_25 : decode cX12_back 25 = .ok (.getfield 216, 3) := by decide +kernel
theorem dX12_back_28 : decode cX12_back 28 = .ok (.ireturn, 1) := by decide +kernel
set_option maxHeartbeats 4000000 in
set_option maxRecDepth 100000 in
theorem w_X12_back_12 {X : CX} {T : List Dsc} {n1 n2 : Nat} {μ : Mem} {r : (Int32 × Mem)} (hX : XR X 1 n1 n2) (hf : f_X12_back_12 T μ = some r) (hk : FnI X cX12_back RX12 2 T n1 n2 r) : Wp X cX12_back RX12 2 T μ n1 n2 12 [] [] := by
  unfold f_X12_back_12 at hf
  refine Wp.iconst (pc := 12) (-1 : Int32) (by decide) dX12_back_12 ?_
  cases hf
  exact hk _ _ dX12_back_13
set_option maxHeartbeats 4000000 in
set_option maxRecDepth 100000 in
theorem w_X12_back {X : CX} {T : List Dsc} {n1 n2 : Nat} {x0 : Nat} {x1 : Int32} {μ : Mem} {r : (Int32 × Mem)} (hX : XR X 1 n1 n2) (hx0 : T[x0]? = some (.inl 11)) (hf : F_X12_back T x0 x1 μ = some r) (hk : FnI X cX12_back RX12 2 T n1 n2 r) : Wp X cX12_back RX12 2 T μ n1 n2 0 [(0, .ref x0), (1, .int x1)] [] := by
  unfold F_X12_back at hf
  refine Wp.iload_n (pc := 0) 1 rfl rfl dX12_back_0 ?_
  refine Wp.if_lt (pc := 1) 12 dX12_back_1 (by decide) (fun hc1 => ?_) (fun hc1 => ?_)
  · rw [if_pos hc1] at hf
    refine Wp.lo' (lo' := []) [] rfl ?_
    exact w_X12_back_12 hX hf hk
  · rw [if_neg hc1] at hf
    refine Wp.iload_n (pc := 4) 1 rfl rfl dX12_back_4 ?_
    refine Wp.aload_n (pc := 5) 0 rfl rfl dX12_back_5 ?_
    refine Wp.getI (pc := 6) hx0 fk_RX12_216 rfl dX12_back_6 ?_
    refine Wp.icmp_le (pc := 9) 14 dX12_back_9 (by decide) (fun hc2 => ?_) (fun hc2 => ?_)
    · rw [if_pos hc2] at hf
      refine Wp.aload_n (pc := 14) 0 rfl rfl dX12_back_14 ?_
      refine Wp.dup (pc := 15) rfl dX12_back_15 ?_
      refine Wp.getI (pc := 16) hx0 fk_RX12_216 rfl dX12_back_16 ?_
      refine Wp.iload_n (pc := 19) 1 rfl rfl dX12_back_19 ?_
      refine Wp.isub (pc := 20) dX12_back_20 ?_
      obtain ⟨μ3, h4, hf⟩ := bnd hf
      refine Wp.ptI (pc := 21) h4 hx0 fk_RX12_216 ff_RX12_11_2 rfl dX12_back_21 ?_
      refine Wp.aload_n (pc := 24) 0 rfl rfl dX12_back_24 ?_
      refine Wp.getI (pc := 25) hx0 fk_RX12_216 rfl dX12_back_25 ?_
      cases hf
      exact hk _ _ dX12_back_28
    · rw [if_neg hc2] at hf
      refine Wp.lo' (lo' := []) [] rfl ?_
      exact w_X12_back_12 hX hf hk
theorem c_X12_back {T : List Dsc} {x0 : Nat} {x1 : Int32} {μ : Mem} {r : (Int32 × Mem)} (hx0 : T[x0]? = some (.inl 11)) (hf : F_X12_back T x0 x1 μ = some r) : Ct 1 yX12_back cX12_back 2 (some .int) T μ [.ref x0, .int x1] (some (.int r.1)) r.2 := Ct.ofI (by decide +kernel) (Nat.le_of_ble_eq_true rfl) (fun X hX hk => w_X12_back hX hx0 hf hk)
theorem dX12_byteAt_0 : decode cX12_byteAt 0 = .ok (.iload_n 1, 1) := by decide +kernel
theorem dX12_byteAt_1 : decode cX12_byteAt 1 = .ok (.aload_n 0, 1) := by decide +kernel
theorem dX12_byteAt_2 : decode cX12_byteAt 2 = .ok (.getfield 223, 3) := by decide +kernel
theorem dX12_byteAt_5 : decode cX12_byteAt 5 = .ok (.if_icmp .ge 16, 3) := by decide +kernel
theorem dX12_byteAt_8 : decode cX12_byteAt 8 = .ok (.aload_n 0, 1) := by decide +kernel
theorem dX12_byteAt_9 : decode cX12_byteAt 9 = .ok (.getfield 17, 3) := by decide +kernel
theorem dX12_byteAt_12 : decode cX12_byteAt 12 = .ok (.iload_n 1, 1) := by decide +kernel
theorem dX12_byteAt_13 : decode cX12_byteAt 13 = .ok (.baload, 1) := by decide +kernel
theorem dX12_byteAt_14 : decode cX12_byteAt 14 = .ok (.sipush 255, 3) := by decide +kernel
theorem dX12_byteAt_17 : decode cX12_byteAt 17 = .ok (.iand, 1) := by decide +kernel
theorem dX12_byteAt_18 : decode cX12_byteAt 18 = .ok (.goto 4, 3) := by decide +kernel
theorem dX12_byteAt_21 : decode cX12_byteAt 21 = .ok (.iconst 0, 1) := by decide +kernel
theorem dX12_byteAt_22 : decode cX12_byteAt 22 = .ok (.ireturn, 1) := by decide +kernel
set_option maxHeartbeats 4000000 in
set_option maxRecDepth 100000 in
theorem w_X12_byteAt_22 {X : CX} {T : List Dsc} {n1 n2 : Nat} {s0 : Int32} {μ : Mem} {r : (Int32 × Mem)} (hX : XR X 1 n1 n2) (hf : f_X12_byteAt_22 T s0 μ = some r) (hk : FnI X cX12_byteAt RX12 2 T n1 n2 r) : Wp X cX12_byteAt RX12 2 T μ n1 n2 22 [] [.int s0] := by
  unfold f_X12_byteAt_22 at hf
  cases hf
  exact hk _ _ dX12_byteAt_22
set_option maxHeartbeats 4000000 in
set_option maxRecDepth 100000 in
theorem w_X12_byteAt {X : CX} {T : List Dsc} {n1 n2 : Nat} {x0 : Nat} {x1 : Int32} {μ : Mem} {r : (Int32 × Mem)} (hX : XR X 1 n1 n2) (hx0 : T[x0]? = some (.inl 11)) (hf : F_X12_byteAt T x0 x1 μ = some r) (hk : FnI X cX12_byteAt RX12 2 T n1 n2 r) : Wp X cX12_byteAt RX12 2 T μ n1 n2 0 [(0, .ref x0), (1, .int x1)] [] := by
  unfold F_X12_byteAt at hf
  refine Wp.iload_n (pc := 0) 1 rfl rfl dX12_byteAt_0 ?_
  refine Wp.aload_n (pc := 1) 0 rfl rfl dX12_byteAt_1 ?_
  refine Wp.getI (pc := 2) hx0 fk_RX12_223 rfl dX12_byteAt_2 ?_
  refine Wp.icmp_ge (pc := 5) 21 dX12_byteAt_5 (by decide) (fun hc1 => ?_) (fun hc1 => ?_)
  · rw [if_pos hc1] at hf
    refine Wp.iconst (pc := 21) (0 : Int32) (by decide) dX12_byteAt_21 ?_
    refine Wp.lo' (lo' := []) [] rfl ?_
    exact w_X12_byteAt_22 hX hf hk
  · rw [if_neg hc1] at hf
    refine Wp.aload_n (pc := 8) 0 rfl rfl dX12_byteAt_8 ?_
    obtain ⟨a2, h3, hf⟩ := bnd hf
    refine Wp.getR (pc := 9) (gA_R h3) hx0 fk_RX12_17 rfl dX12_byteAt_9 ?_
    refine Wp.iload_n (pc := 12) 1 rfl rfl dX12_byteAt_12 ?_
    obtain ⟨v4, h5, hf⟩ := bnd hf
    refine Wp.bald (pc := 13) h5 (gA_T h3) dX12_byteAt_13 ?_
    refine Wp.sipush (pc := 14) (255 : Int32) (by decide) dX12_byteAt_14 ?_
    refine Wp.iand (pc := 17) dX12_byteAt_17 ?_
    refine Wp.goto (pc := 18) 22 dX12_byteAt_18 (by decide) ?_
    refine Wp.lo' (lo' := []) [] rfl ?_
    exact w_X12_byteAt_22 hX hf hk
theorem c_X12_byteAt {T : List Dsc} {x0 : Nat} {x1 : Int32} {μ : Mem} {r : (Int32 × Mem)} (hx0 : T[x0]? = some (.inl 11)) (hf : F_X12_byteAt T x0 x1 μ = some r) : Ct 1 yX12_byteAt cX12_byteAt 2 (some .int) T μ [.ref x0, .int x1] (some (.int r.1)) r.2 := Ct.ofI (by decide +kernel) (Nat.le_of_ble_eq_true rfl) (fun X hX hk => w_X12_byteAt hX hx0 hf hk)
theorem dX12_isDigit_0 : decode cX12_isDigit 0 = .ok (.iload_n 0, 1) := by decide +kernel
theorem dX12_isDigit_1 : decode cX12_isDigit 1 = .ok (.bipush 48, 2) := by decide +kernel
theorem dX12_isDigit_3 : decode cX12_isDigit 3 = .ok (.if_icmp .lt 13, 3) := by decide +kernel
theorem dX12_isDigit_6 : decode cX12_isDigit 6 = .ok (.iload_n 0, 1) := by decide +kernel
theorem dX12_isDigit_7 : decode cX12_isDigit 7 = .ok (.bipush 57, 2) := by decide +kernel
theorem dX12_isDigit_9 : decode cX12_isDigit 9 = .ok (.if_icmp .gt 7, 3) := by decide +kernel
theorem dX12_isDigit_12 : decode cX12_isDigit 12 = .ok (.iconst 1, 1) := by decide +kernel
theorem dX12_isDigit_13 : decode cX12_isDigit 13 = .ok (.goto 4, 3) := by decide +kernel
theorem dX12_isDigit_16 : decode cX12_isDigit 16 = .ok (.iconst 0, 1) := by decide +kernel
theorem dX12_isDigit_17 : decode cX12_isDigit 17 = .ok (.ireturn, 1) := by decide +kernel
set_option maxHeartbeats 4000000 in
set_option maxRecDepth 100000 in
theorem w_X12_isDigit_17 {X : CX} {T : List Dsc} {n1 n2 : Nat} {s0 : Int32} {μ : Mem} {r : (Int32 × Mem)} (hX : XR X 1 n1 n2) (hf : f_X12_isDigit_17 T s0 μ = some r) (hk : FnZ X cX12_isDigit RX12 1 T n1 n2 r) : Wp X cX12_isDigit RX12 1 T μ n1 n2 17 [] [.int s0] := by
  unfold f_X12_isDigit_17 at hf
  obtain ⟨v1, h2, hf⟩ := bnd hf
  refine Wp.zb' h2 (fun h2 => ?_)
  cases hf
  exact hk _ _ h2 dX12_isDigit_17
set_option maxHeartbeats 4000000 in
set_option maxRecDepth 100000 in
theorem w_X12_isDigit_16 {X : CX} {T : List Dsc} {n1 n2 : Nat} {μ : Mem} {r : (Int32 × Mem)} (hX : XR X 1 n1 n2) (hf : f_X12_isDigit_16 T μ = some r) (hk : FnZ X cX12_isDigit RX12 1 T n1 n2 r) : Wp X cX12_isDigit RX12 1 T μ n1 n2 16 [] [] := by
  unfold f_X12_isDigit_16 at hf
  refine Wp.iconst (pc := 16) (0 : Int32) (by decide) dX12_isDigit_16 ?_
  exact w_X12_isDigit_17 hX hf hk
set_option maxHeartbeats 4000000 in
set_option maxRecDepth 100000 in
theorem w_X12_isDigit {X : CX} {T : List Dsc} {n1 n2 : Nat} {x0 : Int32} {μ : Mem} {r : (Int32 × Mem)} (hX : XR X 1 n1 n2) (hf : F_X12_isDigit T x0 μ = some r) (hk : FnZ X cX12_isDigit RX12 1 T n1 n2 r) : Wp X cX12_isDigit RX12 1 T μ n1 n2 0 [(0, .int x0)] [] := by
  unfold F_X12_isDigit at hf
  refine Wp.iload_n (pc := 0) 0 rfl rfl dX12_isDigit_0 ?_
  refine Wp.bipush (pc := 1) (48 : Int32) (by decide) dX12_isDigit_1 ?_
  refine Wp.icmp_lt (pc := 3) 16 dX12_isDigit_3 (by decide) (fun hc1 => ?_) (fun hc1 => ?_)
  · rw [if_pos hc1] at hf
    refine Wp.lo' (lo' := []) [] rfl ?_
    exact w_X12_isDigit_16 hX hf hk
  · rw [if_neg hc1] at hf
    refine Wp.iload_n (pc := 6) 0 rfl rfl dX12_isDigit_6 ?_
    refine Wp.bipush (pc := 7) (57 : Int32) (by decide) dX12_isDigit_7 ?_
    refine Wp.icmp_gt (pc := 9) 16 dX12_isDigit_9 (by decide) (fun hc2 => ?_) (fun hc2 => ?_)
    · rw [if_pos hc2] at hf
      refine Wp.lo' (lo' := []) [] rfl ?_
      exact w_X12_isDigit_16 hX hf hk
    · rw [if_neg hc2] at hf
      refine Wp.iconst (pc := 12) (1 : Int32) (by decide) dX12_isDigit_12 ?_
      refine Wp.goto (pc := 13) 17 dX12_isDigit_13 (by decide) ?_
      refine Wp.lo' (lo' := []) [] rfl ?_
      exact w_X12_isDigit_17 hX hf hk
theorem c_X12_isDigit {T : List Dsc} {x0 : Int32} {μ : Mem} {r : (Int32 × Mem)} (hf : F_X12_isDigit T x0 μ = some r) : Ct 1 yX12_isDigit cX12_isDigit 1 (some .boolean) T μ [.int x0] (some (.int r.1)) r.2 := Ct.ofZ (by decide +kernel) (Nat.le_of_ble_eq_true rfl) (fun X hX hk => w_X12_isDigit hX hf hk)
