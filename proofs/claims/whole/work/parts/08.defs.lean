/-! the pure functions of the methods: printed by program from the bytecode -/
def f_X0_howMany_4 (T : List Dsc) (x0 : Nat) (x1 : Int32) (x2 : Int32) (x3 : Int32) (μ : Mem) : Option ((Int32 × Int32 × Mem) ⊕ ((Int32 × Mem))) :=
  if x1 ≤ x3 then some (Sum.inr (x2, μ)) else if (4 : Int32) ≤ x3 then some (Sum.inr (x2, μ)) else (gO T μ x0 0 4).bind fun r3 => (gO T μ r3 0 6).bind fun r5 => (nmI (x2 * (gI μ r5 0))).bind fun v7 => (nmI (x3 + (1 : Int32))).bind fun v9 => some (Sum.inl (v7, v9, μ))
def g_X0_howMany_4 (T : List Dsc) (x0 : Nat) (x1 : Int32) (s : Int32 × Int32 × Mem) : Option ((Int32 × Int32 × Mem) ⊕ ((Int32 × Mem))) := f_X0_howMany_4 T x0 x1 s.1 s.2.1 s.2.2
def f_X0_howMany_33 (T : List Dsc) (x2 : Int32) (μ : Mem) : Option (Int32 × Mem) :=
  some (x2, μ)
def F_X0_howMany (T : List Dsc) (x0 : Nat) (x1 : Int32) (μ : Mem) : Option (Int32 × Mem) :=
  (loop (g_X0_howMany_4 T x0 x1) ((1 : Int32), (0 : Int32), μ)).bind fun e1 => f_X0_howMany_33 T e1.1 e1.2
def f_X5_heard_9 (T : List Dsc) (x2 : Int32) (μ : Mem) : Option (Int32 × Mem) :=
  some (x2, μ)
def F_X5_heard (T : List Dsc) (x0 : Nat) (x1 : Int32) (x2 : Int32) (x3 : Int32) (x4 : Int32) (μ : Mem) : Option (Int32 × Mem) :=
  if x4 = 0 then if 0 ≤ x3 then (gO T μ x0 0 6).bind fun r3 => (gO T μ x0 0 6).bind fun r5 => (rmI (x3 + ((gI μ r3 9) * x1)) (gI μ r5 0)).bind fun v7 => some (v7, μ) else f_X5_heard_9 T x2 μ else f_X5_heard_9 T x2 μ
def f_X5_gap_52 (T : List Dsc) (s0 : Int32) (μ : Mem) : Option (Int32 × Mem) :=
  some (s0, μ)
def f_X5_gap_26 (T : List Dsc) (x0 : Nat) (x3 : Int32) (μ : Mem) : Option (Int32 × Mem) :=
  (gO T μ x0 0 6).bind fun r1 => if ((2 : Int32) * x3) ≤ (gI μ r1 0) then f_X5_gap_52 T x3 μ else (gO T μ x0 0 6).bind fun r4 => f_X5_gap_52 T (x3 - (gI μ r4 0)) μ
def F_X5_gap (T : List Dsc) (x0 : Nat) (x1 : Int32) (x2 : Int32) (μ : Mem) : Option (Int32 × Mem) :=
  (gO T μ x0 0 6).bind fun r1 => (rmI (x1 - x2) (gI μ r1 0)).bind fun v3 => if 0 ≤ v3 then f_X5_gap_26 T x0 v3 μ else (gO T μ x0 0 6).bind fun r6 => (nmI (v3 + (gI μ r6 0))).bind fun v8 => f_X5_gap_26 T x0 v8 μ
def f_X5_joined_71 (T : List Dsc) (s0 : Int32) (μ : Mem) : Option (Int32 × Mem) :=
  some (s0, μ)
def f_X5_joined_82 (T : List Dsc) (s0 : Int32) (μ : Mem) : Option (Int32 × Mem) :=
  some (s0, μ)
def f_X5_joined_93 (T : List Dsc) (s0 : Int32) (μ : Mem) : Option (Int32 × Mem) :=
  some (s0, μ)
def f_X5_joined_104 (T : List Dsc) (s0 : Int32) (μ : Mem) : Option (Int32 × Mem) :=
  some (s0, μ)
def f_X5_joined_115 (T : List Dsc) (s0 : Int32) (μ : Mem) : Option (Int32 × Mem) :=
  some (s0, μ)
def F_X5_joined (T : List Dsc) (x0 : Nat) (x1 : Int32) (x2 : Int32) (x3 : Int32) (μ : Mem) : Option (Int32 × Mem) :=
  if x1 = (7 : Int32) then some (x2 + x3, μ) else if x1 = (8 : Int32) then some (x2 - x3, μ) else if x1 = (9 : Int32) then some (x2 * x3, μ) else if x1 = (10 : Int32) then if x3 = 0 then f_X5_joined_71 T (0 : Int32) μ else (dvI x2 x3).bind fun v6 => f_X5_joined_71 T v6 μ else if x1 = (11 : Int32) then if x2 = x3 then f_X5_joined_82 T (1 : Int32) μ else f_X5_joined_82 T (0 : Int32) μ else if x1 = (12 : Int32) then if x2 = x3 then f_X5_joined_93 T (0 : Int32) μ else f_X5_joined_93 T (1 : Int32) μ else if x1 = (13 : Int32) then if x3 ≤ x2 then f_X5_joined_104 T (0 : Int32) μ else f_X5_joined_104 T (1 : Int32) μ else if x1 = (14 : Int32) then if x3 < x2 then f_X5_joined_115 T (0 : Int32) μ else f_X5_joined_115 T (1 : Int32) μ else (F_X5_gap T x0 x2 x3 μ).bind fun c16 => some (c16.1, c16.2)
def f_X5_worked_340 (T : List Dsc) (x0 : Nat) (x2 : Int32) (x3 : Int32) (x4 : Int32) (x5 : Int32) (μ : Mem) : Option ((Int32 × Int32 × Int32 × Mem) ⊕ ((Int32 × Mem) ⊕ (Mem) ⊕ (Mem))) :=
  (nmI (x5 + (1 : Int32))).bind fun v1 => some (Sum.inl (x3, x4, v1, μ))
def f_X5_worked_192 (T : List Dsc) (x0 : Nat) (x2 : Int32) (x4 : Int32) (x5 : Int32) (s0 : Int32) (μ : Mem) : Option ((Int32 × Int32 × Int32 × Mem) ⊕ ((Int32 × Mem) ⊕ (Mem) ⊕ (Mem))) :=
  (nmI (x4 + (-1 : Int32))).bind fun v1 => f_X5_worked_340 T x0 x2 s0 v1 x5 μ
def f_X5_worked_277 (T : List Dsc) (x0 : Nat) (x2 : Int32) (x3 : Int32) (x5 : Int32) (s0 : Int32) (s1 : Int32) (μ : Mem) : Option ((Int32 × Int32 × Int32 × Mem) ⊕ ((Int32 × Mem) ⊕ (Mem) ⊕ (Mem))) :=
  (nmI (s0 - s1)).bind fun v1 => f_X5_worked_340 T x0 x2 x3 v1 x5 μ
def f_X5_worked_264 (T : List Dsc) (x0 : Nat) (x2 : Int32) (x4 : Int32) (x5 : Int32) (x9 : Int32) (s0 : Int32) (μ : Mem) : Option ((Int32 × Int32 × Int32 × Mem) ⊕ ((Int32 × Mem) ⊕ (Mem) ⊕ (Mem))) :=
  if x9 = 0 then f_X5_worked_277 T x0 x2 s0 x5 x4 (1 : Int32) μ else f_X5_worked_277 T x0 x2 s0 x5 x4 (0 : Int32) μ
def f_X5_worked_251 (T : List Dsc) (x0 : Nat) (x2 : Int32) (x3 : Int32) (x4 : Int32) (x5 : Int32) (x8 : Int32) (s0 : Int32) (μ : Mem) : Option ((Int32 × Int32 × Int32 × Mem) ⊕ ((Int32 × Mem) ⊕ (Mem) ⊕ (Mem))) :=
  if s0 = 0 then f_X5_worked_264 T x0 x2 x4 x5 s0 x3 μ else f_X5_worked_264 T x0 x2 x4 x5 s0 x8 μ
def f_X5_worked_243 (T : List Dsc) (x0 : Nat) (x2 : Int32) (x3 : Int32) (x4 : Int32) (x5 : Int32) (x8 : Int32) (s0 : Int32) (s1 : Int32) (μ : Mem) : Option ((Int32 × Int32 × Int32 × Mem) ⊕ ((Int32 × Mem) ⊕ (Mem) ⊕ (Mem))) :=
  if s0 = s1 then f_X5_worked_251 T x0 x2 x3 x4 x5 x8 (1 : Int32) μ else f_X5_worked_251 T x0 x2 x3 x4 x5 x8 (0 : Int32) μ
def f_X5_worked_231 (T : List Dsc) (x0 : Nat) (x2 : Int32) (x3 : Int32) (x4 : Int32) (x5 : Int32) (x7 : Int32) (x8 : Int32) (s0 : Int32) (μ : Mem) : Option ((Int32 × Int32 × Int32 × Mem) ⊕ ((Int32 × Mem) ⊕ (Mem) ⊕ (Mem))) :=
  if x7 = (25 : Int32) then f_X5_worked_243 T x0 x2 x3 x4 x5 x8 s0 (1 : Int32) μ else f_X5_worked_243 T x0 x2 x3 x4 x5 x8 s0 (0 : Int32) μ
def f_X5_worked_213 (T : List Dsc) (x0 : Nat) (x2 : Int32) (x3 : Int32) (x4 : Int32) (x5 : Int32) (x7 : Int32) (x8 : Int32) (μ : Mem) : Option ((Int32 × Int32 × Int32 × Mem) ⊕ ((Int32 × Mem) ⊕ (Mem) ⊕ (Mem))) :=
  (gA T μ x0 1 0).bind fun a1 => (rI μ a1.1 a1.2 (x4 &&& (63 : Int32))).bind fun v3 => if v3 = 0 then f_X5_worked_231 T x0 x2 x3 x4 x5 x7 x8 (1 : Int32) μ else f_X5_worked_231 T x0 x2 x3 x4 x5 x7 x8 (0 : Int32) μ
def f_X5_worked_312 (T : List Dsc) (x0 : Nat) (x2 : Int32) (x3 : Int32) (x4 : Int32) (x5 : Int32) (x7 : Int32) (x9 : Int32) (μ : Mem) : Option ((Int32 × Int32 × Int32 × Mem) ⊕ ((Int32 × Mem) ⊕ (Mem) ⊕ (Mem))) :=
  (gA T μ x0 1 0).bind fun a1 => (gA T μ x0 1 0).bind fun a3 => (rI μ a3.1 a3.2 (x4 &&& (63 : Int32))).bind fun v5 => (F_X5_joined T x0 x7 v5 x9 μ).bind fun c7 => (wI c7.2 a1.1 a1.2 (x4 &&& (63 : Int32)) c7.1).bind fun μ9 => f_X5_worked_340 T x0 x2 x3 x4 x5 μ9
def f_X5_worked_8 (T : List Dsc) (x0 : Nat) (x2 : Int32) (x3 : Int32) (x4 : Int32) (x5 : Int32) (μ : Mem) : Option ((Int32 × Int32 × Int32 × Mem) ⊕ ((Int32 × Mem) ⊕ (Mem) ⊕ (Mem))) :=
  (gO T μ x0 0 6).bind fun r1 => if (gI μ r1 4) ≤ x5 then some (Sum.inr (Sum.inr (Sum.inr μ))) else (gO T μ x0 0 6).bind fun r4 => if (gI μ r4 4) ≤ x3 then some (Sum.inr (Sum.inr (Sum.inr μ))) else (gO T μ x0 0 6).bind fun r7 => (gA T μ r7 3 0).bind fun a9 => (rI μ a9.1 a9.2 x3).bind fun v11 => (nmI (v11 &&& (63 : Int32))).bind fun v13 => (nmI (v11 >>> ((6 : Int32) &&& 31))).bind fun v15 => (nmI (x3 + (1 : Int32))).bind fun v17 => if v13 = (3 : Int32) then (nmI (x4 + (1 : Int32))).bind fun v57 => (gA T μ x0 1 0).bind fun a59 => (wI μ a59.1 a59.2 (v57 &&& (63 : Int32)) v15).bind fun μ61 => f_X5_worked_340 T x0 x2 v17 v57 x5 μ61 else if v13 < (28 : Int32) then if v13 = (23 : Int32) then some (Sum.inr (Sum.inl (x4, μ))) else if v13 = (26 : Int32) then (gA T μ x0 1 0).bind fun a39 => (gA T μ x0 1 0).bind fun a41 => (rI μ a41.1 a41.2 (x4 &&& (63 : Int32))).bind fun v43 => (wI μ a39.1 a39.2 (x4 &&& (63 : Int32)) ((1 : Int32) - v43)).bind fun μ45 => f_X5_worked_340 T x0 x2 v17 x4 x5 μ45 else if v13 = (21 : Int32) then (gA T μ x0 1 0).bind fun a34 => (rI μ a34.1 a34.2 (x4 &&& (63 : Int32))).bind fun v36 => if v36 = 0 then f_X5_worked_192 T x0 x2 x4 x5 v15 μ else f_X5_worked_192 T x0 x2 x4 x5 v17 μ else if v13 = (25 : Int32) then f_X5_worked_213 T x0 x2 v17 x4 x5 v13 v15 μ else if v13 = (24 : Int32) then f_X5_worked_213 T x0 x2 v17 x4 x5 v13 v15 μ else (gA T μ x0 1 0).bind fun a26 => (rI μ a26.1 a26.2 (x4 &&& (63 : Int32))).bind fun v28 => (nmI (x4 + (-1 : Int32))).bind fun v30 => if v13 = (10 : Int32) then if v28 = 0 then some (Sum.inr (Sum.inr (Sum.inl μ))) else f_X5_worked_312 T x0 x2 v17 v30 x5 v13 v28 μ else f_X5_worked_312 T x0 x2 v17 v30 x5 v13 v28 μ else (nmI (x4 + (1 : Int32))).bind fun v47 => (gA T μ x0 1 0).bind fun a49 => (gA T μ x0 2 0).bind fun a51 => (rI μ a51.1 a51.2 (v13 - (28 : Int32))).bind fun v53 => (wI μ a49.1 a49.2 (v47 &&& (63 : Int32)) v53).bind fun μ55 => f_X5_worked_340 T x0 x2 v17 v47 x5 μ55
def g_X5_worked_8 (T : List Dsc) (x0 : Nat) (x2 : Int32) (s : Int32 × Int32 × Int32 × Mem) : Option ((Int32 × Int32 × Int32 × Mem) ⊕ ((Int32 × Mem) ⊕ (Mem) ⊕ (Mem))) := f_X5_worked_8 T x0 x2 s.1 s.2.1 s.2.2.1 s.2.2.2
def f_X5_worked_346 (T : List Dsc) (x2 : Int32) (μ : Mem) : Option (Int32 × Mem) :=
  some (x2, μ)
def F_X5_worked (T : List Dsc) (x0 : Nat) (x1 : Int32) (x2 : Int32) (μ : Mem) : Option (Int32 × Mem) :=
  (loop (g_X5_worked_8 T x0 x2) (x1, (0 : Int32), (0 : Int32), μ)).bind fun e1 => (Sum.elim (fun e1_0 => (gA T e1_0.2 x0 1 0).bind fun a3 => (rI e1_0.2 a3.1 a3.2 (e1_0.1 &&& (63 : Int32))).bind fun v5 => some (v5, e1_0.2)) (Sum.elim (fun e1_1 => some (x2, e1_1)) (fun e1_2 => f_X5_worked_346 T x2 e1_2))) e1
def f_X5_rest_27 (T : List Dsc) (s0 : Int32) (μ : Mem) : Option (Int32 × Mem) :=
  some (s0, μ)
def F_X5_rest (T : List Dsc) (x0 : Nat) (x1 : Int32) (μ : Mem) : Option (Int32 × Mem) :=
  (gO T μ x0 0 6).bind fun r1 => (rmI x1 (gI μ r1 0)).bind fun v3 => if 0 ≤ v3 then f_X5_rest_27 T v3 μ else (gO T μ x0 0 6).bind fun r6 => f_X5_rest_27 T (v3 + (gI μ r6 0)) μ
def f_X5_turned_15 (T : List Dsc) (x3 : Int32) (μ : Mem) : Option (Int32 × Mem) :=
  some (x3, μ)
def f_X5_turned_89 (T : List Dsc) (x0 : Nat) (x1 : Int32) (x3 : Int32) (s0 : Nat) (ms0 : Nat) (s1 : Int32) (s2 : Int32) (μ : Mem) : Option (Int32 × Mem) :=
  (wI μ s0 ms0 s1 s2).bind fun μ1 => (gO T μ1 x0 0 6).bind fun r3 => (gA T μ1 r3 2 0).bind fun a5 => (rI μ1 a5.1 a5.2 x1).bind fun v7 => (F_X5_worked T x0 v7 x3 μ1).bind fun c9 => (F_X5_rest T x0 c9.1 c9.2).bind fun c11 => some (c11.1, c11.2)
def F_X5_turned (T : List Dsc) (x0 : Nat) (x1 : Int32) (x2 : Int32) (x3 : Int32) (x4 : Int32) (x5 : Int32) (x6 : Int32) (x7 : Int32) (μ : Mem) : Option (Int32 × Mem) :=
  if x1 < 0 then f_X5_turned_15 T x3 μ else (gO T μ x0 0 6).bind fun r2 => if x1 < (gI μ r2 1) then (gA T μ x0 2 0).bind fun a5 => (wI μ a5.1 a5.2 (0 : Int32) x3).bind fun μ7 => (gA T μ7 x0 2 0).bind fun a9 => (wI μ7 a9.1 a9.2 (1 : Int32) x4).bind fun μ11 => (gA T μ11 x0 2 0).bind fun a13 => (wI μ11 a13.1 a13.2 (2 : Int32) x5).bind fun μ15 => (gA T μ15 x0 2 0).bind fun a17 => (F_X5_heard T x0 x2 x3 x6 x7 μ15).bind fun c19 => (wI c19.2 a17.1 a17.2 (3 : Int32) c19.1).bind fun μ21 => (gA T μ21 x0 2 0).bind fun a23 => (wI μ21 a23.1 a23.2 (4 : Int32) x2).bind fun μ25 => (gA T μ25 x0 2 0).bind fun a27 => (gO T μ25 x0 0 6).bind fun r29 => if 0 ≤ (gI μ25 r29 10) then (gO T μ25 x0 0 6).bind fun r32 => f_X5_turned_89 T x0 x1 x3 a27.1 a27.2 (5 : Int32) (gI μ25 r32 10) μ25 else f_X5_turned_89 T x0 x1 x3 a27.1 a27.2 (5 : Int32) x3 μ25 else f_X5_turned_15 T x3 μ
def f_X0_addBench_85 (T : List Dsc) (x0 : Nat) (x1 : Int32) (x2 : Int32) (x3 : Int32) (x4 : Int32) (x5 : Int32) (x6 : Int32) (x7 : Int32) (x8 : Int32) (s0 : Int32) (μ : Mem) : Option ((Int32 × Mem) ⊕ ((Mem))) :=
  (gA T μ x0 2 0).bind fun a1 => (gO T μ x0 0 4).bind fun r3 => (F_X5_turned T r3 x1 x2 x7 x8 s0 x3 (0 : Int32) μ).bind fun c5 => (wI c5.2 a1.1 a1.2 x6 c5.1).bind fun μ7 => (nmI (x6 + (1 : Int32))).bind fun v9 => some (Sum.inl (v9, μ7))
def f_X0_addBench_65 (T : List Dsc) (x0 : Nat) (x1 : Int32) (x2 : Int32) (x3 : Int32) (x4 : Int32) (x5 : Int32) (x6 : Int32) (x7 : Int32) (s0 : Int32) (μ : Mem) : Option ((Int32 × Mem) ⊕ ((Mem))) :=
  if (2 : Int32) ≤ x2 then (dvI x6 x4).bind fun v2 => (dvI v2 x4).bind fun v4 => f_X0_addBench_85 T x0 x1 x2 x3 x4 x5 x6 x7 s0 v4 μ else f_X0_addBench_85 T x0 x1 x2 x3 x4 x5 x6 x7 s0 s0 μ
def f_X0_addBench_34 (T : List Dsc) (x0 : Nat) (x1 : Int32) (x2 : Int32) (x3 : Int32) (x4 : Int32) (x5 : Int32) (x6 : Int32) (μ : Mem) : Option ((Int32 × Mem) ⊕ ((Mem))) :=
  if x5 ≤ x6 then some (Sum.inr μ) else (rmI x6 x4).bind fun v2 => if x2 = 0 then f_X0_addBench_65 T x0 x1 x2 x3 x4 x5 x6 v2 v2 μ else (dvI x6 x4).bind fun v5 => (rmI v5 x4).bind fun v7 => f_X0_addBench_65 T x0 x1 x2 x3 x4 x5 x6 v2 v7 μ
def g_X0_addBench_34 (T : List Dsc) (x0 : Nat) (x1 : Int32) (x2 : Int32) (x3 : Int32) (x4 : Int32) (x5 : Int32) (s : Int32 × Mem) : Option ((Int32 × Mem) ⊕ ((Mem))) := f_X0_addBench_34 T x0 x1 x2 x3 x4 x5 s.1 s.2
def f_X0_addBench_134 (T : List Dsc) (x0 : Nat) (x4 : Int32) (x5 : Int32) (x6 : Int32) (μ : Mem) : Option ((Int32 × Mem) ⊕ ((Mem))) :=
  if x6 < 0 then some (Sum.inr μ) else (gA T μ x0 1 0).bind fun a2 => (gA T μ x0 1 0).bind fun a4 => (dvI x6 x4).bind fun v6 => (rI μ a4.1 a4.2 v6).bind fun v8 => (gA T μ x0 2 0).bind fun a10 => (rmI x6 x5).bind fun v12 => (rI μ a10.1 a10.2 v12).bind fun v14 => (wI μ a2.1 a2.2 x6 ((v8 * x4) + v14)).bind fun μ16 => (nmI (x6 + (-1 : Int32))).bind fun v18 => some (Sum.inl (v18, μ16))
def g_X0_addBench_134 (T : List Dsc) (x0 : Nat) (x4 : Int32) (x5 : Int32) (s : Int32 × Mem) : Option ((Int32 × Mem) ⊕ ((Mem))) := f_X0_addBench_134 T x0 x4 x5 s.1 s.2
def F_X0_addBench (T : List Dsc) (x0 : Nat) (x1 : Int32) (x2 : Int32) (x3 : Int32) (μ : Mem) : Option Mem :=
  (gO T μ x0 0 4).bind fun r1 => (gO T μ r1 0 6).bind fun r3 => (nmI (gI μ r3 0)).bind fun v5 => (F_X0_howMany T x0 (mnI (x2 + (1 : Int32)) (3 : Int32)) μ).bind fun c7 => (nmI (mnI c7.1 (20736 : Int32))).bind fun v9 => (loop (g_X0_addBench_34 T x0 x1 x2 x3 v5 v9) ((0 : Int32), c7.2)).bind fun e11 => (F_X0_howMany T x0 (x2 + (1 : Int32)) e11).bind fun c13 => (nmI ((mnI c13.1 (20736 : Int32)) - (1 : Int32))).bind fun v15 => (loop (g_X0_addBench_134 T x0 v5 v9) (v15, c13.2)).bind fun e17 => some e17
def f_X0_follow_4 (T : List Dsc) (x0 : Nat) (x1 : Int32) (x2 : Int32) (x3 : Int32) (μ : Mem) : Option ((Int32 × Int32 × Mem) ⊕ ((Int32 × Int32 × Mem))) :=
  if (20736 : Int32) ≤ x3 then some (Sum.inr (x2, x3, μ)) else (gA T μ x0 2 0).bind fun a2 => (rI μ a2.1 a2.2 x2).bind fun v4 => if v4 = (-1 : Int32) then (gA T μ x0 1 0).bind fun a7 => (rI μ a7.1 a7.2 x2).bind fun v9 => if v9 = x2 then some (Sum.inr (x2, x3, μ)) else (gA T μ x0 2 0).bind fun a12 => (wI μ a12.1 a12.2 x2 (-2 : Int32)).bind fun μ14 => (gA T μ14 x0 1 0).bind fun a16 => (rI μ14 a16.1 a16.2 x2).bind fun v18 => (nmI (x3 + (1 : Int32))).bind fun v20 => some (Sum.inl (v18, v20, μ14)) else some (Sum.inr (x2, x3, μ))
def g_X0_follow_4 (T : List Dsc) (x0 : Nat) (x1 : Int32) (s : Int32 × Int32 × Mem) : Option ((Int32 × Int32 × Mem) ⊕ ((Int32 × Int32 × Mem))) := f_X0_follow_4 T x0 x1 s.1 s.2.1 s.2.2
def f_X0_follow_110 (T : List Dsc) (x0 : Nat) (x2 : Int32) (x3 : Int32) (x4 : Int32) (x5 : Int32) (s0 : Nat) (ms0 : Nat) (s1 : Int32) (s2 : Int32) (μ : Mem) : Option ((Int32 × Int32 × Mem) ⊕ ((Mem))) :=
  (wI μ s0 ms0 s1 s2).bind fun μ1 => (gA T μ1 x0 1 0).bind fun a3 => (rI μ1 a3.1 a3.2 x2).bind fun v5 => (nmI (x5 + (1 : Int32))).bind fun v7 => some (Sum.inl (v5, v7, μ1))
def f_X0_follow_82 (T : List Dsc) (x0 : Nat) (x2 : Int32) (x3 : Int32) (x4 : Int32) (x5 : Int32) (μ : Mem) : Option ((Int32 × Int32 × Mem) ⊕ ((Mem))) :=
  if x3 ≤ x5 then some (Sum.inr μ) else (gA T μ x0 2 0).bind fun a2 => if x4 < 0 then f_X0_follow_110 T x0 x2 x3 x4 x5 a2.1 a2.2 x2 (-3 : Int32) μ else f_X0_follow_110 T x0 x2 x3 x4 x5 a2.1 a2.2 x2 ((x4 + x3) - x5) μ
def g_X0_follow_82 (T : List Dsc) (x0 : Nat) (x3 : Int32) (x4 : Int32) (s : Int32 × Int32 × Mem) : Option ((Int32 × Int32 × Mem) ⊕ ((Mem))) := f_X0_follow_82 T x0 s.1 x3 x4 s.2.1 s.2.2
def f_X0_follow_69 (T : List Dsc) (x0 : Nat) (x1 : Int32) (x2 : Int32) (x3 : Int32) (μ : Mem) : Option Mem :=
  (gA T μ x0 2 0).bind fun a1 => (rI μ a1.1 a1.2 x2).bind fun v3 => (loop (g_X0_follow_82 T x0 x3 v3) (x1, (0 : Int32), μ)).bind fun e5 => some e5
def f_X0_follow_52 (T : List Dsc) (x0 : Nat) (x1 : Int32) (x2 : Int32) (x3 : Int32) (μ : Mem) : Option Mem :=
  (gA T μ x0 2 0).bind fun a1 => (rI μ a1.1 a1.2 x2).bind fun v3 => if v3 = (-1 : Int32) then (gA T μ x0 2 0).bind fun a6 => (wI μ a6.1 a6.2 x2 (0 : Int32)).bind fun μ8 => f_X0_follow_69 T x0 x1 x2 x3 μ8 else f_X0_follow_69 T x0 x1 x2 x3 μ
def F_X0_follow (T : List Dsc) (x0 : Nat) (x1 : Int32) (μ : Mem) : Option Mem :=
  (loop (g_X0_follow_4 T x0 x1) (x1, (0 : Int32), μ)).bind fun e1 => f_X0_follow_52 T x0 x1 e1.1 e1.2.1 e1.2.2
def f_X1_begin_23 (T : List Dsc) (x0 : Nat) (x1 : Nat) (x2 : Int32) (μ : Mem) : Option ((Int32 × Mem) ⊕ ((Mem))) :=
  if (gI μ x1 5) ≤ x2 then some (Sum.inr μ) else (gA T μ x0 1 0).bind fun a2 => (wI μ a2.1 a2.2 x2 x2).bind fun μ4 => (gA T μ4 x0 2 0).bind fun a6 => (gA T μ4 x1 6 0).bind fun a8 => (rI μ4 a8.1 a8.2 x2).bind fun v10 => (wI μ4 a6.1 a6.2 x2 v10).bind fun μ12 => (nmI (x2 + (1 : Int32))).bind fun v14 => some (Sum.inl (v14, μ12))
def g_X1_begin_23 (T : List Dsc) (x0 : Nat) (x1 : Nat) (s : Int32 × Mem) : Option ((Int32 × Mem) ⊕ ((Mem))) := f_X1_begin_23 T x0 x1 s.1 s.2
def F_X1_begin (T : List Dsc) (x0 : Nat) (x1 : Nat) (μ : Mem) : Option Mem :=
  (pJ μ x0 0 (gJ μ x1 7)).bind fun μ1 => (pI μ1 x0 3 (gI μ1 x1 8)).bind fun μ3 => (pI μ3 x0 4 (0 : Int32)).bind fun μ5 => (loop (g_X1_begin_23 T x0 x1) ((0 : Int32), μ5)).bind fun e7 => some e7
def F_X1_take (T : List Dsc) (x0 : Nat) (x1 : Nat) (μ : Mem) : Option Mem :=
  (pJ μ x0 0 (gJ μ x1 0)).bind fun μ1 => (pI μ1 x0 3 (gI μ1 x1 3)).bind fun μ3 => (pI μ3 x0 4 (gI μ3 x1 4)).bind fun μ5 => (gA T μ5 x1 1 0).bind fun a7 => (gA T μ5 x0 1 0).bind fun a9 => (cpI μ5 a7.1 a7.2 a9.1 a9.2 (0 : Int32) (0 : Int32) (12 : Int32)).bind fun μ11 => (gA T μ11 x1 2 0).bind fun a13 => (gA T μ11 x0 2 0).bind fun a15 => (cpI μ11 a13.1 a13.2 a15.1 a15.2 (0 : Int32) (0 : Int32) (12 : Int32)).bind fun μ17 => some μ17
def F_X11_timeAt (T : List Dsc) (x0 : Int64) (x2 : Int32) (μ : Mem) : Option (Int32 × Mem) :=
  some ((x0.toUInt64 >>> (((5 : Int32) * x2).toInt64.toUInt64 &&& Int64.toUInt64 63)).toInt64.toInt32 &&& (31 : Int32), μ)
def F_X11_withTime (T : List Dsc) (x0 : Int64) (x2 : Int32) (x3 : Int32) (μ : Mem) : Option (Int64 × Mem) :=
  (nmI ((5 : Int32) * x2)).bind fun v1 => some ((x0 &&& (((31 : Int64) <<< (v1.toInt64 &&& 63)) ^^^ (-1 : Int64))) ||| ((x3 &&& (31 : Int32)).toInt64 <<< (v1.toInt64 &&& 63)), μ)
def F_X1_exchange (T : List Dsc) (x0 : Nat) (x1 : Int32) (x2 : Int32) (μ : Mem) : Option Mem :=
  (gA T μ x0 1 0).bind fun a1 => (rI μ a1.1 a1.2 x1).bind fun v3 => (gA T μ x0 1 0).bind fun a5 => (gA T μ x0 1 0).bind fun a7 => (rI μ a7.1 a7.2 x2).bind fun v9 => (wI μ a5.1 a5.2 x1 v9).bind fun μ11 => (gA T μ11 x0 1 0).bind fun a13 => (wI μ11 a13.1 a13.2 x2 v3).bind fun μ15 => (gA T μ15 x0 2 0).bind fun a17 => (rI μ15 a17.1 a17.2 x1).bind fun v19 => (gA T μ15 x0 2 0).bind fun a21 => (gA T μ15 x0 2 0).bind fun a23 => (rI μ15 a23.1 a23.2 x2).bind fun v25 => (wI μ15 a21.1 a21.2 x1 v25).bind fun μ27 => (gA T μ27 x0 2 0).bind fun a29 => (wI μ27 a29.1 a29.2 x2 v19).bind fun μ31 => (F_X11_timeAt T (gJ μ31 x0 0) x1 μ31).bind fun c33 => (F_X11_timeAt T (gJ c33.2 x0 0) x2 c33.2).bind fun c35 => (F_X11_withTime T (gJ c33.2 x0 0) x1 c35.1 c35.2).bind fun c37 => (pJ c37.2 x0 0 c37.1).bind fun μ39 => (F_X11_withTime T (gJ μ39 x0 0) x2 c33.1 μ39).bind fun c41 => (pJ c41.2 x0 0 c41.1).bind fun μ43 => some μ43
def F_X3_clear (T : List Dsc) (x0 : Nat) (μ : Mem) : Option Mem :=
  (pI μ x0 1 (0 : Int32)).bind fun μ1 => (pI μ1 x0 2 (0 : Int32)).bind fun μ3 => some μ3
def F_X3_keep (T : List Dsc) (x0 : Nat) (x1 : Int64) (μ : Mem) : Option Mem :=
  (gA T μ x0 0 1).bind fun a1 => (wJ μ a1.1 a1.2 (gI μ x0 2) x1).bind fun μ3 => (rmI ((gI μ3 x0 2) + (1 : Int32)) (100 : Int32)).bind fun v5 => (pI μ3 x0 2 v5).bind fun μ7 => (pI μ7 x0 1 (mnI ((gI μ7 x0 1) + (1 : Int32)) (100 : Int32))).bind fun μ9 => some μ9
def F_X3_takeLast (T : List Dsc) (x0 : Nat) (μ : Mem) : Option (Int64 × Mem) :=
  (rmI (((gI μ x0 2) + (100 : Int32)) - (1 : Int32)) (100 : Int32)).bind fun v1 => (pI μ x0 2 v1).bind fun μ3 => (pI μ3 x0 1 (mxI ((gI μ3 x0 1) - (1 : Int32)) (0 : Int32))).bind fun μ5 => (gA T μ5 x0 0 1).bind fun a7 => (rJ μ5 a7.1 a7.2 (gI μ5 x0 2)).bind fun v9 => some (v9, μ5)
def F_X7_clear (T : List Dsc) (x0 : Nat) (μ : Mem) : Option Mem :=
  (pI μ x0 0 (24 : Int32)).bind fun μ1 => (pI μ1 x0 1 (0 : Int32)).bind fun μ3 => (pI μ3 x0 4 (0 : Int32)).bind fun μ5 => (pI μ5 x0 5 (0 : Int32)).bind fun μ7 => (pJ μ7 x0 7 (0 : Int64)).bind fun μ9 => (pI μ9 x0 8 (-1 : Int32)).bind fun μ11 => (pI μ11 x0 9 (0 : Int32)).bind fun μ13 => (pI μ13 x0 10 (-1 : Int32)).bind fun μ15 => (pI μ15 x0 11 (0 : Int32)).bind fun μ17 => some μ17
def f_X8_byteAt_22 (T : List Dsc) (s0 : Int32) (μ : Mem) : Option (Int32 × Mem) :=
  some (s0, μ)
def F_X8_byteAt (T : List Dsc) (x0 : Nat) (x1 : Int32) (μ : Mem) : Option (Int32 × Mem) :=
  if (gI μ x0 5) ≤ x1 then f_X8_byteAt_22 T (-1 : Int32) μ else (gA T μ x0 4 2).bind fun a2 => (rI μ a2.1 a2.2 x1).bind fun v4 => f_X8_byteAt_22 T (v4 &&& (255 : Int32)) μ
def f_X8_isBlank_29 (T : List Dsc) (s0 : Int32) (μ : Mem) : Option (Int32 × Mem) :=
  (zb s0).bind fun v1 => some (v1, μ)
def f_X8_isBlank_24 (T : List Dsc) (μ : Mem) : Option (Int32 × Mem) :=
  f_X8_isBlank_29 T (1 : Int32) μ
def F_X8_isBlank (T : List Dsc) (x0 : Int32) (μ : Mem) : Option (Int32 × Mem) :=
  if x0 = (9 : Int32) then f_X8_isBlank_24 T μ else if x0 = (10 : Int32) then f_X8_isBlank_24 T μ else if x0 = (13 : Int32) then f_X8_isBlank_24 T μ else if x0 = (32 : Int32) then f_X8_isBlank_24 T μ else f_X8_isBlank_29 T (0 : Int32) μ
def f_X8_skipBlanks_0 (T : List Dsc) (x0 : Nat) (μ : Mem) : Option ((Mem) ⊕ ((Mem))) :=
  if (gI μ x0 5) ≤ (gI μ x0 6) then some (Sum.inr μ) else (F_X8_byteAt T x0 (gI μ x0 6) μ).bind fun c2 => (F_X8_isBlank T c2.1 c2.2).bind fun c4 => if c4.1 = 0 then some (Sum.inr c4.2) else (pI c4.2 x0 6 ((gI c4.2 x0 6) + (1 : Int32))).bind fun μ7 => some (Sum.inl μ7)
def g_X8_skipBlanks_0 (T : List Dsc) (x0 : Nat) (s : Mem) : Option ((Mem) ⊕ ((Mem))) := f_X8_skipBlanks_0 T x0 s
def f_X8_skipBlanks_38 (T : List Dsc) (μ : Mem) : Option Mem :=
  some μ
def F_X8_skipBlanks (T : List Dsc) (x0 : Nat) (μ : Mem) : Option Mem :=
  (loop (g_X8_skipBlanks_0 T x0) μ).bind fun e1 => f_X8_skipBlanks_38 T e1
def f_X8_isLetter_17 (T : List Dsc) (s0 : Int32) (μ : Mem) : Option (Int32 × Mem) :=
  (zb s0).bind fun v1 => some (v1, μ)
def f_X8_isLetter_16 (T : List Dsc) (μ : Mem) : Option (Int32 × Mem) :=
  f_X8_isLetter_17 T (0 : Int32) μ
def F_X8_isLetter (T : List Dsc) (x0 : Int32) (μ : Mem) : Option (Int32 × Mem) :=
  if x0 < (97 : Int32) then f_X8_isLetter_16 T μ else if (122 : Int32) < x0 then f_X8_isLetter_16 T μ else f_X8_isLetter_17 T (1 : Int32) μ
def F_X8_withLetter (T : List Dsc) (x0 : Int64) (x2 : Int32) (μ : Mem) : Option (Int64 × Mem) :=
  some ((x0 <<< ((5 : Int32).toInt64 &&& 63)) ||| ((x2 - (97 : Int32)) + (1 : Int32)).toInt64, μ)
def f_X8_nextWord_5 (T : List Dsc) (x0 : Nat) (x1 : Int32) (μ : Mem) : Option ((Mem) ⊕ ((Mem))) :=
  if (gI μ x0 5) ≤ (gI μ x0 6) then some (Sum.inr μ) else (F_X8_byteAt T x0 (gI μ x0 6) μ).bind fun c2 => (F_X8_isLetter T c2.1 c2.2).bind fun c4 => if c4.1 = 0 then some (Sum.inr c4.2) else (F_X8_byteAt T x0 (gI c4.2 x0 6) c4.2).bind fun c7 => (F_X8_withLetter T (gJ c4.2 x0 7) c7.1 c7.2).bind fun c9 => (pJ c9.2 x0 7 c9.1).bind fun μ11 => (pI μ11 x0 6 ((gI μ11 x0 6) + (1 : Int32))).bind fun μ13 => some (Sum.inl μ13)
def g_X8_nextWord_5 (T : List Dsc) (x0 : Nat) (x1 : Int32) (s : Mem) : Option ((Mem) ⊕ ((Mem))) := f_X8_nextWord_5 T x0 x1 s
def f_X8_nextWord_77 (T : List Dsc) (x0 : Nat) (x2 : Int32) (μ : Mem) : Option ((Int32 × Mem) ⊕ ((Int32 × Mem) ⊕ (Mem))) :=
  if (17 : Int32) ≤ x2 then some (Sum.inr (Sum.inr μ)) else (gA T μ x0 0 1).bind fun a2 => (rJ μ a2.1 a2.2 x2).bind fun v4 => if (lg_cmp v4 (gJ μ x0 7)) = 0 then some (Sum.inr (Sum.inl (x2, μ))) else (nmI (x2 + (1 : Int32))).bind fun v7 => some (Sum.inl (v7, μ))
def g_X8_nextWord_77 (T : List Dsc) (x0 : Nat) (s : Int32 × Mem) : Option ((Int32 × Mem) ⊕ ((Int32 × Mem) ⊕ (Mem))) := f_X8_nextWord_77 T x0 s.1 s.2
def f_X8_nextWord_62 (T : List Dsc) (x0 : Nat) (x1 : Int32) (μ : Mem) : Option (Int32 × Mem) :=
  if ((gI μ x0 6) - x1) ≤ (8 : Int32) then (loop (g_X8_nextWord_77 T x0) ((0 : Int32), μ)).bind fun e2 => (Sum.elim (fun e2_0 => some ((17 : Int32) + e2_0.1, e2_0.2)) (fun e2_1 => some ((2 : Int32), e2_1))) e2 else some ((1 : Int32), μ)
def F_X8_nextWord (T : List Dsc) (x0 : Nat) (μ : Mem) : Option (Int32 × Mem) :=
  (nmI (gI μ x0 6)).bind fun v1 => (loop (g_X8_nextWord_5 T x0 v1) μ).bind fun e3 => f_X8_nextWord_62 T x0 v1 e3
def f_X8_isDigit_17 (T : List Dsc) (s0 : Int32) (μ : Mem) : Option (Int32 × Mem) :=
  (zb s0).bind fun v1 => some (v1, μ)
def f_X8_isDigit_16 (T : List Dsc) (μ : Mem) : Option (Int32 × Mem) :=
  f_X8_isDigit_17 T (0 : Int32) μ
def F_X8_isDigit (T : List Dsc) (x0 : Int32) (μ : Mem) : Option (Int32 × Mem) :=
  if x0 < (48 : Int32) then f_X8_isDigit_16 T μ else if (57 : Int32) < x0 then f_X8_isDigit_16 T μ else f_X8_isDigit_17 T (1 : Int32) μ
def f_X8_nextInt_5 (T : List Dsc) (x0 : Nat) (x1 : Int32) (μ : Mem) : Option ((Mem) ⊕ ((Mem))) :=
  if (gI μ x0 5) ≤ (gI μ x0 6) then some (Sum.inr μ) else (F_X8_byteAt T x0 (gI μ x0 6) μ).bind fun c2 => (F_X8_isDigit T c2.1 c2.2).bind fun c4 => if c4.1 = 0 then some (Sum.inr c4.2) else (F_X8_byteAt T x0 (gI c4.2 x0 6) c4.2).bind fun c7 => (pJ c7.2 x0 7 (((gJ c4.2 x0 7) * (10 : Int64)) + (c7.1 - (48 : Int32)).toInt64)).bind fun μ9 => (pI μ9 x0 6 ((gI μ9 x0 6) + (1 : Int32))).bind fun μ11 => some (Sum.inl μ11)
def g_X8_nextInt_5 (T : List Dsc) (x0 : Nat) (x1 : Int32) (s : Mem) : Option ((Mem) ⊕ ((Mem))) := f_X8_nextInt_5 T x0 x1 s
def f_X8_nextInt_83 (T : List Dsc) (s0 : Int32) (μ : Mem) : Option (Int32 × Mem) :=
  some (s0, μ)
def f_X8_nextInt_68 (T : List Dsc) (x0 : Nat) (x1 : Int32) (μ : Mem) : Option (Int32 × Mem) :=
  if ((gI μ x0 6) - x1) ≤ (4 : Int32) then f_X8_nextInt_83 T (3 : Int32) μ else f_X8_nextInt_83 T (1 : Int32) μ
def F_X8_nextInt (T : List Dsc) (x0 : Nat) (μ : Mem) : Option (Int32 × Mem) :=
  (nmI (gI μ x0 6)).bind fun v1 => (loop (g_X8_nextInt_5 T x0 v1) μ).bind fun e3 => f_X8_nextInt_68 T x0 v1 e3
def f_X8_nextSign_73 (T : List Dsc) (s0 : Int32) (μ : Mem) : Option (Int32 × Mem) :=
  some (s0, μ)
def f_X8_nextSign_41 (T : List Dsc) (x0 : Nat) (x1 : Int32) (μ : Mem) : Option (Int32 × Mem) :=
  (pI μ x0 6 ((gI μ x0 6) + (1 : Int32))).bind fun μ1 => if x1 = (61 : Int32) then some ((11 : Int32), μ1) else if x1 = (33 : Int32) then f_X8_nextSign_73 T (12 : Int32) μ1 else f_X8_nextSign_73 T (14 : Int32) μ1
def f_X8_nextSign_74 (T : List Dsc) (x1 : Int32) (μ : Mem) : Option (Int32 × Mem) :=
  if x1 = (40 : Int32) then some ((15 : Int32), μ) else if x1 = (41 : Int32) then some ((16 : Int32), μ) else if x1 = (42 : Int32) then some ((9 : Int32), μ) else if x1 = (43 : Int32) then some ((7 : Int32), μ) else if x1 = (44 : Int32) then some ((6 : Int32), μ) else if x1 = (45 : Int32) then some ((8 : Int32), μ) else if x1 = (46 : Int32) then some ((1 : Int32), μ) else if x1 = (47 : Int32) then some ((10 : Int32), μ) else if x1 = (48 : Int32) then some ((1 : Int32), μ) else if x1 = (49 : Int32) then some ((1 : Int32), μ) else if x1 = (50 : Int32) then some ((1 : Int32), μ) else if x1 = (51 : Int32) then some ((1 : Int32), μ) else if x1 = (52 : Int32) then some ((1 : Int32), μ) else if x1 = (53 : Int32) then some ((1 : Int32), μ) else if x1 = (54 : Int32) then some ((1 : Int32), μ) else if x1 = (55 : Int32) then some ((1 : Int32), μ) else if x1 = (56 : Int32) then some ((1 : Int32), μ) else if x1 = (57 : Int32) then some ((1 : Int32), μ) else if x1 = (58 : Int32) then some ((1 : Int32), μ) else if x1 = (59 : Int32) then some ((4 : Int32), μ) else if x1 = (60 : Int32) then some ((13 : Int32), μ) else if x1 = (61 : Int32) then some ((5 : Int32), μ) else some ((1 : Int32), μ)
def F_X8_nextSign (T : List Dsc) (x0 : Nat) (x1 : Int32) (μ : Mem) : Option (Int32 × Mem) :=
  (pI μ x0 6 ((gI μ x0 6) + (1 : Int32))).bind fun μ1 => (F_X8_byteAt T x0 (gI μ1 x0 6) μ1).bind fun c3 => if c3.1 = (61 : Int32) then if x1 = (61 : Int32) then f_X8_nextSign_41 T x0 x1 c3.2 else if x1 = (33 : Int32) then f_X8_nextSign_41 T x0 x1 c3.2 else if x1 = (60 : Int32) then f_X8_nextSign_41 T x0 x1 c3.2 else f_X8_nextSign_74 T x1 c3.2 else f_X8_nextSign_74 T x1 c3.2
def f_X8_nextKind_46 (T : List Dsc) (s0 : Int32) (μ : Mem) : Option (Int32 × Mem) :=
  some (s0, μ)
def F_X8_nextKind (T : List Dsc) (x0 : Nat) (μ : Mem) : Option (Int32 × Mem) :=
  (F_X8_byteAt T x0 (gI μ x0 6) μ).bind fun c1 => if 0 ≤ c1.1 then (F_X8_isLetter T c1.1 c1.2).bind fun c4 => if c4.1 = 0 then (F_X8_isDigit T c1.1 c4.2).bind fun c7 => if c7.1 = 0 then (F_X8_nextSign T x0 c1.1 c7.2).bind fun c10 => f_X8_nextKind_46 T c10.1 c10.2 else (F_X8_nextInt T x0 c7.2).bind fun c12 => f_X8_nextKind_46 T c12.1 c12.2 else (F_X8_nextWord T x0 c4.2).bind fun c14 => some (c14.1, c14.2) else some ((0 : Int32), c1.2)
def f_X8_cut_20 (T : List Dsc) (x0 : Nat) (x2 : Int32) (μ : Mem) : Option ((Int32 × Mem) ⊕ ((Mem) ⊕ (Mem))) :=
  if (400 : Int32) < x2 then some (Sum.inr (Sum.inr μ)) else (F_X8_skipBlanks T x0 μ).bind fun c2 => (gA T c2 x0 3 0).bind fun a4 => (wI c2 a4.1 a4.2 x2 (gI c2 x0 6)).bind fun μ6 => (pJ μ6 x0 7 (0 : Int64)).bind fun μ8 => (gA T μ8 x0 1 0).bind fun a10 => (F_X8_nextKind T x0 μ8).bind fun c12 => (wI c12.2 a10.1 a10.2 x2 c12.1).bind fun μ14 => (gA T μ14 x0 2 1).bind fun a16 => (wJ μ14 a16.1 a16.2 x2 (gJ μ14 x0 7)).bind fun μ18 => (gA T μ18 x0 1 0).bind fun a20 => (rI μ18 a20.1 a20.2 x2).bind fun v22 => if v22 = 0 then some (Sum.inr (Sum.inl μ18)) else (gA T μ18 x0 1 0).bind fun a25 => (rI μ18 a25.1 a25.2 x2).bind fun v27 => if v27 = (1 : Int32) then some (Sum.inr (Sum.inl μ18)) else (nmI (x2 + (1 : Int32))).bind fun v30 => some (Sum.inl (v30, μ18))
def g_X8_cut_20 (T : List Dsc) (x0 : Nat) (s : Int32 × Mem) : Option ((Int32 × Mem) ⊕ ((Mem) ⊕ (Mem))) := f_X8_cut_20 T x0 s.1 s.2
def f_X8_cut_85 (T : List Dsc) (μ : Mem) : Option Mem :=
  some μ
def F_X8_cut (T : List Dsc) (x0 : Nat) (x1 : Int32) (μ : Mem) : Option Mem :=
  (gA T μ x0 4 2).bind fun a1 => (pI μ x0 5 (mnI x1 (nI a1.2))).bind fun μ3 => (pI μ3 x0 6 (0 : Int32)).bind fun μ5 => (loop (g_X8_cut_20 T x0) ((0 : Int32), μ5)).bind fun e7 => (Sum.elim (fun e7_0 => f_X8_cut_85 T e7_0) (fun e7_1 => some e7_1)) e7
def f_J7_fill_53178_5 (T : List Dsc) (x0 : Nat) (m0 : Nat) (x1 : Int32) (x2 : Int32) (x3 : Int32) (μ : Mem) : Option ((Int32 × Mem) ⊕ ((Mem))) :=
  if x3 ≤ x2 then some (Sum.inr μ) else (wI μ x0 m0 x2 x1).bind fun μ2 => (nmI (x2 + (1 : Int32))).bind fun v4 => some (Sum.inl (v4, μ2))
def g_J7_fill_53178_5 (T : List Dsc) (x0 : Nat) (m0 : Nat) (x1 : Int32) (x3 : Int32) (s : Int32 × Mem) : Option ((Int32 × Mem) ⊕ ((Mem))) := f_J7_fill_53178_5 T x0 m0 x1 s.1 x3 s.2
def F_J7_fill_53178 (T : List Dsc) (x0 : Nat) (m0 : Nat) (x1 : Int32) (μ : Mem) : Option Mem :=
  (nmI (nI m0)).bind fun v1 => (loop (g_J7_fill_53178_5 T x0 m0 x1 v1) ((0 : Int32), μ)).bind fun e3 => some e3
def F_X4_begin (T : List Dsc) (x0 : Nat) (x1 : Int32) (x2 : Nat) (μ : Mem) : Option Mem :=
  (pR μ x0 3 x2).bind fun μ1 => (gO T μ1 x0 3 6).bind fun r3 => (F_X7_clear T r3 μ1).bind fun c5 => (gO T c5 x0 0 7).bind fun r7 => (F_X8_cut T r7 x1 c5).bind fun c9 => (pI c9 x0 1 (0 : Int32)).bind fun μ11 => (gO T μ11 x0 0 7).bind fun r13 => (gA T μ11 r13 1 0).bind fun a15 => (rI μ11 a15.1 a15.2 (0 : Int32)).bind fun v17 => (pI μ11 x0 2 v17).bind fun μ19 => (pI μ19 x0 4 (0 : Int32)).bind fun μ21 => (pI μ21 x0 5 (-1 : Int32)).bind fun μ23 => (pI μ23 x0 6 (0 : Int32)).bind fun μ25 => (pI μ25 x0 11 (0 : Int32)).bind fun μ27 => (gA T μ27 x0 8 0).bind fun a29 => (F_J7_fill_53178 T a29.1 a29.2 (-1 : Int32) μ27).bind fun c31 => some c31
def f_X4_take_41 (T : List Dsc) (x0 : Nat) (s0 : Nat) (s1 : Int32) (μ : Mem) : Option (Int32 × Mem) :=
  (pI μ s0 4 s1).bind fun μ1 => (gO T μ1 x0 0 7).bind fun r3 => (gA T μ1 r3 3 0).bind fun a5 => (rI μ1 a5.1 a5.2 (gI μ1 x0 1)).bind fun v7 => (pI μ1 x0 5 v7).bind fun μ9 => some ((0 : Int32), μ9)
def f_X4_take_27 (T : List Dsc) (x0 : Nat) (x1 : Int32) (μ : Mem) : Option (Int32 × Mem) :=
  if (gI μ x0 2) = x1 then f_X4_take_41 T x0 x0 (2 : Int32) μ else f_X4_take_41 T x0 x0 (1 : Int32) μ
def F_X4_take (T : List Dsc) (x0 : Nat) (x1 : Int32) (μ : Mem) : Option (Int32 × Mem) :=
  if (gI μ x0 4) = 0 then if (gI μ x0 2) = x1 then if (gI μ x0 1) < (400 : Int32) then (pI μ x0 1 ((gI μ x0 1) + (1 : Int32))).bind fun μ4 => (gO T μ4 x0 0 7).bind fun r6 => (gA T μ4 r6 1 0).bind fun a8 => (rI μ4 a8.1 a8.2 (gI μ4 x0 1)).bind fun v10 => (pI μ4 x0 2 v10).bind fun μ12 => some ((1 : Int32), μ12) else f_X4_take_27 T x0 x1 μ else f_X4_take_27 T x0 x1 μ else some ((0 : Int32), μ)
def f_X4_taken_25 (T : List Dsc) (s0 : Int64) (μ : Mem) : Option (Int64 × Mem) :=
  some (s0, μ)
def F_X4_taken (T : List Dsc) (x0 : Nat) (μ : Mem) : Option (Int64 × Mem) :=
  if (gI μ x0 1) ≤ 0 then f_X4_taken_25 T (0 : Int64) μ else (gO T μ x0 0 7).bind fun r2 => (gA T μ r2 2 1).bind fun a4 => (rJ μ a4.1 a4.2 ((gI μ x0 1) - (1 : Int32))).bind fun v6 => f_X4_taken_25 T v6 μ
def f_X4_slipAtTaken_37 (T : List Dsc) (μ : Mem) : Option Mem :=
  some μ
def F_X4_slipAtTaken (T : List Dsc) (x0 : Nat) (x1 : Int32) (μ : Mem) : Option Mem :=
  if (gI μ x0 6) = 0 then if (gI μ x0 1) ≤ 0 then f_X4_slipAtTaken_37 T μ else (pI μ x0 6 x1).bind fun μ3 => (gO T μ3 x0 0 7).bind fun r5 => (gA T μ3 r5 3 0).bind fun a7 => (rI μ3 a7.1 a7.2 ((gI μ3 x0 1) - (1 : Int32))).bind fun v9 => (pI μ3 x0 7 v9).bind fun μ11 => f_X4_slipAtTaken_37 T μ11 else f_X4_slipAtTaken_37 T μ
def f_X4_readParts_57 (T : List Dsc) (x0 : Nat) (μ : Mem) : Option Mem :=
  (F_X4_take T x0 (4 : Int32) μ).bind fun c1 => some c1.2
def f_X4_readParts_37 (T : List Dsc) (x0 : Nat) (μ : Mem) : Option Mem :=
  (F_X4_slipAtTaken T x0 (5 : Int32) μ).bind fun c1 => f_X4_readParts_57 T x0 c1
def F_X4_readParts (T : List Dsc) (x0 : Nat) (μ : Mem) : Option Mem :=
  (F_X4_take T x0 (17 : Int32) μ).bind fun c1 => (F_X4_take T x0 (3 : Int32) c1.2).bind fun c3 => if c3.1 = 0 then f_X4_readParts_57 T x0 c3.2 else (F_X4_taken T x0 c3.2).bind fun c6 => if (lg_cmp c6.1 (3 : Int64)) < 0 then f_X4_readParts_37 T x0 c6.2 else (F_X4_taken T x0 c6.2).bind fun c9 => if (lg_cmp c9.1 (24 : Int64)) ≤ 0 then (gO T c9.2 x0 3 6).bind fun r12 => (F_X4_taken T x0 c9.2).bind fun c14 => (pI c14.2 r12 0 c14.1.toInt32).bind fun μ16 => f_X4_readParts_57 T x0 μ16 else f_X4_readParts_37 T x0 c9.2
def f_X4_fail_28 (T : List Dsc) (μ : Mem) : Option Mem :=
  some μ
def F_X4_fail (T : List Dsc) (x0 : Nat) (x1 : Int32) (μ : Mem) : Option Mem :=
  if (gI μ x0 4) = 0 then (pI μ x0 4 x1).bind fun μ2 => (gO T μ2 x0 0 7).bind fun r4 => (gA T μ2 r4 3 0).bind fun a6 => (rI μ2 a6.1 a6.2 (gI μ2 x0 1)).bind fun v8 => (pI μ2 x0 5 v8).bind fun μ10 => f_X4_fail_28 T μ10 else f_X4_fail_28 T μ
def f_X4_noteName_29 (T : List Dsc) (x0 : Nat) (x1 : Int32) (x2 : Int32) (μ : Mem) : Option ((Int32 × Mem) ⊕ ((Mem))) :=
  (nmI (x2 + (1 : Int32))).bind fun v1 => some (Sum.inl (v1, μ))
def f_X4_noteName_2 (T : List Dsc) (x0 : Nat) (x1 : Int32) (x2 : Int32) (μ : Mem) : Option ((Int32 × Mem) ⊕ ((Mem))) :=
  if (gI μ x0 11) ≤ x2 then some (Sum.inr μ) else (gA T μ x0 9 1).bind fun a2 => (rJ μ a2.1 a2.2 x2).bind fun v4 => (F_X4_taken T x0 μ).bind fun c6 => if (lg_cmp v4 c6.1) = 0 then (F_X4_slipAtTaken T x0 (3 : Int32) c6.2).bind fun c9 => f_X4_noteName_29 T x0 x1 x2 c9 else f_X4_noteName_29 T x0 x1 x2 c6.2
def g_X4_noteName_2 (T : List Dsc) (x0 : Nat) (x1 : Int32) (s : Int32 × Mem) : Option ((Int32 × Mem) ⊕ ((Mem))) := f_X4_noteName_2 T x0 x1 s.1 s.2
def f_X4_noteName_80 (T : List Dsc) (μ : Mem) : Option Mem :=
  some μ
def F_X4_noteName (T : List Dsc) (x0 : Nat) (x1 : Int32) (μ : Mem) : Option Mem :=
  (loop (g_X4_noteName_2 T x0 x1) ((0 : Int32), μ)).bind fun e1 => (gA T e1 x0 9 1).bind fun a3 => if (nI a3.2) ≤ (gI e1 x0 11) then f_X4_noteName_80 T e1 else (gA T e1 x0 9 1).bind fun a6 => (F_X4_taken T x0 e1).bind fun c8 => (wJ c8.2 a6.1 a6.2 (gI e1 x0 11) c8.1).bind fun μ10 => (gA T μ10 x0 10 0).bind fun a12 => (wI μ10 a12.1 a12.2 (gI μ10 x0 11) x1).bind fun μ14 => (pI μ14 x0 11 ((gI μ14 x0 11) + (1 : Int32))).bind fun μ16 => f_X4_noteName_80 T μ16
def f_X4_joinsAt_21 (T : List Dsc) (s0 : Int32) (μ : Mem) : Option (Int32 × Mem) :=
  (zb s0).bind fun v1 => some (v1, μ)
def f_X4_joinsAt_16 (T : List Dsc) (μ : Mem) : Option (Int32 × Mem) :=
  f_X4_joinsAt_21 T (1 : Int32) μ
def f_X4_joinsAt_39 (T : List Dsc) (s0 : Int32) (μ : Mem) : Option (Int32 × Mem) :=
  (zb s0).bind fun v1 => some (v1, μ)
def f_X4_joinsAt_34 (T : List Dsc) (μ : Mem) : Option (Int32 × Mem) :=
  f_X4_joinsAt_39 T (1 : Int32) μ
def F_X4_joinsAt (T : List Dsc) (x0 : Int32) (x1 : Int32) (μ : Mem) : Option (Int32 × Mem) :=
  if x0 = 0 then if x1 = (7 : Int32) then f_X4_joinsAt_16 T μ else if x1 = (8 : Int32) then f_X4_joinsAt_16 T μ else f_X4_joinsAt_21 T (0 : Int32) μ else if x1 = (9 : Int32) then f_X4_joinsAt_34 T μ else if x1 = (10 : Int32) then f_X4_joinsAt_34 T μ else f_X4_joinsAt_39 T (0 : Int32) μ
def f_X4_emit_22 (T : List Dsc) (μ : Mem) : Option (Int32 × Mem) :=
  some ((-1 : Int32), μ)
def F_X4_emit (T : List Dsc) (x0 : Nat) (x1 : Int32) (x2 : Int32) (μ : Mem) : Option (Int32 × Mem) :=
  (gO T μ x0 3 6).bind fun r1 => (nmI (gI μ r1 4)).bind fun v3 => if (gI μ x0 4) = 0 then if v3 < (400 : Int32) then (gO T μ x0 3 6).bind fun r7 => (gA T μ r7 3 0).bind fun a9 => (wI μ a9.1 a9.2 v3 ((x2 <<< ((6 : Int32) &&& 31)) ||| x1)).bind fun μ11 => (gO T μ11 x0 3 6).bind fun r13 => (pI μ11 r13 4 ((gI μ11 r13 4) + (1 : Int32))).bind fun μ15 => some (v3, μ15) else f_X4_emit_22 T μ else f_X4_emit_22 T μ
def f_X4_readUnit_131 (E : List Dsc → Nat → Int32 → Int32 → Mem → Option Mem) (T : List Dsc) (x0 : Nat) (μ : Mem) : Option Mem :=
  (F_X4_take T x0 (16 : Int32) μ).bind fun c1 => some c1.2
def f_X4_readUnit_87 (E : List Dsc → Nat → Int32 → Int32 → Mem → Option Mem) (T : List Dsc) (x0 : Nat) (x1 : Int32) (x2 : Int32) (μ : Mem) : Option Mem :=
  (F_X4_take T x0 (15 : Int32) μ).bind fun c1 => (E T x0 (0 : Int32) (x1 + (1 : Int32)) c1.2).bind fun c3 => if x2 = (27 : Int32) then (F_X4_take T x0 (6 : Int32) c3).bind fun c6 => (E T x0 (0 : Int32) (x1 + (1 : Int32)) c6.2).bind fun c8 => (F_X4_emit T x0 (27 : Int32) (0 : Int32) c8).bind fun c10 => f_X4_readUnit_131 E T x0 c10.2 else f_X4_readUnit_131 E T x0 c3
def f_X4_readUnit_67 (E : List Dsc → Nat → Int32 → Int32 → Mem → Option Mem) (T : List Dsc) (x0 : Nat) (x1 : Int32) (x2 : Int32) (μ : Mem) : Option Mem :=
  if (gI μ x0 2) = (15 : Int32) then if x1 < (6 : Int32) then f_X4_readUnit_87 E T x0 x1 x2 μ else (F_X4_fail T x0 (2 : Int32) μ).bind fun c3 => f_X4_readUnit_87 E T x0 x1 x2 c3 else f_X4_readUnit_87 E T x0 x1 x2 μ
def f_X4_readUnit_54 (E : List Dsc → Nat → Int32 → Int32 → Mem → Option Mem) (T : List Dsc) (x0 : Nat) (x1 : Int32) (x2 : Int32) (μ : Mem) : Option Mem :=
  if x2 = (27 : Int32) then (F_X4_take T x0 (27 : Int32) μ).bind fun c2 => f_X4_readUnit_67 E T x0 x1 x2 c2.2 else f_X4_readUnit_67 E T x0 x1 x2 μ
def F_X4_readUnit (E : List Dsc → Nat → Int32 → Int32 → Mem → Option Mem) (T : List Dsc) (x0 : Nat) (x1 : Int32) (μ : Mem) : Option Mem :=
  (nmI (gI μ x0 2)).bind fun v1 => if v1 = (3 : Int32) then (F_X4_take T x0 (3 : Int32) μ).bind fun c10 => (F_X4_taken T x0 c10.2).bind fun c12 => (F_X4_emit T x0 (3 : Int32) c12.1.toInt32 c12.2).bind fun c14 => some c14.2 else if v1 < (28 : Int32) then f_X4_readUnit_54 E T x0 x1 v1 μ else if (33 : Int32) < v1 then f_X4_readUnit_54 E T x0 x1 v1 μ else (F_X4_take T x0 v1 μ).bind fun c6 => (F_X4_emit T x0 v1 (0 : Int32) c6.2).bind fun c8 => some c8.2
def f_X4_readExpression_29 (E : List Dsc → Nat → Int32 → Int32 → Mem → Option Mem) (T : List Dsc) (x0 : Nat) (x1 : Int32) (x2 : Int32) (x3 : Int32) (μ : Mem) : Option ((Int32 × Mem) ⊕ ((Mem))) :=
  if (400 : Int32) ≤ x3 then some (Sum.inr μ) else if (gI μ x0 4) = 0 then (F_X4_joinsAt T x1 (gI μ x0 2) μ).bind fun c3 => if c3.1 = 0 then some (Sum.inr c3.2) else (nmI (gI c3.2 x0 2)).bind fun v6 => (F_X4_take T x0 v6 c3.2).bind fun c8 => (E T x0 (x1 + (1 : Int32)) x2 c8.2).bind fun c10 => (F_X4_emit T x0 v6 (0 : Int32) c10).bind fun c12 => (nmI (x3 + (1 : Int32))).bind fun v14 => some (Sum.inl (v14, c12.2)) else some (Sum.inr μ)
def g_X4_readExpression_29 (E : List Dsc → Nat → Int32 → Int32 → Mem → Option Mem) (T : List Dsc) (x0 : Nat) (x1 : Int32) (x2 : Int32) (s : Int32 × Mem) : Option ((Int32 × Mem) ⊕ ((Mem))) := f_X4_readExpression_29 E T x0 x1 x2 s.1 s.2
def f_X4_readExpression_89 (E : List Dsc → Nat → Int32 → Int32 → Mem → Option Mem) (T : List Dsc) (μ : Mem) : Option Mem :=
  some μ
def B_X4_readExpression (E : List Dsc → Nat → Int32 → Int32 → Mem → Option Mem) (T : List Dsc) (x0 : Nat) (x1 : Int32) (x2 : Int32) (μ : Mem) : Option Mem :=
  if (gI μ x0 4) = 0 then if x1 < (2 : Int32) then (E T x0 (x1 + (1 : Int32)) x2 μ).bind fun c3 => (loop (g_X4_readExpression_29 E T x0 x1 x2) ((0 : Int32), c3)).bind fun e5 => f_X4_readExpression_89 E T e5 else (F_X4_readUnit E T x0 x2 μ).bind fun c7 => some c7 else some μ
def F_X4_readExpression : Nat → List Dsc → Nat → Int32 → Int32 → Mem → Option Mem
  | 0, _, _, _, _, _ => none
  | n + 1, T, x0, x1, x2, μ => B_X4_readExpression (F_X4_readExpression n) T x0 x1 x2 μ
def f_X4_readRelation_43 (T : List Dsc) (x0 : Nat) (x2 : Int32) (s0 : Int32) (μ : Mem) : Option ((Int32 × Int32 × Mem) ⊕ ((Int32 × Mem))) :=
  (nmI (x2 + (1 : Int32))).bind fun v1 => some (Sum.inl (s0, v1, μ))
def f_X4_readRelation_4 (T : List Dsc) (x0 : Nat) (x1 : Int32) (x2 : Int32) (μ : Mem) : Option ((Int32 × Int32 × Mem) ⊕ ((Int32 × Mem))) :=
  if (400 : Int32) ≤ x2 then some (Sum.inr (x1, μ)) else if (gI μ x0 4) = 0 then if (gI μ x0 2) = (26 : Int32) then (F_X4_take T x0 (26 : Int32) μ).bind fun c4 => if x1 = 0 then f_X4_readRelation_43 T x0 x2 (1 : Int32) c4.2 else f_X4_readRelation_43 T x0 x2 (0 : Int32) c4.2 else some (Sum.inr (x1, μ)) else some (Sum.inr (x1, μ))
def g_X4_readRelation_4 (T : List Dsc) (x0 : Nat) (s : Int32 × Int32 × Mem) : Option ((Int32 × Int32 × Mem) ⊕ ((Int32 × Mem))) := f_X4_readRelation_4 T x0 s.1 s.2.1 s.2.2
def f_X4_readRelation_109 (T : List Dsc) (μ : Mem) : Option Mem :=
  some μ
def f_X4_readRelation_78 (T : List Dsc) (x0 : Nat) (x1 : Int32) (x2 : Int32) (μ : Mem) : Option Mem :=
  (F_X4_take T x0 x2 μ).bind fun c1 => ((F_X4_readExpression 24) T x0 (0 : Int32) (0 : Int32) c1.2).bind fun c3 => (F_X4_emit T x0 x2 (0 : Int32) c3).bind fun c5 => if x1 = 0 then f_X4_readRelation_109 T c5.2 else (F_X4_emit T x0 (26 : Int32) (0 : Int32) c5.2).bind fun c8 => f_X4_readRelation_109 T c8.2
def f_X4_readRelation_73 (T : List Dsc) (x0 : Nat) (x1 : Int32) (x2 : Int32) (μ : Mem) : Option Mem :=
  (F_X4_fail T x0 (1 : Int32) μ).bind fun c1 => f_X4_readRelation_78 T x0 x1 x2 c1
def f_X4_readRelation_50 (T : List Dsc) (x0 : Nat) (x1 : Int32) (μ : Mem) : Option Mem :=
  ((F_X4_readExpression 24) T x0 (0 : Int32) (0 : Int32) μ).bind fun c1 => (nmI (gI c1 x0 2)).bind fun v3 => if v3 < (11 : Int32) then f_X4_readRelation_73 T x0 x1 v3 c1 else if v3 ≤ (14 : Int32) then f_X4_readRelation_78 T x0 x1 v3 c1 else f_X4_readRelation_73 T x0 x1 v3 c1
def F_X4_readRelation (T : List Dsc) (x0 : Nat) (μ : Mem) : Option Mem :=
  (loop (g_X4_readRelation_4 T x0) ((0 : Int32), (0 : Int32), μ)).bind fun e1 => f_X4_readRelation_50 T x0 e1.1 e1.2
def f_X4_land_37 (T : List Dsc) (μ : Mem) : Option Mem :=
  some μ
def F_X4_land (T : List Dsc) (x0 : Nat) (x1 : Int32) (μ : Mem) : Option Mem :=
  if x1 = (-1 : Int32) then f_X4_land_37 T μ else (gO T μ x0 3 6).bind fun r2 => (gA T μ r2 3 0).bind fun a4 => (gO T μ x0 3 6).bind fun r6 => (gO T μ x0 3 6).bind fun r8 => (gA T μ r8 3 0).bind fun a10 => (rI μ a10.1 a10.2 x1).bind fun v12 => (wI μ a4.1 a4.2 x1 (((gI μ r6 4) <<< ((6 : Int32) &&& 31)) ||| (v12 &&& (63 : Int32)))).bind fun μ14 => f_X4_land_37 T μ14
def f_X4_landChain_4 (T : List Dsc) (x0 : Nat) (x2 : Int32) (x3 : Int32) (μ : Mem) : Option ((Int32 × Int32 × Mem) ⊕ ((Mem))) :=
  if (400 : Int32) ≤ x3 then some (Sum.inr μ) else if x2 = (-1 : Int32) then some (Sum.inr μ) else (gO T μ x0 3 6).bind fun r3 => (gA T μ r3 3 0).bind fun a5 => (rI μ a5.1 a5.2 x2).bind fun v7 => (nmI ((v7 >>> ((6 : Int32) &&& 31)) - (1 : Int32))).bind fun v9 => (F_X4_land T x0 x2 μ).bind fun c11 => (nmI (x3 + (1 : Int32))).bind fun v13 => some (Sum.inl (v9, v13, c11))
def g_X4_landChain_4 (T : List Dsc) (x0 : Nat) (s : Int32 × Int32 × Mem) : Option ((Int32 × Int32 × Mem) ⊕ ((Mem))) := f_X4_landChain_4 T x0 s.1 s.2.1 s.2.2
def f_X4_landChain_46 (T : List Dsc) (μ : Mem) : Option Mem :=
  some μ
def F_X4_landChain (T : List Dsc) (x0 : Nat) (x1 : Int32) (μ : Mem) : Option Mem :=
  (loop (g_X4_landChain_4 T x0) (x1, (0 : Int32), μ)).bind fun e1 => f_X4_landChain_46 T e1
def f_X4_readCondition_95 (T : List Dsc) (x0 : Nat) (x1 : Int32) (x2 : Int32) (x3 : Int32) (μ : Mem) : Option ((Int32 × Int32 × Int32 × Mem) ⊕ ((Int32 × Int32 × Mem))) :=
  (F_X4_readRelation T x0 μ).bind fun c1 => (nmI (x3 + (1 : Int32))).bind fun v3 => some (Sum.inl (x1, x2, v3, c1))
def f_X4_readCondition_42 (T : List Dsc) (x0 : Nat) (x1 : Int32) (x2 : Int32) (x3 : Int32) (μ : Mem) : Option ((Int32 × Int32 × Int32 × Mem) ⊕ ((Int32 × Int32 × Mem))) :=
  if (gI μ x0 2) = (25 : Int32) then (F_X4_take T x0 (25 : Int32) μ).bind fun c8 => (F_X4_emit T x0 (25 : Int32) (x1 + (1 : Int32)) c8.2).bind fun c10 => f_X4_readCondition_95 T x0 c10.1 x2 x3 c10.2 else (F_X4_take T x0 (24 : Int32) μ).bind fun c2 => (F_X4_landChain T x0 x1 c2.2).bind fun c4 => (F_X4_emit T x0 (24 : Int32) (x2 + (1 : Int32)) c4).bind fun c6 => f_X4_readCondition_95 T x0 (-1 : Int32) c6.1 x3 c6.2
def f_X4_readCondition_10 (T : List Dsc) (x0 : Nat) (x1 : Int32) (x2 : Int32) (x3 : Int32) (μ : Mem) : Option ((Int32 × Int32 × Int32 × Mem) ⊕ ((Int32 × Int32 × Mem))) :=
  if (400 : Int32) ≤ x3 then some (Sum.inr (x1, x2, μ)) else if (gI μ x0 4) = 0 then if (gI μ x0 2) = (25 : Int32) then f_X4_readCondition_42 T x0 x1 x2 x3 μ else if (gI μ x0 2) = (24 : Int32) then f_X4_readCondition_42 T x0 x1 x2 x3 μ else some (Sum.inr (x1, x2, μ)) else some (Sum.inr (x1, x2, μ))
def g_X4_readCondition_10 (T : List Dsc) (x0 : Nat) (s : Int32 × Int32 × Int32 × Mem) : Option ((Int32 × Int32 × Int32 × Mem) ⊕ ((Int32 × Int32 × Mem))) := f_X4_readCondition_10 T x0 s.1 s.2.1 s.2.2.1 s.2.2.2
def f_X4_readCondition_105 (T : List Dsc) (x0 : Nat) (x1 : Int32) (x2 : Int32) (μ : Mem) : Option Mem :=
  (F_X4_landChain T x0 x1 μ).bind fun c1 => (F_X4_landChain T x0 x2 c1).bind fun c3 => some c3
def F_X4_readCondition (T : List Dsc) (x0 : Nat) (μ : Mem) : Option Mem :=
  (F_X4_readRelation T x0 μ).bind fun c1 => (loop (g_X4_readCondition_10 T x0) ((-1 : Int32), (-1 : Int32), (0 : Int32), c1)).bind fun e3 => f_X4_readCondition_105 T x0 e3.1 e3.2.1 e3.2.2
def f_X4_readLaw_107 (T : List Dsc) (x0 : Nat) (x1 : Int32) (μ : Mem) : Option ((Int32 × Mem) ⊕ ((Mem))) :=
  (F_X4_take T x0 (21 : Int32) μ).bind fun c1 => (F_X4_readCondition T x0 c1.2).bind fun c3 => (F_X4_take T x0 (22 : Int32) c3).bind fun c5 => (F_X4_emit T x0 (21 : Int32) (0 : Int32) c5.2).bind fun c7 => ((F_X4_readExpression 24) T x0 (0 : Int32) (0 : Int32) c7.2).bind fun c9 => (F_X4_take T x0 (23 : Int32) c9).bind fun c11 => (F_X4_emit T x0 (23 : Int32) (0 : Int32) c11.2).bind fun c13 => (F_X4_land T x0 c7.1 c13.2).bind fun c15 => (nmI (x1 + (1 : Int32))).bind fun v17 => some (Sum.inl (v17, c15))
def f_X4_readLaw_74 (T : List Dsc) (x0 : Nat) (x1 : Int32) (μ : Mem) : Option ((Int32 × Mem) ⊕ ((Mem))) :=
  if (8 : Int32) < x1 then some (Sum.inr μ) else if (gI μ x0 4) = 0 then if (gI μ x0 2) = (21 : Int32) then if x1 = (8 : Int32) then (F_X4_fail T x0 (2 : Int32) μ).bind fun c5 => f_X4_readLaw_107 T x0 x1 c5 else f_X4_readLaw_107 T x0 x1 μ else some (Sum.inr μ) else some (Sum.inr μ)
def g_X4_readLaw_74 (T : List Dsc) (x0 : Nat) (s : Int32 × Mem) : Option ((Int32 × Mem) ⊕ ((Mem))) := f_X4_readLaw_74 T x0 s.1 s.2
def f_X4_readLaw_165 (T : List Dsc) (x0 : Nat) (μ : Mem) : Option Mem :=
  ((F_X4_readExpression 24) T x0 (0 : Int32) (0 : Int32) μ).bind fun c1 => (F_X4_take T x0 (4 : Int32) c1).bind fun c3 => (F_X4_emit T x0 (23 : Int32) (0 : Int32) c3.2).bind fun c5 => (gO T c5.2 x0 3 6).bind fun r7 => (pI c5.2 r7 1 ((gI c5.2 r7 1) + (1 : Int32))).bind fun μ9 => some μ9
def f_X4_readLaw_44 (T : List Dsc) (x0 : Nat) (μ : Mem) : Option Mem :=
  (F_X4_take T x0 (5 : Int32) μ).bind fun c1 => (gO T c1.2 x0 3 6).bind fun r3 => (gA T c1.2 r3 2 0).bind fun a5 => (gO T c1.2 x0 3 6).bind fun r7 => (gO T c1.2 x0 3 6).bind fun r9 => (wI c1.2 a5.1 a5.2 (gI c1.2 r7 1) (gI c1.2 r9 4)).bind fun μ11 => (loop (g_X4_readLaw_74 T x0) ((0 : Int32), μ11)).bind fun e13 => f_X4_readLaw_165 T x0 e13
def F_X4_readLaw (T : List Dsc) (x0 : Nat) (μ : Mem) : Option Mem :=
  (gO T μ x0 3 6).bind fun r1 => if (gI μ r1 1) < (6 : Int32) then (F_X4_take T x0 (18 : Int32) μ).bind fun c4 => (F_X4_take T x0 (2 : Int32) c4.2).bind fun c6 => if c6.1 = 0 then f_X4_readLaw_44 T x0 c6.2 else (gO T c6.2 x0 3 6).bind fun r9 => (F_X4_noteName T x0 (gI c6.2 r9 1) c6.2).bind fun c11 => f_X4_readLaw_44 T x0 c11 else (F_X4_fail T x0 (2 : Int32) μ).bind fun c13 => some c13
def f_X4_lawNamed_38 (T : List Dsc) (x0 : Nat) (x1 : Int64) (x3 : Int32) (μ : Mem) : Option ((Int32 × Mem) ⊕ ((Int32 × Mem) ⊕ (Mem))) :=
  (nmI (x3 + (1 : Int32))).bind fun v1 => some (Sum.inl (v1, μ))
def f_X4_lawNamed_2 (T : List Dsc) (x0 : Nat) (x1 : Int64) (x3 : Int32) (μ : Mem) : Option ((Int32 × Mem) ⊕ ((Int32 × Mem) ⊕ (Mem))) :=
  if (gI μ x0 11) ≤ x3 then some (Sum.inr (Sum.inr μ)) else (gA T μ x0 9 1).bind fun a2 => (rJ μ a2.1 a2.2 x3).bind fun v4 => if (lg_cmp v4 x1) = 0 then (gA T μ x0 10 0).bind fun a7 => (rI μ a7.1 a7.2 x3).bind fun v9 => if v9 = (-1 : Int32) then f_X4_lawNamed_38 T x0 x1 x3 μ else some (Sum.inr (Sum.inl (x3, μ))) else f_X4_lawNamed_38 T x0 x1 x3 μ
def g_X4_lawNamed_2 (T : List Dsc) (x0 : Nat) (x1 : Int64) (s : Int32 × Mem) : Option ((Int32 × Mem) ⊕ ((Int32 × Mem) ⊕ (Mem))) := f_X4_lawNamed_2 T x0 x1 s.1 s.2
def F_X4_lawNamed (T : List Dsc) (x0 : Nat) (x1 : Int64) (μ : Mem) : Option (Int32 × Mem) :=
  (loop (g_X4_lawNamed_2 T x0 x1) ((0 : Int32), μ)).bind fun e1 => (Sum.elim (fun e1_0 => (gA T e1_0.2 x0 10 0).bind fun a3 => (rI e1_0.2 a3.1 a3.2 e1_0.1).bind fun v5 => some (v5, e1_0.2)) (fun e1_1 => some ((-1 : Int32), e1_1))) e1
def f_X4_noteBeyond_55 (T : List Dsc) (x0 : Nat) (x1 : Int32) (μ : Mem) : Option ((Int32 × Mem) ⊕ ((Mem))) :=
  (nmI (x1 + (1 : Int32))).bind fun v1 => some (Sum.inl (v1, μ))
def f_X4_noteBeyond_2 (T : List Dsc) (x0 : Nat) (x1 : Int32) (μ : Mem) : Option ((Int32 × Mem) ⊕ ((Mem))) :=
  if (24 : Int32) < x1 then some (Sum.inr μ) else if (gI μ x0 1) ≤ 0 then f_X4_noteBeyond_55 T x0 x1 μ else (F_X4_taken T x0 μ).bind fun c3 => if (lg_cmp c3.1 x1.toInt64) < 0 then f_X4_noteBeyond_55 T x0 x1 c3.2 else (gA T c3.2 x0 8 0).bind fun a6 => (rI c3.2 a6.1 a6.2 x1).bind fun v8 => if v8 = (-1 : Int32) then (gA T c3.2 x0 8 0).bind fun a11 => (gO T c3.2 x0 0 7).bind fun r13 => (gA T c3.2 r13 3 0).bind fun a15 => (rI c3.2 a15.1 a15.2 ((gI c3.2 x0 1) - (1 : Int32))).bind fun v17 => (wI c3.2 a11.1 a11.2 x1 v17).bind fun μ19 => f_X4_noteBeyond_55 T x0 x1 μ19 else f_X4_noteBeyond_55 T x0 x1 c3.2
def g_X4_noteBeyond_2 (T : List Dsc) (x0 : Nat) (s : Int32 × Mem) : Option ((Int32 × Mem) ⊕ ((Mem))) := f_X4_noteBeyond_2 T x0 s.1 s.2
def F_X4_noteBeyond (T : List Dsc) (x0 : Nat) (μ : Mem) : Option Mem :=
  (loop (g_X4_noteBeyond_2 T x0) ((3 : Int32), μ)).bind fun e1 => some e1
def f_X4_readMan_134 (T : List Dsc) (x0 : Nat) (μ : Mem) : Option Mem :=
  (F_X4_take T x0 (4 : Int32) μ).bind fun c1 => (gO T c1.2 x0 3 6).bind fun r3 => (pI c1.2 r3 5 ((gI c1.2 r3 5) + (1 : Int32))).bind fun μ5 => some μ5
def f_X4_readMan_93 (T : List Dsc) (x0 : Nat) (μ : Mem) : Option Mem :=
  (F_X4_take T x0 (3 : Int32) μ).bind fun c1 => if c1.1 = 0 then f_X4_readMan_134 T x0 c1.2 else (F_X4_noteBeyond T x0 c1.2).bind fun c4 => (gO T c4 x0 3 6).bind fun r6 => (gO T c4 x0 3 6).bind fun r8 => (gO T c4 x0 3 6).bind fun r10 => (F_X4_taken T x0 c4).bind fun c12 => (F_X11_withTime T (gJ c4 r8 7) (gI c4 r10 5) c12.1.toInt32 c12.2).bind fun c14 => (pJ c14.2 r6 7 c14.1).bind fun μ16 => f_X4_readMan_134 T x0 μ16
def f_X4_readMan_38 (T : List Dsc) (x0 : Nat) (μ : Mem) : Option Mem :=
  (F_X4_take T x0 (2 : Int32) μ).bind fun c1 => if c1.1 = 0 then f_X4_readMan_93 T x0 c1.2 else (gO T c1.2 x0 3 6).bind fun r4 => (gA T c1.2 r4 6 0).bind fun a6 => (gO T c1.2 x0 3 6).bind fun r8 => (F_X4_taken T x0 c1.2).bind fun c10 => (F_X4_lawNamed T x0 c10.1 c10.2).bind fun c12 => (wI c12.2 a6.1 a6.2 (gI c1.2 r8 5) c12.1).bind fun μ14 => (gO T μ14 x0 3 6).bind fun r16 => (gA T μ14 r16 6 0).bind fun a18 => (gO T μ14 x0 3 6).bind fun r20 => (rI μ14 a18.1 a18.2 (gI μ14 r20 5)).bind fun v22 => if v22 = (-1 : Int32) then (F_X4_slipAtTaken T x0 (4 : Int32) μ14).bind fun c25 => f_X4_readMan_93 T x0 c25 else f_X4_readMan_93 T x0 μ14
def F_X4_readMan (T : List Dsc) (x0 : Nat) (μ : Mem) : Option Mem :=
  (gO T μ x0 3 6).bind fun r1 => if (gI μ r1 5) < (12 : Int32) then (F_X4_take T x0 (19 : Int32) μ).bind fun c4 => (F_X4_take T x0 (2 : Int32) c4.2).bind fun c6 => if c6.1 = 0 then f_X4_readMan_38 T x0 c6.2 else (F_X4_noteName T x0 (-1 : Int32) c6.2).bind fun c9 => f_X4_readMan_38 T x0 c9 else (F_X4_fail T x0 (2 : Int32) μ).bind fun c11 => some c11
def f_X4_readDrum_67 (T : List Dsc) (x0 : Nat) (μ : Mem) : Option Mem :=
  (F_X4_take T x0 (4 : Int32) μ).bind fun c1 => some c1.2
def f_X4_readDrum_55 (T : List Dsc) (x0 : Nat) (μ : Mem) : Option Mem :=
  (gO T μ x0 3 6).bind fun r1 => (F_X4_taken T x0 μ).bind fun c3 => (pI c3.2 r1 9 c3.1.toInt32).bind fun μ5 => f_X4_readDrum_67 T x0 μ5
def f_X4_readDrum_31 (T : List Dsc) (x0 : Nat) (μ : Mem) : Option Mem :=
  (F_X4_take T x0 (3 : Int32) μ).bind fun c1 => if c1.1 = 0 then f_X4_readDrum_67 T x0 c1.2 else (F_X4_taken T x0 c1.2).bind fun c4 => if (lg_cmp c4.1 (23 : Int64)) ≤ 0 then f_X4_readDrum_55 T x0 c4.2 else (F_X4_slipAtTaken T x0 (5 : Int32) c4.2).bind fun c7 => f_X4_readDrum_55 T x0 c7
def F_X4_readDrum (T : List Dsc) (x0 : Nat) (μ : Mem) : Option Mem :=
  (F_X4_take T x0 (31 : Int32) μ).bind fun c1 => (F_X4_take T x0 (3 : Int32) c1.2).bind fun c3 => if c3.1 = 0 then f_X4_readDrum_31 T x0 c3.2 else (F_X4_noteBeyond T x0 c3.2).bind fun c6 => (gO T c6 x0 3 6).bind fun r8 => (F_X4_taken T x0 c6).bind fun c10 => (pI c10.2 r8 8 c10.1.toInt32).bind fun μ12 => f_X4_readDrum_31 T x0 μ12
def f_X4_readSong_31 (T : List Dsc) (x0 : Nat) (μ : Mem) : Option Mem :=
  (F_X4_take T x0 (4 : Int32) μ).bind fun c1 => some c1.2
def F_X4_readSong (T : List Dsc) (x0 : Nat) (μ : Mem) : Option Mem :=
  (F_X4_take T x0 (33 : Int32) μ).bind fun c1 => (F_X4_take T x0 (3 : Int32) c1.2).bind fun c3 => if c3.1 = 0 then f_X4_readSong_31 T x0 c3.2 else (F_X4_noteBeyond T x0 c3.2).bind fun c6 => (gO T c6 x0 3 6).bind fun r8 => (F_X4_taken T x0 c6).bind fun c10 => (pI c10.2 r8 10 c10.1.toInt32).bind fun μ12 => f_X4_readSong_31 T x0 μ12
def f_X4_readFog_136 (T : List Dsc) (x0 : Nat) (μ : Mem) : Option Mem :=
  (F_X4_take T x0 (4 : Int32) μ).bind fun c1 => (gO T c1.2 x0 3 6).bind fun r3 => (pI c1.2 r3 11 ((gI c1.2 r3 11) + (1 : Int32))).bind fun μ5 => some μ5
def f_X4_readFog_131 (T : List Dsc) (x0 : Nat) (μ : Mem) : Option Mem :=
  (F_X4_slipAtTaken T x0 (5 : Int32) μ).bind fun c1 => f_X4_readFog_136 T x0 c1
def f_X4_readFog_68 (T : List Dsc) (x0 : Nat) (μ : Mem) : Option Mem :=
  (F_X4_take T x0 (3 : Int32) μ).bind fun c1 => if c1.1 = 0 then f_X4_readFog_136 T x0 c1.2 else (gO T c1.2 x0 3 6).bind fun r4 => (gA T c1.2 r4 13 0).bind fun a6 => (gO T c1.2 x0 3 6).bind fun r8 => (F_X4_taken T x0 c1.2).bind fun c10 => (wI c10.2 a6.1 a6.2 (gI c1.2 r8 11) c10.1.toInt32).bind fun μ12 => (F_X4_taken T x0 μ12).bind fun c14 => if 0 < (lg_cmp c14.1 (999 : Int64)) then f_X4_readFog_131 T x0 c14.2 else (F_X4_taken T x0 c14.2).bind fun c17 => (gO T c17.2 x0 3 6).bind fun r19 => (gA T c17.2 r19 12 0).bind fun a21 => (gO T c17.2 x0 3 6).bind fun r23 => (rI c17.2 a21.1 a21.2 (gI c17.2 r23 11)).bind fun v25 => if 0 ≤ (lg_cmp c17.1 v25.toInt64) then f_X4_readFog_136 T x0 c17.2 else f_X4_readFog_131 T x0 c17.2
def F_X4_readFog (T : List Dsc) (x0 : Nat) (μ : Mem) : Option Mem :=
  (gO T μ x0 3 6).bind fun r1 => if (gI μ r1 11) < (4 : Int32) then (F_X4_take T x0 (20 : Int32) μ).bind fun c4 => (F_X4_take T x0 (3 : Int32) c4.2).bind fun c6 => if c6.1 = 0 then f_X4_readFog_68 T x0 c6.2 else (gO T c6.2 x0 3 6).bind fun r9 => (gA T c6.2 r9 12 0).bind fun a11 => (gO T c6.2 x0 3 6).bind fun r13 => (F_X4_taken T x0 c6.2).bind fun c15 => (wI c15.2 a11.1 a11.2 (gI c6.2 r13 11) c15.1.toInt32).bind fun μ17 => (F_X4_taken T x0 μ17).bind fun c19 => if (lg_cmp c19.1 (999 : Int64)) ≤ 0 then f_X4_readFog_68 T x0 c19.2 else (F_X4_slipAtTaken T x0 (5 : Int32) c19.2).bind fun c22 => f_X4_readFog_68 T x0 c22 else (F_X4_fail T x0 (2 : Int32) μ).bind fun c24 => some c24
def f_X4_takeLaterFault_64 (T : List Dsc) (μ : Mem) : Option Mem :=
  some μ
def F_X4_takeLaterFault (T : List Dsc) (x0 : Nat) (μ : Mem) : Option Mem :=
  if (gI μ x0 6) = 0 then (gA T μ x0 8 0).bind fun a2 => (gO T μ x0 3 6).bind fun r4 => (rI μ a2.1 a2.2 (gI μ r4 0)).bind fun v6 => if v6 = (-1 : Int32) then f_X4_takeLaterFault_64 T μ else (pI μ x0 4 (6 : Int32)).bind fun μ9 => (gA T μ9 x0 8 0).bind fun a11 => (gO T μ9 x0 3 6).bind fun r13 => (rI μ9 a11.1 a11.2 (gI μ9 r13 0)).bind fun v15 => (pI μ9 x0 5 v15).bind fun μ17 => f_X4_takeLaterFault_64 T μ17 else (pI μ x0 4 (gI μ x0 6)).bind fun μ19 => (pI μ19 x0 5 (gI μ19 x0 7)).bind fun μ21 => f_X4_takeLaterFault_64 T μ21
def f_X4_readTape_163 (T : List Dsc) (x0 : Nat) (x3 : Int32) (μ : Mem) : Option ((Int32 × Mem) ⊕ ((Mem))) :=
  (nmI (x3 + (1 : Int32))).bind fun v1 => some (Sum.inl (v1, μ))
def f_X4_readTape_8 (T : List Dsc) (x0 : Nat) (x3 : Int32) (μ : Mem) : Option ((Int32 × Mem) ⊕ ((Mem))) :=
  if (400 : Int32) < x3 then some (Sum.inr μ) else if (gI μ x0 4) = 0 then if (gI μ x0 2) = 0 then some (Sum.inr μ) else if (gI μ x0 2) = (17 : Int32) then (F_X4_readParts T x0 μ).bind fun c5 => f_X4_readTape_163 T x0 x3 c5 else if (gI μ x0 2) = (18 : Int32) then (F_X4_readLaw T x0 μ).bind fun c8 => f_X4_readTape_163 T x0 x3 c8 else if (gI μ x0 2) = (19 : Int32) then (F_X4_readMan T x0 μ).bind fun c11 => f_X4_readTape_163 T x0 x3 c11 else if (gI μ x0 2) = (20 : Int32) then (F_X4_readFog T x0 μ).bind fun c14 => f_X4_readTape_163 T x0 x3 c14 else if (gI μ x0 2) = (21 : Int32) then (F_X4_fail T x0 (1 : Int32) μ).bind fun c17 => f_X4_readTape_163 T x0 x3 c17 else if (gI μ x0 2) = (22 : Int32) then (F_X4_fail T x0 (1 : Int32) μ).bind fun c20 => f_X4_readTape_163 T x0 x3 c20 else if (gI μ x0 2) = (23 : Int32) then (F_X4_fail T x0 (1 : Int32) μ).bind fun c23 => f_X4_readTape_163 T x0 x3 c23 else if (gI μ x0 2) = (24 : Int32) then (F_X4_fail T x0 (1 : Int32) μ).bind fun c26 => f_X4_readTape_163 T x0 x3 c26 else if (gI μ x0 2) = (25 : Int32) then (F_X4_fail T x0 (1 : Int32) μ).bind fun c29 => f_X4_readTape_163 T x0 x3 c29 else if (gI μ x0 2) = (26 : Int32) then (F_X4_fail T x0 (1 : Int32) μ).bind fun c32 => f_X4_readTape_163 T x0 x3 c32 else if (gI μ x0 2) = (27 : Int32) then (F_X4_fail T x0 (1 : Int32) μ).bind fun c35 => f_X4_readTape_163 T x0 x3 c35 else if (gI μ x0 2) = (28 : Int32) then (F_X4_fail T x0 (1 : Int32) μ).bind fun c38 => f_X4_readTape_163 T x0 x3 c38 else if (gI μ x0 2) = (29 : Int32) then (F_X4_fail T x0 (1 : Int32) μ).bind fun c41 => f_X4_readTape_163 T x0 x3 c41 else if (gI μ x0 2) = (30 : Int32) then (F_X4_fail T x0 (1 : Int32) μ).bind fun c44 => f_X4_readTape_163 T x0 x3 c44 else if (gI μ x0 2) = (31 : Int32) then (F_X4_readDrum T x0 μ).bind fun c47 => f_X4_readTape_163 T x0 x3 c47 else if (gI μ x0 2) = (32 : Int32) then (F_X4_fail T x0 (1 : Int32) μ).bind fun c50 => f_X4_readTape_163 T x0 x3 c50 else if (gI μ x0 2) = (33 : Int32) then (F_X4_readSong T x0 μ).bind fun c53 => f_X4_readTape_163 T x0 x3 c53 else (F_X4_fail T x0 (1 : Int32) μ).bind fun c55 => f_X4_readTape_163 T x0 x3 c55 else some (Sum.inr μ)
def g_X4_readTape_8 (T : List Dsc) (x0 : Nat) (s : Int32 × Mem) : Option ((Int32 × Mem) ⊕ ((Mem))) := f_X4_readTape_8 T x0 s.1 s.2
def f_X4_readTape_180 (T : List Dsc) (x0 : Nat) (μ : Mem) : Option (Int32 × Mem) :=
  some (gI μ x0 4, μ)
def f_X4_readTape_169 (T : List Dsc) (x0 : Nat) (μ : Mem) : Option (Int32 × Mem) :=
  if (gI μ x0 4) = 0 then (F_X4_takeLaterFault T x0 μ).bind fun c2 => f_X4_readTape_180 T x0 c2 else f_X4_readTape_180 T x0 μ
def F_X4_readTape (T : List Dsc) (x0 : Nat) (x1 : Int32) (x2 : Nat) (μ : Mem) : Option (Int32 × Mem) :=
  (F_X4_begin T x0 x1 x2 μ).bind fun c1 => (loop (g_X4_readTape_8 T x0) ((0 : Int32), c1)).bind fun e3 => f_X4_readTape_169 T x0 e3
def f_X5_stroke_17 (T : List Dsc) (x0 : Nat) (x1 : Int64) (x3 : Nat) (m3 : Nat) (x4 : Int32) (x5 : Int32) (x6 : Int64) (x8 : Int32) (x9 : Int32) (x10 : Int32) (μ : Mem) : Option ((Int64 × Int32 × Int32 × Int32 × Mem) ⊕ ((Int64 × Mem))) :=
  (gO T μ x0 0 6).bind fun r1 => if (gI μ r1 5) ≤ x10 then some (Sum.inr (x6, μ)) else if (nI m3) ≤ x10 then some (Sum.inr (x6, μ)) else (F_X11_timeAt T x1 x10 μ).bind fun c5 => (rI c5.2 x3 m3 x10).bind fun v7 => (F_X5_turned T x0 v7 x10 c5.1 x8 x9 x4 x5 c5.2).bind fun c9 => (F_X11_withTime T x6 x10 c9.1 c9.2).bind fun c11 => (nmI (x10 + (1 : Int32))).bind fun v13 => some (Sum.inl (c11.1, c5.1, x8, v13, c11.2))
def g_X5_stroke_17 (T : List Dsc) (x0 : Nat) (x1 : Int64) (x3 : Nat) (m3 : Nat) (x4 : Int32) (x5 : Int32) (s : Int64 × Int32 × Int32 × Int32 × Mem) : Option ((Int64 × Int32 × Int32 × Int32 × Mem) ⊕ ((Int64 × Mem))) := f_X5_stroke_17 T x0 x1 x3 m3 x4 x5 s.1 s.2.1 s.2.2.1 s.2.2.2.1 s.2.2.2.2
def f_X5_stroke_87 (T : List Dsc) (x6 : Int64) (μ : Mem) : Option (Int64 × Mem) :=
  some (x6, μ)
def F_X5_stroke (T : List Dsc) (x0 : Nat) (x1 : Int64) (x3 : Nat) (m3 : Nat) (x4 : Int32) (x5 : Int32) (μ : Mem) : Option (Int64 × Mem) :=
  (F_X11_timeAt T x1 (0 : Int32) μ).bind fun c1 => (loop (g_X5_stroke_17 T x0 x1 x3 m3 x4 x5) ((0 : Int64), c1.1, c1.1, (0 : Int32), c1.2)).bind fun e3 => f_X5_stroke_87 T e3.1 e3.2
def F_X5_gapAhead (T : List Dsc) (x0 : Nat) (x1 : Int64) (x3 : Int32) (μ : Mem) : Option (Int32 × Mem) :=
  (F_X11_timeAt T x1 x3 μ).bind fun c1 => (F_X11_timeAt T x1 (x3 - (1 : Int32)) c1.2).bind fun c3 => (F_X5_gap T x0 c1.1 c3.1 c3.2).bind fun c5 => some (c5.1, c5.2)
def f_X5_clashBits_53 (T : List Dsc) (x0 : Nat) (x1 : Int64) (x3 : Int32) (x4 : Int32) (x5 : Int32) (μ : Mem) : Option ((Int32 × Int32 × Mem) ⊕ ((Int32 × Mem))) :=
  (nmI (x5 + (1 : Int32))).bind fun v1 => some (Sum.inl (x4, v1, μ))
def f_X5_clashBits_18 (T : List Dsc) (x0 : Nat) (x1 : Int64) (x3 : Int32) (x4 : Int32) (x5 : Int32) (μ : Mem) : Option ((Int32 × Int32 × Mem) ⊕ ((Int32 × Mem))) :=
  (gO T μ x0 0 6).bind fun r1 => if (gI μ r1 5) ≤ x5 then some (Sum.inr (x4, μ)) else (F_X5_gapAhead T x0 x1 x5 μ).bind fun c4 => if (abI c4.1) < x3 then f_X5_clashBits_53 T x0 x1 x3 x4 x5 c4.2 else (nmI (x4 ||| ((1 : Int32) <<< (x5 &&& 31)))).bind fun v7 => f_X5_clashBits_53 T x0 x1 x3 v7 x5 c4.2
def g_X5_clashBits_18 (T : List Dsc) (x0 : Nat) (x1 : Int64) (x3 : Int32) (s : Int32 × Int32 × Mem) : Option ((Int32 × Int32 × Mem) ⊕ ((Int32 × Mem))) := f_X5_clashBits_18 T x0 x1 x3 s.1 s.2.1 s.2.2
def F_X5_clashBits (T : List Dsc) (x0 : Nat) (x1 : Int64) (μ : Mem) : Option (Int32 × Mem) :=
  (gO T μ x0 0 6).bind fun r1 => (dvI ((gI μ r1 0) + (2 : Int32)) (3 : Int32)).bind fun v3 => (loop (g_X5_clashBits_18 T x0 x1 v3) ((0 : Int32), (1 : Int32), μ)).bind fun e5 => some (e5.1, e5.2)
def f_X5_menNear_15 (T : List Dsc) (μ : Mem) : Option (Int32 × Mem) :=
  some ((0 : Int32), μ)
def f_X5_menNear_57 (T : List Dsc) (x0 : Nat) (x1 : Int32) (x2 : Int32) (s0 : Int32) (μ : Mem) : Option (Int32 × Mem) :=
  (gA T μ x0 3 0).bind fun a1 => (rI μ a1.1 a1.2 x2).bind fun v3 => (gA T μ x0 3 0).bind fun a5 => (rI μ a5.1 a5.2 x1).bind fun v7 => (gA T μ x0 3 0).bind fun a9 => (rI μ a9.1 a9.2 s0).bind fun v11 => some ((v3 + v7) + v11, μ)
def f_X5_menNear_36 (T : List Dsc) (x0 : Nat) (x1 : Int32) (s0 : Int32) (μ : Mem) : Option (Int32 × Mem) :=
  (gO T μ x0 0 6).bind fun r1 => if x1 = ((gI μ r1 0) - (1 : Int32)) then f_X5_menNear_57 T x0 x1 s0 (0 : Int32) μ else f_X5_menNear_57 T x0 x1 s0 (x1 + (1 : Int32)) μ
def F_X5_menNear (T : List Dsc) (x0 : Nat) (x1 : Int32) (μ : Mem) : Option (Int32 × Mem) :=
  if x1 < 0 then f_X5_menNear_15 T μ else (gO T μ x0 0 6).bind fun r2 => if x1 < (gI μ r2 0) then if x1 = 0 then (gO T μ x0 0 6).bind fun r6 => f_X5_menNear_36 T x0 x1 ((gI μ r6 0) - (1 : Int32)) μ else f_X5_menNear_36 T x0 x1 (x1 - (1 : Int32)) μ else f_X5_menNear_15 T μ
def f_X5_wayPart_51 (T : List Dsc) (x0 : Nat) (x1 : Int64) (x3 : Int32) (μ : Mem) : Option ((Int32 × Mem) ⊕ ((Mem))) :=
  (nmI (x3 + (1 : Int32))).bind fun v1 => some (Sum.inl (v1, μ))
def f_X5_wayPart_10 (T : List Dsc) (x0 : Nat) (x1 : Int64) (x3 : Int32) (μ : Mem) : Option ((Int32 × Mem) ⊕ ((Mem))) :=
  (gO T μ x0 0 6).bind fun r1 => if (gI μ r1 5) ≤ x3 then some (Sum.inr μ) else (F_X11_timeAt T x1 x3 μ).bind fun c4 => (gO T c4.2 x0 0 6).bind fun r6 => if (gI c4.2 r6 0) ≤ c4.1 then f_X5_wayPart_51 T x0 x1 x3 c4.2 else (gA T c4.2 x0 3 0).bind fun a9 => (rI c4.2 a9.1 a9.2 c4.1).bind fun v11 => (wI c4.2 a9.1 a9.2 c4.1 (v11 + (1 : Int32))).bind fun μ13 => f_X5_wayPart_51 T x0 x1 x3 μ13
def g_X5_wayPart_10 (T : List Dsc) (x0 : Nat) (x1 : Int64) (s : Int32 × Mem) : Option ((Int32 × Mem) ⊕ ((Mem))) := f_X5_wayPart_10 T x0 x1 s.1 s.2
def f_X5_wayPart_115 (T : List Dsc) (x0 : Nat) (x3 : Int32) (x4 : Int32) (x5 : Int32) (μ : Mem) : Option ((Int32 × Int32 × Int32 × Mem) ⊕ ((Int32 × Mem))) :=
  (nmI (x5 + (1 : Int32))).bind fun v1 => some (Sum.inl (x3, x4, v1, μ))
def f_X5_wayPart_69 (T : List Dsc) (x0 : Nat) (x3 : Int32) (x4 : Int32) (x5 : Int32) (μ : Mem) : Option ((Int32 × Int32 × Int32 × Mem) ⊕ ((Int32 × Mem))) :=
  (gO T μ x0 0 6).bind fun r1 => if (gI μ r1 0) ≤ x5 then some (Sum.inr (x3, μ)) else (gO T μ x0 0 6).bind fun r4 => if (gI μ r4 5) ≤ x4 then some (Sum.inr (x3, μ)) else (F_X5_menNear T x0 x5 μ).bind fun c7 => if c7.1 ≤ x4 then f_X5_wayPart_115 T x0 x3 x4 x5 c7.2 else f_X5_wayPart_115 T x0 x5 c7.1 x5 c7.2
def g_X5_wayPart_69 (T : List Dsc) (x0 : Nat) (s : Int32 × Int32 × Int32 × Mem) : Option ((Int32 × Int32 × Int32 × Mem) ⊕ ((Int32 × Mem))) := f_X5_wayPart_69 T x0 s.1 s.2.1 s.2.2.1 s.2.2.2
def f_X5_wayPart_121 (T : List Dsc) (x3 : Int32) (μ : Mem) : Option (Int32 × Mem) :=
  some (x3, μ)
def F_X5_wayPart (T : List Dsc) (x0 : Nat) (x1 : Int64) (μ : Mem) : Option (Int32 × Mem) :=
  (gA T μ x0 3 0).bind fun a1 => (F_J7_fill_53178 T a1.1 a1.2 (0 : Int32) μ).bind fun c3 => (loop (g_X5_wayPart_10 T x0 x1) ((0 : Int32), c3)).bind fun e5 => (F_X5_menNear T x0 (0 : Int32) e5).bind fun c7 => (loop (g_X5_wayPart_69 T x0) ((0 : Int32), c7.1, (1 : Int32), c7.2)).bind fun e9 => f_X5_wayPart_121 T e9.1 e9.2
def F_X5_wayOf (T : List Dsc) (x0 : Nat) (x1 : Int64) (μ : Mem) : Option (Int32 × Mem) :=
  (F_X5_wayPart T x0 x1 μ).bind fun c1 => (F_X5_menNear T x0 c1.1 c1.2).bind fun c3 => some (c3.1, c3.2)
def f_X5_waveOf_90 (T : List Dsc) (x0 : Nat) (x1 : Int64) (x3 : Int32) (x4 : Int32) (x5 : Int32) (x6 : Int32) (x7 : Int32) (x8 : Int32) (x9 : Int32) (μ : Mem) : Option ((Int32 × Int32 × Int32 × Int32 × Int32 × Int32 × Mem) ⊕ ((Int32 × Int32 × Int32 × Mem))) :=
  (nmI (x9 + (1 : Int32))).bind fun v1 => some (Sum.inl (x4, x5, x6, x7, x8, v1, μ))
def f_X5_waveOf_56 (T : List Dsc) (x0 : Nat) (x1 : Int64) (x3 : Int32) (x4 : Int32) (x5 : Int32) (x6 : Int32) (x7 : Int32) (x8 : Int32) (x9 : Int32) (x10 : Int32) (μ : Mem) : Option ((Int32 × Int32 × Int32 × Int32 × Int32 × Int32 × Mem) ⊕ ((Int32 × Int32 × Int32 × Mem))) :=
  if x10 = 0 then f_X5_waveOf_90 T x0 x1 x3 x4 x5 x6 x7 x8 x9 μ else if ((x9 - x7) + (1 : Int32)) ≤ x4 then f_X5_waveOf_90 T x0 x1 x3 x4 x5 x6 x7 x8 x9 μ else (nmI ((x9 - x7) + (1 : Int32))).bind fun v3 => f_X5_waveOf_90 T x0 x1 x3 v3 x7 x10 x7 x8 x9 μ
def f_X5_waveOf_18 (T : List Dsc) (x0 : Nat) (x1 : Int64) (x3 : Int32) (x4 : Int32) (x5 : Int32) (x6 : Int32) (x7 : Int32) (x8 : Int32) (x9 : Int32) (μ : Mem) : Option ((Int32 × Int32 × Int32 × Int32 × Int32 × Int32 × Mem) ⊕ ((Int32 × Int32 × Int32 × Mem))) :=
  (gO T μ x0 0 6).bind fun r1 => if (gI μ r1 5) ≤ x9 then some (Sum.inr (x4, x5, x6, μ)) else (F_X5_gapAhead T x0 x1 x9 μ).bind fun c4 => if c4.1 = x8 then f_X5_waveOf_56 T x0 x1 x3 x4 x5 x6 x7 x8 x9 c4.1 c4.2 else (nmI (x9 - (1 : Int32))).bind fun v7 => f_X5_waveOf_56 T x0 x1 x3 x4 x5 x6 v7 c4.1 x9 c4.1 c4.2
def g_X5_waveOf_18 (T : List Dsc) (x0 : Nat) (x1 : Int64) (x3 : Int32) (s : Int32 × Int32 × Int32 × Int32 × Int32 × Int32 × Mem) : Option ((Int32 × Int32 × Int32 × Int32 × Int32 × Int32 × Mem) ⊕ ((Int32 × Int32 × Int32 × Mem))) := f_X5_waveOf_18 T x0 x1 x3 s.1 s.2.1 s.2.2.1 s.2.2.2.1 s.2.2.2.2.1 s.2.2.2.2.2.1 s.2.2.2.2.2.2
def f_X5_waveOf_124 (T : List Dsc) (s0 : Int32) (μ : Mem) : Option (Int32 × Mem) :=
  some (s0, μ)
def F_X5_waveOf (T : List Dsc) (x0 : Nat) (x1 : Int64) (x3 : Int32) (μ : Mem) : Option (Int32 × Mem) :=
  (loop (g_X5_waveOf_18 T x0 x1 x3) ((0 : Int32), (0 : Int32), (0 : Int32), (0 : Int32), (0 : Int32), (1 : Int32), μ)).bind fun e1 => if (2 : Int32) ≤ e1.1 then if x3 = 0 then some (e1.1, e1.2.2.2) else if x3 = (1 : Int32) then f_X5_waveOf_124 T e1.2.1 e1.2.2.2 else f_X5_waveOf_124 T e1.2.2.1 e1.2.2.2 else some ((-2 : Int32), e1.2.2.2)
def f_X7_isFog_32 (T : List Dsc) (x0 : Nat) (x1 : Int32) (x2 : Int32) (μ : Mem) : Option ((Int32 × Mem) ⊕ ((Mem) ⊕ (Mem))) :=
  (nmI (x2 + (1 : Int32))).bind fun v1 => some (Sum.inl (v1, μ))
def f_X7_isFog_2 (T : List Dsc) (x0 : Nat) (x1 : Int32) (x2 : Int32) (μ : Mem) : Option ((Int32 × Mem) ⊕ ((Mem) ⊕ (Mem))) :=
  if (gI μ x0 11) ≤ x2 then some (Sum.inr (Sum.inr μ)) else (gA T μ x0 12 0).bind fun a2 => (rI μ a2.1 a2.2 x2).bind fun v4 => if x1 < v4 then f_X7_isFog_32 T x0 x1 x2 μ else (gA T μ x0 13 0).bind fun a7 => (rI μ a7.1 a7.2 x2).bind fun v9 => if v9 < x1 then f_X7_isFog_32 T x0 x1 x2 μ else some (Sum.inr (Sum.inl μ))
def g_X7_isFog_2 (T : List Dsc) (x0 : Nat) (x1 : Int32) (s : Int32 × Mem) : Option ((Int32 × Mem) ⊕ ((Mem) ⊕ (Mem))) := f_X7_isFog_2 T x0 x1 s.1 s.2
def F_X7_isFog (T : List Dsc) (x0 : Nat) (x1 : Int32) (μ : Mem) : Option (Int32 × Mem) :=
  (loop (g_X7_isFog_2 T x0 x1) ((0 : Int32), μ)).bind fun e1 => (Sum.elim (fun e1_0 => some ((1 : Int32), e1_0)) (fun e1_1 => some ((0 : Int32), e1_1))) e1
def f_X5_mostClashing_60 (T : List Dsc) (x0 : Nat) (x1 : Nat) (x2 : Int32) (x3 : Int64) (x5 : Int32) (x6 : Int32) (x7 : Int32) (μ : Mem) : Option ((Int32 × Mem) ⊕ ((Mem))) :=
  (gO T μ x0 0 6).bind fun r1 => if (gI μ r1 5) ≤ x7 then some (Sum.inr μ) else (gA T μ x0 4 0).bind fun a4 => (rI μ a4.1 a4.2 x7).bind fun v6 => (wI μ a4.1 a4.2 x7 (v6 + ((x6 >>> (x7 &&& 31)) &&& (1 : Int32)))).bind fun μ8 => (nmI (x7 + (1 : Int32))).bind fun v10 => some (Sum.inl (v10, μ8))
def g_X5_mostClashing_60 (T : List Dsc) (x0 : Nat) (x1 : Nat) (x2 : Int32) (x3 : Int64) (x5 : Int32) (x6 : Int32) (s : Int32 × Mem) : Option ((Int32 × Mem) ⊕ ((Mem))) := f_X5_mostClashing_60 T x0 x1 x2 x3 x5 x6 s.1 s.2
def f_X5_mostClashing_16 (T : List Dsc) (x0 : Nat) (x1 : Nat) (x2 : Int32) (x3 : Int64) (x5 : Int32) (μ : Mem) : Option ((Int64 × Int32 × Mem) ⊕ ((Mem))) :=
  if x2 ≤ x5 then some (Sum.inr μ) else (gA T μ x1 2 0).bind fun a2 => (gO T μ x0 0 6).bind fun r4 => (F_X7_isFog T r4 ((gI μ x1 4) + x5) μ).bind fun c6 => (F_X5_stroke T x0 x3 a2.1 a2.2 (gI μ x1 3) c6.1 c6.2).bind fun c8 => (F_X5_clashBits T x0 c8.1 c8.2).bind fun c10 => (loop (g_X5_mostClashing_60 T x0 x1 x2 c8.1 x5 c10.1) ((1 : Int32), c10.2)).bind fun e12 => (nmI (x5 + (1 : Int32))).bind fun v14 => some (Sum.inl (c8.1, v14, e12))
def g_X5_mostClashing_16 (T : List Dsc) (x0 : Nat) (x1 : Nat) (x2 : Int32) (s : Int64 × Int32 × Mem) : Option ((Int64 × Int32 × Mem) ⊕ ((Mem))) := f_X5_mostClashing_16 T x0 x1 x2 s.1 s.2.1 s.2.2
def f_X5_mostClashing_140 (T : List Dsc) (x0 : Nat) (x5 : Int32) (x6 : Int32) (μ : Mem) : Option ((Int32 × Int32 × Mem) ⊕ ((Int32 × Mem))) :=
  (nmI (x6 + (1 : Int32))).bind fun v1 => some (Sum.inl (x5, v1, μ))
def f_X5_mostClashing_107 (T : List Dsc) (x0 : Nat) (x5 : Int32) (x6 : Int32) (μ : Mem) : Option ((Int32 × Int32 × Mem) ⊕ ((Int32 × Mem))) :=
  (gO T μ x0 0 6).bind fun r1 => if (gI μ r1 5) ≤ x6 then some (Sum.inr (x5, μ)) else (gA T μ x0 4 0).bind fun a4 => (rI μ a4.1 a4.2 x6).bind fun v6 => (gA T μ x0 4 0).bind fun a8 => (rI μ a8.1 a8.2 x5).bind fun v10 => if v6 ≤ v10 then f_X5_mostClashing_140 T x0 x5 x6 μ else f_X5_mostClashing_140 T x0 x6 x6 μ
def g_X5_mostClashing_107 (T : List Dsc) (x0 : Nat) (s : Int32 × Int32 × Mem) : Option ((Int32 × Int32 × Mem) ⊕ ((Int32 × Mem))) := f_X5_mostClashing_107 T x0 s.1 s.2.1 s.2.2
def f_X5_mostClashing_158 (T : List Dsc) (s0 : Int32) (μ : Mem) : Option (Int32 × Mem) :=
  some (s0, μ)
def F_X5_mostClashing (T : List Dsc) (x0 : Nat) (x1 : Nat) (x2 : Int32) (μ : Mem) : Option (Int32 × Mem) :=
  (gA T μ x0 4 0).bind fun a1 => (F_J7_fill_53178 T a1.1 a1.2 (0 : Int32) μ).bind fun c3 => (nmJ (gJ c3 x1 0)).bind fun v5 => (loop (g_X5_mostClashing_16 T x0 x1 x2) (v5, (0 : Int32), c3)).bind fun e7 => (loop (g_X5_mostClashing_107 T x0) ((0 : Int32), (1 : Int32), e7)).bind fun e9 => if e9.1 = 0 then f_X5_mostClashing_158 T (-2 : Int32) e9.2 else f_X5_mostClashing_158 T e9.1 e9.2
def f_X6_isAim_25 (T : List Dsc) (s0 : Int32) (μ : Mem) : Option (Int32 × Mem) :=
  (zb s0).bind fun v1 => some (v1, μ)
def f_X6_isAim_24 (T : List Dsc) (μ : Mem) : Option (Int32 × Mem) :=
  f_X6_isAim_25 T (0 : Int32) μ
def F_X6_isAim (T : List Dsc) (x0 : Int32) (x1 : Int32) (μ : Mem) : Option (Int32 × Mem) :=
  if x0 < 0 then f_X6_isAim_24 T μ else if (2 : Int32) < x0 then f_X6_isAim_24 T μ else if x1 < (1 : Int32) then f_X6_isAim_24 T μ else if (30 : Int32) < x1 then f_X6_isAim_24 T μ else f_X6_isAim_25 T (1 : Int32) μ
def f_X6_sitAsNow_2 (T : List Dsc) (x0 : Nat) (x1 : Int32) (μ : Mem) : Option ((Int32 × Mem) ⊕ ((Mem))) :=
  if (12 : Int32) ≤ x1 then some (Sum.inr μ) else (gA T μ x0 1 0).bind fun a2 => (wI μ a2.1 a2.2 x1 x1).bind fun μ4 => (nmI (x1 + (1 : Int32))).bind fun v6 => some (Sum.inl (v6, μ4))
def g_X6_sitAsNow_2 (T : List Dsc) (x0 : Nat) (s : Int32 × Mem) : Option ((Int32 × Mem) ⊕ ((Mem))) := f_X6_sitAsNow_2 T x0 s.1 s.2
def F_X6_sitAsNow (T : List Dsc) (x0 : Nat) (μ : Mem) : Option Mem :=
  (loop (g_X6_sitAsNow_2 T x0) ((0 : Int32), μ)).bind fun e1 => some e1
def F_J6_bitCount_0f7a4 (T : List Dsc) (x0 : Int32) (μ : Mem) : Option (Int32 × Mem) :=
  (nmI (x0 - ((x0.toUInt32 >>> ((1 : Int32).toUInt32 &&& Int32.toUInt32 31)).toInt32 &&& (1431655765 : Int32)))).bind fun v1 => (nmI ((v1 &&& (858993459 : Int32)) + ((v1.toUInt32 >>> ((2 : Int32).toUInt32 &&& Int32.toUInt32 31)).toInt32 &&& (858993459 : Int32)))).bind fun v3 => (nmI ((v3 + (v3.toUInt32 >>> ((4 : Int32).toUInt32 &&& Int32.toUInt32 31)).toInt32) &&& (252645135 : Int32))).bind fun v5 => (nmI (v5 + (v5.toUInt32 >>> ((8 : Int32).toUInt32 &&& Int32.toUInt32 31)).toInt32)).bind fun v7 => (nmI (v7 + (v7.toUInt32 >>> ((16 : Int32).toUInt32 &&& Int32.toUInt32 31)).toInt32)).bind fun v9 => some (v9 &&& (63 : Int32), μ)
def f_X6_costOf_34 (T : List Dsc) (s0 : Int32) (μ : Mem) : Option (Int32 × Mem) :=
  some (s0, μ)
def F_X6_costOf (T : List Dsc) (x0 : Nat) (x1 : Int32) (x2 : Int64) (μ : Mem) : Option (Int32 × Mem) :=
  if x1 = 0 then some ((0 : Int32), μ) else if x1 = (1 : Int32) then (gO T μ x0 0 4).bind fun r7 => (F_X5_clashBits T r7 x2 μ).bind fun c9 => (F_J6_bitCount_0f7a4 T c9.1 c9.2).bind fun c11 => f_X6_costOf_34 T c11.1 c11.2 else (gO T μ x0 0 4).bind fun r3 => (F_X5_wayOf T r3 x2 μ).bind fun c5 => f_X6_costOf_34 T (-c5.1) c5.2
def f_X6_cost_6 (T : List Dsc) (x0 : Nat) (x1 : Nat) (x2 : Int32) (x3 : Int32) (x4 : Int64) (x6 : Int32) (μ : Mem) : Option ((Int64 × Int32 × Mem) ⊕ ((Int64 × Mem))) :=
  (gO T μ x0 0 4).bind fun r1 => (gO T μ r1 0 6).bind fun r3 => if (gI μ r3 5) ≤ x6 then some (Sum.inr (x4, μ)) else (gA T μ x0 1 0).bind fun a6 => (rI μ a6.1 a6.2 x6).bind fun v8 => (F_X11_timeAt T (gJ μ x1 0) v8 μ).bind fun c10 => (F_X11_withTime T x4 x6 c10.1 c10.2).bind fun c12 => (gA T c12.2 x0 3 0).bind fun a14 => (gA T c12.2 x1 2 0).bind fun a16 => (gA T c12.2 x0 1 0).bind fun a18 => (rI c12.2 a18.1 a18.2 x6).bind fun v20 => (rI c12.2 a16.1 a16.2 v20).bind fun v22 => (wI c12.2 a14.1 a14.2 x6 v22).bind fun μ24 => (nmI (x6 + (1 : Int32))).bind fun v26 => some (Sum.inl (c12.1, v26, μ24))
def g_X6_cost_6 (T : List Dsc) (x0 : Nat) (x1 : Nat) (x2 : Int32) (x3 : Int32) (s : Int64 × Int32 × Mem) : Option ((Int64 × Int32 × Mem) ⊕ ((Int64 × Mem))) := f_X6_cost_6 T x0 x1 x2 x3 s.1 s.2.1 s.2.2
def f_X6_cost_151 (T : List Dsc) (x0 : Nat) (x1 : Nat) (x2 : Int32) (x3 : Int32) (x6 : Int32) (x7 : Int32) (x8 : Int64) (μ : Mem) : Option ((Int64 × Int32 × Int32 × Mem) ⊕ ((Int32 × Int32 × Int32 × Mem) ⊕ (Int32 × Mem))) :=
  (nmI (x7 + (1 : Int32))).bind fun v1 => some (Sum.inl (x8, x6, v1, μ))
def f_X6_cost_75 (T : List Dsc) (x0 : Nat) (x1 : Nat) (x2 : Int32) (x3 : Int32) (x4 : Int64) (x6 : Int32) (x7 : Int32) (μ : Mem) : Option ((Int64 × Int32 × Int32 × Mem) ⊕ ((Int32 × Int32 × Int32 × Mem) ⊕ (Int32 × Mem))) :=
  if x3 < x7 then some (Sum.inr (Sum.inr (x6, μ))) else (gO T μ x0 0 4).bind fun r2 => (gA T μ x0 3 0).bind fun a4 => (F_X5_stroke T r2 x4 a4.1 a4.2 (gI μ x1 3) (0 : Int32) μ).bind fun c6 => (F_X6_costOf T x0 x2 c6.1 c6.2).bind fun c8 => if (lg_cmp c6.1 x4) = 0 then some (Sum.inr (Sum.inl (x6, x7, c8.1, c8.2))) else if x3 ≤ x7 then f_X6_cost_151 T x0 x1 x2 x3 x6 x7 c6.1 c8.2 else (nmI (x6 + c8.1)).bind fun v12 => f_X6_cost_151 T x0 x1 x2 x3 v12 x7 c6.1 c8.2
def g_X6_cost_75 (T : List Dsc) (x0 : Nat) (x1 : Nat) (x2 : Int32) (x3 : Int32) (s : Int64 × Int32 × Int32 × Mem) : Option ((Int64 × Int32 × Int32 × Mem) ⊕ ((Int32 × Int32 × Int32 × Mem) ⊕ (Int32 × Mem))) := f_X6_cost_75 T x0 x1 x2 x3 s.1 s.2.1 s.2.2.1 s.2.2.2
def f_X6_cost_137 (T : List Dsc) (s0 : Int32) (μ : Mem) : Option (Int32 × Mem) :=
  some (s0, μ)
def f_X6_cost_173 (T : List Dsc) (s0 : Int32) (μ : Mem) : Option (Int32 × Mem) :=
  some (s0, μ)
def F_X6_cost (T : List Dsc) (x0 : Nat) (x1 : Nat) (x2 : Int32) (x3 : Int32) (μ : Mem) : Option (Int32 × Mem) :=
  (loop (g_X6_cost_6 T x0 x1 x2 x3) ((0 : Int64), (0 : Int32), μ)).bind fun e1 => (loop (g_X6_cost_75 T x0 x1 x2 x3) (e1.1, (0 : Int32), (0 : Int32), e1.2)).bind fun e3 => (Sum.elim (fun e3_0 => if x2 = 0 then f_X6_cost_137 T e3_0.2.1 e3_0.2.2.2 else f_X6_cost_137 T (e3_0.1 + (e3_0.2.2.1 * (x3 - e3_0.2.1))) e3_0.2.2.2) (fun e3_1 => if x2 = 0 then f_X6_cost_173 T (x3 + (1 : Int32)) e3_1.2 else f_X6_cost_173 T e3_1.1 e3_1.2)) e3
def F_X6_swap (T : List Dsc) (x0 : Nat) (x1 : Int32) (x2 : Int32) (μ : Mem) : Option Mem :=
  (gA T μ x0 1 0).bind fun a1 => (rI μ a1.1 a1.2 x1).bind fun v3 => (gA T μ x0 1 0).bind fun a5 => (gA T μ x0 1 0).bind fun a7 => (rI μ a7.1 a7.2 x2).bind fun v9 => (wI μ a5.1 a5.2 x1 v9).bind fun μ11 => (gA T μ11 x0 1 0).bind fun a13 => (wI μ11 a13.1 a13.2 x2 v3).bind fun μ15 => some μ15
def f_X6_goToNextOrder_4 (T : List Dsc) (x0 : Nat) (x1 : Int32) (x2 : Int32) (μ : Mem) : Option ((Int32 × Mem) ⊕ ((Int32 × Mem))) :=
  if x2 < 0 then some (Sum.inr (x2, μ)) else (gA T μ x0 1 0).bind fun a2 => (rI μ a2.1 a2.2 x2).bind fun v4 => (gA T μ x0 1 0).bind fun a6 => (rI μ a6.1 a6.2 (x2 + (1 : Int32))).bind fun v8 => if v4 ≤ v8 then some (Sum.inr (x2, μ)) else (nmI (x2 + (-1 : Int32))).bind fun v11 => some (Sum.inl (v11, μ))
def g_X6_goToNextOrder_4 (T : List Dsc) (x0 : Nat) (x1 : Int32) (s : Int32 × Mem) : Option ((Int32 × Mem) ⊕ ((Int32 × Mem))) := f_X6_goToNextOrder_4 T x0 x1 s.1 s.2
def f_X6_goToNextOrder_41 (T : List Dsc) (x0 : Nat) (x1 : Int32) (x2 : Int32) (x3 : Int32) (μ : Mem) : Option ((Int32 × Mem) ⊕ ((Int32 × Mem))) :=
  if x3 ≤ x2 then some (Sum.inr (x3, μ)) else (gA T μ x0 1 0).bind fun a2 => (rI μ a2.1 a2.2 x3).bind fun v4 => (gA T μ x0 1 0).bind fun a6 => (rI μ a6.1 a6.2 x2).bind fun v8 => if v8 ≤ v4 then some (Sum.inr (x3, μ)) else (nmI (x3 + (-1 : Int32))).bind fun v11 => some (Sum.inl (v11, μ))
def g_X6_goToNextOrder_41 (T : List Dsc) (x0 : Nat) (x1 : Int32) (x2 : Int32) (s : Int32 × Mem) : Option ((Int32 × Mem) ⊕ ((Int32 × Mem))) := f_X6_goToNextOrder_41 T x0 x1 x2 s.1 s.2
def f_X6_goToNextOrder_83 (T : List Dsc) (x0 : Nat) (x4 : Int32) (x5 : Int32) (μ : Mem) : Option ((Int32 × Int32 × Mem) ⊕ ((Mem))) :=
  if x5 ≤ x4 then some (Sum.inr μ) else (F_X6_swap T x0 x4 x5 μ).bind fun c2 => (nmI (x4 + (1 : Int32))).bind fun v4 => (nmI (x5 + (-1 : Int32))).bind fun v6 => some (Sum.inl (v4, v6, c2))
def g_X6_goToNextOrder_83 (T : List Dsc) (x0 : Nat) (s : Int32 × Int32 × Mem) : Option ((Int32 × Int32 × Mem) ⊕ ((Mem))) := f_X6_goToNextOrder_83 T x0 s.1 s.2.1 s.2.2
def f_X6_goToNextOrder_67 (T : List Dsc) (x0 : Nat) (x1 : Int32) (x2 : Int32) (x3 : Int32) (μ : Mem) : Option (Int32 × Mem) :=
  (F_X6_swap T x0 x2 x3 μ).bind fun c1 => (nmI (x2 + (1 : Int32))).bind fun v3 => (nmI (x1 - (1 : Int32))).bind fun v5 => (loop (g_X6_goToNextOrder_83 T x0) (v3, v5, c1)).bind fun e7 => some ((1 : Int32), e7)
def f_X6_goToNextOrder_31 (T : List Dsc) (x0 : Nat) (x1 : Int32) (x2 : Int32) (μ : Mem) : Option (Int32 × Mem) :=
  if 0 ≤ x2 then (nmI (x1 - (1 : Int32))).bind fun v2 => (loop (g_X6_goToNextOrder_41 T x0 x1 x2) (v2, μ)).bind fun e4 => f_X6_goToNextOrder_67 T x0 x1 x2 e4.1 e4.2 else some ((0 : Int32), μ)
def F_X6_goToNextOrder (T : List Dsc) (x0 : Nat) (x1 : Int32) (μ : Mem) : Option (Int32 × Mem) :=
  (nmI (x1 - (2 : Int32))).bind fun v1 => (loop (g_X6_goToNextOrder_4 T x0 x1) (v1, μ)).bind fun e3 => f_X6_goToNextOrder_31 T x0 x1 e3.1 e3.2
def f_X6_bestOrder_95 (T : List Dsc) (x0 : Nat) (x1 : Nat) (x2 : Int32) (x3 : Int32) (x4 : Int32) (x5 : Int32) (x6 : Int32) (μ : Mem) : Option ((Int32 × Int32 × Mem) ⊕ ((Int32 × Mem))) :=
  (nmI (x6 + (1 : Int32))).bind fun v1 => some (Sum.inl (x5, v1, μ))
def f_X6_bestOrder_43 (T : List Dsc) (x0 : Nat) (x1 : Nat) (x2 : Int32) (x3 : Int32) (x4 : Int32) (x5 : Int32) (x6 : Int32) (μ : Mem) : Option ((Int32 × Int32 × Mem) ⊕ ((Int32 × Mem))) :=
  if (720 : Int32) ≤ x6 then some (Sum.inr (x5, μ)) else (F_X6_goToNextOrder T x0 x4 μ).bind fun c2 => if c2.1 = 0 then some (Sum.inr (x5, c2.2)) else (F_X6_cost T x0 x1 x2 x3 c2.2).bind fun c5 => if x5 ≤ c5.1 then f_X6_bestOrder_95 T x0 x1 x2 x3 x4 x5 x6 c5.2 else (gA T c5.2 x0 1 0).bind fun a8 => (gA T c5.2 x0 2 0).bind fun a10 => (cpI c5.2 a8.1 a8.2 a10.1 a10.2 (0 : Int32) (0 : Int32) (12 : Int32)).bind fun μ12 => f_X6_bestOrder_95 T x0 x1 x2 x3 x4 c5.1 x6 μ12
def g_X6_bestOrder_43 (T : List Dsc) (x0 : Nat) (x1 : Nat) (x2 : Int32) (x3 : Int32) (x4 : Int32) (s : Int32 × Int32 × Mem) : Option ((Int32 × Int32 × Mem) ⊕ ((Int32 × Mem))) := f_X6_bestOrder_43 T x0 x1 x2 x3 x4 s.1 s.2.1 s.2.2
def f_X6_bestOrder_114 (T : List Dsc) (s0 : Int32) (μ : Mem) : Option (Int32 × Mem) :=
  some (s0, μ)
def f_X6_bestOrder_101 (T : List Dsc) (x2 : Int32) (x5 : Int32) (μ : Mem) : Option (Int32 × Mem) :=
  if x2 = (2 : Int32) then f_X6_bestOrder_114 T (-x5) μ else f_X6_bestOrder_114 T x5 μ
def F_X6_bestOrder (T : List Dsc) (x0 : Nat) (x1 : Nat) (x2 : Int32) (x3 : Int32) (μ : Mem) : Option (Int32 × Mem) :=
  (gO T μ x0 0 4).bind fun r1 => (gO T μ r1 0 6).bind fun r3 => (nmI (gI μ r3 5)).bind fun v5 => (F_X6_sitAsNow T x0 μ).bind fun c7 => (gA T c7 x0 1 0).bind fun a9 => (gA T c7 x0 2 0).bind fun a11 => (cpI c7 a9.1 a9.2 a11.1 a11.2 (0 : Int32) (0 : Int32) (12 : Int32)).bind fun μ13 => (F_X6_cost T x0 x1 x2 x3 μ13).bind fun c15 => (loop (g_X6_bestOrder_43 T x0 x1 x2 x3 v5) (c15.1, (1 : Int32), c15.2)).bind fun e17 => f_X6_bestOrder_101 T x2 e17.1 e17.2
def f_X6_bestExchange_90 (T : List Dsc) (x0 : Nat) (x1 : Nat) (x2 : Int32) (x3 : Int32) (x4 : Int32) (x5 : Int32) (x6 : Int32) (x7 : Int32) (x8 : Int32) (μ : Mem) : Option ((Int32 × Int32 × Int32 × Mem) ⊕ ((Int32 × Int32 × Mem))) :=
  (F_X6_swap T x0 x7 x8 μ).bind fun c1 => (nmI (x8 + (1 : Int32))).bind fun v3 => some (Sum.inl (x5, x6, v3, c1))
def f_X6_bestExchange_45 (T : List Dsc) (x0 : Nat) (x1 : Nat) (x2 : Int32) (x3 : Int32) (x4 : Int32) (x5 : Int32) (x6 : Int32) (x7 : Int32) (x8 : Int32) (μ : Mem) : Option ((Int32 × Int32 × Int32 × Mem) ⊕ ((Int32 × Int32 × Mem))) :=
  if x4 ≤ x8 then some (Sum.inr (x5, x6, μ)) else (F_X6_swap T x0 x7 x8 μ).bind fun c2 => (F_X6_cost T x0 x1 x2 x3 c2).bind fun c4 => if x5 ≤ c4.1 then f_X6_bestExchange_90 T x0 x1 x2 x3 x4 x5 x6 x7 x8 c4.2 else (nmI (((100 : Int32) * x7) + x8)).bind fun v7 => f_X6_bestExchange_90 T x0 x1 x2 x3 x4 c4.1 v7 x7 x8 c4.2
def g_X6_bestExchange_45 (T : List Dsc) (x0 : Nat) (x1 : Nat) (x2 : Int32) (x3 : Int32) (x4 : Int32) (x7 : Int32) (s : Int32 × Int32 × Int32 × Mem) : Option ((Int32 × Int32 × Int32 × Mem) ⊕ ((Int32 × Int32 × Mem))) := f_X6_bestExchange_45 T x0 x1 x2 x3 x4 s.1 s.2.1 x7 s.2.2.1 s.2.2.2
def f_X6_bestExchange_32 (T : List Dsc) (x0 : Nat) (x1 : Nat) (x2 : Int32) (x3 : Int32) (x4 : Int32) (x5 : Int32) (x6 : Int32) (x7 : Int32) (μ : Mem) : Option ((Int32 × Int32 × Int32 × Mem) ⊕ ((Int32 × Mem))) :=
  if x4 ≤ x7 then some (Sum.inr (x6, μ)) else (nmI (x7 + (1 : Int32))).bind fun v2 => (loop (g_X6_bestExchange_45 T x0 x1 x2 x3 x4 x7) (x5, x6, v2, μ)).bind fun e4 => (nmI (x7 + (1 : Int32))).bind fun v6 => some (Sum.inl (e4.1, e4.2.1, v6, e4.2.2))
def g_X6_bestExchange_32 (T : List Dsc) (x0 : Nat) (x1 : Nat) (x2 : Int32) (x3 : Int32) (x4 : Int32) (s : Int32 × Int32 × Int32 × Mem) : Option ((Int32 × Int32 × Int32 × Mem) ⊕ ((Int32 × Mem))) := f_X6_bestExchange_32 T x0 x1 x2 x3 x4 s.1 s.2.1 s.2.2.1 s.2.2.2
def F_X6_bestExchange (T : List Dsc) (x0 : Nat) (x1 : Nat) (x2 : Int32) (x3 : Int32) (μ : Mem) : Option (Int32 × Mem) :=
  (gO T μ x0 0 4).bind fun r1 => (gO T μ r1 0 6).bind fun r3 => (nmI (gI μ r3 5)).bind fun v5 => (F_X6_sitAsNow T x0 μ).bind fun c7 => (F_X6_cost T x0 x1 x2 x3 c7).bind fun c9 => (loop (g_X6_bestExchange_32 T x0 x1 x2 x3 v5) (c9.1, (-2 : Int32), (0 : Int32), c9.2)).bind fun e11 => some (e11.1, e11.2)
def f_X9_findRound_12 (T : List Dsc) (x0 : Nat) (x1 : Nat) (x2 : Int32) (μ : Mem) : Option ((Int32 × Mem) ⊕ ((Int32 × Mem) ⊕ (Mem))) :=
  if (400 : Int32) < x2 then some (Sum.inr (Sum.inr μ)) else (gA T μ x0 1 1).bind fun a2 => (gO T μ x0 0 4).bind fun r4 => (gA T μ x0 1 1).bind fun a6 => (rJ μ a6.1 a6.2 (x2 - (1 : Int32))).bind fun v8 => (gA T μ x1 2 0).bind fun a10 => (F_X5_stroke T r4 v8 a10.1 a10.2 (gI μ x1 3) (0 : Int32) μ).bind fun c12 => (wJ c12.2 a2.1 a2.2 x2 c12.1).bind fun μ14 => (gA T μ14 x0 1 1).bind fun a16 => (rJ μ14 a16.1 a16.2 x2).bind fun v18 => (gA T μ14 x0 1 1).bind fun a20 => (rJ μ14 a20.1 a20.2 (x2 - (1 : Int32))).bind fun v22 => if (lg_cmp v18 v22) = 0 then some (Sum.inr (Sum.inl (x2, μ14))) else (nmI (x2 + (1 : Int32))).bind fun v25 => some (Sum.inl (v25, μ14))
def g_X9_findRound_12 (T : List Dsc) (x0 : Nat) (x1 : Nat) (s : Int32 × Mem) : Option ((Int32 × Mem) ⊕ ((Int32 × Mem) ⊕ (Mem))) := f_X9_findRound_12 T x0 x1 s.1 s.2
def f_X9_findRound_92 (T : List Dsc) (x0 : Nat) (μ : Mem) : Option ((Mem) ⊕ ((Mem))) :=
  if (400 : Int32) < (gI μ x0 2) then some (Sum.inr μ) else (gA T μ x0 1 1).bind fun a2 => (rJ μ a2.1 a2.2 ((400 : Int32) - (gI μ x0 2))).bind fun v4 => (gA T μ x0 1 1).bind fun a6 => (rJ μ a6.1 a6.2 (400 : Int32)).bind fun v8 => if (lg_cmp v4 v8) = 0 then some (Sum.inr μ) else (pI μ x0 2 ((gI μ x0 2) + (1 : Int32))).bind fun μ11 => some (Sum.inl μ11)
def g_X9_findRound_92 (T : List Dsc) (x0 : Nat) (s : Mem) : Option ((Mem) ⊕ ((Mem))) := f_X9_findRound_92 T x0 s
def f_X9_findRound_145 (T : List Dsc) (x0 : Nat) (μ : Mem) : Option ((Mem) ⊕ ((Mem))) :=
  if (400 : Int32) ≤ ((gI μ x0 3) + (gI μ x0 2)) then some (Sum.inr μ) else (gA T μ x0 1 1).bind fun a2 => (rJ μ a2.1 a2.2 (gI μ x0 3)).bind fun v4 => (gA T μ x0 1 1).bind fun a6 => (rJ μ a6.1 a6.2 ((gI μ x0 3) + (gI μ x0 2))).bind fun v8 => if (lg_cmp v4 v8) = 0 then some (Sum.inr μ) else (pI μ x0 3 ((gI μ x0 3) + (1 : Int32))).bind fun μ11 => some (Sum.inl μ11)
def g_X9_findRound_145 (T : List Dsc) (x0 : Nat) (s : Mem) : Option ((Mem) ⊕ ((Mem))) := f_X9_findRound_145 T x0 s
def f_X9_findRound_215 (T : List Dsc) (s0 : Int32) (μ : Mem) : Option (Int32 × Mem) :=
  (zb s0).bind fun v1 => some (v1, μ)
def f_X9_findRound_200 (T : List Dsc) (x0 : Nat) (μ : Mem) : Option (Int32 × Mem) :=
  if (400 : Int32) < (gI μ x0 2) then f_X9_findRound_215 T (0 : Int32) μ else f_X9_findRound_215 T (1 : Int32) μ
def f_X9_findRound_140 (T : List Dsc) (x0 : Nat) (μ : Mem) : Option (Int32 × Mem) :=
  (pI μ x0 3 (0 : Int32)).bind fun μ1 => (loop (g_X9_findRound_145 T x0) μ1).bind fun e3 => f_X9_findRound_200 T x0 e3
def F_X9_findRound (T : List Dsc) (x0 : Nat) (x1 : Nat) (μ : Mem) : Option (Int32 × Mem) :=
  (gA T μ x0 1 1).bind fun a1 => (wJ μ a1.1 a1.2 (0 : Int32) (gJ μ x1 0)).bind fun μ3 => (loop (g_X9_findRound_12 T x0 x1) ((1 : Int32), μ3)).bind fun e5 => (Sum.elim (fun e5_0 => (pI e5_0.2 x0 2 (1 : Int32)).bind fun μ7 => (pI μ7 x0 3 (e5_0.1 - (1 : Int32))).bind fun μ9 => some ((1 : Int32), μ9)) (fun e5_1 => (pI e5_1 x0 2 (1 : Int32)).bind fun μ11 => (loop (g_X9_findRound_92 T x0) μ11).bind fun e13 => f_X9_findRound_140 T x0 e13)) e5
def f_X9_wayBehind_80 (T : List Dsc) (x0 : Nat) (x1 : Nat) (x2 : Int32) (x3 : Int32) (x4 : Int32) (x5 : Int64) (x7 : Int32) (μ : Mem) : Option ((Int64 × Int32 × Mem) ⊕ ((Mem) ⊕ (Int64 × Mem))) :=
  (nmI (x7 + (1 : Int32))).bind fun v1 => some (Sum.inl (x5, v1, μ))
def f_X9_wayBehind_13 (T : List Dsc) (x0 : Nat) (x1 : Nat) (x2 : Int32) (x3 : Int32) (x4 : Int32) (x5 : Int64) (x7 : Int32) (μ : Mem) : Option ((Int64 × Int32 × Mem) ⊕ ((Mem) ⊕ (Int64 × Mem))) :=
  if x3 < x7 then some (Sum.inr (Sum.inr (x5, μ))) else (gO T μ x0 0 4).bind fun r2 => (gA T μ x1 2 0).bind fun a4 => (gO T μ x0 0 4).bind fun r6 => (gO T μ r6 0 6).bind fun r8 => (F_X7_isFog T r8 (((gI μ x1 4) + x7) - (1 : Int32)) μ).bind fun c10 => (F_X5_stroke T r2 x5 a4.1 a4.2 x4 c10.1 c10.2).bind fun c12 => if x7 = x2 then if x3 ≤ x2 then f_X9_wayBehind_80 T x0 x1 x2 x3 x4 c12.1 x7 c12.2 else (gA T c12.2 x0 1 1).bind fun a16 => (rJ c12.2 a16.1 a16.2 x2).bind fun v18 => if (lg_cmp c12.1 v18) = 0 then some (Sum.inr (Sum.inl c12.2)) else f_X9_wayBehind_80 T x0 x1 x2 x3 x4 c12.1 x7 c12.2 else f_X9_wayBehind_80 T x0 x1 x2 x3 x4 c12.1 x7 c12.2
def g_X9_wayBehind_13 (T : List Dsc) (x0 : Nat) (x1 : Nat) (x2 : Int32) (x3 : Int32) (x4 : Int32) (s : Int64 × Int32 × Mem) : Option ((Int64 × Int32 × Mem) ⊕ ((Mem) ⊕ (Int64 × Mem))) := f_X9_wayBehind_13 T x0 x1 x2 x3 x4 s.1 s.2.1 s.2.2
def F_X9_wayBehind (T : List Dsc) (x0 : Nat) (x1 : Nat) (x2 : Int32) (x3 : Int32) (x4 : Int32) (μ : Mem) : Option (Int32 × Mem) :=
  (gA T μ x0 1 1).bind fun a1 => (rJ μ a1.1 a1.2 (x2 - (1 : Int32))).bind fun v3 => (loop (g_X9_wayBehind_13 T x0 x1 x2 x3 x4) (v3, x2, μ)).bind fun e5 => (Sum.elim (fun e5_0 => some ((0 : Int32), e5_0)) (fun e5_1 => (gO T e5_1.2 x0 0 4).bind fun r7 => (F_X5_wayOf T r7 e5_1.1 e5_1.2).bind fun c9 => some (c9.1, c9.2))) e5
def f_X9_planRam_20 (T : List Dsc) (x0 : Nat) (x1 : Nat) (x3 : Int32) (x4 : Int32) (μ : Mem) : Option ((Int32 × Mem) ⊕ ((Mem))) :=
  if x3 ≤ x4 then some (Sum.inr μ) else (gA T μ x0 1 1).bind fun a2 => (gO T μ x0 0 4).bind fun r4 => (gA T μ x0 1 1).bind fun a6 => (rJ μ a6.1 a6.2 (x4 - (1 : Int32))).bind fun v8 => (gA T μ x1 2 0).bind fun a10 => (gO T μ x0 0 4).bind fun r12 => (gO T μ r12 0 6).bind fun r14 => (F_X7_isFog T r14 (((gI μ x1 4) + x4) - (1 : Int32)) μ).bind fun c16 => (F_X5_stroke T r4 v8 a10.1 a10.2 (gI μ x1 3) c16.1 c16.2).bind fun c18 => (wJ c18.2 a2.1 a2.2 x4 c18.1).bind fun μ20 => (nmI (x4 + (1 : Int32))).bind fun v22 => some (Sum.inl (v22, μ20))
def g_X9_planRam_20 (T : List Dsc) (x0 : Nat) (x1 : Nat) (x3 : Int32) (s : Int32 × Mem) : Option ((Int32 × Mem) ⊕ ((Mem))) := f_X9_planRam_20 T x0 x1 x3 s.1 s.2
def f_X9_planRam_187 (T : List Dsc) (x0 : Nat) (x1 : Nat) (x3 : Int32) (x4 : Int32) (x5 : Int32) (μ : Mem) : Option ((Int32 × Mem) ⊕ ((Mem))) :=
  (nmI (x5 + (1 : Int32))).bind fun v1 => some (Sum.inl (v1, μ))
def f_X9_planRam_116 (T : List Dsc) (x0 : Nat) (x1 : Nat) (x3 : Int32) (x4 : Int32) (x5 : Int32) (μ : Mem) : Option ((Int32 × Mem) ⊕ ((Mem))) :=
  (gO T μ x0 0 4).bind fun r1 => (gO T μ r1 0 6).bind fun r3 => if (gI μ r3 0) ≤ x5 then some (Sum.inr μ) else (gO T μ x0 0 4).bind fun r6 => (gO T μ r6 0 6).bind fun r8 => if (gI μ r8 5) ≤ (gI μ x0 4) then some (Sum.inr μ) else (F_X9_wayBehind T x0 x1 x4 x3 x5 μ).bind fun c11 => if c11.1 ≤ (gI c11.2 x0 4) then f_X9_planRam_187 T x0 x1 x3 x4 x5 c11.2 else (pI c11.2 x0 4 c11.1).bind fun μ14 => (pI μ14 x0 5 x4).bind fun μ16 => (pI μ16 x0 6 x5).bind fun μ18 => f_X9_planRam_187 T x0 x1 x3 x4 x5 μ18
def g_X9_planRam_116 (T : List Dsc) (x0 : Nat) (x1 : Nat) (x3 : Int32) (x4 : Int32) (s : Int32 × Mem) : Option ((Int32 × Mem) ⊕ ((Mem))) := f_X9_planRam_116 T x0 x1 x3 x4 s.1 s.2
def f_X9_planRam_193 (T : List Dsc) (x0 : Nat) (x1 : Nat) (x3 : Int32) (x4 : Int32) (μ : Mem) : Option ((Int32 × Mem) ⊕ ((Mem))) :=
  (nmI (x4 + (-1 : Int32))).bind fun v1 => some (Sum.inl (v1, μ))
def f_X9_planRam_90 (T : List Dsc) (x0 : Nat) (x1 : Nat) (x3 : Int32) (x4 : Int32) (μ : Mem) : Option ((Int32 × Mem) ⊕ ((Mem))) :=
  if x4 < (1 : Int32) then some (Sum.inr μ) else (gO T μ x0 0 4).bind fun r2 => (gO T μ r2 0 6).bind fun r4 => if (gI μ r4 5) ≤ (gI μ x0 4) then some (Sum.inr μ) else (loop (g_X9_planRam_116 T x0 x1 x3 x4) ((0 : Int32), μ)).bind fun e7 => f_X9_planRam_193 T x0 x1 x3 x4 e7
def g_X9_planRam_90 (T : List Dsc) (x0 : Nat) (x1 : Nat) (x3 : Int32) (s : Int32 × Mem) : Option ((Int32 × Mem) ⊕ ((Mem))) := f_X9_planRam_90 T x0 x1 x3 s.1 s.2
def f_X9_planRam_199 (T : List Dsc) (μ : Mem) : Option Mem :=
  some μ
def F_X9_planRam (T : List Dsc) (x0 : Nat) (x1 : Nat) (x2 : Int32) (μ : Mem) : Option Mem :=
  (nmI (mnI x2 (60 : Int32))).bind fun v1 => (gA T μ x0 1 1).bind fun a3 => (wJ μ a3.1 a3.2 (0 : Int32) (gJ μ x1 0)).bind fun μ5 => (loop (g_X9_planRam_20 T x0 x1 v1) ((1 : Int32), μ5)).bind fun e7 => (pI e7 x0 4 (0 : Int32)).bind fun μ9 => (loop (g_X9_planRam_90 T x0 x1 v1) (v1, μ9)).bind fun e11 => f_X9_planRam_199 T e11
def f_X9_weighed_147 (E : List Dsc → Nat → Nat → Int64 → Int32 → Int32 → Int32 → Mem → Option (Int64 × Mem)) (T : List Dsc) (x11 : Int64) (μ : Mem) : Option (Int64 × Mem) :=
  some (x11, μ)
def f_X9_weighed_113 (E : List Dsc → Nat → Nat → Int64 → Int32 → Int32 → Int32 → Mem → Option (Int64 × Mem)) (T : List Dsc) (x0 : Nat) (x1 : Nat) (x4 : Int32) (x5 : Int32) (x6 : Int32) (x9 : Int64) (x11 : Int64) (μ : Mem) : Option (Int64 × Mem) :=
  if x6 ≤ x5 then f_X9_weighed_147 E T x11 μ else (E T x0 x1 x9 (x4 - (1 : Int32)) x5 x6 μ).bind fun c2 => (nmJ (x11 + ((x6 - x5).toInt64 * c2.1))).bind fun v4 => f_X9_weighed_147 E T v4 c2.2
def B_X9_weighed (E : List Dsc → Nat → Nat → Int64 → Int32 → Int32 → Int32 → Mem → Option (Int64 × Mem)) (T : List Dsc) (x0 : Nat) (x1 : Nat) (x2 : Int64) (x4 : Int32) (x5 : Int32) (x6 : Int32) (μ : Mem) : Option (Int64 × Mem) :=
  if 0 < x4 then (gO T μ x0 0 4).bind fun r2 => (gA T μ x1 2 0).bind fun a4 => (F_X5_stroke T r2 x2 a4.1 a4.2 (gI μ x1 3) (1 : Int32) μ).bind fun c6 => (gO T c6.2 x0 0 4).bind fun r8 => (gA T c6.2 x1 2 0).bind fun a10 => (F_X5_stroke T r8 x2 a10.1 a10.2 (gI c6.2 x1 3) (0 : Int32) c6.2).bind fun c12 => if (lg_cmp c6.1 c12.1) = 0 then (E T x0 x1 c12.1 (x4 - (1 : Int32)) x5 x6 c12.2).bind fun c20 => some (x6.toInt64 * c20.1, c20.2) else if x5 ≤ 0 then f_X9_weighed_113 E T x0 x1 x4 x5 x6 c12.1 (0 : Int64) c12.2 else (E T x0 x1 c6.1 (x4 - (1 : Int32)) x5 x6 c12.2).bind fun c16 => (nmJ ((0 : Int64) + (x5.toInt64 * c16.1))).bind fun v18 => f_X9_weighed_113 E T x0 x1 x4 x5 x6 c12.1 v18 c16.2 else (gO T μ x0 0 4).bind fun r22 => (F_X5_wayOf T r22 x2 μ).bind fun c24 => some (c24.1.toInt64, c24.2)
def F_X9_weighed : Nat → List Dsc → Nat → Nat → Int64 → Int32 → Int32 → Int32 → Mem → Option (Int64 × Mem)
  | 0, _, _, _, _, _, _, _, _ => none
  | n + 1, T, x0, x1, x2, x4, x5, x6, μ => B_X9_weighed (F_X9_weighed n) T x0 x1 x2 x4 x5 x6 μ
def f_X10_isStroke_15 (T : List Dsc) (s0 : Int32) (μ : Mem) : Option (Int32 × Mem) :=
  (zb s0).bind fun v1 => some (v1, μ)
def f_X10_isStroke_14 (T : List Dsc) (μ : Mem) : Option (Int32 × Mem) :=
  f_X10_isStroke_15 T (0 : Int32) μ
def F_X10_isStroke (T : List Dsc) (x0 : Int32) (μ : Mem) : Option (Int32 × Mem) :=
  if x0 < 0 then f_X10_isStroke_14 T μ else if (99 : Int32) < x0 then f_X10_isStroke_14 T μ else f_X10_isStroke_15 T (1 : Int32) μ
def f_X10_isQuestion_26 (T : List Dsc) (s0 : Int32) (μ : Mem) : Option (Int32 × Mem) :=
  (zb s0).bind fun v1 => some (v1, μ)
def f_X10_isQuestion_25 (T : List Dsc) (μ : Mem) : Option (Int32 × Mem) :=
  f_X10_isQuestion_26 T (0 : Int32) μ
def F_X10_isQuestion (T : List Dsc) (x0 : Nat) (x1 : Int32) (x2 : Int32) (μ : Mem) : Option (Int32 × Mem) :=
  if x1 < 0 then f_X10_isQuestion_25 T μ else if (2 : Int32) < x1 then f_X10_isQuestion_25 T μ else if x2 < 0 then f_X10_isQuestion_25 T μ else if (gI μ x0 1) < x2 then f_X10_isQuestion_25 T μ else f_X10_isQuestion_26 T (1 : Int32) μ
def f_X10_note_48 (T : List Dsc) (x0 : Nat) (s0 : Nat) (ms0 : Nat) (s1 : Int32) (s2 : Int32) (μ : Mem) : Option (Int32 × Mem) :=
  (wI μ s0 ms0 s1 s2).bind fun μ1 => (pI μ1 x0 1 ((gI μ1 x0 1) + (1 : Int32))).bind fun μ3 => some ((gI μ3 x0 1) - (1 : Int32), μ3)
def F_X10_note (T : List Dsc) (x0 : Nat) (x1 : Int32) (x2 : Int32) (x3 : Int32) (μ : Mem) : Option (Int32 × Mem) :=
  if (gI μ x0 1) < (20 : Int32) then (gA T μ x0 2 0).bind fun a2 => (wI μ a2.1 a2.2 (gI μ x0 1) x1).bind fun μ4 => (gA T μ4 x0 3 0).bind fun a6 => (wI μ4 a6.1 a6.2 (gI μ4 x0 1) x2).bind fun μ8 => (gA T μ8 x0 4 0).bind fun a10 => if x3 = 0 then f_X10_note_48 T x0 a10.1 a10.2 (gI μ8 x0 1) (0 : Int32) μ8 else f_X10_note_48 T x0 a10.1 a10.2 (gI μ8 x0 1) (1 : Int32) μ8 else some ((-1 : Int32), μ)
def f_X10_breakMen_46 (T : List Dsc) (x0 : Nat) (x1 : Int32) (x2 : Int32) (s0 : Nat) (ms0 : Nat) (s1 : Int32) (s2 : Int32) (μ : Mem) : Option ((Int32 × Mem) ⊕ ((Mem))) :=
  (wI μ s0 ms0 s1 s2).bind fun μ1 => (nmI (x2 + (1 : Int32))).bind fun v3 => some (Sum.inl (v3, μ1))
def f_X10_breakMen_2 (T : List Dsc) (x0 : Nat) (x1 : Int32) (x2 : Int32) (μ : Mem) : Option ((Int32 × Mem) ⊕ ((Mem))) :=
  (gO T μ x0 0 4).bind fun r1 => (gO T μ r1 0 6).bind fun r3 => if (gI μ r3 5) ≤ x2 then some (Sum.inr μ) else (gA T μ x0 5 0).bind fun a6 => if ((x1 >>> (x2 &&& 31)) &&& (1 : Int32)) = (1 : Int32) then f_X10_breakMen_46 T x0 x1 x2 a6.1 a6.2 x2 (-1 : Int32) μ else (gO T μ x0 0 4).bind fun r9 => (gO T μ r9 0 6).bind fun r11 => (gA T μ r11 6 0).bind fun a13 => (rI μ a13.1 a13.2 x2).bind fun v15 => f_X10_breakMen_46 T x0 x1 x2 a6.1 a6.2 x2 v15 μ
def g_X10_breakMen_2 (T : List Dsc) (x0 : Nat) (x1 : Int32) (s : Int32 × Mem) : Option ((Int32 × Mem) ⊕ ((Mem))) := f_X10_breakMen_2 T x0 x1 s.1 s.2
def F_X10_breakMen (T : List Dsc) (x0 : Nat) (x1 : Int32) (μ : Mem) : Option Mem :=
  (loop (g_X10_breakMen_2 T x0 x1) ((0 : Int32), μ)).bind fun e1 => some e1
def f_X10_lastKnown_4 (T : List Dsc) (x0 : Nat) (x1 : Int32) (x2 : Int32) (x3 : Int32) (μ : Mem) : Option ((Int32 × Int32 × Mem) ⊕ ((Int32 × Mem))) :=
  if x1 ≤ x3 then some (Sum.inr (x2, μ)) else if (20 : Int32) ≤ x3 then some (Sum.inr (x2, μ)) else (gA T μ x0 2 0).bind fun a3 => (rI μ a3.1 a3.2 x3).bind fun v5 => (nmI (mxI x2 v5)).bind fun v7 => (nmI (x3 + (1 : Int32))).bind fun v9 => some (Sum.inl (v7, v9, μ))
def g_X10_lastKnown_4 (T : List Dsc) (x0 : Nat) (x1 : Int32) (s : Int32 × Int32 × Mem) : Option ((Int32 × Int32 × Mem) ⊕ ((Int32 × Mem))) := f_X10_lastKnown_4 T x0 x1 s.1 s.2.1 s.2.2
def f_X10_lastKnown_32 (T : List Dsc) (x2 : Int32) (μ : Mem) : Option (Int32 × Mem) :=
  some (x2, μ)
def F_X10_lastKnown (T : List Dsc) (x0 : Nat) (x1 : Int32) (μ : Mem) : Option (Int32 × Mem) :=
  (loop (g_X10_lastKnown_4 T x0 x1) ((-1 : Int32), (0 : Int32), μ)).bind fun e1 => f_X10_lastKnown_32 T e1.1 e1.2
def f_X10_agrees_50 (T : List Dsc) (x0 : Nat) (x1 : Int32) (x2 : Int32) (x3 : Int32) (x4 : Int32) (μ : Mem) : Option ((Int32 × Mem) ⊕ ((Mem) ⊕ (Mem))) :=
  (nmI (x4 + (1 : Int32))).bind fun v1 => some (Sum.inl (v1, μ))
def f_X10_agrees_3 (T : List Dsc) (x0 : Nat) (x1 : Int32) (x2 : Int32) (x3 : Int32) (x4 : Int32) (μ : Mem) : Option ((Int32 × Mem) ⊕ ((Mem) ⊕ (Mem))) :=
  if x3 ≤ x4 then some (Sum.inr (Sum.inr μ)) else if (20 : Int32) ≤ x4 then some (Sum.inr (Sum.inr μ)) else (gA T μ x0 2 0).bind fun a3 => (rI μ a3.1 a3.2 x4).bind fun v5 => if v5 = x2 then (gA T μ x0 3 0).bind fun a8 => (rI μ a8.1 a8.2 x4).bind fun v10 => (gA T μ x0 4 0).bind fun a12 => (rI μ a12.1 a12.2 x4).bind fun v14 => if ((x1 >>> (v10 &&& 31)) &&& (1 : Int32)) = v14 then f_X10_agrees_50 T x0 x1 x2 x3 x4 μ else some (Sum.inr (Sum.inl μ)) else f_X10_agrees_50 T x0 x1 x2 x3 x4 μ
def g_X10_agrees_3 (T : List Dsc) (x0 : Nat) (x1 : Int32) (x2 : Int32) (x3 : Int32) (s : Int32 × Mem) : Option ((Int32 × Mem) ⊕ ((Mem) ⊕ (Mem))) := f_X10_agrees_3 T x0 x1 x2 x3 s.1 s.2
def f_X10_agrees_56 (T : List Dsc) (μ : Mem) : Option (Int32 × Mem) :=
  some ((1 : Int32), μ)
def F_X10_agrees (T : List Dsc) (x0 : Nat) (x1 : Int32) (x2 : Int32) (x3 : Int32) (μ : Mem) : Option (Int32 × Mem) :=
  (loop (g_X10_agrees_3 T x0 x1 x2 x3) ((0 : Int32), μ)).bind fun e1 => (Sum.elim (fun e1_0 => some ((0 : Int32), e1_0)) (fun e1_1 => f_X10_agrees_56 T e1_1)) e1
def f_X10_isSuspect_37 (T : List Dsc) (x0 : Nat) (x3 : Int32) (x4 : Int32) (x5 : Int64) (x7 : Int32) (μ : Mem) : Option ((Int64 × Int32 × Mem) ⊕ ((Mem) ⊕ (Mem))) :=
  if x4 < x7 then some (Sum.inr (Sum.inr μ)) else (gO T μ x0 0 4).bind fun r2 => (F_X5_clashBits T r2 x5 μ).bind fun c4 => (F_X10_agrees T x0 c4.1 x7 x3 c4.2).bind fun c6 => if c6.1 = 0 then some (Sum.inr (Sum.inl c6.2)) else (gO T c6.2 x0 0 4).bind fun r9 => (gA T c6.2 x0 5 0).bind fun a11 => (gO T c6.2 x0 0 4).bind fun r13 => (gO T c6.2 r13 0 6).bind fun r15 => (gO T c6.2 x0 0 4).bind fun r17 => (gO T c6.2 r17 0 6).bind fun r19 => (F_X7_isFog T r19 x7 c6.2).bind fun c21 => (F_X5_stroke T r9 x5 a11.1 a11.2 (gI c6.2 r15 8) c21.1 c21.2).bind fun c23 => (nmI (x7 + (1 : Int32))).bind fun v25 => some (Sum.inl (c23.1, v25, c23.2))
def g_X10_isSuspect_37 (T : List Dsc) (x0 : Nat) (x3 : Int32) (x4 : Int32) (s : Int64 × Int32 × Mem) : Option ((Int64 × Int32 × Mem) ⊕ ((Mem) ⊕ (Mem))) := f_X10_isSuspect_37 T x0 x3 x4 s.1 s.2.1 s.2.2
def F_X10_isSuspect (T : List Dsc) (x0 : Nat) (x1 : Int32) (x2 : Int32) (x3 : Int32) (μ : Mem) : Option (Int32 × Mem) :=
  (F_J6_bitCount_0f7a4 T x1 μ).bind fun c1 => if c1.1 = x2 then (F_X10_breakMen T x0 x1 c1.2).bind fun c4 => (F_X10_lastKnown T x0 x3 c4).bind fun c6 => (gO T c6.2 x0 0 4).bind fun r8 => (gO T c6.2 r8 0 6).bind fun r10 => (nmJ (gJ c6.2 r10 7)).bind fun v12 => (loop (g_X10_isSuspect_37 T x0 x3 c6.1) (v12, (0 : Int32), c6.2)).bind fun e14 => (Sum.elim (fun e14_0 => some ((0 : Int32), e14_0)) (fun e14_1 => some ((1 : Int32), e14_1))) e14 else some ((0 : Int32), c1.2)
def f_X10_countSets_36 (T : List Dsc) (x0 : Nat) (x1 : Int32) (x2 : Int32) (x3 : Int32) (x4 : Int32) (μ : Mem) : Option ((Int32 × Int32 × Mem) ⊕ ((Int32 × Mem))) :=
  (nmI (x4 + (1 : Int32))).bind fun v1 => some (Sum.inl (x3, v1, μ))
def f_X10_countSets_5 (T : List Dsc) (x0 : Nat) (x1 : Int32) (x2 : Int32) (x3 : Int32) (x4 : Int32) (μ : Mem) : Option ((Int32 × Int32 × Mem) ⊕ ((Int32 × Mem))) :=
  (gO T μ x0 0 4).bind fun r1 => (gO T μ r1 0 6).bind fun r3 => if ((1 : Int32) <<< ((gI μ r3 5) &&& 31)) ≤ x4 then some (Sum.inr (x3, μ)) else (F_X10_isSuspect T x0 x4 x1 x2 μ).bind fun c6 => if c6.1 = 0 then f_X10_countSets_36 T x0 x1 x2 x3 x4 c6.2 else (nmI (x3 + (1 : Int32))).bind fun v9 => f_X10_countSets_36 T x0 x1 x2 v9 x4 c6.2
def g_X10_countSets_5 (T : List Dsc) (x0 : Nat) (x1 : Int32) (x2 : Int32) (s : Int32 × Int32 × Mem) : Option ((Int32 × Int32 × Mem) ⊕ ((Int32 × Mem))) := f_X10_countSets_5 T x0 x1 x2 s.1 s.2.1 s.2.2
def F_X10_countSets (T : List Dsc) (x0 : Nat) (x1 : Int32) (x2 : Int32) (μ : Mem) : Option (Int32 × Mem) :=
  (loop (g_X10_countSets_5 T x0 x1 x2) ((0 : Int32), (0 : Int32), μ)).bind fun e1 => some (e1.1, e1.2)
def f_X10_setNumber_46 (T : List Dsc) (x0 : Nat) (x1 : Int32) (x2 : Int32) (x3 : Int32) (x4 : Int32) (x5 : Int32) (μ : Mem) : Option ((Int32 × Int32 × Mem) ⊕ ((Int32 × Mem) ⊕ (Mem))) :=
  (nmI (x5 + (1 : Int32))).bind fun v1 => some (Sum.inl (x4, v1, μ))
def f_X10_setNumber_6 (T : List Dsc) (x0 : Nat) (x1 : Int32) (x2 : Int32) (x3 : Int32) (x4 : Int32) (x5 : Int32) (μ : Mem) : Option ((Int32 × Int32 × Mem) ⊕ ((Int32 × Mem) ⊕ (Mem))) :=
  (gO T μ x0 0 4).bind fun r1 => (gO T μ r1 0 6).bind fun r3 => if ((1 : Int32) <<< ((gI μ r3 5) &&& 31)) ≤ x5 then some (Sum.inr (Sum.inr μ)) else (F_X10_isSuspect T x0 x5 x1 x2 μ).bind fun c6 => if c6.1 = 0 then f_X10_setNumber_46 T x0 x1 x2 x3 x4 x5 c6.2 else if x4 = x3 then some (Sum.inr (Sum.inl (x5, c6.2))) else (nmI (x4 + (1 : Int32))).bind fun v10 => f_X10_setNumber_46 T x0 x1 x2 x3 v10 x5 c6.2
def g_X10_setNumber_6 (T : List Dsc) (x0 : Nat) (x1 : Int32) (x2 : Int32) (x3 : Int32) (s : Int32 × Int32 × Mem) : Option ((Int32 × Int32 × Mem) ⊕ ((Int32 × Mem) ⊕ (Mem))) := f_X10_setNumber_6 T x0 x1 x2 x3 s.1 s.2.1 s.2.2
def F_X10_setNumber (T : List Dsc) (x0 : Nat) (x1 : Int32) (x2 : Int32) (x3 : Int32) (μ : Mem) : Option (Int32 × Mem) :=
  (loop (g_X10_setNumber_6 T x0 x1 x2 x3) ((0 : Int32), (0 : Int32), μ)).bind fun e1 => (Sum.elim (fun e1_0 => some (e1_0.1, e1_0.2)) (fun e1_1 => some ((-1 : Int32), e1_1))) e1
def f_X10_clashesAt_19 (T : List Dsc) (x0 : Nat) (x2 : Int32) (x3 : Int64) (x5 : Int32) (μ : Mem) : Option ((Int64 × Int32 × Mem) ⊕ ((Int64 × Mem))) :=
  if x2 ≤ x5 then some (Sum.inr (x3, μ)) else (gO T μ x0 0 4).bind fun r2 => (gA T μ x0 5 0).bind fun a4 => (gO T μ x0 0 4).bind fun r6 => (gO T μ r6 0 6).bind fun r8 => (gO T μ x0 0 4).bind fun r10 => (gO T μ r10 0 6).bind fun r12 => (F_X7_isFog T r12 x5 μ).bind fun c14 => (F_X5_stroke T r2 x3 a4.1 a4.2 (gI μ r8 8) c14.1 c14.2).bind fun c16 => (nmI (x5 + (1 : Int32))).bind fun v18 => some (Sum.inl (c16.1, v18, c16.2))
def g_X10_clashesAt_19 (T : List Dsc) (x0 : Nat) (x2 : Int32) (s : Int64 × Int32 × Mem) : Option ((Int64 × Int32 × Mem) ⊕ ((Int64 × Mem))) := f_X10_clashesAt_19 T x0 x2 s.1 s.2.1 s.2.2
def F_X10_clashesAt (T : List Dsc) (x0 : Nat) (x1 : Int32) (x2 : Int32) (μ : Mem) : Option (Int32 × Mem) :=
  (F_X10_breakMen T x0 x1 μ).bind fun c1 => (gO T c1 x0 0 4).bind fun r3 => (gO T c1 r3 0 6).bind fun r5 => (nmJ (gJ c1 r5 7)).bind fun v7 => (loop (g_X10_clashesAt_19 T x0 x2) (v7, (0 : Int32), c1)).bind fun e9 => (gO T e9.2 x0 0 4).bind fun r11 => (F_X5_clashBits T r11 e9.1 e9.2).bind fun c13 => some (c13.1, c13.2)
def F_X10_greaterPart (T : List Dsc) (x0 : Nat) (x1 : Int32) (x2 : Int32) (μ : Mem) : Option (Int32 × Mem) :=
  (gA T μ x0 6 0).bind fun a1 => (rI μ a1.1 a1.2 x1).bind fun v3 => (gA T μ x0 6 0).bind fun a5 => (rI μ a5.1 a5.2 x1).bind fun v7 => some (mxI v3 (x2 - v7), μ)
def f_X10_evenestBench_61 (T : List Dsc) (x0 : Nat) (x1 : Int32) (x2 : Int32) (x3 : Int32) (x4 : Int32) (x5 : Int32) (x6 : Int32) (x7 : Int32) (x8 : Int32) (μ : Mem) : Option ((Int32 × Mem) ⊕ ((Mem))) :=
  if x4 ≤ x8 then some (Sum.inr μ) else (gA T μ x0 6 0).bind fun a2 => (rI μ a2.1 a2.2 x8).bind fun v4 => (wI μ a2.1 a2.2 x8 (v4 + ((x7 >>> (x8 &&& 31)) &&& (1 : Int32)))).bind fun μ6 => (nmI (x8 + (1 : Int32))).bind fun v8 => some (Sum.inl (v8, μ6))
def g_X10_evenestBench_61 (T : List Dsc) (x0 : Nat) (x1 : Int32) (x2 : Int32) (x3 : Int32) (x4 : Int32) (x5 : Int32) (x6 : Int32) (x7 : Int32) (s : Int32 × Mem) : Option ((Int32 × Mem) ⊕ ((Mem))) := f_X10_evenestBench_61 T x0 x1 x2 x3 x4 x5 x6 x7 s.1 s.2
def f_X10_evenestBench_91 (T : List Dsc) (x0 : Nat) (x1 : Int32) (x2 : Int32) (x3 : Int32) (x4 : Int32) (x5 : Int32) (x6 : Int32) (μ : Mem) : Option ((Int32 × Int32 × Mem) ⊕ ((Int32 × Mem))) :=
  (nmI (x6 + (1 : Int32))).bind fun v1 => some (Sum.inl (x5, v1, μ))
def f_X10_evenestBench_26 (T : List Dsc) (x0 : Nat) (x1 : Int32) (x2 : Int32) (x3 : Int32) (x4 : Int32) (x5 : Int32) (x6 : Int32) (μ : Mem) : Option ((Int32 × Int32 × Mem) ⊕ ((Int32 × Mem))) :=
  if ((1 : Int32) <<< (x4 &&& 31)) ≤ x6 then some (Sum.inr (x5, μ)) else (F_X10_isSuspect T x0 x6 x1 x2 μ).bind fun c2 => if c2.1 = 0 then f_X10_evenestBench_91 T x0 x1 x2 x3 x4 x5 x6 c2.2 else (nmI (x5 + (1 : Int32))).bind fun v5 => (F_X10_clashesAt T x0 x6 x3 c2.2).bind fun c7 => (loop (g_X10_evenestBench_61 T x0 x1 x2 x3 x4 v5 x6 c7.1) ((1 : Int32), c7.2)).bind fun e9 => f_X10_evenestBench_91 T x0 x1 x2 x3 x4 v5 x6 e9
def g_X10_evenestBench_26 (T : List Dsc) (x0 : Nat) (x1 : Int32) (x2 : Int32) (x3 : Int32) (x4 : Int32) (s : Int32 × Int32 × Mem) : Option ((Int32 × Int32 × Mem) ⊕ ((Int32 × Mem))) := f_X10_evenestBench_26 T x0 x1 x2 x3 x4 s.1 s.2.1 s.2.2
def f_X10_evenestBench_108 (T : List Dsc) (μ : Mem) : Option (Int32 × Mem) :=
  some ((-2 : Int32), μ)
def f_X10_evenestBench_147 (T : List Dsc) (x0 : Nat) (x4 : Int32) (x5 : Int32) (x6 : Int32) (x7 : Int32) (μ : Mem) : Option ((Int32 × Int32 × Mem) ⊕ ((Int32 × Mem))) :=
  (nmI (x7 + (1 : Int32))).bind fun v1 => some (Sum.inl (x6, v1, μ))
def f_X10_evenestBench_117 (T : List Dsc) (x0 : Nat) (x4 : Int32) (x5 : Int32) (x6 : Int32) (x7 : Int32) (μ : Mem) : Option ((Int32 × Int32 × Mem) ⊕ ((Int32 × Mem))) :=
  if x4 ≤ x7 then some (Sum.inr (x6, μ)) else (F_X10_greaterPart T x0 x7 x5 μ).bind fun c2 => (F_X10_greaterPart T x0 x6 x5 c2.2).bind fun c4 => if c4.1 ≤ c2.1 then f_X10_evenestBench_147 T x0 x4 x5 x6 x7 c4.2 else f_X10_evenestBench_147 T x0 x4 x5 x7 x7 c4.2
def g_X10_evenestBench_117 (T : List Dsc) (x0 : Nat) (x4 : Int32) (x5 : Int32) (s : Int32 × Int32 × Mem) : Option ((Int32 × Int32 × Mem) ⊕ ((Int32 × Mem))) := f_X10_evenestBench_117 T x0 x4 x5 s.1 s.2.1 s.2.2
def F_X10_evenestBench (T : List Dsc) (x0 : Nat) (x1 : Int32) (x2 : Int32) (x3 : Int32) (μ : Mem) : Option (Int32 × Mem) :=
  (gO T μ x0 0 4).bind fun r1 => (gO T μ r1 0 6).bind fun r3 => (nmI (gI μ r3 5)).bind fun v5 => (gA T μ x0 6 0).bind fun a7 => (F_J7_fill_53178 T a7.1 a7.2 (0 : Int32) μ).bind fun c9 => (loop (g_X10_evenestBench_26 T x0 x1 x2 x3 v5) ((0 : Int32), (0 : Int32), c9)).bind fun e11 => if e11.1 = 0 then f_X10_evenestBench_108 T e11.2 else if (2 : Int32) ≤ v5 then (loop (g_X10_evenestBench_117 T x0 v5 e11.1) ((1 : Int32), (2 : Int32), e11.2)).bind fun e15 => some (e15.1, e15.2) else f_X10_evenestBench_108 T e11.2
def f_X11_tapeWord_3 (T : List Dsc) (x0 : Nat) (x1 : Int32) (x2 : Int32) (μ : Mem) : Option ((Int32 × Mem) ⊕ ((Mem))) :=
  if x2 < 0 then some (Sum.inr μ) else (gA T μ x0 0 2).bind fun a2 => (wB μ a2.1 a2.2 (gI μ x0 1) (x1.toUInt32 >>> (x2.toUInt32 &&& Int32.toUInt32 31)).toInt32.toInt8.toInt32).bind fun μ4 => (pI μ4 x0 1 ((gI μ4 x0 1) + (1 : Int32))).bind fun μ6 => (nmI (x2 + (-8 : Int32))).bind fun v8 => some (Sum.inl (v8, μ6))
def g_X11_tapeWord_3 (T : List Dsc) (x0 : Nat) (x1 : Int32) (s : Int32 × Mem) : Option ((Int32 × Mem) ⊕ ((Mem))) := f_X11_tapeWord_3 T x0 x1 s.1 s.2
def F_X11_tapeWord (T : List Dsc) (x0 : Nat) (x1 : Int32) (μ : Mem) : Option Mem :=
  (loop (g_X11_tapeWord_3 T x0 x1) ((24 : Int32), μ)).bind fun e1 => some e1
def F_X11_feed (T : List Dsc) (x0 : Nat) (x1 : Int32) (x2 : Int32) (x3 : Int32) (x4 : Int32) (x5 : Int32) (μ : Mem) : Option (Int32 × Mem) :=
  if (gI μ x0 1) ≤ (1980 : Int32) then (F_X11_tapeWord T x0 x1 μ).bind fun c2 => (F_X11_tapeWord T x0 x2 c2).bind fun c4 => (F_X11_tapeWord T x0 x3 c4).bind fun c6 => (F_X11_tapeWord T x0 x4 c6).bind fun c8 => (F_X11_tapeWord T x0 x5 c8).bind fun c10 => some (gI c10 x0 1, c10) else some ((-1 : Int32), μ)
def f_X11_back_12 (T : List Dsc) (μ : Mem) : Option (Int32 × Mem) :=
  some ((-1 : Int32), μ)
def F_X11_back (T : List Dsc) (x0 : Nat) (x1 : Int32) (μ : Mem) : Option (Int32 × Mem) :=
  if x1 < 0 then f_X11_back_12 T μ else if x1 ≤ (gI μ x0 1) then (pI μ x0 1 ((gI μ x0 1) - x1)).bind fun μ3 => some (gI μ3 x0 1, μ3) else f_X11_back_12 T μ
def f_X11_putSpareInPlace_57 (T : List Dsc) (x0 : Nat) (x2 : Int32) (μ : Mem) : Option ((Int32 × Mem) ⊕ ((Mem))) :=
  if (3 : Int32) ≤ x2 then some (Sum.inr μ) else (gA T μ x0 7 4).bind fun a2 => (rO T μ a2.1 a2.2 x2 1).bind fun v4 => (pI μ v4 5 (0 : Int32)).bind fun μ6 => (nmI (x2 + (1 : Int32))).bind fun v8 => some (Sum.inl (v8, μ6))
def g_X11_putSpareInPlace_57 (T : List Dsc) (x0 : Nat) (s : Int32 × Mem) : Option ((Int32 × Mem) ⊕ ((Mem))) := f_X11_putSpareInPlace_57 T x0 s.1 s.2
def F_X11_putSpareInPlace (T : List Dsc) (x0 : Nat) (μ : Mem) : Option Mem :=
  (gO T μ x0 2 6).bind fun r1 => (gO T μ x0 3 6).bind fun r3 => (pR μ x0 2 r3).bind fun μ5 => (pR μ5 x0 3 r1).bind fun μ7 => (gO T μ7 x0 5 4).bind fun r9 => (gO T μ7 x0 2 6).bind fun r11 => (pR μ7 r9 0 r11).bind fun μ13 => (gO T μ13 x0 6 1).bind fun r15 => (gO T μ13 x0 2 6).bind fun r17 => (F_X1_begin T r15 r17 μ13).bind fun c19 => (gO T c19 x0 8 2).bind fun r21 => (F_X3_clear T r21 c19).bind fun c23 => (gO T c23 x0 12 9).bind fun r25 => (pI c23 r25 1 (0 : Int32)).bind fun μ27 => (loop (g_X11_putSpareInPlace_57 T x0) ((0 : Int32), μ27)).bind fun e29 => some e29
def f_X11_read_29 (T : List Dsc) (x1 : Int32) (μ : Mem) : Option (Int32 × Mem) :=
  some (x1, μ)
def F_X11_read (T : List Dsc) (x0 : Nat) (μ : Mem) : Option (Int32 × Mem) :=
  (gO T μ x0 4 3).bind fun r1 => (gO T μ x0 3 6).bind fun r3 => (F_X4_readTape T r1 (gI μ x0 1) r3 μ).bind fun c5 => (pI c5.2 x0 1 (0 : Int32)).bind fun μ7 => if c5.1 = 0 then (F_X11_putSpareInPlace T x0 μ7).bind fun c10 => f_X11_read_29 T c5.1 c10 else f_X11_read_29 T c5.1 μ7
def F_X11_place (T : List Dsc) (x0 : Nat) (μ : Mem) : Option (Int32 × Mem) :=
  (gO T μ x0 4 3).bind fun r1 => some (gI μ r1 5, μ)
def f_X11_isBench_20 (T : List Dsc) (s0 : Int32) (μ : Mem) : Option (Int32 × Mem) :=
  (zb s0).bind fun v1 => some (v1, μ)
def f_X11_isBench_19 (T : List Dsc) (μ : Mem) : Option (Int32 × Mem) :=
  f_X11_isBench_20 T (0 : Int32) μ
def F_X11_isBench (T : List Dsc) (x0 : Nat) (x1 : Int32) (μ : Mem) : Option (Int32 × Mem) :=
  if x1 < 0 then f_X11_isBench_19 T μ else (gO T μ x0 2 6).bind fun r2 => if (gI μ r2 5) ≤ x1 then f_X11_isBench_19 T μ else f_X11_isBench_20 T (1 : Int32) μ
def F_X11_bench (T : List Dsc) (x0 : Nat) (x1 : Int32) (x2 : Int32) (μ : Mem) : Option (Int32 × Mem) :=
  (F_X11_isBench T x0 x1 μ).bind fun c1 => if c1.1 = 0 then some ((-1 : Int32), c1.2) else (gO T c1.2 x0 6 1).bind fun r4 => (F_X11_timeAt T (gJ c1.2 r4 0) x1 c1.2).bind fun c6 => if x2 = (0 : Int32) then some (c6.1, c6.2) else if x2 = (1 : Int32) then (gO T c6.2 x0 6 1).bind fun r10 => (gA T c6.2 r10 1 0).bind fun a12 => (rI c6.2 a12.1 a12.2 x1).bind fun v14 => some (v14, c6.2) else if x2 = (2 : Int32) then (gO T c6.2 x0 6 1).bind fun r17 => (gA T c6.2 r17 2 0).bind fun a19 => (rI c6.2 a19.1 a19.2 x1).bind fun v21 => some (v21, c6.2) else if x2 = (3 : Int32) then (gO T c6.2 x0 5 4).bind fun r24 => (gO T c6.2 x0 6 1).bind fun r26 => (gO T c6.2 x0 2 6).bind fun r28 => (gO T c6.2 x0 6 1).bind fun r30 => (F_X7_isFog T r28 (gI c6.2 r30 4) c6.2).bind fun c32 => (F_X5_heard T r24 x1 c6.1 (gI c6.2 r26 3) c32.1 c32.2).bind fun c34 => some (c34.1, c34.2) else some ((-1 : Int32), c6.2)
def f_X11_row_10 (T : List Dsc) (μ : Mem) : Option (Int32 × Mem) :=
  some ((-1 : Int32), μ)
def f_X11_row_14 (T : List Dsc) (x0 : Nat) (x1 : Int32) (x2 : Int32) (μ : Mem) : Option ((Int32 × Mem) ⊕ ((Mem))) :=
  if x1 ≤ x2 then some (Sum.inr μ) else (gO T μ x0 8 2).bind fun r2 => (gO T μ x0 6 1).bind fun r4 => (F_X3_keep T r2 (gJ μ r4 0) μ).bind fun c6 => (gO T c6 x0 6 1).bind fun r8 => (gO T c6 x0 5 4).bind fun r10 => (gO T c6 x0 6 1).bind fun r12 => (gO T c6 x0 6 1).bind fun r14 => (gA T c6 r14 2 0).bind fun a16 => (gO T c6 x0 6 1).bind fun r18 => (gO T c6 x0 2 6).bind fun r20 => (gO T c6 x0 6 1).bind fun r22 => (F_X7_isFog T r20 (gI c6 r22 4) c6).bind fun c24 => (F_X5_stroke T r10 (gJ c6 r12 0) a16.1 a16.2 (gI c6 r18 3) c24.1 c24.2).bind fun c26 => (pJ c26.2 r8 0 c26.1).bind fun μ28 => (gO T μ28 x0 6 1).bind fun r30 => (pI μ28 r30 4 ((gI μ28 r30 4) + (1 : Int32))).bind fun μ32 => (nmI (x2 + (1 : Int32))).bind fun v34 => some (Sum.inl (v34, μ32))
def g_X11_row_14 (T : List Dsc) (x0 : Nat) (x1 : Int32) (s : Int32 × Mem) : Option ((Int32 × Mem) ⊕ ((Mem))) := f_X11_row_14 T x0 x1 s.1 s.2
def F_X11_row (T : List Dsc) (x0 : Nat) (x1 : Int32) (μ : Mem) : Option (Int32 × Mem) :=
  if x1 < 0 then f_X11_row_10 T μ else if x1 ≤ (100 : Int32) then (loop (g_X11_row_14 T x0 x1) ((0 : Int32), μ)).bind fun e3 => (gO T e3 x0 6 1).bind fun r5 => some (gI e3 r5 4, e3) else f_X11_row_10 T μ
def F_X11_undo (T : List Dsc) (x0 : Nat) (μ : Mem) : Option (Int32 × Mem) :=
  (gO T μ x0 8 2).bind fun r1 => if (gI μ r1 1) = 0 then some ((0 : Int32), μ) else (gO T μ x0 6 1).bind fun r4 => (gO T μ x0 8 2).bind fun r6 => (F_X3_takeLast T r6 μ).bind fun c8 => (pJ c8.2 r4 0 c8.1).bind fun μ10 => (gO T μ10 x0 6 1).bind fun r12 => (pI μ10 r12 4 ((gI μ10 r12 4) - (1 : Int32))).bind fun μ14 => some ((1 : Int32), μ14)
def F_X11_clashes (T : List Dsc) (x0 : Nat) (μ : Mem) : Option (Int32 × Mem) :=
  (gO T μ x0 5 4).bind fun r1 => (gO T μ x0 6 1).bind fun r3 => (F_X5_clashBits T r1 (gJ μ r3 0) μ).bind fun c5 => some (c5.1, c5.2)
def f_X11_way_19 (T : List Dsc) (μ : Mem) : Option (Int32 × Mem) :=
  some ((-1 : Int32), μ)
def f_X11_way_52 (T : List Dsc) (s0 : Int32) (μ : Mem) : Option (Int32 × Mem) :=
  some (s0, μ)
def F_X11_way (T : List Dsc) (x0 : Nat) (x1 : Int32) (μ : Mem) : Option (Int32 × Mem) :=
  if x1 < 0 then f_X11_way_19 T μ else if (1 : Int32) < x1 then f_X11_way_19 T μ else (gO T μ x0 2 6).bind fun r3 => if (gI μ r3 5) = 0 then f_X11_way_19 T μ else (gO T μ x0 5 4).bind fun r6 => (gO T μ x0 6 1).bind fun r8 => (F_X5_wayPart T r6 (gJ μ r8 0) μ).bind fun c10 => if x1 = 0 then (gO T c10.2 x0 5 4).bind fun r13 => (F_X5_menNear T r13 c10.1 c10.2).bind fun c15 => f_X11_way_52 T c15.1 c15.2 else f_X11_way_52 T c10.1 c10.2
def f_X11_wave_9 (T : List Dsc) (μ : Mem) : Option (Int32 × Mem) :=
  some ((-1 : Int32), μ)
def F_X11_wave (T : List Dsc) (x0 : Nat) (x1 : Int32) (μ : Mem) : Option (Int32 × Mem) :=
  if x1 < 0 then f_X11_wave_9 T μ else if x1 ≤ (2 : Int32) then (gO T μ x0 5 4).bind fun r3 => (gO T μ x0 6 1).bind fun r5 => (F_X5_waveOf T r3 (gJ μ r5 0) x1 μ).bind fun c7 => some (c7.1, c7.2) else f_X11_wave_9 T μ
def f_X11_soon_16 (T : List Dsc) (μ : Mem) : Option (Int32 × Mem) :=
  some ((-1 : Int32), μ)
def f_X11_soon_29 (T : List Dsc) (x0 : Nat) (x1 : Int32) (x2 : Int64) (x4 : Int32) (μ : Mem) : Option ((Int64 × Int32 × Mem) ⊕ ((Int32 × Mem) ⊕ (Mem))) :=
  if (100 : Int32) < x4 then some (Sum.inr (Sum.inr μ)) else (gO T μ x0 5 4).bind fun r2 => (F_X5_wayOf T r2 x2 μ).bind fun c4 => if c4.1 < x1 then (gO T c4.2 x0 5 4).bind fun r7 => (gO T c4.2 x0 6 1).bind fun r9 => (gA T c4.2 r9 2 0).bind fun a11 => (gO T c4.2 x0 6 1).bind fun r13 => (gO T c4.2 x0 2 6).bind fun r15 => (gO T c4.2 x0 6 1).bind fun r17 => (F_X7_isFog T r15 ((gI c4.2 r17 4) + x4) c4.2).bind fun c19 => (F_X5_stroke T r7 x2 a11.1 a11.2 (gI c4.2 r13 3) c19.1 c19.2).bind fun c21 => (nmI (x4 + (1 : Int32))).bind fun v23 => some (Sum.inl (c21.1, v23, c21.2)) else some (Sum.inr (Sum.inl (x4, c4.2)))
def g_X11_soon_29 (T : List Dsc) (x0 : Nat) (x1 : Int32) (s : Int64 × Int32 × Mem) : Option ((Int64 × Int32 × Mem) ⊕ ((Int32 × Mem) ⊕ (Mem))) := f_X11_soon_29 T x0 x1 s.1 s.2.1 s.2.2
def F_X11_soon (T : List Dsc) (x0 : Nat) (x1 : Int32) (μ : Mem) : Option (Int32 × Mem) :=
  if x1 < (1 : Int32) then f_X11_soon_16 T μ else (gO T μ x0 2 6).bind fun r2 => if x1 ≤ (gI μ r2 5) then (gO T μ x0 6 1).bind fun r5 => (nmJ (gJ μ r5 0)).bind fun v7 => (loop (g_X11_soon_29 T x0 x1) (v7, (0 : Int32), μ)).bind fun e9 => (Sum.elim (fun e9_0 => some (e9_0.1, e9_0.2)) (fun e9_1 => some ((-2 : Int32), e9_1))) e9 else f_X11_soon_16 T μ
def f_X11_rubs_11 (T : List Dsc) (μ : Mem) : Option (Int32 × Mem) :=
  some ((-1 : Int32), μ)
def F_X11_rubs (T : List Dsc) (x0 : Nat) (x1 : Int32) (μ : Mem) : Option (Int32 × Mem) :=
  if x1 < (1 : Int32) then f_X11_rubs_11 T μ else if x1 ≤ (100 : Int32) then (gO T μ x0 5 4).bind fun r3 => (gO T μ x0 6 1).bind fun r5 => (F_X5_mostClashing T r3 r5 x1 μ).bind fun c7 => some (c7.1, c7.2) else f_X11_rubs_11 T μ
def f_X11_still_45 (T : List Dsc) (s0 : Int32) (μ : Mem) : Option (Int32 × Mem) :=
  some (s0, μ)
def F_X11_still (T : List Dsc) (x0 : Nat) (μ : Mem) : Option (Int32 × Mem) :=
  (gO T μ x0 5 4).bind fun r1 => (gO T μ x0 6 1).bind fun r3 => (gO T μ x0 6 1).bind fun r5 => (gA T μ r5 2 0).bind fun a7 => (gO T μ x0 6 1).bind fun r9 => (F_X5_stroke T r1 (gJ μ r3 0) a7.1 a7.2 (gI μ r9 3) (0 : Int32) μ).bind fun c11 => (gO T c11.2 x0 6 1).bind fun r13 => if (lg_cmp c11.1 (gJ c11.2 r13 0)) = 0 then f_X11_still_45 T (1 : Int32) c11.2 else f_X11_still_45 T (0 : Int32) c11.2
def f_X11_round_9 (T : List Dsc) (μ : Mem) : Option (Int32 × Mem) :=
  some ((-1 : Int32), μ)
def f_X11_round_49 (T : List Dsc) (s0 : Int32) (μ : Mem) : Option (Int32 × Mem) :=
  some (s0, μ)
def F_X11_round (T : List Dsc) (x0 : Nat) (x1 : Int32) (μ : Mem) : Option (Int32 × Mem) :=
  if x1 < 0 then f_X11_round_9 T μ else if x1 ≤ (1 : Int32) then (gO T μ x0 11 8).bind fun r3 => (gO T μ x0 6 1).bind fun r5 => (F_X9_findRound T r3 r5 μ).bind fun c7 => if c7.1 = 0 then some ((-2 : Int32), c7.2) else if x1 = 0 then (gO T c7.2 x0 11 8).bind fun r13 => f_X11_round_49 T (gI c7.2 r13 2) c7.2 else (gO T c7.2 x0 11 8).bind fun r11 => f_X11_round_49 T (gI c7.2 r11 3) c7.2 else f_X11_round_9 T μ
def f_X11_change_21 (T : List Dsc) (μ : Mem) : Option (Int32 × Mem) :=
  some ((0 : Int32), μ)
def F_X11_change (T : List Dsc) (x0 : Nat) (x1 : Int32) (x2 : Int32) (μ : Mem) : Option (Int32 × Mem) :=
  (F_X11_isBench T x0 x1 μ).bind fun c1 => if c1.1 = 0 then f_X11_change_21 T c1.2 else (F_X11_isBench T x0 x2 c1.2).bind fun c4 => if c4.1 = 0 then f_X11_change_21 T c4.2 else if x1 = x2 then f_X11_change_21 T c4.2 else (gO T c4.2 x0 6 1).bind fun r8 => (F_X1_exchange T r8 x1 x2 c4.2).bind fun c10 => some ((1 : Int32), c10)
def f_X11_teach_23 (T : List Dsc) (μ : Mem) : Option (Int32 × Mem) :=
  some ((0 : Int32), μ)
def F_X11_teach (T : List Dsc) (x0 : Nat) (x1 : Int32) (x2 : Int32) (μ : Mem) : Option (Int32 × Mem) :=
  (F_X11_isBench T x0 x1 μ).bind fun c1 => if c1.1 = 0 then f_X11_teach_23 T c1.2 else if x2 < 0 then f_X11_teach_23 T c1.2 else (gO T c1.2 x0 2 6).bind fun r5 => if x2 < (gI c1.2 r5 1) then (gO T c1.2 x0 6 1).bind fun r8 => (gA T c1.2 r8 2 0).bind fun a10 => (wI c1.2 a10.1 a10.2 x1 x2).bind fun μ12 => some ((1 : Int32), μ12) else f_X11_teach_23 T c1.2
def f_X11_set_23 (T : List Dsc) (μ : Mem) : Option (Int32 × Mem) :=
  some ((0 : Int32), μ)
def F_X11_set (T : List Dsc) (x0 : Nat) (x1 : Int32) (x2 : Int32) (μ : Mem) : Option (Int32 × Mem) :=
  (F_X11_isBench T x0 x1 μ).bind fun c1 => if c1.1 = 0 then f_X11_set_23 T c1.2 else if x2 < 0 then f_X11_set_23 T c1.2 else (gO T c1.2 x0 2 6).bind fun r5 => if x2 < (gI c1.2 r5 0) then (gO T c1.2 x0 6 1).bind fun r8 => (gO T c1.2 x0 6 1).bind fun r10 => (F_X11_withTime T (gJ c1.2 r10 0) x1 x2 c1.2).bind fun c12 => (pJ c12.2 r8 0 c12.1).bind fun μ14 => some ((1 : Int32), μ14) else f_X11_set_23 T c1.2
def f_X11_beat_15 (T : List Dsc) (μ : Mem) : Option (Int32 × Mem) :=
  some ((0 : Int32), μ)
def F_X11_beat (T : List Dsc) (x0 : Nat) (x1 : Int32) (μ : Mem) : Option (Int32 × Mem) :=
  if x1 < 0 then f_X11_beat_15 T μ else (gO T μ x0 2 6).bind fun r2 => if x1 < (gI μ r2 0) then (gO T μ x0 6 1).bind fun r5 => (pI μ r5 3 x1).bind fun μ7 => some ((1 : Int32), μ7) else f_X11_beat_15 T μ
def f_X11_seating_18 (T : List Dsc) (μ : Mem) : Option (Int32 × Mem) :=
  some ((-1 : Int32), μ)
def F_X11_seating (T : List Dsc) (x0 : Nat) (x1 : Int32) (x2 : Int32) (μ : Mem) : Option (Int32 × Mem) :=
  (F_X6_isAim T x1 x2 μ).bind fun c1 => if c1.1 = 0 then f_X11_seating_18 T c1.2 else (gO T c1.2 x0 2 6).bind fun r4 => if (gI c1.2 r4 5) = 0 then f_X11_seating_18 T c1.2 else (gO T c1.2 x0 2 6).bind fun r7 => if (gI c1.2 r7 5) ≤ (6 : Int32) then (gO T c1.2 x0 9 5).bind fun r10 => (gO T c1.2 x0 6 1).bind fun r12 => (F_X6_bestOrder T r10 r12 x1 x2 c1.2).bind fun c14 => some (c14.1, c14.2) else some ((-2 : Int32), c1.2)
def f_X11_seat_16 (T : List Dsc) (μ : Mem) : Option (Int32 × Mem) :=
  some ((-1 : Int32), μ)
def F_X11_seat (T : List Dsc) (x0 : Nat) (x1 : Int32) (x2 : Int32) (x3 : Int32) (μ : Mem) : Option (Int32 × Mem) :=
  (F_X6_isAim T x1 x2 μ).bind fun c1 => if c1.1 = 0 then f_X11_seat_16 T c1.2 else (F_X11_isBench T x0 x3 c1.2).bind fun c4 => if c4.1 = 0 then f_X11_seat_16 T c4.2 else (gO T c4.2 x0 2 6).bind fun r7 => if (gI c4.2 r7 5) ≤ (6 : Int32) then (gO T c4.2 x0 9 5).bind fun r10 => (gO T c4.2 x0 6 1).bind fun r12 => (F_X6_bestOrder T r10 r12 x1 x2 c4.2).bind fun c14 => (gO T c14.2 x0 9 5).bind fun r16 => (gA T c14.2 r16 2 0).bind fun a18 => (rI c14.2 a18.1 a18.2 x3).bind fun v20 => some (v20, c14.2) else some ((-2 : Int32), c4.2)
def f_X11_better_18 (T : List Dsc) (μ : Mem) : Option (Int32 × Mem) :=
  some ((-1 : Int32), μ)
def F_X11_better (T : List Dsc) (x0 : Nat) (x1 : Int32) (x2 : Int32) (μ : Mem) : Option (Int32 × Mem) :=
  (F_X6_isAim T x1 x2 μ).bind fun c1 => if c1.1 = 0 then f_X11_better_18 T c1.2 else (gO T c1.2 x0 2 6).bind fun r4 => if (gI c1.2 r4 5) = 0 then f_X11_better_18 T c1.2 else (gO T c1.2 x0 9 5).bind fun r7 => (gO T c1.2 x0 6 1).bind fun r9 => (F_X6_bestExchange T r7 r9 x1 x2 c1.2).bind fun c11 => some (c11.1, c11.2)
def f_X11_ram_30 (T : List Dsc) (μ : Mem) : Option (Int32 × Mem) :=
  some ((-1 : Int32), μ)
def f_X11_ram_91 (T : List Dsc) (s0 : Int32) (μ : Mem) : Option (Int32 × Mem) :=
  some (s0, μ)
def F_X11_ram (T : List Dsc) (x0 : Nat) (x1 : Int32) (x2 : Int32) (μ : Mem) : Option (Int32 × Mem) :=
  if x1 < (1 : Int32) then f_X11_ram_30 T μ else if (60 : Int32) < x1 then f_X11_ram_30 T μ else if x2 < 0 then f_X11_ram_30 T μ else if (2 : Int32) < x2 then f_X11_ram_30 T μ else (gO T μ x0 2 6).bind fun r5 => if (gI μ r5 5) = 0 then f_X11_ram_30 T μ else (gO T μ x0 6 1).bind fun r8 => if 0 ≤ (gI μ r8 3) then (gO T μ x0 11 8).bind fun r11 => (gO T μ x0 6 1).bind fun r13 => (F_X9_planRam T r11 r13 x1 μ).bind fun c15 => if x2 = 0 then (gO T c15 x0 11 8).bind fun r23 => some (gI c15 r23 4, c15) else if x2 = (1 : Int32) then (gO T c15 x0 11 8).bind fun r21 => f_X11_ram_91 T (gI c15 r21 5) c15 else (gO T c15 x0 11 8).bind fun r19 => f_X11_ram_91 T (gI c15 r19 6) c15 else some ((-2 : Int32), μ)
def f_X11_odds_41 (T : List Dsc) (μ : Mem) : Option (Int64 × Mem) :=
  some ((-1 : Int64), μ)
def F_X11_odds (T : List Dsc) (x0 : Nat) (x1 : Int32) (x2 : Int32) (x3 : Int32) (μ : Mem) : Option (Int64 × Mem) :=
  if x1 < (1 : Int32) then f_X11_odds_41 T μ else if (10 : Int32) < x1 then f_X11_odds_41 T μ else if x3 < (1 : Int32) then f_X11_odds_41 T μ else if (9 : Int32) < x3 then f_X11_odds_41 T μ else if x2 < 0 then f_X11_odds_41 T μ else if x3 < x2 then f_X11_odds_41 T μ else (gO T μ x0 2 6).bind fun r7 => if (gI μ r7 5) = 0 then f_X11_odds_41 T μ else (gO T μ x0 11 8).bind fun r10 => (gO T μ x0 6 1).bind fun r12 => (gO T μ x0 6 1).bind fun r14 => ((F_X9_weighed 12) T r10 r12 (gJ μ r14 0) x1 x2 x3 μ).bind fun c16 => some (c16.1, c16.2)
def f_X11_tell_32 (T : List Dsc) (μ : Mem) : Option (Int32 × Mem) :=
  some ((-1 : Int32), μ)
def F_X11_tell (T : List Dsc) (x0 : Nat) (x1 : Int32) (x2 : Int32) (x3 : Int32) (μ : Mem) : Option (Int32 × Mem) :=
  (gO T μ x0 12 9).bind fun r1 => if (20 : Int32) ≤ (gI μ r1 1) then f_X11_tell_32 T μ else (F_X10_isStroke T x1 μ).bind fun c4 => if c4.1 = 0 then f_X11_tell_32 T c4.2 else if x2 < (1 : Int32) then f_X11_tell_32 T c4.2 else (F_X11_isBench T x0 x2 c4.2).bind fun c8 => if c8.1 = 0 then f_X11_tell_32 T c8.2 else (gO T c8.2 x0 12 9).bind fun r11 => (F_X10_note T r11 x1 x2 x3 c8.2).bind fun c13 => some (c13.1, c13.2)
def F_X11_forget (T : List Dsc) (x0 : Nat) (μ : Mem) : Option (Int32 × Mem) :=
  (gO T μ x0 12 9).bind fun r1 => (nmI (gI μ r1 1)).bind fun v3 => (gO T μ x0 12 9).bind fun r5 => (pI μ r5 1 (0 : Int32)).bind fun μ7 => some (v3, μ7)
def f_X11_suspects_25 (T : List Dsc) (s0 : Int32) (μ : Mem) : Option (Int32 × Mem) :=
  some (s0, μ)
def F_X11_suspects (T : List Dsc) (x0 : Nat) (x1 : Int32) (x2 : Int32) (μ : Mem) : Option (Int32 × Mem) :=
  (gO T μ x0 12 9).bind fun r1 => (F_X10_isQuestion T r1 x1 x2 μ).bind fun c3 => if c3.1 = 0 then f_X11_suspects_25 T (-1 : Int32) c3.2 else (gO T c3.2 x0 12 9).bind fun r6 => (F_X10_countSets T r6 x1 x2 c3.2).bind fun c8 => f_X11_suspects_25 T c8.1 c8.2
def f_X11_suspect_30 (T : List Dsc) (s0 : Int32) (μ : Mem) : Option (Int32 × Mem) :=
  some (s0, μ)
def f_X11_suspect_29 (T : List Dsc) (μ : Mem) : Option (Int32 × Mem) :=
  f_X11_suspect_30 T (-1 : Int32) μ
def F_X11_suspect (T : List Dsc) (x0 : Nat) (x1 : Int32) (x2 : Int32) (x3 : Int32) (μ : Mem) : Option (Int32 × Mem) :=
  (gO T μ x0 12 9).bind fun r1 => (F_X10_isQuestion T r1 x1 x2 μ).bind fun c3 => if c3.1 = 0 then f_X11_suspect_29 T c3.2 else if x3 < 0 then f_X11_suspect_29 T c3.2 else (gO T c3.2 x0 12 9).bind fun r7 => (F_X10_setNumber T r7 x1 x2 x3 c3.2).bind fun c9 => f_X11_suspect_30 T c9.1 c9.2
def f_X11_check_19 (T : List Dsc) (μ : Mem) : Option (Int32 × Mem) :=
  some ((-1 : Int32), μ)
def F_X11_check (T : List Dsc) (x0 : Nat) (x1 : Int32) (x2 : Int32) (x3 : Int32) (μ : Mem) : Option (Int32 × Mem) :=
  (gO T μ x0 12 9).bind fun r1 => (F_X10_isQuestion T r1 x1 x2 μ).bind fun c3 => if c3.1 = 0 then f_X11_check_19 T c3.2 else (F_X10_isStroke T x3 c3.2).bind fun c6 => if c6.1 = 0 then f_X11_check_19 T c6.2 else (gO T c6.2 x0 12 9).bind fun r9 => (F_X10_evenestBench T r9 x1 x2 x3 c6.2).bind fun c11 => some (c11.1, c11.2)
def f_X11_hold_9 (T : List Dsc) (μ : Mem) : Option (Int32 × Mem) :=
  some ((0 : Int32), μ)
def F_X11_hold (T : List Dsc) (x0 : Nat) (x1 : Int32) (μ : Mem) : Option (Int32 × Mem) :=
  if x1 < 0 then f_X11_hold_9 T μ else if x1 < (3 : Int32) then (gA T μ x0 7 4).bind fun a3 => (rO T μ a3.1 a3.2 x1 1).bind fun v5 => (gO T μ x0 6 1).bind fun r7 => (F_X1_take T v5 r7 μ).bind fun c9 => (gA T c9 x0 7 4).bind fun a11 => (rO T c9 a11.1 a11.2 x1 1).bind fun v13 => (pI c9 v13 5 (1 : Int32)).bind fun μ15 => some ((1 : Int32), μ15) else f_X11_hold_9 T μ
def f_X11_restore_21 (T : List Dsc) (μ : Mem) : Option (Int32 × Mem) :=
  some ((0 : Int32), μ)
def F_X11_restore (T : List Dsc) (x0 : Nat) (x1 : Int32) (μ : Mem) : Option (Int32 × Mem) :=
  if x1 < 0 then f_X11_restore_21 T μ else if (3 : Int32) ≤ x1 then f_X11_restore_21 T μ else (gA T μ x0 7 4).bind fun a3 => (rO T μ a3.1 a3.2 x1 1).bind fun v5 => if (gI μ v5 5) = 0 then f_X11_restore_21 T μ else (gO T μ x0 6 1).bind fun r8 => (gA T μ x0 7 4).bind fun a10 => (rO T μ a10.1 a10.2 x1 1).bind fun v12 => (F_X1_take T r8 v12 μ).bind fun c14 => (gO T c14 x0 8 2).bind fun r16 => (F_X3_clear T r16 c14).bind fun c18 => some ((1 : Int32), c18)
def f_X11_orNotSo_10 (T : List Dsc) (s0 : Int32) (μ : Mem) : Option (Int32 × Mem) :=
  some (s0, μ)
def F_X11_orNotSo (T : List Dsc) (x0 : Int32) (μ : Mem) : Option (Int32 × Mem) :=
  if 0 ≤ x0 then f_X11_orNotSo_10 T x0 μ else f_X11_orNotSo_10 T (-2 : Int32) μ
def f_X11_heldSlots_24 (T : List Dsc) (x0 : Nat) (x1 : Int32) (x2 : Int32) (μ : Mem) : Option ((Int32 × Int32 × Mem) ⊕ ((Int32 × Mem))) :=
  (nmI (x2 + (1 : Int32))).bind fun v1 => some (Sum.inl (x1, v1, μ))
def f_X11_heldSlots_4 (T : List Dsc) (x0 : Nat) (x1 : Int32) (x2 : Int32) (μ : Mem) : Option ((Int32 × Int32 × Mem) ⊕ ((Int32 × Mem))) :=
  if (3 : Int32) ≤ x2 then some (Sum.inr (x1, μ)) else (gA T μ x0 7 4).bind fun a2 => (rO T μ a2.1 a2.2 x2 1).bind fun v4 => if (gI μ v4 5) = 0 then f_X11_heldSlots_24 T x0 x1 x2 μ else (nmI (x1 + (1 : Int32))).bind fun v7 => f_X11_heldSlots_24 T x0 v7 x2 μ
def g_X11_heldSlots_4 (T : List Dsc) (x0 : Nat) (s : Int32 × Int32 × Mem) : Option ((Int32 × Int32 × Mem) ⊕ ((Int32 × Mem))) := f_X11_heldSlots_4 T x0 s.1 s.2.1 s.2.2
def F_X11_heldSlots (T : List Dsc) (x0 : Nat) (μ : Mem) : Option (Int32 × Mem) :=
  (loop (g_X11_heldSlots_4 T x0) ((0 : Int32), (0 : Int32), μ)).bind fun e1 => some (e1.1, e1.2)
def f_X11_count_186 (T : List Dsc) (s0 : Int32) (μ : Mem) : Option (Int32 × Mem) :=
  some (s0, μ)
def F_X11_count (T : List Dsc) (x0 : Nat) (x1 : Int32) (μ : Mem) : Option (Int32 × Mem) :=
  if x1 = (0 : Int32) then (gO T μ x0 2 6).bind fun r2 => some (gI μ r2 0, μ) else if x1 = (1 : Int32) then (gO T μ x0 2 6).bind fun r5 => some (gI μ r5 1, μ) else if x1 = (2 : Int32) then (gO T μ x0 2 6).bind fun r8 => some (gI μ r8 5, μ) else if x1 = (3 : Int32) then (gO T μ x0 6 1).bind fun r11 => some (gI μ r11 4, μ) else if x1 = (4 : Int32) then (gO T μ x0 6 1).bind fun r14 => (F_X11_orNotSo T (gI μ r14 3) μ).bind fun c16 => some (c16.1, c16.2) else if x1 = (5 : Int32) then (gO T μ x0 2 6).bind fun r19 => some (gI μ r19 9, μ) else if x1 = (6 : Int32) then (gO T μ x0 2 6).bind fun r22 => (F_X11_orNotSo T (gI μ r22 10) μ).bind fun c24 => some (c24.1, c24.2) else if x1 = (7 : Int32) then (gO T μ x0 2 6).bind fun r27 => some (gI μ r27 11, μ) else if x1 = (8 : Int32) then some (gI μ x0 1, μ) else if x1 = (9 : Int32) then (gO T μ x0 8 2).bind fun r31 => some (gI μ r31 1, μ) else if x1 = (10 : Int32) then (gO T μ x0 12 9).bind fun r34 => some (gI μ r34 1, μ) else if x1 = (11 : Int32) then (F_X11_heldSlots T x0 μ).bind fun c37 => some (c37.1, c37.2) else if x1 = (12 : Int32) then (gO T μ x0 2 6).bind fun r40 => (gO T μ x0 6 1).bind fun r42 => (F_X7_isFog T r40 (gI μ r42 4) μ).bind fun c44 => if c44.1 = 0 then f_X11_count_186 T (0 : Int32) c44.2 else f_X11_count_186 T (1 : Int32) c44.2 else some ((-1 : Int32), μ)
def f_X12_put_3 (T : List Dsc) (x0 : Nat) (x1 : Int32) (x2 : Int32) (μ : Mem) : Option ((Int32 × Mem) ⊕ ((Mem))) :=
  if x2 < 0 then some (Sum.inr μ) else (gA T μ x0 1 2).bind fun a2 => (wB μ a2.1 a2.2 (gI μ x0 2) (x1 >>> (x2 &&& 31)).toInt8.toInt32).bind fun μ4 => (pI μ4 x0 2 ((gI μ4 x0 2) + (1 : Int32))).bind fun μ6 => (nmI (x2 + (-8 : Int32))).bind fun v8 => some (Sum.inl (v8, μ6))
def g_X12_put_3 (T : List Dsc) (x0 : Nat) (x1 : Int32) (s : Int32 × Mem) : Option ((Int32 × Mem) ⊕ ((Mem))) := f_X12_put_3 T x0 x1 s.1 s.2
def F_X12_put (T : List Dsc) (x0 : Nat) (x1 : Int32) (μ : Mem) : Option Mem :=
  (loop (g_X12_put_3 T x0 x1) ((24 : Int32), μ)).bind fun e1 => some e1
def F_X12_feed (T : List Dsc) (x0 : Nat) (x1 : Int32) (x2 : Int32) (x3 : Int32) (x4 : Int32) (x5 : Int32) (μ : Mem) : Option (Int32 × Mem) :=
  if ((gI μ x0 2) + (20 : Int32)) ≤ (2000 : Int32) then (F_X12_put T x0 x1 μ).bind fun c2 => (F_X12_put T x0 x2 c2).bind fun c4 => (F_X12_put T x0 x3 c4).bind fun c6 => (F_X12_put T x0 x4 c6).bind fun c8 => (F_X12_put T x0 x5 c8).bind fun c10 => some (gI c10 x0 2, c10) else some ((-1 : Int32), μ)
def f_X12_back_12 (T : List Dsc) (μ : Mem) : Option (Int32 × Mem) :=
  some ((-1 : Int32), μ)
def F_X12_back (T : List Dsc) (x0 : Nat) (x1 : Int32) (μ : Mem) : Option (Int32 × Mem) :=
  if x1 < 0 then f_X12_back_12 T μ else if x1 ≤ (gI μ x0 2) then (pI μ x0 2 ((gI μ x0 2) - x1)).bind fun μ3 => some (gI μ3 x0 2, μ3) else f_X12_back_12 T μ
def f_X12_byteAt_22 (T : List Dsc) (s0 : Int32) (μ : Mem) : Option (Int32 × Mem) :=
  some (s0, μ)
def F_X12_byteAt (T : List Dsc) (x0 : Nat) (x1 : Int32) (μ : Mem) : Option (Int32 × Mem) :=
  if (gI μ x0 4) ≤ x1 then f_X12_byteAt_22 T (0 : Int32) μ else (gA T μ x0 3 2).bind fun a2 => (rI μ a2.1 a2.2 x1).bind fun v4 => f_X12_byteAt_22 T (v4 &&& (255 : Int32)) μ
def f_X12_isDigit_17 (T : List Dsc) (s0 : Int32) (μ : Mem) : Option (Int32 × Mem) :=
  (zb s0).bind fun v1 => some (v1, μ)
def f_X12_isDigit_16 (T : List Dsc) (μ : Mem) : Option (Int32 × Mem) :=
  f_X12_isDigit_17 T (0 : Int32) μ
def F_X12_isDigit (T : List Dsc) (x0 : Int32) (μ : Mem) : Option (Int32 × Mem) :=
  if x0 < (48 : Int32) then f_X12_isDigit_16 T μ else if (57 : Int32) < x0 then f_X12_isDigit_16 T μ else f_X12_isDigit_17 T (1 : Int32) μ
def f_X12_isLetter_17 (T : List Dsc) (s0 : Int32) (μ : Mem) : Option (Int32 × Mem) :=
  (zb s0).bind fun v1 => some (v1, μ)
def f_X12_isLetter_16 (T : List Dsc) (μ : Mem) : Option (Int32 × Mem) :=
  f_X12_isLetter_17 T (0 : Int32) μ
def F_X12_isLetter (T : List Dsc) (x0 : Int32) (μ : Mem) : Option (Int32 × Mem) :=
  if x0 < (97 : Int32) then f_X12_isLetter_16 T μ else if (122 : Int32) < x0 then f_X12_isLetter_16 T μ else f_X12_isLetter_17 T (1 : Int32) μ
def f_X12_appends_21 (T : List Dsc) (s0 : Int64) (μ : Mem) : Option (Int64 × Mem) :=
  some (s0, μ)
def F_X12_appends (T : List Dsc) (x0 : Int64) (x2 : Int32) (μ : Mem) : Option (Int64 × Mem) :=
  if x2 = 0 then f_X12_appends_21 T x0 μ else f_X12_appends_21 T (((27 : Int64) * x0) + ((x2 - (97 : Int32)) + (1 : Int32)).toInt64) μ
def F_X12_word (T : List Dsc) (x0 : Int32) (x1 : Int32) (x2 : Int32) (x3 : Int32) (x4 : Int32) (x5 : Int32) (x6 : Int32) (μ : Mem) : Option (Int64 × Mem) :=
  (F_X12_appends T (0 : Int64) x0 μ).bind fun c1 => (F_X12_appends T c1.1 x1 c1.2).bind fun c3 => (F_X12_appends T c3.1 x2 c3.2).bind fun c5 => (F_X12_appends T c5.1 x3 c5.2).bind fun c7 => (F_X12_appends T c7.1 x4 c7.2).bind fun c9 => (F_X12_appends T c9.1 x5 c9.2).bind fun c11 => (F_X12_appends T c11.1 x6 c11.2).bind fun c13 => some (c13.1, c13.2)
def F_X12_token (T : List Dsc) (x0 : Nat) (x1 : Int32) (x2 : Int32) (x3 : Int32) (x4 : Int64) (μ : Mem) : Option Mem :=
  (gA T μ x0 5 0).bind fun a1 => (wI μ a1.1 a1.2 (gI μ x0 10) x1).bind fun μ3 => (gA T μ3 x0 6 0).bind fun a5 => (wI μ3 a5.1 a5.2 (gI μ3 x0 10) x2).bind fun μ7 => (gA T μ7 x0 7 0).bind fun a9 => (wI μ7 a9.1 a9.2 (gI μ7 x0 10) x3).bind fun μ11 => (gA T μ11 x0 8 1).bind fun a13 => (wJ μ11 a13.1 a13.2 (gI μ11 x0 10) x4).bind fun μ15 => (pI μ15 x0 10 ((gI μ15 x0 10) + (1 : Int32))).bind fun μ17 => some μ17
def f_X12_sign_205 (T : List Dsc) (s0 : Int32) (μ : Mem) : Option (Int32 × Mem) :=
  some (s0, μ)
def f_X12_sign_186 (T : List Dsc) (x0 : Nat) (x1 : Int32) (x4 : Int32) (x5 : Int32) (μ : Mem) : Option (Int32 × Mem) :=
  (F_X12_token T x0 x5 x1 (0 : Int32) (0 : Int64) μ).bind fun c1 => if x4 ≤ 0 then f_X12_sign_205 T (1 : Int32) c1 else f_X12_sign_205 T (2 : Int32) c1
def f_X12_sign_44 (T : List Dsc) (x0 : Nat) (x1 : Int32) (x2 : Int32) (s0 : Int32) (μ : Mem) : Option (Int32 × Mem) :=
  if s0 ≤ 0 then if x2 = (59 : Int32) then f_X12_sign_186 T x0 x1 s0 (4 : Int32) μ else if x2 = (40 : Int32) then f_X12_sign_186 T x0 x1 s0 (6 : Int32) μ else if x2 = (41 : Int32) then f_X12_sign_186 T x0 x1 s0 (7 : Int32) μ else if x2 = (43 : Int32) then f_X12_sign_186 T x0 x1 s0 (8 : Int32) μ else if x2 = (45 : Int32) then f_X12_sign_186 T x0 x1 s0 (9 : Int32) μ else if x2 = (42 : Int32) then f_X12_sign_186 T x0 x1 s0 (10 : Int32) μ else if x2 = (60 : Int32) then f_X12_sign_186 T x0 x1 s0 (13 : Int32) μ else if x2 = (47 : Int32) then f_X12_sign_186 T x0 x1 s0 (15 : Int32) μ else if x2 = (44 : Int32) then f_X12_sign_186 T x0 x1 s0 (16 : Int32) μ else if x2 = (61 : Int32) then f_X12_sign_186 T x0 x1 s0 (5 : Int32) μ else f_X12_sign_186 T x0 x1 s0 (3 : Int32) μ else f_X12_sign_186 T x0 x1 s0 s0 μ
def F_X12_sign (T : List Dsc) (x0 : Nat) (x1 : Int32) (x2 : Int32) (x3 : Int32) (μ : Mem) : Option (Int32 × Mem) :=
  if x3 = (61 : Int32) then if x2 = (61 : Int32) then f_X12_sign_44 T x0 x1 x2 (11 : Int32) μ else if x2 = (33 : Int32) then f_X12_sign_44 T x0 x1 x2 (12 : Int32) μ else if x2 = (60 : Int32) then f_X12_sign_44 T x0 x1 x2 (14 : Int32) μ else f_X12_sign_44 T x0 x1 x2 (0 : Int32) μ else f_X12_sign_44 T x0 x1 x2 (0 : Int32) μ
def f_X12_cut_291 (T : List Dsc) (x0 : Nat) (x1 : Int32) (μ : Mem) : Option ((Int32 × Mem) ⊕ ((Mem) ⊕ (Mem))) :=
  some (Sum.inl (x1, μ))
def f_X12_cut_67 (T : List Dsc) (x0 : Nat) (x1 : Int32) (μ : Mem) : Option ((Int32 × Mem) ⊕ ((Mem) ⊕ (Mem))) :=
  (nmI (x1 + (1 : Int32))).bind fun v1 => f_X12_cut_291 T x0 v1 μ
def f_X12_cut_118 (T : List Dsc) (x0 : Nat) (x1 : Int32) (x3 : Int32) (x4 : Int64) (μ : Mem) : Option ((Int32 × Int64 × Mem) ⊕ ((Int32 × Int64 × Mem))) :=
  (nmI (x3 + (1 : Int32))).bind fun v1 => some (Sum.inl (v1, x4, μ))
def f_X12_cut_85 (T : List Dsc) (x0 : Nat) (x1 : Int32) (x3 : Int32) (x4 : Int64) (μ : Mem) : Option ((Int32 × Int64 × Mem) ⊕ ((Int32 × Int64 × Mem))) :=
  (F_X12_byteAt T x0 (x1 + x3) μ).bind fun c1 => (F_X12_isLetter T c1.1 c1.2).bind fun c3 => if c3.1 = 0 then some (Sum.inr (x3, x4, c3.2)) else if (8 : Int32) ≤ x3 then f_X12_cut_118 T x0 x1 x3 x4 c3.2 else (F_X12_byteAt T x0 (x1 + x3) c3.2).bind fun c7 => (F_X12_appends T x4 c7.1 c7.2).bind fun c9 => f_X12_cut_118 T x0 x1 x3 c9.1 c9.2
def g_X12_cut_85 (T : List Dsc) (x0 : Nat) (x1 : Int32) (s : Int32 × Int64 × Mem) : Option ((Int32 × Int64 × Mem) ⊕ ((Int32 × Int64 × Mem))) := f_X12_cut_85 T x0 x1 s.1 s.2.1 s.2.2
def f_X12_cut_173 (T : List Dsc) (x0 : Nat) (x1 : Int32) (x3 : Int32) (x4 : Int64) (x6 : Int32) (x7 : Int32) (μ : Mem) : Option ((Int32 × Int32 × Mem) ⊕ ((Int32 × Mem))) :=
  (nmI (x7 + (1 : Int32))).bind fun v1 => some (Sum.inl (x6, v1, μ))
def f_X12_cut_146 (T : List Dsc) (x0 : Nat) (x1 : Int32) (x3 : Int32) (x4 : Int64) (x6 : Int32) (x7 : Int32) (μ : Mem) : Option ((Int32 × Int32 × Mem) ⊕ ((Int32 × Mem))) :=
  if (17 : Int32) ≤ x7 then some (Sum.inr (x6, μ)) else (gA T μ x0 9 1).bind fun a2 => (rJ μ a2.1 a2.2 x7).bind fun v4 => if (lg_cmp v4 x4) = 0 then (nmI ((20 : Int32) + x7)).bind fun v7 => f_X12_cut_173 T x0 x1 x3 x4 v7 x7 μ else f_X12_cut_173 T x0 x1 x3 x4 x6 x7 μ
def g_X12_cut_146 (T : List Dsc) (x0 : Nat) (x1 : Int32) (x3 : Int32) (x4 : Int64) (s : Int32 × Int32 × Mem) : Option ((Int32 × Int32 × Mem) ⊕ ((Int32 × Mem))) := f_X12_cut_146 T x0 x1 x3 x4 s.1 s.2.1 s.2.2
def f_X12_cut_179 (T : List Dsc) (x0 : Nat) (x1 : Int32) (x3 : Int32) (x4 : Int64) (x6 : Int32) (μ : Mem) : Option ((Int32 × Mem) ⊕ ((Mem) ⊕ (Mem))) :=
  (F_X12_token T x0 x6 x1 (0 : Int32) x4 μ).bind fun c1 => (nmI (x1 + x3)).bind fun v3 => f_X12_cut_291 T x0 v3 c1
def f_X12_cut_135 (T : List Dsc) (x0 : Nat) (x1 : Int32) (x3 : Int32) (x4 : Int64) (s0 : Int32) (μ : Mem) : Option ((Int32 × Mem) ⊕ ((Mem) ⊕ (Mem))) :=
  if (7 : Int32) < x3 then f_X12_cut_179 T x0 x1 x3 x4 s0 μ else (loop (g_X12_cut_146 T x0 x1 x3 x4) (s0, (0 : Int32), μ)).bind fun e2 => f_X12_cut_179 T x0 x1 x3 x4 e2.1 e2.2
def f_X12_cut_244 (T : List Dsc) (x0 : Nat) (x1 : Int32) (x3 : Int32) (x4 : Int32) (μ : Mem) : Option ((Int32 × Int32 × Mem) ⊕ ((Int32 × Int32 × Mem))) :=
  (nmI (x3 + (1 : Int32))).bind fun v1 => some (Sum.inl (v1, x4, μ))
def f_X12_cut_208 (T : List Dsc) (x0 : Nat) (x1 : Int32) (x3 : Int32) (x4 : Int32) (μ : Mem) : Option ((Int32 × Int32 × Mem) ⊕ ((Int32 × Int32 × Mem))) :=
  (F_X12_byteAt T x0 (x1 + x3) μ).bind fun c1 => (F_X12_isDigit T c1.1 c1.2).bind fun c3 => if c3.1 = 0 then some (Sum.inr (x3, x4, c3.2)) else if (4 : Int32) ≤ x3 then f_X12_cut_244 T x0 x1 x3 x4 c3.2 else (F_X12_byteAt T x0 (x1 + x3) c3.2).bind fun c7 => (nmI ((((10 : Int32) * x4) + c7.1) - (48 : Int32))).bind fun v9 => f_X12_cut_244 T x0 x1 x3 v9 c7.2
def g_X12_cut_208 (T : List Dsc) (x0 : Nat) (x1 : Int32) (s : Int32 × Int32 × Mem) : Option ((Int32 × Int32 × Mem) ⊕ ((Int32 × Int32 × Mem))) := f_X12_cut_208 T x0 x1 s.1 s.2.1 s.2.2
def f_X12_cut_261 (T : List Dsc) (x0 : Nat) (x1 : Int32) (x3 : Int32) (x4 : Int32) (s0 : Nat) (s1 : Int32) (μ : Mem) : Option ((Int32 × Mem) ⊕ ((Mem) ⊕ (Mem))) :=
  (F_X12_token T s0 s1 x1 x4 (0 : Int64) μ).bind fun c1 => (nmI (x1 + x3)).bind fun v3 => f_X12_cut_291 T x0 v3 c1
def f_X12_cut_7 (T : List Dsc) (x0 : Nat) (x1 : Int32) (μ : Mem) : Option ((Int32 × Mem) ⊕ ((Mem) ⊕ (Mem))) :=
  if (400 : Int32) < (gI μ x0 10) then some (Sum.inr (Sum.inr μ)) else (F_X12_byteAt T x0 x1 μ).bind fun c2 => if x1 < (gI c2.2 x0 4) then if c2.1 = (9 : Int32) then f_X12_cut_67 T x0 x1 c2.2 else if c2.1 = (10 : Int32) then f_X12_cut_67 T x0 x1 c2.2 else if c2.1 = (13 : Int32) then f_X12_cut_67 T x0 x1 c2.2 else if c2.1 = (32 : Int32) then f_X12_cut_67 T x0 x1 c2.2 else (F_X12_isLetter T c2.1 c2.2).bind fun c9 => if c9.1 = 0 then (F_X12_isDigit T c2.1 c9.2).bind fun c12 => if c12.1 = 0 then (F_X12_byteAt T x0 (x1 + (1 : Int32)) c12.2).bind fun c15 => (F_X12_sign T x0 x1 c2.1 c15.1 c15.2).bind fun c17 => (nmI (x1 + c17.1)).bind fun v19 => f_X12_cut_291 T x0 v19 c17.2 else (loop (g_X12_cut_208 T x0 x1) ((0 : Int32), (0 : Int32), c12.2)).bind fun e21 => if e21.1 ≤ (4 : Int32) then f_X12_cut_261 T x0 x1 e21.1 e21.2.1 x0 (2 : Int32) e21.2.2 else f_X12_cut_261 T x0 x1 e21.1 e21.2.1 x0 (3 : Int32) e21.2.2 else (loop (g_X12_cut_85 T x0 x1) ((0 : Int32), (0 : Int64), c9.2)).bind fun e24 => if e24.1 ≤ (8 : Int32) then f_X12_cut_135 T x0 x1 e24.1 e24.2.1 (1 : Int32) e24.2.2 else f_X12_cut_135 T x0 x1 e24.1 e24.2.1 (3 : Int32) e24.2.2 else some (Sum.inr (Sum.inl c2.2))
def g_X12_cut_7 (T : List Dsc) (x0 : Nat) (s : Int32 × Mem) : Option ((Int32 × Mem) ⊕ ((Mem) ⊕ (Mem))) := f_X12_cut_7 T x0 s.1 s.2
def F_X12_cut (T : List Dsc) (x0 : Nat) (μ : Mem) : Option Mem :=
  (pI μ x0 10 (0 : Int32)).bind fun μ1 => (loop (g_X12_cut_7 T x0) ((0 : Int32), μ1)).bind fun e3 => (Sum.elim (fun e3_0 => (F_X12_token T x0 (0 : Int32) (gI e3_0 x0 4) (0 : Int32) (0 : Int64) e3_0).bind fun c5 => some c5) (fun e3_1 => some e3_1)) e3
def f_X12_is_25 (T : List Dsc) (s0 : Int32) (μ : Mem) : Option (Int32 × Mem) :=
  (zb s0).bind fun v1 => some (v1, μ)
def f_X12_is_24 (T : List Dsc) (μ : Mem) : Option (Int32 × Mem) :=
  f_X12_is_25 T (0 : Int32) μ
def F_X12_is (T : List Dsc) (x0 : Nat) (x1 : Int32) (μ : Mem) : Option (Int32 × Mem) :=
  if (gI μ x0 13) = 0 then (gA T μ x0 5 0).bind fun a2 => (rI μ a2.1 a2.2 (gI μ x0 11)).bind fun v4 => if v4 = x1 then f_X12_is_25 T (1 : Int32) μ else f_X12_is_24 T μ else f_X12_is_24 T μ
def F_X12_fail (T : List Dsc) (x0 : Nat) (x1 : Int32) (μ : Mem) : Option Mem :=
  if (gI μ x0 13) ≤ 0 then (pI μ x0 13 x1).bind fun μ2 => (gA T μ2 x0 6 0).bind fun a4 => (rI μ2 a4.1 a4.2 (gI μ2 x0 11)).bind fun v6 => (pI μ2 x0 14 v6).bind fun μ8 => some μ8 else some μ
def f_X12_wrong_45 (T : List Dsc) (μ : Mem) : Option Mem :=
  some μ
def f_X12_wrong_46 (T : List Dsc) (x0 : Nat) (x1 : Int32) (x3 : Int32) (μ : Mem) : Option Mem :=
  (pI μ x0 15 x1).bind fun μ1 => (pI μ1 x0 16 x3).bind fun μ3 => some μ3
def F_X12_wrong (T : List Dsc) (x0 : Nat) (x1 : Int32) (x2 : Int32) (μ : Mem) : Option Mem :=
  (gA T μ x0 6 0).bind fun a1 => (rI μ a1.1 a1.2 x2).bind fun v3 => if 0 < (gI μ x0 13) then f_X12_wrong_45 T μ else if (gI μ x0 15) = 0 then f_X12_wrong_46 T x0 x1 v3 μ else if (gI μ x0 16) < v3 then f_X12_wrong_45 T μ else if v3 = (gI μ x0 16) then if x1 < (gI μ x0 15) then f_X12_wrong_46 T x0 x1 v3 μ else f_X12_wrong_45 T μ else f_X12_wrong_46 T x0 x1 v3 μ
def f_X12_goesOn_28 (T : List Dsc) (μ : Mem) : Option Mem :=
  some μ
def F_X12_goesOn (T : List Dsc) (x0 : Nat) (μ : Mem) : Option Mem :=
  if (gI μ x0 11) = (400 : Int32) then (F_X12_fail T x0 (2 : Int32) μ).bind fun c4 => f_X12_goesOn_28 T c4 else (pI μ x0 11 ((gI μ x0 11) + (1 : Int32))).bind fun μ2 => f_X12_goesOn_28 T μ2
def f_X12_must_20 (T : List Dsc) (μ : Mem) : Option Mem :=
  some μ
def F_X12_must (T : List Dsc) (x0 : Nat) (x1 : Int32) (μ : Mem) : Option Mem :=
  (F_X12_is T x0 x1 μ).bind fun c1 => if c1.1 = 0 then (F_X12_fail T x0 (1 : Int32) c1.2).bind fun c4 => f_X12_must_20 T c4 else (F_X12_goesOn T x0 c1.2).bind fun c6 => f_X12_must_20 T c6
def f_X12_bounded_15 (T : List Dsc) (x0 : Nat) (x1 : Int32) (μ : Mem) : Option (Int32 × Mem) :=
  (F_X12_fail T x0 (1 : Int32) μ).bind fun c1 => some (x1, c1)
def f_X12_bounded_51 (T : List Dsc) (x0 : Nat) (x3 : Int32) (μ : Mem) : Option (Int32 × Mem) :=
  (F_X12_goesOn T x0 μ).bind fun c1 => some (x3, c1)
def f_X12_bounded_42 (T : List Dsc) (x0 : Nat) (x3 : Int32) (μ : Mem) : Option (Int32 × Mem) :=
  (F_X12_wrong T x0 (5 : Int32) (gI μ x0 11) μ).bind fun c1 => f_X12_bounded_51 T x0 x3 c1
def F_X12_bounded (T : List Dsc) (x0 : Nat) (x1 : Int32) (x2 : Int32) (μ : Mem) : Option (Int32 × Mem) :=
  if 0 < (gI μ x0 13) then f_X12_bounded_15 T x0 x1 μ else (F_X12_is T x0 (2 : Int32) μ).bind fun c2 => if c2.1 = 0 then f_X12_bounded_15 T x0 x1 c2.2 else (gA T c2.2 x0 7 0).bind fun a5 => (rI c2.2 a5.1 a5.2 (gI c2.2 x0 11)).bind fun v7 => if v7 < x1 then f_X12_bounded_42 T x0 v7 c2.2 else if v7 ≤ x2 then f_X12_bounded_51 T x0 v7 c2.2 else f_X12_bounded_42 T x0 v7 c2.2
def f_X12_roomFor_21 (T : List Dsc) (μ : Mem) : Option Mem :=
  some μ
def f_X12_roomFor_10 (T : List Dsc) (x0 : Nat) (μ : Mem) : Option Mem :=
  if (gI μ x0 13) = 0 then (F_X12_goesOn T x0 μ).bind fun c2 => f_X12_roomFor_21 T c2 else f_X12_roomFor_21 T μ
def F_X12_roomFor (T : List Dsc) (x0 : Nat) (x1 : Int32) (x2 : Int32) (μ : Mem) : Option Mem :=
  if x1 = x2 then (F_X12_fail T x0 (2 : Int32) μ).bind fun c2 => f_X12_roomFor_10 T x0 c2 else f_X12_roomFor_10 T x0 μ
def f_X12_named_49 (T : List Dsc) (x0 : Nat) (x1 : Int32) (x2 : Int32) (μ : Mem) : Option ((Int32 × Mem) ⊕ ((Mem))) :=
  (nmI (x2 + (1 : Int32))).bind fun v1 => some (Sum.inl (v1, μ))
def f_X12_named_12 (T : List Dsc) (x0 : Nat) (x1 : Int32) (x2 : Int32) (μ : Mem) : Option ((Int32 × Mem) ⊕ ((Mem))) :=
  if (gI μ x0 20) ≤ x2 then some (Sum.inr μ) else if (gI μ x0 13) = 0 then (gA T μ x0 21 1).bind fun a3 => (rJ μ a3.1 a3.2 x2).bind fun v5 => (gA T μ x0 8 1).bind fun a7 => (rJ μ a7.1 a7.2 x1).bind fun v9 => if (lg_cmp v5 v9) = 0 then (F_X12_wrong T x0 (3 : Int32) x1 μ).bind fun c12 => f_X12_named_49 T x0 x1 x2 c12 else f_X12_named_49 T x0 x1 x2 μ else some (Sum.inr μ)
def g_X12_named_12 (T : List Dsc) (x0 : Nat) (x1 : Int32) (s : Int32 × Mem) : Option ((Int32 × Mem) ⊕ ((Mem))) := f_X12_named_12 T x0 x1 s.1 s.2
def f_X12_named_55 (T : List Dsc) (x1 : Int32) (μ : Mem) : Option (Int32 × Mem) :=
  some (x1, μ)
def F_X12_named (T : List Dsc) (x0 : Nat) (μ : Mem) : Option (Int32 × Mem) :=
  (nmI (gI μ x0 11)).bind fun v1 => (F_X12_must T x0 (1 : Int32) μ).bind fun c3 => (loop (g_X12_named_12 T x0 v1) ((0 : Int32), c3)).bind fun e5 => f_X12_named_55 T v1 e5
def F_X12_pushes (T : List Dsc) (x0 : Nat) (x1 : Int32) (μ : Mem) : Option Mem :=
  (gA T μ x0 53 0).bind fun a1 => (wI μ a1.1 a1.2 (gI μ x0 54) x1).bind fun μ3 => (pI μ3 x0 54 ((gI μ3 x0 54) + (1 : Int32))).bind fun μ5 => some μ5
def f_X12_opensMany_66 (T : List Dsc) (x0 : Nat) (x1 : Int32) (μ : Mem) : Option ((Mem) ⊕ ((Mem) ⊕ (Mem))) :=
  if (gI μ x0 13) ≤ 0 then (pI μ x0 12 ((gI μ x0 12) + (1 : Int32))).bind fun μ2 => (F_X12_goesOn T x0 μ2).bind fun c4 => (F_X12_pushes T x0 x1 c4).bind fun c6 => some (Sum.inl c6) else some (Sum.inr (Sum.inl μ))
def f_X12_opensMany_52 (T : List Dsc) (x0 : Nat) (x1 : Int32) (μ : Mem) : Option ((Mem) ⊕ ((Mem) ⊕ (Mem))) :=
  if (gI μ x0 12) = (6 : Int32) then (F_X12_fail T x0 (2 : Int32) μ).bind fun c2 => f_X12_opensMany_66 T x0 x1 c2 else f_X12_opensMany_66 T x0 x1 μ
def f_X12_opensMany_18 (T : List Dsc) (x0 : Nat) (μ : Mem) : Option ((Mem) ⊕ ((Mem) ⊕ (Mem))) :=
  (gA T μ x0 5 0).bind fun a1 => (rI μ a1.1 a1.2 (gI μ x0 11)).bind fun v3 => if v3 = (36 : Int32) then (F_X12_goesOn T x0 μ).bind fun c6 => (F_X12_is T x0 (6 : Int32) c6).bind fun c8 => if c8.1 = 0 then (F_X12_fail T x0 (1 : Int32) c8.2).bind fun c11 => f_X12_opensMany_52 T x0 v3 c11 else f_X12_opensMany_52 T x0 v3 c8.2 else f_X12_opensMany_52 T x0 v3 μ
def f_X12_opensMany_0 (T : List Dsc) (x0 : Nat) (μ : Mem) : Option ((Mem) ⊕ ((Mem) ⊕ (Mem))) :=
  (F_X12_is T x0 (6 : Int32) μ).bind fun c1 => if c1.1 = 0 then (F_X12_is T x0 (36 : Int32) c1.2).bind fun c4 => if c4.1 = 0 then some (Sum.inr (Sum.inr c4.2)) else f_X12_opensMany_18 T x0 c4.2 else f_X12_opensMany_18 T x0 c1.2
def g_X12_opensMany_0 (T : List Dsc) (x0 : Nat) (s : Mem) : Option ((Mem) ⊕ ((Mem) ⊕ (Mem))) := f_X12_opensMany_0 T x0 s
def F_X12_opensMany (T : List Dsc) (x0 : Nat) (μ : Mem) : Option Mem :=
  (loop (g_X12_opensMany_0 T x0) μ).bind fun e1 => (Sum.elim (fun e1_0 => some e1_0) (fun e1_1 => some e1_1)) e1
def F_X12_emit (T : List Dsc) (x0 : Nat) (x1 : Int32) (x2 : Int32) (μ : Mem) : Option Mem :=
  (gA T μ x0 49 0).bind fun a1 => (wI μ a1.1 a1.2 (gI μ x0 48) x1).bind fun μ3 => (gA T μ3 x0 50 0).bind fun a5 => (wI μ3 a5.1 a5.2 (gI μ3 x0 48) x2).bind fun μ7 => (pI μ7 x0 48 ((gI μ7 x0 48) + (1 : Int32))).bind fun μ9 => some μ9
def F_X12_variableOf (T : List Dsc) (x0 : Int32) (μ : Mem) : Option (Int32 × Mem) :=
  if x0 = (26 : Int32) then some ((3 : Int32), μ) else if x0 = (27 : Int32) then some ((5 : Int32), μ) else if x0 = (28 : Int32) then some ((-1 : Int32), μ) else if x0 = (29 : Int32) then some ((-1 : Int32), μ) else if x0 = (30 : Int32) then some ((-1 : Int32), μ) else if x0 = (31 : Int32) then some ((-1 : Int32), μ) else if x0 = (32 : Int32) then some ((0 : Int32), μ) else if x0 = (33 : Int32) then some ((1 : Int32), μ) else if x0 = (34 : Int32) then some ((2 : Int32), μ) else if x0 = (35 : Int32) then some ((4 : Int32), μ) else some ((-1 : Int32), μ)
def f_X12_unit_57 (T : List Dsc) (x0 : Nat) (x1 : Int32) (μ : Mem) : Option Mem :=
  if (gI μ x0 13) ≤ 0 then (F_X12_emit T x0 (1 : Int32) x1 μ).bind fun c2 => (F_X12_goesOn T x0 c2).bind fun c4 => some c4 else some μ
def F_X12_unit (T : List Dsc) (x0 : Nat) (μ : Mem) : Option Mem :=
  if (gI μ x0 13) ≤ 0 then (F_X12_is T x0 (2 : Int32) μ).bind fun c2 => if c2.1 = 0 then (gA T c2.2 x0 5 0).bind fun a5 => (rI c2.2 a5.1 a5.2 (gI c2.2 x0 11)).bind fun v7 => (F_X12_variableOf T v7 c2.2).bind fun c9 => if 0 ≤ c9.1 then f_X12_unit_57 T x0 c9.1 c9.2 else (F_X12_fail T x0 (1 : Int32) c9.2).bind fun c12 => f_X12_unit_57 T x0 c9.1 c12 else (gA T c2.2 x0 7 0).bind fun a14 => (rI c2.2 a14.1 a14.2 (gI c2.2 x0 11)).bind fun v16 => (F_X12_emit T x0 (0 : Int32) v16 c2.2).bind fun c18 => (F_X12_goesOn T x0 c18).bind fun c20 => some c20 else some μ
def f_X12_isWall_23 (T : List Dsc) (s0 : Int32) (μ : Mem) : Option (Int32 × Mem) :=
  (zb s0).bind fun v1 => some (v1, μ)
def f_X12_isWall_18 (T : List Dsc) (μ : Mem) : Option (Int32 × Mem) :=
  f_X12_isWall_23 T (1 : Int32) μ
def F_X12_isWall (T : List Dsc) (x0 : Int32) (μ : Mem) : Option (Int32 × Mem) :=
  if x0 = (6 : Int32) then f_X12_isWall_18 T μ else if x0 = (36 : Int32) then f_X12_isWall_18 T μ else if x0 = (16 : Int32) then f_X12_isWall_18 T μ else f_X12_isWall_23 T (0 : Int32) μ
def f_X12_comesOut_85 (T : List Dsc) (x0 : Nat) (x1 : Int32) (s0 : Nat) (s1 : Int32) (μ : Mem) : Option ((Mem) ⊕ ((Mem) ⊕ (Mem))) :=
  (F_X12_emit T s0 s1 (0 : Int32) μ).bind fun c1 => some (Sum.inl c1)
def f_X12_comesOut_43 (T : List Dsc) (x0 : Nat) (x1 : Int32) (x2 : Int32) (μ : Mem) : Option ((Mem) ⊕ ((Mem) ⊕ (Mem))) :=
  (pI μ x0 54 ((gI μ x0 54) - (1 : Int32))).bind fun μ1 => if x2 = (8 : Int32) then f_X12_comesOut_85 T x0 x1 x0 (2 : Int32) μ1 else if x2 = (9 : Int32) then f_X12_comesOut_85 T x0 x1 x0 (3 : Int32) μ1 else if x2 = (10 : Int32) then f_X12_comesOut_85 T x0 x1 x0 (4 : Int32) μ1 else f_X12_comesOut_85 T x0 x1 x0 (5 : Int32) μ1
def f_X12_comesOut_0 (T : List Dsc) (x0 : Nat) (x1 : Int32) (μ : Mem) : Option ((Mem) ⊕ ((Mem) ⊕ (Mem))) :=
  if (gI μ x0 54) ≤ 0 then some (Sum.inr (Sum.inr μ)) else (gA T μ x0 53 0).bind fun a2 => (rI μ a2.1 a2.2 ((gI μ x0 54) - (1 : Int32))).bind fun v4 => (F_X12_isWall T v4 μ).bind fun c6 => if c6.1 = 0 then if x1 = 0 then f_X12_comesOut_43 T x0 x1 v4 c6.2 else if v4 = (8 : Int32) then some (Sum.inr (Sum.inl c6.2)) else if v4 = (9 : Int32) then some (Sum.inr (Sum.inl c6.2)) else f_X12_comesOut_43 T x0 x1 v4 c6.2 else some (Sum.inr (Sum.inl c6.2))
def g_X12_comesOut_0 (T : List Dsc) (x0 : Nat) (x1 : Int32) (s : Mem) : Option ((Mem) ⊕ ((Mem) ⊕ (Mem))) := f_X12_comesOut_0 T x0 x1 s
def f_X12_comesOut_42 (T : List Dsc) (μ : Mem) : Option Mem :=
  some μ
def F_X12_comesOut (T : List Dsc) (x0 : Nat) (x1 : Int32) (μ : Mem) : Option Mem :=
  (loop (g_X12_comesOut_0 T x0 x1) μ).bind fun e1 => (Sum.elim (fun e1_0 => f_X12_comesOut_42 T e1_0) (fun e1_1 => some e1_1)) e1
def f_X12_closesMany_131 (T : List Dsc) (x0 : Nat) (x1 : Int32) (μ : Mem) : Option ((Mem) ⊕ ((Int32 × Mem) ⊕ (Mem) ⊕ (Mem))) :=
  (pI μ x0 54 ((gI μ x0 54) - (1 : Int32))).bind fun μ1 => (pI μ1 x0 12 ((gI μ1 x0 12) - (1 : Int32))).bind fun μ3 => (F_X12_goesOn T x0 μ3).bind fun c5 => some (Sum.inl c5)
def f_X12_closesMany_109 (T : List Dsc) (x0 : Nat) (x1 : Int32) (x2 : Int32) (μ : Mem) : Option ((Mem) ⊕ ((Int32 × Mem) ⊕ (Mem) ⊕ (Mem))) :=
  if (gI μ x0 13) ≤ 0 then if x2 = (16 : Int32) then (F_X12_emit T x0 (6 : Int32) (0 : Int32) μ).bind fun c3 => f_X12_closesMany_131 T x0 x1 c3 else f_X12_closesMany_131 T x0 x1 μ else some (Sum.inr (Sum.inr (Sum.inl μ)))
def f_X12_closesMany_33 (T : List Dsc) (x0 : Nat) (x1 : Int32) (μ : Mem) : Option ((Mem) ⊕ ((Int32 × Mem) ⊕ (Mem) ⊕ (Mem))) :=
  (F_X12_comesOut T x0 (0 : Int32) μ).bind fun c1 => (gA T c1 x0 53 0).bind fun a3 => (rI c1 a3.1 a3.2 ((gI c1 x0 54) - (1 : Int32))).bind fun v5 => (F_X12_is T x0 (16 : Int32) c1).bind fun c7 => if c7.1 = 0 then if v5 = (36 : Int32) then (F_X12_fail T x0 (1 : Int32) c7.2).bind fun c11 => f_X12_closesMany_109 T x0 x1 v5 c11 else f_X12_closesMany_109 T x0 x1 v5 c7.2 else some (Sum.inr (Sum.inl (v5, c7.2)))
def f_X12_closesMany_0 (T : List Dsc) (x0 : Nat) (x1 : Int32) (μ : Mem) : Option ((Mem) ⊕ ((Int32 × Mem) ⊕ (Mem) ⊕ (Mem))) :=
  if (gI μ x0 13) = 0 then if (gI μ x0 12) ≤ x1 then some (Sum.inr (Sum.inr (Sum.inr μ))) else (F_X12_is T x0 (7 : Int32) μ).bind fun c3 => if c3.1 = 0 then (F_X12_is T x0 (16 : Int32) c3.2).bind fun c6 => if c6.1 = 0 then some (Sum.inr (Sum.inr (Sum.inr c6.2))) else f_X12_closesMany_33 T x0 x1 c6.2 else f_X12_closesMany_33 T x0 x1 c3.2 else some (Sum.inr (Sum.inr (Sum.inr μ)))
def g_X12_closesMany_0 (T : List Dsc) (x0 : Nat) (x1 : Int32) (s : Mem) : Option ((Mem) ⊕ ((Int32 × Mem) ⊕ (Mem) ⊕ (Mem))) := f_X12_closesMany_0 T x0 x1 s
def f_X12_closesMany_70 (T : List Dsc) (x0 : Nat) (μ : Mem) : Option (Int32 × Mem) :=
  if (gI μ x0 13) ≤ 0 then (gA T μ x0 53 0).bind fun a2 => (wI μ a2.1 a2.2 ((gI μ x0 54) - (1 : Int32)) (16 : Int32)).bind fun μ4 => (F_X12_goesOn T x0 μ4).bind fun c6 => some ((1 : Int32), c6) else some ((0 : Int32), μ)
def f_X12_closesMany_158 (T : List Dsc) (μ : Mem) : Option (Int32 × Mem) :=
  some ((0 : Int32), μ)
def F_X12_closesMany (T : List Dsc) (x0 : Nat) (x1 : Int32) (μ : Mem) : Option (Int32 × Mem) :=
  (loop (g_X12_closesMany_0 T x0 x1) μ).bind fun e1 => (Sum.elim (fun e1_0 => if e1_0.1 = (36 : Int32) then f_X12_closesMany_70 T x0 e1_0.2 else (F_X12_fail T x0 (1 : Int32) e1_0.2).bind fun c4 => f_X12_closesMany_70 T x0 c4) (Sum.elim (fun e1_1 => some ((0 : Int32), e1_1)) (fun e1_2 => f_X12_closesMany_158 T e1_2))) e1
def f_X12_expression_140 (T : List Dsc) (x0 : Nat) (x1 : Int32) (x2 : Int32) (s0 : Nat) (s1 : Int32) (μ : Mem) : Option ((Int32 × Mem) ⊕ ((Mem) ⊕ (Mem))) :=
  (F_X12_comesOut T s0 s1 μ).bind fun c1 => (gA T c1 x0 5 0).bind fun a3 => (rI c1 a3.1 a3.2 (gI c1 x0 11)).bind fun v5 => (F_X12_pushes T x0 v5 c1).bind fun c7 => (F_X12_goesOn T x0 c7).bind fun c9 => some (Sum.inl (x2, c9))
def f_X12_expression_135 (T : List Dsc) (x0 : Nat) (x1 : Int32) (x2 : Int32) (s0 : Nat) (μ : Mem) : Option ((Int32 × Mem) ⊕ ((Mem) ⊕ (Mem))) :=
  f_X12_expression_140 T x0 x1 x2 s0 (1 : Int32) μ
def f_X12_expression_92 (T : List Dsc) (x0 : Nat) (x1 : Int32) (s0 : Int32) (μ : Mem) : Option ((Int32 × Mem) ⊕ ((Mem) ⊕ (Mem))) :=
  if s0 = 0 then some (Sum.inr (Sum.inl μ)) else (F_X12_is T x0 (10 : Int32) μ).bind fun c2 => if c2.1 = 0 then (F_X12_is T x0 (15 : Int32) c2.2).bind fun c5 => if c5.1 = 0 then f_X12_expression_140 T x0 x1 s0 x0 (0 : Int32) c5.2 else f_X12_expression_135 T x0 x1 s0 x0 c5.2 else f_X12_expression_135 T x0 x1 s0 x0 c2.2
def f_X12_expression_87 (T : List Dsc) (x0 : Nat) (x1 : Int32) (μ : Mem) : Option ((Int32 × Mem) ⊕ ((Mem) ⊕ (Mem))) :=
  f_X12_expression_92 T x0 x1 (1 : Int32) μ
def f_X12_expression_12 (T : List Dsc) (x0 : Nat) (x1 : Int32) (x2 : Int32) (μ : Mem) : Option ((Int32 × Mem) ⊕ ((Mem) ⊕ (Mem))) :=
  if x2 = 0 then some (Sum.inr (Sum.inr μ)) else if (gI μ x0 13) = 0 then (F_X12_opensMany T x0 μ).bind fun c3 => (F_X12_unit T x0 c3).bind fun c5 => (F_X12_closesMany T x0 x1 c5).bind fun c7 => if 0 < (gI c7.2 x0 13) then some (Sum.inl (x2, c7.2)) else if c7.1 = 0 then (F_X12_is T x0 (8 : Int32) c7.2).bind fun c11 => if c11.1 = 0 then (F_X12_is T x0 (9 : Int32) c11.2).bind fun c14 => if c14.1 = 0 then (F_X12_is T x0 (10 : Int32) c14.2).bind fun c17 => if c17.1 = 0 then (F_X12_is T x0 (15 : Int32) c17.2).bind fun c20 => if c20.1 = 0 then f_X12_expression_92 T x0 x1 (0 : Int32) c20.2 else f_X12_expression_87 T x0 x1 c20.2 else f_X12_expression_87 T x0 x1 c17.2 else f_X12_expression_87 T x0 x1 c14.2 else f_X12_expression_87 T x0 x1 c11.2 else some (Sum.inl (x2, c7.2)) else some (Sum.inr (Sum.inr μ))
def g_X12_expression_12 (T : List Dsc) (x0 : Nat) (x1 : Int32) (s : Int32 × Mem) : Option ((Int32 × Mem) ⊕ ((Mem) ⊕ (Mem))) := f_X12_expression_12 T x0 x1 s.1 s.2
def f_X12_expression_110 (T : List Dsc) (x0 : Nat) (μ : Mem) : Option Mem :=
  (F_X12_comesOut T x0 (0 : Int32) μ).bind fun c1 => some c1
def f_X12_expression_163 (T : List Dsc) (μ : Mem) : Option Mem :=
  some μ
def F_X12_expression (T : List Dsc) (x0 : Nat) (μ : Mem) : Option Mem :=
  (pI μ x0 54 (0 : Int32)).bind fun μ1 => (nmI (gI μ1 x0 12)).bind fun v3 => (loop (g_X12_expression_12 T x0 v3) ((1 : Int32), μ1)).bind fun e5 => (Sum.elim (fun e5_0 => if (gI e5_0 x0 12) ≤ v3 then f_X12_expression_110 T x0 e5_0 else (F_X12_fail T x0 (1 : Int32) e5_0).bind fun c8 => f_X12_expression_110 T x0 c8) (fun e5_1 => f_X12_expression_163 T e5_1)) e5
def f_X12_literal_20 (T : List Dsc) (x0 : Nat) (x1 : Int32) (s0 : Int32) (μ : Mem) : Option ((Int32 × Mem) ⊕ ((Int32 × Mem))) :=
  (F_X12_goesOn T x0 μ).bind fun c1 => some (Sum.inl (s0, c1))
def f_X12_literal_2 (T : List Dsc) (x0 : Nat) (x1 : Int32) (x2 : Int32) (μ : Mem) : Option ((Int32 × Mem) ⊕ ((Int32 × Mem))) :=
  (F_X12_is T x0 (31 : Int32) μ).bind fun c1 => if c1.1 = 0 then some (Sum.inr (x2, c1.2)) else if x2 = 0 then f_X12_literal_20 T x0 x1 (1 : Int32) c1.2 else f_X12_literal_20 T x0 x1 (0 : Int32) c1.2
def g_X12_literal_2 (T : List Dsc) (x0 : Nat) (x1 : Int32) (s : Int32 × Mem) : Option ((Int32 × Mem) ⊕ ((Int32 × Mem))) := f_X12_literal_2 T x0 x1 s.1 s.2
def f_X12_literal_100 (T : List Dsc) (x0 : Nat) (x1 : Int32) (x2 : Int32) (x3 : Int32) (x4 : Int32) (μ : Mem) : Option Mem :=
  if (gI μ x0 13) ≤ 0 then (F_X12_goesOn T x0 μ).bind fun c2 => (nmI (gI c2 x0 48)).bind fun v4 => (F_X12_expression T x0 c2).bind fun c6 => if (gI c6 x0 13) ≤ 0 then (gA T c6 x0 42 0).bind fun a9 => (wI c6 a9.1 a9.2 (gI c6 x0 41) x4).bind fun μ11 => (gA T μ11 x0 43 3).bind fun a13 => (zb x2).bind fun v17 => (wI μ11 a13.1 a13.2 (gI μ11 x0 41) v17).bind fun μ15 => (gA T μ15 x0 44 3).bind fun a19 => (zb x1).bind fun v23 => (wI μ15 a19.1 a19.2 (gI μ15 x0 41) v23).bind fun μ21 => (gA T μ21 x0 45 0).bind fun a25 => (wI μ21 a25.1 a25.2 (gI μ21 x0 41) x3).bind fun μ27 => (gA T μ27 x0 46 0).bind fun a29 => (wI μ27 a29.1 a29.2 (gI μ27 x0 41) v4).bind fun μ31 => (gA T μ31 x0 47 0).bind fun a33 => (wI μ31 a33.1 a33.2 (gI μ31 x0 41) (gI μ31 x0 48)).bind fun μ35 => (pI μ35 x0 41 ((gI μ35 x0 41) + (1 : Int32))).bind fun μ37 => some μ37 else some c6 else some μ
def f_X12_literal_88 (T : List Dsc) (x0 : Nat) (x1 : Int32) (x2 : Int32) (x3 : Int32) (s0 : Int32) (μ : Mem) : Option Mem :=
  if 0 ≤ s0 then f_X12_literal_100 T x0 x1 x2 x3 s0 μ else (F_X12_fail T x0 (1 : Int32) μ).bind fun c2 => f_X12_literal_100 T x0 x1 x2 x3 s0 c2
def f_X12_literal_72 (T : List Dsc) (x0 : Nat) (x1 : Int32) (x2 : Int32) (x3 : Int32) (μ : Mem) : Option Mem :=
  f_X12_literal_88 T x0 x1 x2 x3 (-1 : Int32) μ
def F_X12_literal (T : List Dsc) (x0 : Nat) (x1 : Int32) (μ : Mem) : Option Mem :=
  (loop (g_X12_literal_2 T x0 x1) ((0 : Int32), μ)).bind fun e1 => (nmI (gI e1.2 x0 48)).bind fun v3 => (F_X12_expression T x0 e1.2).bind fun c5 => if 0 < (gI c5 x0 13) then f_X12_literal_72 T x0 x1 e1.1 v3 c5 else (gA T c5 x0 5 0).bind fun a8 => (rI c5 a8.1 a8.2 (gI c5 x0 11)).bind fun v10 => if v10 < (11 : Int32) then f_X12_literal_72 T x0 x1 e1.1 v3 c5 else (gA T c5 x0 5 0).bind fun a13 => (rI c5 a13.1 a13.2 (gI c5 x0 11)).bind fun v15 => if v15 ≤ (14 : Int32) then (gA T c5 x0 5 0).bind fun a18 => (rI c5 a18.1 a18.2 (gI c5 x0 11)).bind fun v20 => f_X12_literal_88 T x0 x1 e1.1 v3 (v20 - (11 : Int32)) c5 else f_X12_literal_72 T x0 x1 e1.1 v3 c5
def f_X12_condition_49 (T : List Dsc) (x0 : Nat) (x1 : Int32) (s0 : Int32) (μ : Mem) : Option ((Int32 × Int32 × Mem) ⊕ ((Mem))) :=
  if s0 = 0 then some (Sum.inl (x1, s0, μ)) else (F_X12_goesOn T x0 μ).bind fun c2 => some (Sum.inl (x1, s0, c2))
def f_X12_condition_44 (T : List Dsc) (x0 : Nat) (x1 : Int32) (μ : Mem) : Option ((Int32 × Int32 × Mem) ⊕ ((Mem))) :=
  f_X12_condition_49 T x0 x1 (1 : Int32) μ
def f_X12_condition_8 (T : List Dsc) (x0 : Nat) (x1 : Int32) (x2 : Int32) (μ : Mem) : Option ((Int32 × Int32 × Mem) ⊕ ((Mem))) :=
  if x2 = 0 then some (Sum.inr μ) else if (gI μ x0 13) = 0 then (F_X12_literal T x0 x1 μ).bind fun c3 => (F_X12_is T x0 (29 : Int32) c3).bind fun c5 => if c5.1 = 0 then (F_X12_is T x0 (30 : Int32) c5.2).bind fun c8 => if c8.1 = 0 then f_X12_condition_49 T x0 c5.1 (0 : Int32) c8.2 else f_X12_condition_44 T x0 c5.1 c8.2 else f_X12_condition_44 T x0 c5.1 c5.2 else some (Sum.inr μ)
def g_X12_condition_8 (T : List Dsc) (x0 : Nat) (s : Int32 × Int32 × Mem) : Option ((Int32 × Int32 × Mem) ⊕ ((Mem))) := f_X12_condition_8 T x0 s.1 s.2.1 s.2.2
def f_X12_condition_61 (T : List Dsc) (μ : Mem) : Option Mem :=
  some μ
def F_X12_condition (T : List Dsc) (x0 : Nat) (μ : Mem) : Option Mem :=
  (F_X12_goesOn T x0 μ).bind fun c1 => (loop (g_X12_condition_8 T x0) ((1 : Int32), (1 : Int32), c1)).bind fun e3 => f_X12_condition_61 T e3
def f_X12_term_24 (T : List Dsc) (x0 : Nat) (μ : Mem) : Option Mem :=
  (gA T μ x0 31 0).bind fun a1 => (wI μ a1.1 a1.2 (gI μ x0 27) (gI μ x0 48)).bind fun μ3 => (pI μ3 x0 27 ((gI μ3 x0 27) + (1 : Int32))).bind fun μ5 => some μ5
def F_X12_term (T : List Dsc) (x0 : Nat) (μ : Mem) : Option Mem :=
  (gA T μ x0 30 0).bind fun a1 => (wI μ a1.1 a1.2 (gI μ x0 27) (gI μ x0 48)).bind fun μ3 => if (gI μ3 x0 13) = 0 then (F_X12_expression T x0 μ3).bind fun c6 => f_X12_term_24 T x0 c6 else f_X12_term_24 T x0 μ3
def F_X12_notes (T : List Dsc) (x0 : Nat) (x1 : Int32) (x2 : Int32) (μ : Mem) : Option Mem :=
  (gA T μ x0 21 1).bind fun a1 => (gA T μ x0 8 1).bind fun a3 => (rJ μ a3.1 a3.2 x1).bind fun v5 => (wJ μ a1.1 a1.2 (gI μ x0 20) v5).bind fun μ7 => (gA T μ7 x0 22 0).bind fun a9 => (wI μ7 a9.1 a9.2 (gI μ7 x0 20) x2).bind fun μ11 => (pI μ11 x0 20 ((gI μ11 x0 20) + (1 : Int32))).bind fun μ13 => some μ13
def f_X12_tellLaw_67 (T : List Dsc) (x0 : Nat) (x1 : Int32) (x2 : Int32) (x3 : Int32) (μ : Mem) : Option ((Int32 × Mem) ⊕ ((Mem) ⊕ (Mem))) :=
  if (gI μ x0 13) ≤ 0 then (nmI (x3 + (1 : Int32))).bind fun v2 => (gA T μ x0 28 0).bind fun a4 => (wI μ a4.1 a4.2 (gI μ x0 27) (gI μ x0 41)).bind fun μ6 => (F_X12_condition T x0 μ6).bind fun c8 => (gA T c8 x0 29 0).bind fun a10 => (wI c8 a10.1 a10.2 (gI c8 x0 27) (gI c8 x0 41)).bind fun μ12 => (F_X12_must T x0 (23 : Int32) μ12).bind fun c14 => (F_X12_term T x0 c14).bind fun c16 => (F_X12_must T x0 (24 : Int32) c16).bind fun c18 => some (Sum.inl (v2, c18)) else some (Sum.inr (Sum.inl μ))
def f_X12_tellLaw_40 (T : List Dsc) (x0 : Nat) (x1 : Int32) (x2 : Int32) (x3 : Int32) (μ : Mem) : Option ((Int32 × Mem) ⊕ ((Mem) ⊕ (Mem))) :=
  if (gI μ x0 13) = 0 then (F_X12_is T x0 (22 : Int32) μ).bind fun c2 => if c2.1 = 0 then some (Sum.inr (Sum.inr c2.2)) else if x3 = (8 : Int32) then (F_X12_fail T x0 (2 : Int32) c2.2).bind fun c6 => f_X12_tellLaw_67 T x0 x1 x2 x3 c6 else f_X12_tellLaw_67 T x0 x1 x2 x3 c2.2 else some (Sum.inr (Sum.inr μ))
def g_X12_tellLaw_40 (T : List Dsc) (x0 : Nat) (x1 : Int32) (x2 : Int32) (s : Int32 × Mem) : Option ((Int32 × Mem) ⊕ ((Mem) ⊕ (Mem))) := f_X12_tellLaw_40 T x0 x1 x2 s.1 s.2
def f_X12_tellLaw_127 (T : List Dsc) (x0 : Nat) (x1 : Int32) (x2 : Int32) (μ : Mem) : Option Mem :=
  (gA T μ x0 28 0).bind fun a1 => (wI μ a1.1 a1.2 (gI μ x0 27) (gI μ x0 41)).bind fun μ3 => (gA T μ3 x0 29 0).bind fun a5 => (wI μ3 a5.1 a5.2 (gI μ3 x0 27) (gI μ3 x0 41)).bind fun μ7 => (F_X12_term T x0 μ7).bind fun c9 => (gA T c9 x0 26 0).bind fun a11 => (wI c9 a11.1 a11.2 x1 (gI c9 x0 27)).bind fun μ13 => (F_X12_must T x0 (4 : Int32) μ13).bind fun c15 => if (gI c15 x0 13) ≤ 0 then (gA T c15 x0 24 0).bind fun a18 => (rI c15 a18.1 a18.2 (gI c15 x0 19)).bind fun v20 => (F_X12_notes T x0 x2 v20 c15).bind fun c22 => (gA T c22 x0 24 0).bind fun a24 => (rI c22 a24.1 a24.2 (gI c22 x0 19)).bind fun v26 => (wI c22 a24.1 a24.2 (gI c22 x0 19) (v26 + (1 : Int32))).bind fun μ28 => some μ28 else some c15
def F_X12_tellLaw (T : List Dsc) (x0 : Nat) (μ : Mem) : Option Mem :=
  (gA T μ x0 24 0).bind fun a1 => (rI μ a1.1 a1.2 (gI μ x0 19)).bind fun v3 => (nmI (((6 : Int32) * (gI μ x0 19)) + v3)).bind fun v5 => (F_X12_named T x0 μ).bind fun c7 => (F_X12_must T x0 (5 : Int32) c7.2).bind fun c9 => (gA T c9 x0 25 0).bind fun a11 => (wI c9 a11.1 a11.2 v5 (gI c9 x0 27)).bind fun μ13 => (loop (g_X12_tellLaw_40 T x0 v5 c7.1) ((0 : Int32), μ13)).bind fun e15 => (Sum.elim (fun e15_0 => some e15_0) (fun e15_1 => f_X12_tellLaw_127 T x0 v5 c7.1 e15_1)) e15
def F_X12_part (T : List Dsc) (x0 : Nat) (μ : Mem) : Option (Int32 × Mem) :=
  (nmI (gI μ x0 11)).bind fun v1 => (F_X12_bounded T x0 (0 : Int32) (9999 : Int32) μ).bind fun c3 => if (gI c3.2 x0 13) ≤ 0 then (gA T c3.2 x0 52 0).bind fun a6 => (wI c3.2 a6.1 a6.2 (gI c3.2 x0 51) v1).bind fun μ8 => (pI μ8 x0 51 ((gI μ8 x0 51) + (1 : Int32))).bind fun μ10 => some (c3.1, μ10) else some ((0 : Int32), c3.2)
def f_X12_tellMan_99 (T : List Dsc) (x0 : Nat) (x1 : Int32) (x2 : Int32) (x3 : Int32) (x4 : Int32) (μ : Mem) : Option ((Int32 × Mem) ⊕ ((Mem))) :=
  (nmI (x4 + (1 : Int32))).bind fun v1 => some (Sum.inl (v1, μ))
def f_X12_tellMan_43 (T : List Dsc) (x0 : Nat) (x1 : Int32) (x2 : Int32) (x3 : Int32) (x4 : Int32) (μ : Mem) : Option ((Int32 × Mem) ⊕ ((Mem))) :=
  if (gI μ x0 20) ≤ x4 then some (Sum.inr μ) else if (gI μ x0 13) = 0 then (gA T μ x0 21 1).bind fun a3 => (rJ μ a3.1 a3.2 x4).bind fun v5 => (gA T μ x0 8 1).bind fun a7 => (rJ μ a7.1 a7.2 x3).bind fun v9 => if (lg_cmp v5 v9) = 0 then (gA T μ x0 22 0).bind fun a12 => (rI μ a12.1 a12.2 x4).bind fun v14 => if v14 < 0 then f_X12_tellMan_99 T x0 x1 x2 x3 x4 μ else (gA T μ x0 33 0).bind fun a17 => (gA T μ x0 22 0).bind fun a19 => (rI μ a19.1 a19.2 x4).bind fun v21 => (wI μ a17.1 a17.2 x1 v21).bind fun μ23 => f_X12_tellMan_99 T x0 x1 x2 x3 x4 μ23 else f_X12_tellMan_99 T x0 x1 x2 x3 x4 μ else some (Sum.inr μ)
def g_X12_tellMan_43 (T : List Dsc) (x0 : Nat) (x1 : Int32) (x2 : Int32) (x3 : Int32) (s : Int32 × Mem) : Option ((Int32 × Mem) ⊕ ((Mem))) := f_X12_tellMan_43 T x0 x1 x2 x3 s.1 s.2
def f_X12_tellMan_127 (T : List Dsc) (x0 : Nat) (x1 : Int32) (x2 : Int32) (μ : Mem) : Option Mem :=
  (gA T μ x0 34 0).bind fun a1 => (F_X12_part T x0 μ).bind fun c3 => (wI c3.2 a1.1 a1.2 x1 c3.1).bind fun μ5 => (F_X12_must T x0 (4 : Int32) μ5).bind fun c7 => if (gI c7 x0 13) ≤ 0 then (F_X12_notes T x0 x2 (-1 : Int32) c7).bind fun c10 => (gA T c10 x0 32 0).bind fun a12 => (rI c10 a12.1 a12.2 (gI c10 x0 19)).bind fun v14 => (wI c10 a12.1 a12.2 (gI c10 x0 19) (v14 + (1 : Int32))).bind fun μ16 => some μ16 else some c7
def f_X12_tellMan_105 (T : List Dsc) (x0 : Nat) (x1 : Int32) (x2 : Int32) (x3 : Int32) (μ : Mem) : Option Mem :=
  if (gI μ x0 13) = 0 then (gA T μ x0 33 0).bind fun a2 => (rI μ a2.1 a2.2 x1).bind fun v4 => if 0 ≤ v4 then f_X12_tellMan_127 T x0 x1 x2 μ else (F_X12_wrong T x0 (4 : Int32) x3 μ).bind fun c7 => f_X12_tellMan_127 T x0 x1 x2 c7 else f_X12_tellMan_127 T x0 x1 x2 μ
def F_X12_tellMan (T : List Dsc) (x0 : Nat) (μ : Mem) : Option Mem :=
  (gA T μ x0 32 0).bind fun a1 => (rI μ a1.1 a1.2 (gI μ x0 19)).bind fun v3 => (nmI (((12 : Int32) * (gI μ x0 19)) + v3)).bind fun v5 => (F_X12_named T x0 μ).bind fun c7 => (nmI (gI c7.2 x0 11)).bind fun v9 => (F_X12_must T x0 (1 : Int32) c7.2).bind fun c11 => (gA T c11 x0 33 0).bind fun a13 => (wI c11 a13.1 a13.2 v5 (-1 : Int32)).bind fun μ15 => (loop (g_X12_tellMan_43 T x0 v5 c7.1 v9) ((0 : Int32), μ15)).bind fun e17 => f_X12_tellMan_105 T x0 v5 c7.1 v9 e17
def f_X12_tellFog_75 (T : List Dsc) (μ : Mem) : Option Mem :=
  some μ
def F_X12_tellFog (T : List Dsc) (x0 : Nat) (μ : Mem) : Option Mem :=
  (gA T μ x0 38 0).bind fun a1 => (rI μ a1.1 a1.2 (gI μ x0 19)).bind fun v3 => (nmI (((4 : Int32) * (gI μ x0 19)) + v3)).bind fun v5 => (gA T μ x0 39 0).bind fun a7 => (F_X12_bounded T x0 (0 : Int32) (999 : Int32) μ).bind fun c9 => (wI c9.2 a7.1 a7.2 v5 c9.1).bind fun μ11 => (gA T μ11 x0 40 0).bind fun a13 => (gA T μ11 x0 39 0).bind fun a15 => (rI μ11 a15.1 a15.2 v5).bind fun v17 => (F_X12_bounded T x0 v17 (999 : Int32) μ11).bind fun c19 => (wI c19.2 a13.1 a13.2 v5 c19.1).bind fun μ21 => (F_X12_must T x0 (4 : Int32) μ21).bind fun c23 => if (gI c23 x0 13) = 0 then (gA T c23 x0 38 0).bind fun a26 => (rI c23 a26.1 a26.2 (gI c23 x0 19)).bind fun v28 => (wI c23 a26.1 a26.2 (gI c23 x0 19) (v28 + (1 : Int32))).bind fun μ30 => f_X12_tellFog_75 T μ30 else f_X12_tellFog_75 T c23
def f_X12_tell_245 (T : List Dsc) (μ : Mem) : Option Mem :=
  some μ
def F_X12_tell (T : List Dsc) (x0 : Nat) (μ : Mem) : Option Mem :=
  (gA T μ x0 5 0).bind fun a1 => (rI μ a1.1 a1.2 (gI μ x0 11)).bind fun v3 => if v3 = (20 : Int32) then (F_X12_goesOn T x0 μ).bind fun c6 => (gA T c6 x0 23 0).bind fun a8 => (F_X12_bounded T x0 (3 : Int32) (24 : Int32) c6).bind fun c10 => (wI c10.2 a8.1 a8.2 (gI c6 x0 19) c10.1).bind fun μ12 => (F_X12_must T x0 (4 : Int32) μ12).bind fun c14 => f_X12_tell_245 T c14 else if v3 = (21 : Int32) then (gA T μ x0 24 0).bind fun a17 => (rI μ a17.1 a17.2 (gI μ x0 19)).bind fun v19 => (F_X12_roomFor T x0 v19 (6 : Int32) μ).bind fun c21 => if (gI c21 x0 13) = 0 then (F_X12_tellLaw T x0 c21).bind fun c24 => f_X12_tell_245 T c24 else f_X12_tell_245 T c21 else if v3 = (22 : Int32) then (F_X12_fail T x0 (1 : Int32) μ).bind fun c27 => f_X12_tell_245 T c27 else if v3 = (23 : Int32) then (F_X12_fail T x0 (1 : Int32) μ).bind fun c30 => f_X12_tell_245 T c30 else if v3 = (24 : Int32) then (F_X12_fail T x0 (1 : Int32) μ).bind fun c33 => f_X12_tell_245 T c33 else if v3 = (25 : Int32) then (gA T μ x0 32 0).bind fun a36 => (rI μ a36.1 a36.2 (gI μ x0 19)).bind fun v38 => (F_X12_roomFor T x0 v38 (12 : Int32) μ).bind fun c40 => if (gI c40 x0 13) = 0 then (F_X12_tellMan T x0 c40).bind fun c43 => f_X12_tell_245 T c43 else f_X12_tell_245 T c40 else if v3 = (26 : Int32) then (F_X12_goesOn T x0 μ).bind fun c46 => (gA T c46 x0 35 0).bind fun a48 => (F_X12_part T x0 c46).bind fun c50 => (wI c50.2 a48.1 a48.2 (gI c46 x0 19) c50.1).bind fun μ52 => (gA T μ52 x0 36 0).bind fun a54 => (F_X12_bounded T x0 (0 : Int32) (23 : Int32) μ52).bind fun c56 => (wI c56.2 a54.1 a54.2 (gI μ52 x0 19) c56.1).bind fun μ58 => (F_X12_must T x0 (4 : Int32) μ58).bind fun c60 => f_X12_tell_245 T c60 else if v3 = (27 : Int32) then (F_X12_goesOn T x0 μ).bind fun c63 => (gA T c63 x0 37 0).bind fun a65 => (F_X12_part T x0 c63).bind fun c67 => (wI c67.2 a65.1 a65.2 (gI c63 x0 19) c67.1).bind fun μ69 => (F_X12_must T x0 (4 : Int32) μ69).bind fun c71 => f_X12_tell_245 T c71 else if v3 = (28 : Int32) then (gA T μ x0 38 0).bind fun a74 => (rI μ a74.1 a74.2 (gI μ x0 19)).bind fun v76 => (F_X12_roomFor T x0 v76 (4 : Int32) μ).bind fun c78 => if (gI c78 x0 13) = 0 then (F_X12_tellFog T x0 c78).bind fun c81 => f_X12_tell_245 T c81 else f_X12_tell_245 T c78 else (F_X12_fail T x0 (1 : Int32) μ).bind fun c83 => f_X12_tell_245 T c83
def F_X12_menNow (T : List Dsc) (x0 : Nat) (μ : Mem) : Option (Int32 × Mem) :=
  (gA T μ x0 32 0).bind fun a1 => (rI μ a1.1 a1.2 (gI μ x0 18)).bind fun v3 => some (v3, μ)
def f_X12_begins_2 (T : List Dsc) (x0 : Nat) (x1 : Int32) (μ : Mem) : Option ((Int32 × Mem) ⊕ ((Mem))) :=
  (F_X12_menNow T x0 μ).bind fun c1 => if c1.1 ≤ x1 then some (Sum.inr c1.2) else (gA T c1.2 x0 55 0).bind fun a4 => (gA T c1.2 x0 34 0).bind fun a6 => (rI c1.2 a6.1 a6.2 (((12 : Int32) * (gI c1.2 x0 18)) + x1)).bind fun v8 => (wI c1.2 a4.1 a4.2 x1 v8).bind fun μ10 => (gA T μ10 x0 56 0).bind fun a12 => (wI μ10 a12.1 a12.2 x1 x1).bind fun μ14 => (gA T μ14 x0 57 0).bind fun a16 => (gA T μ14 x0 33 0).bind fun a18 => (rI μ14 a18.1 a18.2 (((12 : Int32) * (gI μ14 x0 18)) + x1)).bind fun v20 => (wI μ14 a16.1 a16.2 x1 v20).bind fun μ22 => (nmI (x1 + (1 : Int32))).bind fun v24 => some (Sum.inl (v24, μ22))
def g_X12_begins_2 (T : List Dsc) (x0 : Nat) (s : Int32 × Mem) : Option ((Int32 × Mem) ⊕ ((Mem))) := f_X12_begins_2 T x0 s.1 s.2
def F_X12_begins (T : List Dsc) (x0 : Nat) (μ : Mem) : Option Mem :=
  (loop (g_X12_begins_2 T x0) ((0 : Int32), μ)).bind fun e1 => (gA T e1 x0 35 0).bind fun a3 => (rI e1 a3.1 a3.2 (gI e1 x0 18)).bind fun v5 => (pI e1 x0 58 v5).bind fun μ7 => (gA T μ7 x0 36 0).bind fun a9 => (rI μ7 a9.1 a9.2 (gI μ7 x0 18)).bind fun v11 => (pI μ7 x0 59 v11).bind fun μ13 => (pI μ13 x0 60 (0 : Int32)).bind fun μ15 => some μ15
def f_X12_read_10 (T : List Dsc) (x0 : Nat) (x1 : Int32) (μ : Mem) : Option ((Int32 × Mem) ⊕ ((Mem))) :=
  if (gI μ x0 4) ≤ x1 then some (Sum.inr μ) else (gA T μ x0 3 2).bind fun a2 => (gA T μ x0 1 2).bind fun a4 => (rI μ a4.1 a4.2 x1).bind fun v6 => (wB μ a2.1 a2.2 x1 v6).bind fun μ8 => (nmI (x1 + (1 : Int32))).bind fun v10 => some (Sum.inl (v10, μ8))
def g_X12_read_10 (T : List Dsc) (x0 : Nat) (s : Int32 × Mem) : Option ((Int32 × Mem) ⊕ ((Mem))) := f_X12_read_10 T x0 s.1 s.2
def f_X12_read_191 (T : List Dsc) (x0 : Nat) (μ : Mem) : Option ((Mem) ⊕ ((Mem))) :=
  if (gI μ x0 13) = 0 then (F_X12_is T x0 (0 : Int32) μ).bind fun c2 => if c2.1 = 0 then (F_X12_tell T x0 c2.2).bind fun c5 => some (Sum.inl c5) else some (Sum.inr c2.2) else some (Sum.inr μ)
def g_X12_read_191 (T : List Dsc) (x0 : Nat) (s : Mem) : Option ((Mem) ⊕ ((Mem))) := f_X12_read_191 T x0 s
def f_X12_read_272 (T : List Dsc) (x0 : Nat) (x1 : Int32) (μ : Mem) : Option ((Int32 × Mem) ⊕ ((Int32 × Mem) ⊕ (Mem))) :=
  if (gI μ x0 51) ≤ x1 then some (Sum.inr (Sum.inr μ)) else (gA T μ x0 7 0).bind fun a2 => (gA T μ x0 52 0).bind fun a4 => (rI μ a4.1 a4.2 x1).bind fun v6 => (rI μ a2.1 a2.2 v6).bind fun v8 => (gA T μ x0 23 0).bind fun a10 => (rI μ a10.1 a10.2 (gI μ x0 19)).bind fun v12 => if v12 ≤ v8 then some (Sum.inr (Sum.inl (x1, μ))) else (nmI (x1 + (1 : Int32))).bind fun v15 => some (Sum.inl (v15, μ))
def g_X12_read_272 (T : List Dsc) (x0 : Nat) (s : Int32 × Mem) : Option ((Int32 × Mem) ⊕ ((Int32 × Mem) ⊕ (Mem))) := f_X12_read_272 T x0 s.1 s.2
def f_X12_read_354 (T : List Dsc) (x0 : Nat) (x1 : Int32) (μ : Mem) : Option ((Int32 × Mem) ⊕ ((Mem))) :=
  if (3 : Int32) ≤ x1 then some (Sum.inr μ) else (gA T μ x0 85 3).bind fun a2 => (wI μ a2.1 a2.2 x1 (0 : Int32)).bind fun μ4 => (nmI (x1 + (1 : Int32))).bind fun v6 => some (Sum.inl (v6, μ4))
def g_X12_read_354 (T : List Dsc) (x0 : Nat) (s : Int32 × Mem) : Option ((Int32 × Mem) ⊕ ((Mem))) := f_X12_read_354 T x0 s.1 s.2
def f_X12_read_243 (T : List Dsc) (x0 : Nat) (s0 : Nat) (s1 : Int32) (μ : Mem) : Option (Int32 × Mem) :=
  (pI μ s0 17 s1).bind fun μ1 => if (gI μ1 x0 13) ≤ 0 then if (gI μ1 x0 15) ≤ 0 then (loop (g_X12_read_272 T x0) ((0 : Int32), μ1)).bind fun e5 => (Sum.elim (fun e5_0 => (gA T e5_0.2 x0 6 0).bind fun a7 => (gA T e5_0.2 x0 52 0).bind fun a9 => (rI e5_0.2 a9.1 a9.2 e5_0.1).bind fun v11 => (rI e5_0.2 a7.1 a7.2 v11).bind fun v13 => (pI e5_0.2 x0 17 v13).bind fun μ15 => some ((6 : Int32), μ15)) (fun e5_1 => (pI e5_1 x0 18 (gI e5_1 x0 19)).bind fun μ17 => (F_X12_begins T x0 μ17).bind fun c19 => (pI c19 x0 61 (0 : Int32)).bind fun μ21 => (pI μ21 x0 79 (0 : Int32)).bind fun μ23 => (loop (g_X12_read_354 T x0) ((0 : Int32), μ23)).bind fun e25 => some ((0 : Int32), e25))) e5 else some (gI μ1 x0 15, μ1) else some (gI μ1 x0 13, μ1)
def f_X12_read_213 (T : List Dsc) (x0 : Nat) (μ : Mem) : Option (Int32 × Mem) :=
  if (gI μ x0 13) ≤ 0 then if (gI μ x0 15) ≤ 0 then f_X12_read_243 T x0 x0 (-1 : Int32) μ else f_X12_read_243 T x0 x0 (gI μ x0 16) μ else f_X12_read_243 T x0 x0 (gI μ x0 14) μ
def F_X12_read (T : List Dsc) (x0 : Nat) (μ : Mem) : Option (Int32 × Mem) :=
  (pI μ x0 4 (gI μ x0 2)).bind fun μ1 => (loop (g_X12_read_10 T x0) ((0 : Int32), μ1)).bind fun e3 => (pI e3 x0 2 (0 : Int32)).bind fun μ5 => (F_X12_cut T x0 μ5).bind fun c7 => (pI c7 x0 11 (0 : Int32)).bind fun μ9 => (pI μ9 x0 12 (0 : Int32)).bind fun μ11 => (pI μ11 x0 13 (0 : Int32)).bind fun μ13 => (pI μ13 x0 15 (0 : Int32)).bind fun μ15 => (pI μ15 x0 19 ((1 : Int32) - (gI μ15 x0 18))).bind fun μ17 => (pI μ17 x0 20 (0 : Int32)).bind fun μ19 => (gA T μ19 x0 23 0).bind fun a21 => (wI μ19 a21.1 a21.2 (gI μ19 x0 19) (24 : Int32)).bind fun μ23 => (gA T μ23 x0 24 0).bind fun a25 => (wI μ23 a25.1 a25.2 (gI μ23 x0 19) (0 : Int32)).bind fun μ27 => (pI μ27 x0 27 ((54 : Int32) * (gI μ27 x0 19))).bind fun μ29 => (gA T μ29 x0 32 0).bind fun a31 => (wI μ29 a31.1 a31.2 (gI μ29 x0 19) (0 : Int32)).bind fun μ33 => (gA T μ33 x0 35 0).bind fun a35 => (wI μ33 a35.1 a35.2 (gI μ33 x0 19) (-1 : Int32)).bind fun μ37 => (gA T μ37 x0 36 0).bind fun a39 => (wI μ37 a39.1 a39.2 (gI μ37 x0 19) (0 : Int32)).bind fun μ41 => (gA T μ41 x0 37 0).bind fun a43 => (wI μ41 a43.1 a43.2 (gI μ41 x0 19) (-1 : Int32)).bind fun μ45 => (gA T μ45 x0 38 0).bind fun a47 => (wI μ45 a47.1 a47.2 (gI μ45 x0 19) (0 : Int32)).bind fun μ49 => (pI μ49 x0 41 ((150 : Int32) * (gI μ49 x0 19))).bind fun μ51 => (pI μ51 x0 48 ((420 : Int32) * (gI μ51 x0 19))).bind fun μ53 => (pI μ53 x0 51 (0 : Int32)).bind fun μ55 => (loop (g_X12_read_191 T x0) μ55).bind fun e57 => f_X12_read_213 T x0 e57
def F_X12_place (T : List Dsc) (x0 : Nat) (μ : Mem) : Option (Int32 × Mem) :=
  some (gI μ x0 17, μ)
def f_X12_in_15 (T : List Dsc) (s0 : Int32) (μ : Mem) : Option (Int32 × Mem) :=
  (zb s0).bind fun v1 => some (v1, μ)
def f_X12_in_14 (T : List Dsc) (μ : Mem) : Option (Int32 × Mem) :=
  f_X12_in_15 T (0 : Int32) μ
def F_X12_in (T : List Dsc) (x0 : Int32) (x1 : Int32) (x2 : Int32) (μ : Mem) : Option (Int32 × Mem) :=
  if x0 < x1 then f_X12_in_14 T μ else if x2 < x0 then f_X12_in_14 T μ else f_X12_in_15 T (1 : Int32) μ
def F_X12_all (T : List Dsc) (x0 : Nat) (μ : Mem) : Option (Int32 × Mem) :=
  (gA T μ x0 23 0).bind fun a1 => (rI μ a1.1 a1.2 (gI μ x0 18)).bind fun v3 => some (v3, μ)
def f_X12_takes_26 (T : List Dsc) (x0 : Nat) (x1 : Int32) (μ : Mem) : Option ((Int32 × Mem) ⊕ ((Mem))) :=
  if (gI μ x0 65) ≤ x1 then some (Sum.inr μ) else (gA T μ x0 63 0).bind fun a2 => (gA T μ x0 55 0).bind fun a4 => (rI μ a4.1 a4.2 x1).bind fun v6 => (wI μ a2.1 a2.2 x1 v6).bind fun μ8 => (gA T μ8 x0 64 0).bind fun a10 => (gA T μ8 x0 57 0).bind fun a12 => (rI μ8 a12.1 a12.2 x1).bind fun v14 => (wI μ8 a10.1 a10.2 x1 v14).bind fun μ16 => (nmI (x1 + (1 : Int32))).bind fun v18 => some (Sum.inl (v18, μ16))
def g_X12_takes_26 (T : List Dsc) (x0 : Nat) (s : Int32 × Mem) : Option ((Int32 × Mem) ⊕ ((Mem))) := f_X12_takes_26 T x0 s.1 s.2
def F_X12_takes (T : List Dsc) (x0 : Nat) (μ : Mem) : Option Mem :=
  (F_X12_menNow T x0 μ).bind fun c1 => (pI c1.2 x0 65 c1.1).bind fun μ3 => (pI μ3 x0 66 (gI μ3 x0 58)).bind fun μ5 => (pI μ5 x0 67 (gI μ5 x0 59)).bind fun μ7 => (loop (g_X12_takes_26 T x0) ((0 : Int32), μ7)).bind fun e9 => some e9
def f_X12_rest_21 (T : List Dsc) (s0 : Int32) (μ : Mem) : Option (Int32 × Mem) :=
  some (s0, μ)
def F_X12_rest (T : List Dsc) (x0 : Nat) (x1 : Int32) (μ : Mem) : Option (Int32 × Mem) :=
  (F_X12_all T x0 μ).bind fun c1 => (rmI x1 c1.1).bind fun v3 => if 0 ≤ v3 then f_X12_rest_21 T v3 c1.2 else (F_X12_all T x0 c1.2).bind fun c6 => f_X12_rest_21 T (v3 + c6.1) c6.2
def f_X12_gap_28 (T : List Dsc) (s0 : Int32) (μ : Mem) : Option (Int32 × Mem) :=
  some (s0, μ)
def F_X12_gap (T : List Dsc) (x0 : Nat) (x1 : Int32) (x2 : Int32) (μ : Mem) : Option (Int32 × Mem) :=
  (F_X12_rest T x0 (x1 - x2) μ).bind fun c1 => (F_X12_all T x0 c1.2).bind fun c3 => if ((2 : Int32) * c1.1) ≤ c3.1 then f_X12_gap_28 T c1.1 c3.2 else (F_X12_all T x0 c3.2).bind fun c6 => f_X12_gap_28 T (c1.1 - c6.1) c6.2
def f_X12_isFog_2 (T : List Dsc) (x0 : Nat) (x1 : Int32) (x2 : Int32) (μ : Mem) : Option ((Int32 × Mem) ⊕ ((Mem) ⊕ (Mem))) :=
  (gA T μ x0 38 0).bind fun a1 => (rI μ a1.1 a1.2 (gI μ x0 18)).bind fun v3 => if v3 ≤ x2 then some (Sum.inr (Sum.inr μ)) else (gA T μ x0 39 0).bind fun a6 => (rI μ a6.1 a6.2 (((4 : Int32) * (gI μ x0 18)) + x2)).bind fun v8 => (gA T μ x0 40 0).bind fun a10 => (rI μ a10.1 a10.2 (((4 : Int32) * (gI μ x0 18)) + x2)).bind fun v12 => (F_X12_in T x1 v8 v12 μ).bind fun c14 => if c14.1 = 0 then (nmI (x2 + (1 : Int32))).bind fun v17 => some (Sum.inl (v17, c14.2)) else some (Sum.inr (Sum.inl c14.2))
def g_X12_isFog_2 (T : List Dsc) (x0 : Nat) (x1 : Int32) (s : Int32 × Mem) : Option ((Int32 × Mem) ⊕ ((Mem) ⊕ (Mem))) := f_X12_isFog_2 T x0 x1 s.1 s.2
def F_X12_isFog (T : List Dsc) (x0 : Nat) (x1 : Int32) (μ : Mem) : Option (Int32 × Mem) :=
  (loop (g_X12_isFog_2 T x0 x1) ((0 : Int32), μ)).bind fun e1 => (Sum.elim (fun e1_0 => some ((1 : Int32), e1_0)) (fun e1_1 => some ((0 : Int32), e1_1))) e1
def f_X12_heard_36 (T : List Dsc) (s0 : Int32) (μ : Mem) : Option (Int32 × Mem) :=
  some (s0, μ)
def f_X12_heard_12 (T : List Dsc) (x0 : Nat) (x1 : Int32) (μ : Mem) : Option (Int32 × Mem) :=
  (gA T μ x0 63 0).bind fun a1 => (rI μ a1.1 a1.2 x1).bind fun v3 => f_X12_heard_36 T v3 μ
def F_X12_heard (T : List Dsc) (x0 : Nat) (x1 : Int32) (x2 : Int32) (μ : Mem) : Option (Int32 × Mem) :=
  if x2 = 0 then if (gI μ x0 66) = (-1 : Int32) then f_X12_heard_12 T x0 x1 μ else (F_X12_rest T x0 ((gI μ x0 66) + ((gI μ x0 67) * x1)) μ).bind fun c3 => f_X12_heard_36 T c3.1 c3.2 else f_X12_heard_12 T x0 x1 μ
def f_X12_termOf_189 (T : List Dsc) (x0 : Nat) (x2 : Int32) (x3 : Int32) (x4 : Int32) (μ : Mem) : Option ((Int32 × Int32 × Mem) ⊕ ((Mem) ⊕ (Mem))) :=
  (nmI (x4 + (1 : Int32))).bind fun v1 => some (Sum.inl (x3, v1, μ))
def f_X12_termOf_58 (T : List Dsc) (x0 : Nat) (x2 : Int32) (x3 : Int32) (x4 : Int32) (s0 : Nat) (ms0 : Nat) (s1 : Int32) (s2 : Int32) (μ : Mem) : Option ((Int32 × Int32 × Mem) ⊕ ((Mem) ⊕ (Mem))) :=
  (wI μ s0 ms0 s1 s2).bind fun μ1 => (nmI (x3 + (1 : Int32))).bind fun v3 => f_X12_termOf_189 T x0 x2 v3 x4 μ1
def f_X12_termOf_188 (T : List Dsc) (x0 : Nat) (x2 : Int32) (x3 : Int32) (x4 : Int32) (s0 : Nat) (ms0 : Nat) (s1 : Int32) (s2 : Int32) (μ : Mem) : Option ((Int32 × Int32 × Mem) ⊕ ((Mem) ⊕ (Mem))) :=
  (wI μ s0 ms0 s1 s2).bind fun μ1 => f_X12_termOf_189 T x0 x2 x3 x4 μ1
def f_X12_termOf_104 (T : List Dsc) (x0 : Nat) (x2 : Int32) (x3 : Int32) (x4 : Int32) (x5 : Int32) (x6 : Int32) (x7 : Int32) (μ : Mem) : Option ((Int32 × Int32 × Mem) ⊕ ((Mem) ⊕ (Mem))) :=
  (gA T μ x0 70 0).bind fun a1 => if x5 = (2 : Int32) then f_X12_termOf_188 T x0 x2 x3 x4 a1.1 a1.2 (x3 - (1 : Int32)) (x6 + x7) μ else if x5 = (3 : Int32) then f_X12_termOf_188 T x0 x2 x3 x4 a1.1 a1.2 (x3 - (1 : Int32)) (x6 - x7) μ else if x5 = (4 : Int32) then f_X12_termOf_188 T x0 x2 x3 x4 a1.1 a1.2 (x3 - (1 : Int32)) (x6 * x7) μ else if x5 = (6 : Int32) then (F_X12_gap T x0 x6 x7 μ).bind fun c10 => f_X12_termOf_188 T x0 x2 x3 x4 a1.1 a1.2 (x3 - (1 : Int32)) c10.1 c10.2 else if x7 = (-1 : Int32) then f_X12_termOf_188 T x0 x2 x3 x4 a1.1 a1.2 (x3 - (1 : Int32)) (-x6) μ else (dvI x6 x7).bind fun v8 => f_X12_termOf_188 T x0 x2 x3 x4 a1.1 a1.2 (x3 - (1 : Int32)) v8 μ
def f_X12_termOf_5 (T : List Dsc) (x0 : Nat) (x2 : Int32) (x3 : Int32) (x4 : Int32) (μ : Mem) : Option ((Int32 × Int32 × Mem) ⊕ ((Mem) ⊕ (Mem))) :=
  if x2 ≤ x4 then some (Sum.inr (Sum.inr μ)) else (gA T μ x0 49 0).bind fun a2 => (rI μ a2.1 a2.2 x4).bind fun v4 => if (2 : Int32) ≤ v4 then (nmI (x3 + (-1 : Int32))).bind fun v7 => (gA T μ x0 70 0).bind fun a9 => (rI μ a9.1 a9.2 (v7 - (1 : Int32))).bind fun v11 => (gA T μ x0 70 0).bind fun a13 => (rI μ a13.1 a13.2 v7).bind fun v15 => if v4 = (5 : Int32) then if v15 = 0 then some (Sum.inr (Sum.inl μ)) else f_X12_termOf_104 T x0 x2 v7 x4 v4 v11 v15 μ else f_X12_termOf_104 T x0 x2 v7 x4 v4 v11 v15 μ else (gA T μ x0 70 0).bind fun a19 => if v4 = 0 then (gA T μ x0 50 0).bind fun a30 => (rI μ a30.1 a30.2 x4).bind fun v32 => f_X12_termOf_58 T x0 x2 x3 x4 a19.1 a19.2 x3 v32 μ else (gA T μ x0 69 0).bind fun a22 => (gA T μ x0 50 0).bind fun a24 => (rI μ a24.1 a24.2 x4).bind fun v26 => (rI μ a22.1 a22.2 v26).bind fun v28 => f_X12_termOf_58 T x0 x2 x3 x4 a19.1 a19.2 x3 v28 μ
def g_X12_termOf_5 (T : List Dsc) (x0 : Nat) (x2 : Int32) (s : Int32 × Int32 × Mem) : Option ((Int32 × Int32 × Mem) ⊕ ((Mem) ⊕ (Mem))) := f_X12_termOf_5 T x0 x2 s.1 s.2.1 s.2.2
def F_X12_termOf (T : List Dsc) (x0 : Nat) (x1 : Int32) (x2 : Int32) (μ : Mem) : Option (Int32 × Mem) :=
  (loop (g_X12_termOf_5 T x0 x2) ((0 : Int32), x1, μ)).bind fun e1 => (Sum.elim (fun e1_0 => (pI e1_0 x0 71 (1 : Int32)).bind fun μ3 => some ((0 : Int32), μ3)) (fun e1_1 => (gA T e1_1 x0 70 0).bind fun a5 => (rI e1_1 a5.1 a5.2 (0 : Int32)).bind fun v7 => some (v7, e1_1))) e1
def f_X12_isTrue_130 (T : List Dsc) (s0 : Int32) (μ : Mem) : Option (Int32 × Mem) :=
  (zb s0).bind fun v1 => some (v1, μ)
def f_X12_isTrue_112 (T : List Dsc) (x0 : Nat) (x1 : Int32) (s0 : Int32) (μ : Mem) : Option (Int32 × Mem) :=
  (gA T μ x0 43 3).bind fun a1 => (rI μ a1.1 a1.2 x1).bind fun v3 => if s0 = v3 then f_X12_isTrue_130 T (0 : Int32) μ else f_X12_isTrue_130 T (1 : Int32) μ
def F_X12_isTrue (T : List Dsc) (x0 : Nat) (x1 : Int32) (μ : Mem) : Option (Int32 × Mem) :=
  (gA T μ x0 45 0).bind fun a1 => (rI μ a1.1 a1.2 x1).bind fun v3 => (gA T μ x0 46 0).bind fun a5 => (rI μ a5.1 a5.2 x1).bind fun v7 => (F_X12_termOf T x0 v3 v7 μ).bind fun c9 => (gA T c9.2 x0 46 0).bind fun a11 => (rI c9.2 a11.1 a11.2 x1).bind fun v13 => (gA T c9.2 x0 47 0).bind fun a15 => (rI c9.2 a15.1 a15.2 x1).bind fun v17 => (F_X12_termOf T x0 v13 v17 c9.2).bind fun c19 => (gA T c19.2 x0 42 0).bind fun a21 => (rI c19.2 a21.1 a21.2 x1).bind fun v23 => if v23 = 0 then if c9.1 = c19.1 then f_X12_isTrue_112 T x0 x1 (1 : Int32) c19.2 else f_X12_isTrue_112 T x0 x1 (0 : Int32) c19.2 else (gA T c19.2 x0 42 0).bind fun a26 => (rI c19.2 a26.1 a26.2 x1).bind fun v28 => if v28 = (1 : Int32) then if c9.1 = c19.1 then f_X12_isTrue_112 T x0 x1 (0 : Int32) c19.2 else f_X12_isTrue_112 T x0 x1 (1 : Int32) c19.2 else (gA T c19.2 x0 42 0).bind fun a31 => (rI c19.2 a31.1 a31.2 x1).bind fun v33 => if v33 = (2 : Int32) then if c19.1 ≤ c9.1 then f_X12_isTrue_112 T x0 x1 (0 : Int32) c19.2 else f_X12_isTrue_112 T x0 x1 (1 : Int32) c19.2 else if c19.1 < c9.1 then f_X12_isTrue_112 T x0 x1 (0 : Int32) c19.2 else f_X12_isTrue_112 T x0 x1 (1 : Int32) c19.2
def f_X12_holds_62 (T : List Dsc) (x0 : Nat) (x1 : Int32) (x2 : Int32) (x3 : Int32) (μ : Mem) : Option ((Int32 × Int32 × Mem) ⊕ ((Mem) ⊕ (Int32 × Mem))) :=
  (nmI (x3 + (1 : Int32))).bind fun v1 => some (Sum.inl (x2, v1, μ))
def f_X12_holds_52 (T : List Dsc) (x0 : Nat) (x1 : Int32) (x2 : Int32) (x3 : Int32) (μ : Mem) : Option ((Int32 × Int32 × Mem) ⊕ ((Mem) ⊕ (Int32 × Mem))) :=
  if x2 = 0 then f_X12_holds_62 T x0 x1 x2 x3 μ else (F_X12_isTrue T x0 x3 μ).bind fun c2 => f_X12_holds_62 T x0 x1 c2.1 x3 c2.2
def f_X12_holds_41 (T : List Dsc) (x0 : Nat) (x1 : Int32) (x2 : Int32) (x3 : Int32) (μ : Mem) : Option ((Int32 × Int32 × Mem) ⊕ ((Mem) ⊕ (Int32 × Mem))) :=
  (gA T μ x0 44 3).bind fun a1 => (rI μ a1.1 a1.2 x3).bind fun v3 => if v3 = 0 then f_X12_holds_52 T x0 x1 x2 x3 μ else f_X12_holds_52 T x0 x1 (1 : Int32) x3 μ
def f_X12_holds_9 (T : List Dsc) (x0 : Nat) (x1 : Int32) (x2 : Int32) (x3 : Int32) (μ : Mem) : Option ((Int32 × Int32 × Mem) ⊕ ((Mem) ⊕ (Int32 × Mem))) :=
  (gA T μ x0 29 0).bind fun a1 => (rI μ a1.1 a1.2 x1).bind fun v3 => if v3 ≤ x3 then some (Sum.inr (Sum.inr (x2, μ))) else if (gI μ x0 71) = 0 then (gA T μ x0 44 3).bind fun a7 => (rI μ a7.1 a7.2 x3).bind fun v9 => if v9 = 0 then f_X12_holds_41 T x0 x1 x2 x3 μ else if x2 = 0 then f_X12_holds_41 T x0 x1 x2 x3 μ else some (Sum.inr (Sum.inl μ)) else some (Sum.inr (Sum.inr (x2, μ)))
def g_X12_holds_9 (T : List Dsc) (x0 : Nat) (x1 : Int32) (s : Int32 × Int32 × Mem) : Option ((Int32 × Int32 × Mem) ⊕ ((Mem) ⊕ (Int32 × Mem))) := f_X12_holds_9 T x0 x1 s.1 s.2.1 s.2.2
def f_X12_holds_68 (T : List Dsc) (x2 : Int32) (μ : Mem) : Option (Int32 × Mem) :=
  (zb x2).bind fun v1 => some (v1, μ)
def F_X12_holds (T : List Dsc) (x0 : Nat) (x1 : Int32) (μ : Mem) : Option (Int32 × Mem) :=
  (gA T μ x0 28 0).bind fun a1 => (rI μ a1.1 a1.2 x1).bind fun v3 => (loop (g_X12_holds_9 T x0 x1) ((0 : Int32), v3, μ)).bind fun e5 => (Sum.elim (fun e5_0 => some ((1 : Int32), e5_0)) (fun e5_1 => f_X12_holds_68 T e5_1.1 e5_1.2)) e5
def f_X12_rowsBy_72 (T : List Dsc) (x0 : Nat) (x2 : Int32) (x3 : Int32) (x4 : Int32) (s0 : Int32) (μ : Mem) : Option ((Int32 × Mem) ⊕ ((Mem) ⊕ (Int32 × Mem) ⊕ (Mem))) :=
  if (gI μ x0 71) = 0 then if s0 = 0 then (nmI (x4 + (1 : Int32))).bind fun v3 => some (Sum.inl (v3, μ)) else some (Sum.inr (Sum.inr (Sum.inl (x4, μ)))) else some (Sum.inr (Sum.inl μ))
def f_X12_rowsBy_67 (T : List Dsc) (x0 : Nat) (x2 : Int32) (x3 : Int32) (x4 : Int32) (μ : Mem) : Option ((Int32 × Mem) ⊕ ((Mem) ⊕ (Int32 × Mem) ⊕ (Mem))) :=
  f_X12_rowsBy_72 T x0 x2 x3 x4 (1 : Int32) μ
def f_X12_rowsBy_30 (T : List Dsc) (x0 : Nat) (x2 : Int32) (x3 : Int32) (x4 : Int32) (μ : Mem) : Option ((Int32 × Mem) ⊕ ((Mem) ⊕ (Int32 × Mem) ⊕ (Mem))) :=
  (gA T μ x0 26 0).bind fun a1 => (rI μ a1.1 a1.2 x3).bind fun v3 => if v3 ≤ x4 then some (Sum.inr (Sum.inr (Sum.inr μ))) else (gA T μ x0 28 0).bind fun a6 => (rI μ a6.1 a6.2 x4).bind fun v8 => (gA T μ x0 29 0).bind fun a10 => (rI μ a10.1 a10.2 x4).bind fun v12 => if v8 = v12 then f_X12_rowsBy_67 T x0 x2 x3 x4 μ else (F_X12_holds T x0 x4 μ).bind fun c15 => if c15.1 = 0 then f_X12_rowsBy_72 T x0 x2 x3 x4 (0 : Int32) c15.2 else f_X12_rowsBy_67 T x0 x2 x3 x4 c15.2
def g_X12_rowsBy_30 (T : List Dsc) (x0 : Nat) (x2 : Int32) (x3 : Int32) (s : Int32 × Mem) : Option ((Int32 × Mem) ⊕ ((Mem) ⊕ (Int32 × Mem) ⊕ (Mem))) := f_X12_rowsBy_30 T x0 x2 x3 s.1 s.2
def f_X12_rowsBy_128 (T : List Dsc) (s0 : Int32) (μ : Mem) : Option (Int32 × Mem) :=
  some (s0, μ)
def F_X12_rowsBy (T : List Dsc) (x0 : Nat) (x1 : Int32) (x2 : Int32) (μ : Mem) : Option (Int32 × Mem) :=
  if x1 = (-1 : Int32) then some (x2, μ) else (nmI (((6 : Int32) * (gI μ x0 18)) + x1)).bind fun v2 => (pI μ x0 71 (0 : Int32)).bind fun μ4 => (gA T μ4 x0 25 0).bind fun a6 => (rI μ4 a6.1 a6.2 v2).bind fun v8 => (loop (g_X12_rowsBy_30 T x0 x2 v2) (v8, μ4)).bind fun e10 => (Sum.elim (fun e10_0 => some (x2, e10_0)) (Sum.elim (fun e10_1 => (gA T e10_1.2 x0 30 0).bind fun a12 => (rI e10_1.2 a12.1 a12.2 e10_1.1).bind fun v14 => (gA T e10_1.2 x0 31 0).bind fun a16 => (rI e10_1.2 a16.1 a16.2 e10_1.1).bind fun v18 => (F_X12_termOf T x0 v14 v18 e10_1.2).bind fun c20 => if (gI c20.2 x0 71) = 0 then (F_X12_rest T x0 c20.1 c20.2).bind fun c23 => f_X12_rowsBy_128 T c23.1 c23.2 else f_X12_rowsBy_128 T x2 c20.2) (fun e10_2 => some (x2, e10_2)))) e10
def f_X12_strikes_140 (T : List Dsc) (x0 : Nat) (x1 : Int32) (x2 : Int32) (s0 : Nat) (ms0 : Nat) (s1 : Int32) (s2 : Int32) (μ : Mem) : Option ((Int32 × Mem) ⊕ ((Mem))) :=
  (wI μ s0 ms0 s1 s2).bind fun μ1 => (gA T μ1 x0 68 0).bind fun a3 => (gA T μ1 x0 64 0).bind fun a5 => (rI μ1 a5.1 a5.2 x2).bind fun v7 => (gA T μ1 x0 63 0).bind fun a9 => (rI μ1 a9.1 a9.2 x2).bind fun v11 => (F_X12_rowsBy T x0 v7 v11 μ1).bind fun c13 => (wI c13.2 a3.1 a3.2 x2 c13.1).bind fun μ15 => (nmI (x2 + (1 : Int32))).bind fun v17 => some (Sum.inl (v17, μ15))
def f_X12_strikes_84 (T : List Dsc) (x0 : Nat) (x1 : Int32) (x2 : Int32) (s0 : Nat) (ms0 : Nat) (s1 : Int32) (s2 : Int32) (μ : Mem) : Option ((Int32 × Mem) ⊕ ((Mem))) :=
  (wI μ s0 ms0 s1 s2).bind fun μ1 => (gA T μ1 x0 69 0).bind fun a3 => (F_X12_heard T x0 x2 x1 μ1).bind fun c5 => (wI c5.2 a3.1 a3.2 (3 : Int32) c5.1).bind fun μ7 => (gA T μ7 x0 69 0).bind fun a9 => (wI μ7 a9.1 a9.2 (4 : Int32) x2).bind fun μ11 => (gA T μ11 x0 69 0).bind fun a13 => (gA T μ11 x0 37 0).bind fun a15 => (rI μ11 a15.1 a15.2 (gI μ11 x0 18)).bind fun v17 => if v17 = (-1 : Int32) then (gA T μ11 x0 63 0).bind fun a24 => (rI μ11 a24.1 a24.2 x2).bind fun v26 => f_X12_strikes_140 T x0 x1 x2 a13.1 a13.2 (5 : Int32) v26 μ11 else (gA T μ11 x0 37 0).bind fun a20 => (rI μ11 a20.1 a20.2 (gI μ11 x0 18)).bind fun v22 => f_X12_strikes_140 T x0 x1 x2 a13.1 a13.2 (5 : Int32) v22 μ11
def f_X12_strikes_83 (T : List Dsc) (x0 : Nat) (x1 : Int32) (x2 : Int32) (s0 : Nat) (ms0 : Nat) (s1 : Int32) (s2 : Nat) (ms2 : Nat) (s3 : Int32) (μ : Mem) : Option ((Int32 × Mem) ⊕ ((Mem))) :=
  (rI μ s2 ms2 s3).bind fun v1 => f_X12_strikes_84 T x0 x1 x2 s0 ms0 s1 v1 μ
def f_X12_strikes_48 (T : List Dsc) (x0 : Nat) (x1 : Int32) (x2 : Int32) (s0 : Nat) (ms0 : Nat) (s1 : Int32) (s2 : Int32) (μ : Mem) : Option ((Int32 × Mem) ⊕ ((Mem))) :=
  (wI μ s0 ms0 s1 s2).bind fun μ1 => (gA T μ1 x0 69 0).bind fun a3 => if x2 = 0 then (gA T μ1 x0 63 0).bind fun a9 => (rI μ1 a9.1 a9.2 (0 : Int32)).bind fun v11 => f_X12_strikes_84 T x0 x1 x2 a3.1 a3.2 (2 : Int32) v11 μ1 else (gA T μ1 x0 63 0).bind fun a6 => if x2 = (1 : Int32) then f_X12_strikes_83 T x0 x1 x2 a3.1 a3.2 (2 : Int32) a6.1 a6.2 (0 : Int32) μ1 else f_X12_strikes_83 T x0 x1 x2 a3.1 a3.2 (2 : Int32) a6.1 a6.2 (x2 - (2 : Int32)) μ1
def f_X12_strikes_2 (T : List Dsc) (x0 : Nat) (x1 : Int32) (x2 : Int32) (μ : Mem) : Option ((Int32 × Mem) ⊕ ((Mem))) :=
  if (gI μ x0 65) ≤ x2 then some (Sum.inr μ) else (gA T μ x0 69 0).bind fun a2 => (gA T μ x0 63 0).bind fun a4 => (rI μ a4.1 a4.2 x2).bind fun v6 => (wI μ a2.1 a2.2 (0 : Int32) v6).bind fun μ8 => (gA T μ8 x0 69 0).bind fun a10 => if x2 = 0 then (gA T μ8 x0 63 0).bind fun a17 => (rI μ8 a17.1 a17.2 (0 : Int32)).bind fun v19 => f_X12_strikes_48 T x0 x1 x2 a10.1 a10.2 (1 : Int32) v19 μ8 else (gA T μ8 x0 63 0).bind fun a13 => (rI μ8 a13.1 a13.2 (x2 - (1 : Int32))).bind fun v15 => f_X12_strikes_48 T x0 x1 x2 a10.1 a10.2 (1 : Int32) v15 μ8
def g_X12_strikes_2 (T : List Dsc) (x0 : Nat) (x1 : Int32) (s : Int32 × Mem) : Option ((Int32 × Mem) ⊕ ((Mem))) := f_X12_strikes_2 T x0 x1 s.1 s.2
def f_X12_strikes_171 (T : List Dsc) (x0 : Nat) (x2 : Int32) (μ : Mem) : Option ((Int32 × Mem) ⊕ ((Mem))) :=
  if (gI μ x0 65) ≤ x2 then some (Sum.inr μ) else (gA T μ x0 63 0).bind fun a2 => (gA T μ x0 68 0).bind fun a4 => (rI μ a4.1 a4.2 x2).bind fun v6 => (wI μ a2.1 a2.2 x2 v6).bind fun μ8 => (nmI (x2 + (1 : Int32))).bind fun v10 => some (Sum.inl (v10, μ8))
def g_X12_strikes_171 (T : List Dsc) (x0 : Nat) (s : Int32 × Mem) : Option ((Int32 × Mem) ⊕ ((Mem))) := f_X12_strikes_171 T x0 s.1 s.2
def F_X12_strikes (T : List Dsc) (x0 : Nat) (x1 : Int32) (μ : Mem) : Option Mem :=
  (loop (g_X12_strikes_2 T x0 x1) ((0 : Int32), μ)).bind fun e1 => (loop (g_X12_strikes_171 T x0) ((0 : Int32), e1)).bind fun e3 => some e3
def F_X12_isBench (T : List Dsc) (x0 : Nat) (x1 : Int32) (μ : Mem) : Option (Int32 × Mem) :=
  (F_X12_menNow T x0 μ).bind fun c1 => (F_X12_in T x1 (0 : Int32) (c1.1 - (1 : Int32)) c1.2).bind fun c3 => (zb c3.1).bind fun v5 => some (v5, c3.2)
def F_X12_bench (T : List Dsc) (x0 : Nat) (x1 : Int32) (x2 : Int32) (μ : Mem) : Option (Int32 × Mem) :=
  (F_X12_isBench T x0 x1 μ).bind fun c1 => if c1.1 = 0 then some ((-1 : Int32), c1.2) else if x2 = (0 : Int32) then (gA T c1.2 x0 55 0).bind fun a5 => (rI c1.2 a5.1 a5.2 x1).bind fun v7 => some (v7, c1.2) else if x2 = (1 : Int32) then (gA T c1.2 x0 56 0).bind fun a10 => (rI c1.2 a10.1 a10.2 x1).bind fun v12 => some (v12, c1.2) else if x2 = (2 : Int32) then (gA T c1.2 x0 57 0).bind fun a15 => (rI c1.2 a15.1 a15.2 x1).bind fun v17 => some (v17, c1.2) else if x2 = (3 : Int32) then (F_X12_takes T x0 c1.2).bind fun c20 => (F_X12_isFog T x0 (gI c20 x0 60) c20).bind fun c22 => (F_X12_heard T x0 x1 c22.1 c22.2).bind fun c24 => some (c24.1, c24.2) else some ((-1 : Int32), c1.2)
def f_X12_row_34 (T : List Dsc) (x0 : Nat) (x1 : Int32) (x2 : Int32) (x3 : Int32) (μ : Mem) : Option ((Int32 × Mem) ⊕ ((Mem))) :=
  if (1188 : Int32) ≤ x3 then some (Sum.inr μ) else (gA T μ x0 62 0).bind fun a2 => (gA T μ x0 62 0).bind fun a4 => (rI μ a4.1 a4.2 (x3 + (12 : Int32))).bind fun v6 => (wI μ a2.1 a2.2 x3 v6).bind fun μ8 => (nmI (x3 + (1 : Int32))).bind fun v10 => some (Sum.inl (v10, μ8))
def g_X12_row_34 (T : List Dsc) (x0 : Nat) (x1 : Int32) (x2 : Int32) (s : Int32 × Mem) : Option ((Int32 × Mem) ⊕ ((Mem))) := f_X12_row_34 T x0 x1 x2 s.1 s.2
def f_X12_row_74 (T : List Dsc) (x0 : Nat) (x1 : Int32) (x2 : Int32) (x3 : Int32) (μ : Mem) : Option ((Int32 × Mem) ⊕ ((Mem))) :=
  if (gI μ x0 65) ≤ x3 then some (Sum.inr μ) else (gA T μ x0 62 0).bind fun a2 => (gA T μ x0 63 0).bind fun a4 => (rI μ a4.1 a4.2 x3).bind fun v6 => (wI μ a2.1 a2.2 (((12 : Int32) * (gI μ x0 61)) + x3) v6).bind fun μ8 => (nmI (x3 + (1 : Int32))).bind fun v10 => some (Sum.inl (v10, μ8))
def g_X12_row_74 (T : List Dsc) (x0 : Nat) (x1 : Int32) (x2 : Int32) (s : Int32 × Mem) : Option ((Int32 × Mem) ⊕ ((Mem))) := f_X12_row_74 T x0 x1 x2 s.1 s.2
def f_X12_row_72 (T : List Dsc) (x0 : Nat) (x1 : Int32) (x2 : Int32) (μ : Mem) : Option ((Int32 × Mem) ⊕ ((Mem))) :=
  (loop (g_X12_row_74 T x0 x1 x2) ((0 : Int32), μ)).bind fun e1 => (pI e1 x0 61 ((gI e1 x0 61) + (1 : Int32))).bind fun μ3 => (F_X12_isFog T x0 (gI μ3 x0 60) μ3).bind fun c5 => (F_X12_strikes T x0 c5.1 c5.2).bind fun c7 => (pI c7 x0 60 ((gI c7 x0 60) + (1 : Int32))).bind fun μ9 => (nmI (x2 + (1 : Int32))).bind fun v11 => some (Sum.inl (v11, μ9))
def f_X12_row_18 (T : List Dsc) (x0 : Nat) (x1 : Int32) (x2 : Int32) (μ : Mem) : Option ((Int32 × Mem) ⊕ ((Mem))) :=
  if x1 ≤ x2 then some (Sum.inr μ) else if (gI μ x0 61) = (100 : Int32) then (loop (g_X12_row_34 T x0 x1 x2) ((0 : Int32), μ)).bind fun e3 => (pI e3 x0 61 ((gI e3 x0 61) - (1 : Int32))).bind fun μ5 => f_X12_row_72 T x0 x1 x2 μ5 else f_X12_row_72 T x0 x1 x2 μ
def g_X12_row_18 (T : List Dsc) (x0 : Nat) (x1 : Int32) (s : Int32 × Mem) : Option ((Int32 × Mem) ⊕ ((Mem))) := f_X12_row_18 T x0 x1 s.1 s.2
def f_X12_row_148 (T : List Dsc) (x0 : Nat) (x2 : Int32) (μ : Mem) : Option ((Int32 × Mem) ⊕ ((Mem))) :=
  if (gI μ x0 65) ≤ x2 then some (Sum.inr μ) else (gA T μ x0 55 0).bind fun a2 => (gA T μ x0 63 0).bind fun a4 => (rI μ a4.1 a4.2 x2).bind fun v6 => (wI μ a2.1 a2.2 x2 v6).bind fun μ8 => (nmI (x2 + (1 : Int32))).bind fun v10 => some (Sum.inl (v10, μ8))
def g_X12_row_148 (T : List Dsc) (x0 : Nat) (s : Int32 × Mem) : Option ((Int32 × Mem) ⊕ ((Mem))) := f_X12_row_148 T x0 s.1 s.2
def F_X12_row (T : List Dsc) (x0 : Nat) (x1 : Int32) (μ : Mem) : Option (Int32 × Mem) :=
  (F_X12_in T x1 (0 : Int32) (100 : Int32) μ).bind fun c1 => if c1.1 = 0 then some ((-1 : Int32), c1.2) else (F_X12_takes T x0 c1.2).bind fun c4 => (loop (g_X12_row_18 T x0 x1) ((0 : Int32), c4)).bind fun e6 => (loop (g_X12_row_148 T x0) ((0 : Int32), e6)).bind fun e8 => some (gI e8 x0 60, e8)
def f_X12_undo_31 (T : List Dsc) (x0 : Nat) (x1 : Int32) (μ : Mem) : Option ((Int32 × Mem) ⊕ ((Mem))) :=
  (F_X12_menNow T x0 μ).bind fun c1 => if c1.1 ≤ x1 then some (Sum.inr c1.2) else (gA T c1.2 x0 55 0).bind fun a4 => (gA T c1.2 x0 62 0).bind fun a6 => (rI c1.2 a6.1 a6.2 (((12 : Int32) * (gI c1.2 x0 61)) + x1)).bind fun v8 => (wI c1.2 a4.1 a4.2 x1 v8).bind fun μ10 => (nmI (x1 + (1 : Int32))).bind fun v12 => some (Sum.inl (v12, μ10))
def g_X12_undo_31 (T : List Dsc) (x0 : Nat) (s : Int32 × Mem) : Option ((Int32 × Mem) ⊕ ((Mem))) := f_X12_undo_31 T x0 s.1 s.2
def F_X12_undo (T : List Dsc) (x0 : Nat) (μ : Mem) : Option (Int32 × Mem) :=
  if (gI μ x0 61) = 0 then some ((0 : Int32), μ) else (pI μ x0 61 ((gI μ x0 61) - (1 : Int32))).bind fun μ2 => (pI μ2 x0 60 ((gI μ2 x0 60) - (1 : Int32))).bind fun μ4 => (loop (g_X12_undo_31 T x0) ((0 : Int32), μ4)).bind fun e6 => some ((1 : Int32), e6)
def f_X12_clashesNow_56 (T : List Dsc) (x0 : Nat) (x1 : Int32) (x2 : Int32) (μ : Mem) : Option ((Int32 × Int32 × Mem) ⊕ ((Int32 × Mem))) :=
  (nmI (x2 + (1 : Int32))).bind fun v1 => some (Sum.inl (x1, v1, μ))
def f_X12_clashesNow_38 (T : List Dsc) (x0 : Nat) (x1 : Int32) (x2 : Int32) (x3 : Int32) (μ : Mem) : Option ((Int32 × Int32 × Mem) ⊕ ((Int32 × Mem))) :=
  (F_X12_all T x0 μ).bind fun c1 => (dvI (c1.1 + (2 : Int32)) (3 : Int32)).bind fun v3 => if x3 < v3 then f_X12_clashesNow_56 T x0 x1 x2 c1.2 else (nmI (x1 ||| ((1 : Int32) <<< (x2 &&& 31)))).bind fun v6 => f_X12_clashesNow_56 T x0 v6 x2 c1.2
def f_X12_clashesNow_4 (T : List Dsc) (x0 : Nat) (x1 : Int32) (x2 : Int32) (μ : Mem) : Option ((Int32 × Int32 × Mem) ⊕ ((Int32 × Mem))) :=
  if (gI μ x0 65) ≤ x2 then some (Sum.inr (x1, μ)) else (gA T μ x0 63 0).bind fun a2 => (rI μ a2.1 a2.2 x2).bind fun v4 => (gA T μ x0 63 0).bind fun a6 => (rI μ a6.1 a6.2 (x2 - (1 : Int32))).bind fun v8 => (F_X12_gap T x0 v4 v8 μ).bind fun c10 => if 0 ≤ c10.1 then f_X12_clashesNow_38 T x0 x1 x2 c10.1 c10.2 else (nmI (-c10.1)).bind fun v13 => f_X12_clashesNow_38 T x0 x1 x2 v13 c10.2
def g_X12_clashesNow_4 (T : List Dsc) (x0 : Nat) (s : Int32 × Int32 × Mem) : Option ((Int32 × Int32 × Mem) ⊕ ((Int32 × Mem))) := f_X12_clashesNow_4 T x0 s.1 s.2.1 s.2.2
def F_X12_clashesNow (T : List Dsc) (x0 : Nat) (μ : Mem) : Option (Int32 × Mem) :=
  (loop (g_X12_clashesNow_4 T x0) ((0 : Int32), (1 : Int32), μ)).bind fun e1 => some (e1.1, e1.2)
def F_X12_clashes (T : List Dsc) (x0 : Nat) (μ : Mem) : Option (Int32 × Mem) :=
  (F_X12_takes T x0 μ).bind fun c1 => (F_X12_clashesNow T x0 c1).bind fun c3 => some (c3.1, c3.2)
def f_X12_nearTo_34 (T : List Dsc) (x0 : Nat) (x1 : Int32) (x2 : Int32) (x3 : Int32) (μ : Mem) : Option ((Int32 × Int32 × Mem) ⊕ ((Int32 × Mem))) :=
  (nmI (x3 + (1 : Int32))).bind fun v1 => some (Sum.inl (x2, v1, μ))
def f_X12_nearTo_4 (T : List Dsc) (x0 : Nat) (x1 : Int32) (x2 : Int32) (x3 : Int32) (μ : Mem) : Option ((Int32 × Int32 × Mem) ⊕ ((Int32 × Mem))) :=
  if (gI μ x0 65) ≤ x3 then some (Sum.inr (x2, μ)) else (gA T μ x0 63 0).bind fun a2 => (rI μ a2.1 a2.2 x3).bind fun v4 => (F_X12_gap T x0 v4 x1 μ).bind fun c6 => (F_X12_in T c6.1 (-1 : Int32) (1 : Int32) c6.2).bind fun c8 => if c8.1 = 0 then f_X12_nearTo_34 T x0 x1 x2 x3 c8.2 else (nmI (x2 + (1 : Int32))).bind fun v11 => f_X12_nearTo_34 T x0 x1 v11 x3 c8.2
def g_X12_nearTo_4 (T : List Dsc) (x0 : Nat) (x1 : Int32) (s : Int32 × Int32 × Mem) : Option ((Int32 × Int32 × Mem) ⊕ ((Int32 × Mem))) := f_X12_nearTo_4 T x0 x1 s.1 s.2.1 s.2.2
def F_X12_nearTo (T : List Dsc) (x0 : Nat) (x1 : Int32) (μ : Mem) : Option (Int32 × Mem) :=
  (loop (g_X12_nearTo_4 T x0 x1) ((0 : Int32), (0 : Int32), μ)).bind fun e1 => some (e1.1, e1.2)
def f_X12_wayNow_27 (T : List Dsc) (x0 : Nat) (x1 : Int32) (x2 : Int32) (μ : Mem) : Option ((Int32 × Int32 × Mem) ⊕ ((Int32 × Mem))) :=
  (nmI (x2 + (1 : Int32))).bind fun v1 => some (Sum.inl (x1, v1, μ))
def f_X12_wayNow_4 (T : List Dsc) (x0 : Nat) (x1 : Int32) (x2 : Int32) (μ : Mem) : Option ((Int32 × Int32 × Mem) ⊕ ((Int32 × Mem))) :=
  (F_X12_all T x0 μ).bind fun c1 => if c1.1 ≤ x2 then some (Sum.inr (x1, c1.2)) else (F_X12_nearTo T x0 x2 c1.2).bind fun c4 => if c4.1 ≤ x1 then f_X12_wayNow_27 T x0 x1 x2 c4.2 else (F_X12_nearTo T x0 x2 c4.2).bind fun c7 => f_X12_wayNow_27 T x0 c7.1 x2 c7.2
def g_X12_wayNow_4 (T : List Dsc) (x0 : Nat) (s : Int32 × Int32 × Mem) : Option ((Int32 × Int32 × Mem) ⊕ ((Int32 × Mem))) := f_X12_wayNow_4 T x0 s.1 s.2.1 s.2.2
def F_X12_wayNow (T : List Dsc) (x0 : Nat) (μ : Mem) : Option (Int32 × Mem) :=
  (loop (g_X12_wayNow_4 T x0) ((0 : Int32), (0 : Int32), μ)).bind fun e1 => some (e1.1, e1.2)
def f_X12_way_16 (T : List Dsc) (μ : Mem) : Option (Int32 × Mem) :=
  some ((-1 : Int32), μ)
def f_X12_way_29 (T : List Dsc) (x0 : Nat) (x1 : Int32) (x2 : Int32) (x3 : Int32) (μ : Mem) : Option ((Int32 × Mem) ⊕ ((Int32 × Mem))) :=
  (F_X12_nearTo T x0 x3 μ).bind fun c1 => if c1.1 = x2 then some (Sum.inr (x3, c1.2)) else (nmI (x3 + (1 : Int32))).bind fun v4 => some (Sum.inl (v4, c1.2))
def g_X12_way_29 (T : List Dsc) (x0 : Nat) (x1 : Int32) (x2 : Int32) (s : Int32 × Mem) : Option ((Int32 × Mem) ⊕ ((Int32 × Mem))) := f_X12_way_29 T x0 x1 x2 s.1 s.2
def f_X12_way_53 (T : List Dsc) (s0 : Int32) (μ : Mem) : Option (Int32 × Mem) :=
  some (s0, μ)
def F_X12_way (T : List Dsc) (x0 : Nat) (x1 : Int32) (μ : Mem) : Option (Int32 × Mem) :=
  (F_X12_in T x1 (0 : Int32) (1 : Int32) μ).bind fun c1 => if c1.1 = 0 then f_X12_way_16 T c1.2 else (F_X12_menNow T x0 c1.2).bind fun c4 => if c4.1 = 0 then f_X12_way_16 T c4.2 else (F_X12_takes T x0 c4.2).bind fun c7 => (F_X12_wayNow T x0 c7).bind fun c9 => (loop (g_X12_way_29 T x0 x1 c9.1) ((0 : Int32), c9.2)).bind fun e11 => if x1 = 0 then f_X12_way_53 T c9.1 e11.2 else f_X12_way_53 T e11.1 e11.2
def f_X12_wave_70 (T : List Dsc) (x0 : Nat) (x1 : Int32) (x2 : Int32) (x3 : Int32) (x4 : Int32) (x5 : Int32) (x6 : Int32) (x7 : Int32) (μ : Mem) : Option ((Int32 × Mem) ⊕ ((Int32 × Mem))) :=
  if x7 = 0 then some (Sum.inr (x6, μ)) else (F_X12_menNow T x0 μ).bind fun c2 => if c2.1 ≤ (x5 + x6) then some (Sum.inr (x6, c2.2)) else (gA T c2.2 x0 55 0).bind fun a5 => (rI c2.2 a5.1 a5.2 (x5 + x6)).bind fun v7 => (gA T c2.2 x0 55 0).bind fun a9 => (rI c2.2 a9.1 a9.2 ((x5 + x6) - (1 : Int32))).bind fun v11 => (F_X12_gap T x0 v7 v11 c2.2).bind fun c13 => if c13.1 = x7 then (nmI (x6 + (1 : Int32))).bind fun v16 => some (Sum.inl (v16, c13.2)) else some (Sum.inr (x6, c13.2))
def g_X12_wave_70 (T : List Dsc) (x0 : Nat) (x1 : Int32) (x2 : Int32) (x3 : Int32) (x4 : Int32) (x5 : Int32) (x7 : Int32) (s : Int32 × Mem) : Option ((Int32 × Mem) ⊕ ((Int32 × Mem))) := f_X12_wave_70 T x0 x1 x2 x3 x4 x5 s.1 x7 s.2
def f_X12_wave_143 (T : List Dsc) (x0 : Nat) (x1 : Int32) (x2 : Int32) (x3 : Int32) (x4 : Int32) (x5 : Int32) (μ : Mem) : Option ((Int32 × Int32 × Int32 × Int32 × Mem) ⊕ ((Int32 × Int32 × Int32 × Mem))) :=
  (nmI (x5 + (1 : Int32))).bind fun v1 => some (Sum.inl (x2, x3, x4, v1, μ))
def f_X12_wave_124 (T : List Dsc) (x0 : Nat) (x1 : Int32) (x2 : Int32) (x3 : Int32) (x4 : Int32) (x5 : Int32) (x6 : Int32) (x7 : Int32) (μ : Mem) : Option ((Int32 × Int32 × Int32 × Int32 × Mem) ⊕ ((Int32 × Int32 × Int32 × Mem))) :=
  if x2 < x6 then f_X12_wave_143 T x0 x1 x6 x5 x7 x5 μ else f_X12_wave_143 T x0 x1 x2 x3 x4 x5 μ
def f_X12_wave_68 (T : List Dsc) (x0 : Nat) (x1 : Int32) (x2 : Int32) (x3 : Int32) (x4 : Int32) (x5 : Int32) (x6 : Int32) (s0 : Int32) (μ : Mem) : Option ((Int32 × Int32 × Int32 × Int32 × Mem) ⊕ ((Int32 × Int32 × Int32 × Mem))) :=
  (loop (g_X12_wave_70 T x0 x1 x2 x3 x4 x5 s0) (x6, μ)).bind fun e1 => f_X12_wave_124 T x0 x1 x2 x3 x4 x5 e1.1 s0 e1.2
def f_X12_wave_21 (T : List Dsc) (x0 : Nat) (x1 : Int32) (x2 : Int32) (x3 : Int32) (x4 : Int32) (x5 : Int32) (μ : Mem) : Option ((Int32 × Int32 × Int32 × Int32 × Mem) ⊕ ((Int32 × Int32 × Int32 × Mem))) :=
  (F_X12_menNow T x0 μ).bind fun c1 => if c1.1 ≤ x5 then some (Sum.inr (x2, x3, x4, c1.2)) else (F_X12_menNow T x0 c1.2).bind fun c4 => if c4.1 ≤ (x5 + (1 : Int32)) then f_X12_wave_68 T x0 x1 x2 x3 x4 x5 (1 : Int32) (0 : Int32) c4.2 else (gA T c4.2 x0 55 0).bind fun a7 => (rI c4.2 a7.1 a7.2 (x5 + (1 : Int32))).bind fun v9 => (gA T c4.2 x0 55 0).bind fun a11 => (rI c4.2 a11.1 a11.2 x5).bind fun v13 => (F_X12_gap T x0 v9 v13 c4.2).bind fun c15 => f_X12_wave_68 T x0 x1 x2 x3 x4 x5 (1 : Int32) c15.1 c15.2
def g_X12_wave_21 (T : List Dsc) (x0 : Nat) (x1 : Int32) (s : Int32 × Int32 × Int32 × Int32 × Mem) : Option ((Int32 × Int32 × Int32 × Int32 × Mem) ⊕ ((Int32 × Int32 × Int32 × Mem))) := f_X12_wave_21 T x0 x1 s.1 s.2.1 s.2.2.1 s.2.2.2.1 s.2.2.2.2
def f_X12_wave_178 (T : List Dsc) (s0 : Int32) (μ : Mem) : Option (Int32 × Mem) :=
  some (s0, μ)
def F_X12_wave (T : List Dsc) (x0 : Nat) (x1 : Int32) (μ : Mem) : Option (Int32 × Mem) :=
  (F_X12_in T x1 (0 : Int32) (2 : Int32) μ).bind fun c1 => if c1.1 = 0 then some ((-1 : Int32), c1.2) else (loop (g_X12_wave_21 T x0 x1) ((1 : Int32), (0 : Int32), (0 : Int32), (0 : Int32), c1.2)).bind fun e4 => if (2 : Int32) ≤ e4.1 then if x1 = 0 then f_X12_wave_178 T e4.1 e4.2.2.2 else if x1 = (1 : Int32) then f_X12_wave_178 T e4.2.1 e4.2.2.2 else f_X12_wave_178 T e4.2.2.1 e4.2.2.2 else f_X12_wave_178 T (-2 : Int32) e4.2.2.2
def f_X12_soon_20 (T : List Dsc) (x0 : Nat) (x1 : Int32) (x2 : Int32) (μ : Mem) : Option ((Int32 × Mem) ⊕ ((Int32 × Mem) ⊕ (Mem))) :=
  if (100 : Int32) < x2 then some (Sum.inr (Sum.inr μ)) else (F_X12_wayNow T x0 μ).bind fun c2 => if c2.1 < x1 then (F_X12_isFog T x0 ((gI c2.2 x0 60) + x2) c2.2).bind fun c5 => (F_X12_strikes T x0 c5.1 c5.2).bind fun c7 => (nmI (x2 + (1 : Int32))).bind fun v9 => some (Sum.inl (v9, c7)) else some (Sum.inr (Sum.inl (x2, c2.2)))
def g_X12_soon_20 (T : List Dsc) (x0 : Nat) (x1 : Int32) (s : Int32 × Mem) : Option ((Int32 × Mem) ⊕ ((Int32 × Mem) ⊕ (Mem))) := f_X12_soon_20 T x0 x1 s.1 s.2
def F_X12_soon (T : List Dsc) (x0 : Nat) (x1 : Int32) (μ : Mem) : Option (Int32 × Mem) :=
  (F_X12_menNow T x0 μ).bind fun c1 => (F_X12_in T x1 (1 : Int32) c1.1 c1.2).bind fun c3 => if c3.1 = 0 then some ((-1 : Int32), c3.2) else (F_X12_takes T x0 c3.2).bind fun c6 => (loop (g_X12_soon_20 T x0 x1) ((0 : Int32), c6)).bind fun e8 => (Sum.elim (fun e8_0 => some (e8_0.1, e8_0.2)) (fun e8_1 => some ((-2 : Int32), e8_1))) e8
def f_X12_rubs_18 (T : List Dsc) (x0 : Nat) (x1 : Int32) (x2 : Int32) (μ : Mem) : Option ((Int32 × Mem) ⊕ ((Mem))) :=
  if (12 : Int32) ≤ x2 then some (Sum.inr μ) else (gA T μ x0 72 0).bind fun a2 => (wI μ a2.1 a2.2 x2 (0 : Int32)).bind fun μ4 => (nmI (x2 + (1 : Int32))).bind fun v6 => some (Sum.inl (v6, μ4))
def g_X12_rubs_18 (T : List Dsc) (x0 : Nat) (x1 : Int32) (s : Int32 × Mem) : Option ((Int32 × Mem) ⊕ ((Mem))) := f_X12_rubs_18 T x0 x1 s.1 s.2
def f_X12_rubs_66 (T : List Dsc) (x0 : Nat) (x1 : Int32) (x2 : Int32) (x3 : Int32) (x4 : Int32) (μ : Mem) : Option ((Int32 × Mem) ⊕ ((Mem))) :=
  if (12 : Int32) ≤ x4 then some (Sum.inr μ) else (gA T μ x0 72 0).bind fun a2 => (rI μ a2.1 a2.2 x4).bind fun v4 => (wI μ a2.1 a2.2 x4 (v4 + ((x3 >>> (x4 &&& 31)) &&& (1 : Int32)))).bind fun μ6 => (nmI (x4 + (1 : Int32))).bind fun v8 => some (Sum.inl (v8, μ6))
def g_X12_rubs_66 (T : List Dsc) (x0 : Nat) (x1 : Int32) (x2 : Int32) (x3 : Int32) (s : Int32 × Mem) : Option ((Int32 × Mem) ⊕ ((Mem))) := f_X12_rubs_66 T x0 x1 x2 x3 s.1 s.2
def f_X12_rubs_39 (T : List Dsc) (x0 : Nat) (x1 : Int32) (x2 : Int32) (μ : Mem) : Option ((Int32 × Mem) ⊕ ((Mem))) :=
  if x1 ≤ x2 then some (Sum.inr μ) else (F_X12_isFog T x0 ((gI μ x0 60) + x2) μ).bind fun c2 => (F_X12_strikes T x0 c2.1 c2.2).bind fun c4 => (F_X12_clashesNow T x0 c4).bind fun c6 => (loop (g_X12_rubs_66 T x0 x1 x2 c6.1) ((0 : Int32), c6.2)).bind fun e8 => (nmI (x2 + (1 : Int32))).bind fun v10 => some (Sum.inl (v10, e8))
def g_X12_rubs_39 (T : List Dsc) (x0 : Nat) (x1 : Int32) (s : Int32 × Mem) : Option ((Int32 × Mem) ⊕ ((Mem))) := f_X12_rubs_39 T x0 x1 s.1 s.2
def f_X12_rubs_144 (T : List Dsc) (x0 : Nat) (x2 : Int32) (x3 : Int32) (μ : Mem) : Option ((Int32 × Int32 × Mem) ⊕ ((Int32 × Mem))) :=
  (nmI (x3 + (1 : Int32))).bind fun v1 => some (Sum.inl (x2, v1, μ))
def f_X12_rubs_142 (T : List Dsc) (x0 : Nat) (x3 : Int32) (μ : Mem) : Option ((Int32 × Int32 × Mem) ⊕ ((Int32 × Mem))) :=
  f_X12_rubs_144 T x0 x3 x3 μ
def f_X12_rubs_106 (T : List Dsc) (x0 : Nat) (x2 : Int32) (x3 : Int32) (μ : Mem) : Option ((Int32 × Int32 × Mem) ⊕ ((Int32 × Mem))) :=
  (F_X12_menNow T x0 μ).bind fun c1 => if c1.1 ≤ x3 then some (Sum.inr (x2, c1.2)) else (gA T c1.2 x0 72 0).bind fun a4 => (rI c1.2 a4.1 a4.2 x3).bind fun v6 => if v6 ≤ 0 then f_X12_rubs_144 T x0 x2 x3 c1.2 else if x2 < 0 then f_X12_rubs_142 T x0 x3 c1.2 else (gA T c1.2 x0 72 0).bind fun a10 => (rI c1.2 a10.1 a10.2 x3).bind fun v12 => (gA T c1.2 x0 72 0).bind fun a14 => (rI c1.2 a14.1 a14.2 x2).bind fun v16 => if v12 ≤ v16 then f_X12_rubs_144 T x0 x2 x3 c1.2 else f_X12_rubs_142 T x0 x3 c1.2
def g_X12_rubs_106 (T : List Dsc) (x0 : Nat) (s : Int32 × Int32 × Mem) : Option ((Int32 × Int32 × Mem) ⊕ ((Int32 × Mem))) := f_X12_rubs_106 T x0 s.1 s.2.1 s.2.2
def F_X12_rubs (T : List Dsc) (x0 : Nat) (x1 : Int32) (μ : Mem) : Option (Int32 × Mem) :=
  (F_X12_in T x1 (1 : Int32) (100 : Int32) μ).bind fun c1 => if c1.1 = 0 then some ((-1 : Int32), c1.2) else (F_X12_takes T x0 c1.2).bind fun c4 => (loop (g_X12_rubs_18 T x0 x1) ((0 : Int32), c4)).bind fun e6 => (loop (g_X12_rubs_39 T x0 x1) ((0 : Int32), e6)).bind fun e8 => (loop (g_X12_rubs_106 T x0) ((-2 : Int32), (1 : Int32), e8)).bind fun e10 => some (e10.1, e10.2)
def f_X12_isStill_2 (T : List Dsc) (x0 : Nat) (x1 : Int32) (μ : Mem) : Option ((Int32 × Mem) ⊕ ((Mem))) :=
  if (gI μ x0 65) ≤ x1 then some (Sum.inr μ) else (gA T μ x0 73 0).bind fun a2 => (gA T μ x0 63 0).bind fun a4 => (rI μ a4.1 a4.2 x1).bind fun v6 => (wI μ a2.1 a2.2 x1 v6).bind fun μ8 => (nmI (x1 + (1 : Int32))).bind fun v10 => some (Sum.inl (v10, μ8))
def g_X12_isStill_2 (T : List Dsc) (x0 : Nat) (s : Int32 × Mem) : Option ((Int32 × Mem) ⊕ ((Mem))) := f_X12_isStill_2 T x0 s.1 s.2
def f_X12_isStill_69 (T : List Dsc) (x0 : Nat) (x2 : Int32) (s0 : Int32) (μ : Mem) : Option ((Int32 × Int32 × Mem) ⊕ ((Int32 × Mem))) :=
  (gA T μ x0 63 0).bind fun a1 => (gA T μ x0 73 0).bind fun a3 => (rI μ a3.1 a3.2 x2).bind fun v5 => (wI μ a1.1 a1.2 x2 v5).bind fun μ7 => (nmI (x2 + (1 : Int32))).bind fun v9 => some (Sum.inl (s0, v9, μ7))
def f_X12_isStill_68 (T : List Dsc) (x0 : Nat) (x2 : Int32) (μ : Mem) : Option ((Int32 × Int32 × Mem) ⊕ ((Int32 × Mem))) :=
  f_X12_isStill_69 T x0 x2 (0 : Int32) μ
def f_X12_isStill_37 (T : List Dsc) (x0 : Nat) (x1 : Int32) (x2 : Int32) (μ : Mem) : Option ((Int32 × Int32 × Mem) ⊕ ((Int32 × Mem))) :=
  if (gI μ x0 65) ≤ x2 then some (Sum.inr (x1, μ)) else if x1 = 0 then f_X12_isStill_68 T x0 x2 μ else (gA T μ x0 63 0).bind fun a3 => (rI μ a3.1 a3.2 x2).bind fun v5 => (gA T μ x0 73 0).bind fun a7 => (rI μ a7.1 a7.2 x2).bind fun v9 => if v5 = v9 then f_X12_isStill_69 T x0 x2 (1 : Int32) μ else f_X12_isStill_68 T x0 x2 μ
def g_X12_isStill_37 (T : List Dsc) (x0 : Nat) (s : Int32 × Int32 × Mem) : Option ((Int32 × Int32 × Mem) ⊕ ((Int32 × Mem))) := f_X12_isStill_37 T x0 s.1 s.2.1 s.2.2
def F_X12_isStill (T : List Dsc) (x0 : Nat) (μ : Mem) : Option (Int32 × Mem) :=
  (loop (g_X12_isStill_2 T x0) ((0 : Int32), μ)).bind fun e1 => (F_X12_strikes T x0 (0 : Int32) e1).bind fun c3 => (loop (g_X12_isStill_37 T x0) ((1 : Int32), (0 : Int32), c3)).bind fun e5 => (zb e5.1).bind fun v7 => some (v7, e5.2)
def f_X12_still_16 (T : List Dsc) (s0 : Int32) (μ : Mem) : Option (Int32 × Mem) :=
  some (s0, μ)
def F_X12_still (T : List Dsc) (x0 : Nat) (μ : Mem) : Option (Int32 × Mem) :=
  (F_X12_takes T x0 μ).bind fun c1 => (F_X12_isStill T x0 c1).bind fun c3 => if c3.1 = 0 then f_X12_still_16 T (0 : Int32) c3.2 else f_X12_still_16 T (1 : Int32) c3.2
def f_X12_isAt_2 (T : List Dsc) (x0 : Nat) (x1 : Int32) (x2 : Int32) (μ : Mem) : Option ((Int32 × Mem) ⊕ ((Mem) ⊕ (Mem))) :=
  if (gI μ x0 65) ≤ x2 then some (Sum.inr (Sum.inr μ)) else (gA T μ x0 74 0).bind fun a2 => (rI μ a2.1 a2.2 (((12 : Int32) * x1) + x2)).bind fun v4 => (gA T μ x0 63 0).bind fun a6 => (rI μ a6.1 a6.2 x2).bind fun v8 => if v4 = v8 then (nmI (x2 + (1 : Int32))).bind fun v11 => some (Sum.inl (v11, μ)) else some (Sum.inr (Sum.inl μ))
def g_X12_isAt_2 (T : List Dsc) (x0 : Nat) (x1 : Int32) (s : Int32 × Mem) : Option ((Int32 × Mem) ⊕ ((Mem) ⊕ (Mem))) := f_X12_isAt_2 T x0 x1 s.1 s.2
def F_X12_isAt (T : List Dsc) (x0 : Nat) (x1 : Int32) (μ : Mem) : Option (Int32 × Mem) :=
  (loop (g_X12_isAt_2 T x0 x1) ((0 : Int32), μ)).bind fun e1 => (Sum.elim (fun e1_0 => some ((0 : Int32), e1_0)) (fun e1_1 => some ((1 : Int32), e1_1))) e1
def f_X12_round_26 (T : List Dsc) (x0 : Nat) (x1 : Int32) (x2 : Int32) (x3 : Int32) (μ : Mem) : Option ((Int32 × Mem) ⊕ ((Int32 × Mem) ⊕ (Mem))) :=
  if x2 ≤ x3 then some (Sum.inr (Sum.inr μ)) else (F_X12_isAt T x0 x3 μ).bind fun c2 => if c2.1 = 0 then (nmI (x3 + (1 : Int32))).bind fun v5 => some (Sum.inl (v5, c2.2)) else some (Sum.inr (Sum.inl (x3, c2.2)))
def g_X12_round_26 (T : List Dsc) (x0 : Nat) (x1 : Int32) (x2 : Int32) (s : Int32 × Mem) : Option ((Int32 × Mem) ⊕ ((Int32 × Mem) ⊕ (Mem))) := f_X12_round_26 T x0 x1 x2 s.1 s.2
def f_X12_round_59 (T : List Dsc) (x0 : Nat) (x1 : Int32) (x2 : Int32) (x3 : Int32) (μ : Mem) : Option ((Int32 × Mem) ⊕ ((Mem))) :=
  if (gI μ x0 65) ≤ x3 then some (Sum.inr μ) else (gA T μ x0 74 0).bind fun a2 => (gA T μ x0 63 0).bind fun a4 => (rI μ a4.1 a4.2 x3).bind fun v6 => (wI μ a2.1 a2.2 (((12 : Int32) * x2) + x3) v6).bind fun μ8 => (nmI (x3 + (1 : Int32))).bind fun v10 => some (Sum.inl (v10, μ8))
def g_X12_round_59 (T : List Dsc) (x0 : Nat) (x1 : Int32) (x2 : Int32) (s : Int32 × Mem) : Option ((Int32 × Mem) ⊕ ((Mem))) := f_X12_round_59 T x0 x1 x2 s.1 s.2
def f_X12_round_17 (T : List Dsc) (x0 : Nat) (x1 : Int32) (x2 : Int32) (μ : Mem) : Option ((Int32 × Mem) ⊕ ((Int32 × Int32 × Mem) ⊕ (Mem))) :=
  if (400 : Int32) < x2 then some (Sum.inr (Sum.inr μ)) else (loop (g_X12_round_26 T x0 x1 x2) ((0 : Int32), μ)).bind fun e2 => (Sum.elim (fun e2_0 => some (Sum.inr (Sum.inl (x2, e2_0.1, e2_0.2)))) (fun e2_1 => (loop (g_X12_round_59 T x0 x1 x2) ((0 : Int32), e2_1)).bind fun e4 => (F_X12_strikes T x0 (0 : Int32) e4).bind fun c6 => (nmI (x2 + (1 : Int32))).bind fun v8 => some (Sum.inl (v8, c6)))) e2
def g_X12_round_17 (T : List Dsc) (x0 : Nat) (x1 : Int32) (s : Int32 × Mem) : Option ((Int32 × Mem) ⊕ ((Int32 × Int32 × Mem) ⊕ (Mem))) := f_X12_round_17 T x0 x1 s.1 s.2
def f_X12_round_50 (T : List Dsc) (s0 : Int32) (μ : Mem) : Option (Int32 × Mem) :=
  some (s0, μ)
def F_X12_round (T : List Dsc) (x0 : Nat) (x1 : Int32) (μ : Mem) : Option (Int32 × Mem) :=
  (F_X12_in T x1 (0 : Int32) (1 : Int32) μ).bind fun c1 => if c1.1 = 0 then some ((-1 : Int32), c1.2) else (F_X12_takes T x0 c1.2).bind fun c4 => (loop (g_X12_round_17 T x0 x1) ((0 : Int32), c4)).bind fun e6 => (Sum.elim (fun e6_0 => if x1 = 0 then f_X12_round_50 T (e6_0.1 - e6_0.2.1) e6_0.2.2 else f_X12_round_50 T e6_0.2.1 e6_0.2.2) (fun e6_1 => some ((-2 : Int32), e6_1))) e6
def f_X12_change_21 (T : List Dsc) (μ : Mem) : Option (Int32 × Mem) :=
  some ((0 : Int32), μ)
def F_X12_change (T : List Dsc) (x0 : Nat) (x1 : Int32) (x2 : Int32) (μ : Mem) : Option (Int32 × Mem) :=
  (F_X12_isBench T x0 x1 μ).bind fun c1 => if c1.1 = 0 then f_X12_change_21 T c1.2 else (F_X12_isBench T x0 x2 c1.2).bind fun c4 => if c4.1 = 0 then f_X12_change_21 T c4.2 else if x1 = x2 then f_X12_change_21 T c4.2 else (gA T c4.2 x0 55 0).bind fun a8 => (rI c4.2 a8.1 a8.2 x1).bind fun v10 => (gA T c4.2 x0 56 0).bind fun a12 => (rI c4.2 a12.1 a12.2 x1).bind fun v14 => (gA T c4.2 x0 57 0).bind fun a16 => (rI c4.2 a16.1 a16.2 x1).bind fun v18 => (gA T c4.2 x0 55 0).bind fun a20 => (gA T c4.2 x0 55 0).bind fun a22 => (rI c4.2 a22.1 a22.2 x2).bind fun v24 => (wI c4.2 a20.1 a20.2 x1 v24).bind fun μ26 => (gA T μ26 x0 56 0).bind fun a28 => (gA T μ26 x0 56 0).bind fun a30 => (rI μ26 a30.1 a30.2 x2).bind fun v32 => (wI μ26 a28.1 a28.2 x1 v32).bind fun μ34 => (gA T μ34 x0 57 0).bind fun a36 => (gA T μ34 x0 57 0).bind fun a38 => (rI μ34 a38.1 a38.2 x2).bind fun v40 => (wI μ34 a36.1 a36.2 x1 v40).bind fun μ42 => (gA T μ42 x0 55 0).bind fun a44 => (wI μ42 a44.1 a44.2 x2 v10).bind fun μ46 => (gA T μ46 x0 56 0).bind fun a48 => (wI μ46 a48.1 a48.2 x2 v14).bind fun μ50 => (gA T μ50 x0 57 0).bind fun a52 => (wI μ50 a52.1 a52.2 x2 v18).bind fun μ54 => some ((1 : Int32), μ54)
def f_X12_teach_27 (T : List Dsc) (μ : Mem) : Option (Int32 × Mem) :=
  some ((0 : Int32), μ)
def F_X12_teach (T : List Dsc) (x0 : Nat) (x1 : Int32) (x2 : Int32) (μ : Mem) : Option (Int32 × Mem) :=
  (F_X12_isBench T x0 x1 μ).bind fun c1 => if c1.1 = 0 then f_X12_teach_27 T c1.2 else (gA T c1.2 x0 24 0).bind fun a4 => (rI c1.2 a4.1 a4.2 (gI c1.2 x0 18)).bind fun v6 => (F_X12_in T x2 (0 : Int32) (v6 - (1 : Int32)) c1.2).bind fun c8 => if c8.1 = 0 then f_X12_teach_27 T c8.2 else (gA T c8.2 x0 57 0).bind fun a11 => (wI c8.2 a11.1 a11.2 x1 x2).bind fun μ13 => some ((1 : Int32), μ13)
def f_X12_set_22 (T : List Dsc) (μ : Mem) : Option (Int32 × Mem) :=
  some ((0 : Int32), μ)
def F_X12_set (T : List Dsc) (x0 : Nat) (x1 : Int32) (x2 : Int32) (μ : Mem) : Option (Int32 × Mem) :=
  (F_X12_isBench T x0 x1 μ).bind fun c1 => if c1.1 = 0 then f_X12_set_22 T c1.2 else (F_X12_all T x0 c1.2).bind fun c4 => (F_X12_in T x2 (0 : Int32) (c4.1 - (1 : Int32)) c4.2).bind fun c6 => if c6.1 = 0 then f_X12_set_22 T c6.2 else (gA T c6.2 x0 55 0).bind fun a9 => (wI c6.2 a9.1 a9.2 x1 x2).bind fun μ11 => some ((1 : Int32), μ11)
def f_X12_beat_29 (T : List Dsc) (x0 : Nat) (x1 : Int32) (μ : Mem) : Option (Int32 × Mem) :=
  (pI μ x0 58 x1).bind fun μ1 => some ((1 : Int32), μ1)
def F_X12_beat (T : List Dsc) (x0 : Nat) (x1 : Int32) (μ : Mem) : Option (Int32 × Mem) :=
  (F_X12_all T x0 μ).bind fun c1 => (F_X12_in T x1 (0 : Int32) (c1.1 - (1 : Int32)) c1.2).bind fun c3 => if c3.1 = 0 then some ((0 : Int32), c3.2) else if (gI c3.2 x0 58) = (-1 : Int32) then (pI c3.2 x0 59 (0 : Int32)).bind fun μ7 => f_X12_beat_29 T x0 x1 μ7 else f_X12_beat_29 T x0 x1 c3.2
def f_X12_sits_6 (T : List Dsc) (x0 : Nat) (x1 : Int32) (μ : Mem) : Option ((Int32 × Mem) ⊕ ((Mem))) :=
  if (gI μ x0 65) ≤ x1 then some (Sum.inr μ) else (gA T μ x0 63 0).bind fun a2 => (gA T μ x0 55 0).bind fun a4 => (gA T μ x0 75 0).bind fun a6 => (rI μ a6.1 a6.2 x1).bind fun v8 => (rI μ a4.1 a4.2 v8).bind fun v10 => (wI μ a2.1 a2.2 x1 v10).bind fun μ12 => (gA T μ12 x0 64 0).bind fun a14 => (gA T μ12 x0 57 0).bind fun a16 => (gA T μ12 x0 75 0).bind fun a18 => (rI μ12 a18.1 a18.2 x1).bind fun v20 => (rI μ12 a16.1 a16.2 v20).bind fun v22 => (wI μ12 a14.1 a14.2 x1 v22).bind fun μ24 => (nmI (x1 + (1 : Int32))).bind fun v26 => some (Sum.inl (v26, μ24))
def g_X12_sits_6 (T : List Dsc) (x0 : Nat) (s : Int32 × Mem) : Option ((Int32 × Mem) ⊕ ((Mem))) := f_X12_sits_6 T x0 s.1 s.2
def F_X12_sits (T : List Dsc) (x0 : Nat) (μ : Mem) : Option Mem :=
  (F_X12_takes T x0 μ).bind fun c1 => (loop (g_X12_sits_6 T x0) ((0 : Int32), c1)).bind fun e3 => some e3
def f_X12_bits_5 (T : List Dsc) (x1 : Int32) (x2 : Int32) (x3 : Int32) (x4 : Int32) (μ : Mem) : Option ((Int32 × Int32 × Mem) ⊕ ((Int32 × Mem))) :=
  if x2 ≤ x4 then some (Sum.inr (x3, μ)) else (nmI (x3 + ((x1 >>> (x4 &&& 31)) &&& (1 : Int32)))).bind fun v2 => (nmI (x4 + (1 : Int32))).bind fun v4 => some (Sum.inl (v2, v4, μ))
def g_X12_bits_5 (T : List Dsc) (x1 : Int32) (x2 : Int32) (s : Int32 × Int32 × Mem) : Option ((Int32 × Int32 × Mem) ⊕ ((Int32 × Mem))) := f_X12_bits_5 T x1 x2 s.1 s.2.1 s.2.2
def F_X12_bits (T : List Dsc) (x0 : Nat) (x1 : Int32) (x2 : Int32) (μ : Mem) : Option (Int32 × Mem) :=
  (loop (g_X12_bits_5 T x1 x2) ((0 : Int32), (0 : Int32), μ)).bind fun e1 => some (e1.1, e1.2)
def f_X12_comesTo_10 (T : List Dsc) (x0 : Nat) (x2 : Int32) (x3 : Int32) (μ : Mem) : Option ((Int32 × Mem) ⊕ ((Int32 × Mem) ⊕ (Mem))) :=
  if x2 < x3 then some (Sum.inr (Sum.inr μ)) else (F_X12_isStill T x0 μ).bind fun c2 => if c2.1 = 0 then (F_X12_strikes T x0 (0 : Int32) c2.2).bind fun c5 => (nmI (x3 + (1 : Int32))).bind fun v7 => some (Sum.inl (v7, c5)) else some (Sum.inr (Sum.inl (x3, c2.2)))
def g_X12_comesTo_10 (T : List Dsc) (x0 : Nat) (x2 : Int32) (s : Int32 × Mem) : Option ((Int32 × Mem) ⊕ ((Int32 × Mem) ⊕ (Mem))) := f_X12_comesTo_10 T x0 x2 s.1 s.2
def f_X12_comesTo_78 (T : List Dsc) (x0 : Nat) (x1 : Int32) (x2 : Int32) (x4 : Int32) (s0 : Int32) (s1 : Int32) (μ : Mem) : Option ((Int32 × Int32 × Mem) ⊕ ((Int32 × Mem))) :=
  (nmI (s0 + s1)).bind fun v1 => (nmI (x4 + (1 : Int32))).bind fun v3 => some (Sum.inl (v1, v3, μ))
def f_X12_comesTo_44 (T : List Dsc) (x0 : Nat) (x1 : Int32) (x2 : Int32) (x3 : Int32) (x4 : Int32) (μ : Mem) : Option ((Int32 × Int32 × Mem) ⊕ ((Int32 × Mem))) :=
  if x2 ≤ x4 then some (Sum.inr (x3, μ)) else (F_X12_strikes T x0 (0 : Int32) μ).bind fun c2 => if x1 = (1 : Int32) then (F_X12_clashesNow T x0 c2).bind fun c7 => (F_X12_bits T x0 c7.1 (12 : Int32) c7.2).bind fun c9 => f_X12_comesTo_78 T x0 x1 x2 x4 x3 c9.1 c9.2 else (F_X12_wayNow T x0 c2).bind fun c5 => f_X12_comesTo_78 T x0 x1 x2 x4 x3 c5.1 c5.2
def g_X12_comesTo_44 (T : List Dsc) (x0 : Nat) (x1 : Int32) (x2 : Int32) (s : Int32 × Int32 × Mem) : Option ((Int32 × Int32 × Mem) ⊕ ((Int32 × Mem))) := f_X12_comesTo_44 T x0 x1 x2 s.1 s.2.1 s.2.2
def F_X12_comesTo (T : List Dsc) (x0 : Nat) (x1 : Int32) (x2 : Int32) (μ : Mem) : Option (Int32 × Mem) :=
  (F_X12_sits T x0 μ).bind fun c1 => if x1 = 0 then (loop (g_X12_comesTo_10 T x0 x2) ((0 : Int32), c1)).bind fun e6 => (Sum.elim (fun e6_0 => some (e6_0.1, e6_0.2)) (fun e6_1 => some (x2 + (1 : Int32), e6_1))) e6 else (loop (g_X12_comesTo_44 T x0 x1 x2) ((0 : Int32), (0 : Int32), c1)).bind fun e4 => some (e4.1, e4.2)
def f_X12_isBetter_28 (T : List Dsc) (s0 : Int32) (μ : Mem) : Option (Int32 × Mem) :=
  (zb s0).bind fun v1 => some (v1, μ)
def F_X12_isBetter (T : List Dsc) (x0 : Int32) (x1 : Int32) (x2 : Int32) (μ : Mem) : Option (Int32 × Mem) :=
  if x0 = (2 : Int32) then if x1 ≤ x2 then f_X12_isBetter_28 T (0 : Int32) μ else f_X12_isBetter_28 T (1 : Int32) μ else if x2 ≤ x1 then f_X12_isBetter_28 T (0 : Int32) μ else f_X12_isBetter_28 T (1 : Int32) μ
def f_X12_nextOrder_7 (T : List Dsc) (x0 : Nat) (x1 : Int32) (μ : Mem) : Option ((Int32 × Mem) ⊕ ((Int32 × Mem))) :=
  if x1 < 0 then some (Sum.inr (x1, μ)) else (gA T μ x0 75 0).bind fun a2 => (rI μ a2.1 a2.2 x1).bind fun v4 => (gA T μ x0 75 0).bind fun a6 => (rI μ a6.1 a6.2 (x1 + (1 : Int32))).bind fun v8 => if v4 ≤ v8 then some (Sum.inr (x1, μ)) else (nmI (x1 + (-1 : Int32))).bind fun v11 => some (Sum.inl (v11, μ))
def g_X12_nextOrder_7 (T : List Dsc) (x0 : Nat) (s : Int32 × Mem) : Option ((Int32 × Mem) ⊕ ((Int32 × Mem))) := f_X12_nextOrder_7 T x0 s.1 s.2
def f_X12_nextOrder_47 (T : List Dsc) (x0 : Nat) (x1 : Int32) (x2 : Int32) (μ : Mem) : Option ((Int32 × Mem) ⊕ ((Int32 × Mem))) :=
  (gA T μ x0 75 0).bind fun a1 => (rI μ a1.1 a1.2 x2).bind fun v3 => (gA T μ x0 75 0).bind fun a5 => (rI μ a5.1 a5.2 x1).bind fun v7 => if v7 ≤ v3 then some (Sum.inr (x2, μ)) else (nmI (x2 + (-1 : Int32))).bind fun v10 => some (Sum.inl (v10, μ))
def g_X12_nextOrder_47 (T : List Dsc) (x0 : Nat) (x1 : Int32) (s : Int32 × Mem) : Option ((Int32 × Mem) ⊕ ((Int32 × Mem))) := f_X12_nextOrder_47 T x0 x1 s.1 s.2
def f_X12_nextOrder_107 (T : List Dsc) (x0 : Nat) (x4 : Int32) (x5 : Int32) (μ : Mem) : Option ((Int32 × Int32 × Mem) ⊕ ((Mem))) :=
  if x5 ≤ x4 then some (Sum.inr μ) else (gA T μ x0 75 0).bind fun a2 => (rI μ a2.1 a2.2 x4).bind fun v4 => (gA T μ x0 75 0).bind fun a6 => (gA T μ x0 75 0).bind fun a8 => (rI μ a8.1 a8.2 x5).bind fun v10 => (wI μ a6.1 a6.2 x4 v10).bind fun μ12 => (gA T μ12 x0 75 0).bind fun a14 => (wI μ12 a14.1 a14.2 x5 v4).bind fun μ16 => (nmI (x4 + (1 : Int32))).bind fun v18 => (nmI (x5 + (-1 : Int32))).bind fun v20 => some (Sum.inl (v18, v20, μ16))
def g_X12_nextOrder_107 (T : List Dsc) (x0 : Nat) (s : Int32 × Int32 × Mem) : Option ((Int32 × Int32 × Mem) ⊕ ((Mem))) := f_X12_nextOrder_107 T x0 s.1 s.2.1 s.2.2
def f_X12_nextOrder_34 (T : List Dsc) (x0 : Nat) (x1 : Int32) (μ : Mem) : Option (Int32 × Mem) :=
  if 0 ≤ x1 then (nmI ((gI μ x0 65) - (1 : Int32))).bind fun v2 => (loop (g_X12_nextOrder_47 T x0 x1) (v2, μ)).bind fun e4 => (gA T e4.2 x0 75 0).bind fun a6 => (rI e4.2 a6.1 a6.2 x1).bind fun v8 => (gA T e4.2 x0 75 0).bind fun a10 => (gA T e4.2 x0 75 0).bind fun a12 => (rI e4.2 a12.1 a12.2 e4.1).bind fun v14 => (wI e4.2 a10.1 a10.2 x1 v14).bind fun μ16 => (gA T μ16 x0 75 0).bind fun a18 => (wI μ16 a18.1 a18.2 e4.1 v8).bind fun μ20 => (nmI (x1 + (1 : Int32))).bind fun v22 => (nmI ((gI μ20 x0 65) - (1 : Int32))).bind fun v24 => (loop (g_X12_nextOrder_107 T x0) (v22, v24, μ20)).bind fun e26 => some ((1 : Int32), e26) else some ((0 : Int32), μ)
def F_X12_nextOrder (T : List Dsc) (x0 : Nat) (μ : Mem) : Option (Int32 × Mem) :=
  (nmI ((gI μ x0 65) - (2 : Int32))).bind fun v1 => (loop (g_X12_nextOrder_7 T x0) (v1, μ)).bind fun e3 => f_X12_nextOrder_34 T x0 e3.1 e3.2
def f_X12_seats_2 (T : List Dsc) (x0 : Nat) (x1 : Int32) (x2 : Int32) (x3 : Int32) (μ : Mem) : Option ((Int32 × Mem) ⊕ ((Mem))) :=
  (F_X12_menNow T x0 μ).bind fun c1 => if c1.1 ≤ x3 then some (Sum.inr c1.2) else (gA T c1.2 x0 75 0).bind fun a4 => (wI c1.2 a4.1 a4.2 x3 x3).bind fun μ6 => (nmI (x3 + (1 : Int32))).bind fun v8 => some (Sum.inl (v8, μ6))
def g_X12_seats_2 (T : List Dsc) (x0 : Nat) (x1 : Int32) (x2 : Int32) (s : Int32 × Mem) : Option ((Int32 × Mem) ⊕ ((Mem))) := f_X12_seats_2 T x0 x1 x2 s.1 s.2
def f_X12_seats_65 (T : List Dsc) (x0 : Nat) (x1 : Int32) (x2 : Int32) (x3 : Int32) (x7 : Int32) (μ : Mem) : Option ((Int32 × Mem) ⊕ ((Mem))) :=
  (F_X12_menNow T x0 μ).bind fun c1 => if c1.1 ≤ x7 then some (Sum.inr c1.2) else (gA T c1.2 x0 76 0).bind fun a4 => (gA T c1.2 x0 75 0).bind fun a6 => (rI c1.2 a6.1 a6.2 x7).bind fun v8 => (wI c1.2 a4.1 a4.2 x7 v8).bind fun μ10 => (nmI (x7 + (1 : Int32))).bind fun v12 => some (Sum.inl (v12, μ10))
def g_X12_seats_65 (T : List Dsc) (x0 : Nat) (x1 : Int32) (x2 : Int32) (x3 : Int32) (s : Int32 × Mem) : Option ((Int32 × Mem) ⊕ ((Mem))) := f_X12_seats_65 T x0 x1 x2 x3 s.1 s.2
def f_X12_seats_94 (T : List Dsc) (x0 : Nat) (x1 : Int32) (x2 : Int32) (x3 : Int32) (μ : Mem) : Option ((Int32 × Int32 × Int32 × Mem) ⊕ ((Int32 × Mem))) :=
  (F_X12_nextOrder T x0 μ).bind fun c1 => some (Sum.inl (x3, (0 : Int32), c1.1, c1.2))
def f_X12_seats_59 (T : List Dsc) (x0 : Nat) (x1 : Int32) (x2 : Int32) (x6 : Int32) (μ : Mem) : Option ((Int32 × Int32 × Int32 × Mem) ⊕ ((Int32 × Mem))) :=
  (loop (g_X12_seats_65 T x0 x1 x2 x6) ((0 : Int32), μ)).bind fun e1 => f_X12_seats_94 T x0 x1 x2 x6 e1
def f_X12_seats_31 (T : List Dsc) (x0 : Nat) (x1 : Int32) (x2 : Int32) (x3 : Int32) (x4 : Int32) (x5 : Int32) (μ : Mem) : Option ((Int32 × Int32 × Int32 × Mem) ⊕ ((Int32 × Mem))) :=
  if x5 = 0 then some (Sum.inr (x3, μ)) else (F_X12_comesTo T x0 x1 x2 μ).bind fun c2 => if x4 = 0 then (F_X12_isBetter T x1 c2.1 x3 c2.2).bind fun c5 => if c5.1 = 0 then f_X12_seats_94 T x0 x1 x2 x3 c5.2 else f_X12_seats_59 T x0 x1 x2 c2.1 c5.2 else f_X12_seats_59 T x0 x1 x2 c2.1 c2.2
def g_X12_seats_31 (T : List Dsc) (x0 : Nat) (x1 : Int32) (x2 : Int32) (s : Int32 × Int32 × Int32 × Mem) : Option ((Int32 × Int32 × Int32 × Mem) ⊕ ((Int32 × Mem))) := f_X12_seats_31 T x0 x1 x2 s.1 s.2.1 s.2.2.1 s.2.2.2
def F_X12_seats (T : List Dsc) (x0 : Nat) (x1 : Int32) (x2 : Int32) (μ : Mem) : Option (Int32 × Mem) :=
  (loop (g_X12_seats_2 T x0 x1 x2) ((0 : Int32), μ)).bind fun e1 => (loop (g_X12_seats_31 T x0 x1 x2) ((0 : Int32), (1 : Int32), (1 : Int32), e1)).bind fun e3 => some (e3.1, e3.2)
def f_X12_canSeat_31 (T : List Dsc) (s0 : Int32) (μ : Mem) : Option (Int32 × Mem) :=
  (zb s0).bind fun v1 => some (v1, μ)
def f_X12_canSeat_30 (T : List Dsc) (μ : Mem) : Option (Int32 × Mem) :=
  f_X12_canSeat_31 T (0 : Int32) μ
def F_X12_canSeat (T : List Dsc) (x0 : Nat) (x1 : Int32) (x2 : Int32) (μ : Mem) : Option (Int32 × Mem) :=
  (F_X12_in T x1 (0 : Int32) (2 : Int32) μ).bind fun c1 => if c1.1 = 0 then f_X12_canSeat_30 T c1.2 else (F_X12_in T x2 (1 : Int32) (30 : Int32) c1.2).bind fun c4 => if c4.1 = 0 then f_X12_canSeat_30 T c4.2 else (F_X12_menNow T x0 c4.2).bind fun c7 => if c7.1 ≤ 0 then f_X12_canSeat_30 T c7.2 else f_X12_canSeat_31 T (1 : Int32) c7.2
def f_X12_seating_33 (T : List Dsc) (s0 : Int32) (μ : Mem) : Option (Int32 × Mem) :=
  some (s0, μ)
def F_X12_seating (T : List Dsc) (x0 : Nat) (x1 : Int32) (x2 : Int32) (μ : Mem) : Option (Int32 × Mem) :=
  (F_X12_canSeat T x0 x1 x2 μ).bind fun c1 => if c1.1 = 0 then f_X12_seating_33 T (-1 : Int32) c1.2 else (F_X12_menNow T x0 c1.2).bind fun c4 => if c4.1 ≤ (6 : Int32) then (F_X12_seats T x0 x1 x2 c4.2).bind fun c7 => f_X12_seating_33 T c7.1 c7.2 else f_X12_seating_33 T (-2 : Int32) c4.2
def f_X12_seat_17 (T : List Dsc) (μ : Mem) : Option (Int32 × Mem) :=
  some ((-1 : Int32), μ)
def f_X12_seat_50 (T : List Dsc) (s0 : Int32) (μ : Mem) : Option (Int32 × Mem) :=
  some (s0, μ)
def F_X12_seat (T : List Dsc) (x0 : Nat) (x1 : Int32) (x2 : Int32) (x3 : Int32) (μ : Mem) : Option (Int32 × Mem) :=
  (F_X12_canSeat T x0 x1 x2 μ).bind fun c1 => if c1.1 = 0 then f_X12_seat_17 T c1.2 else (F_X12_isBench T x0 x3 c1.2).bind fun c4 => if c4.1 = 0 then f_X12_seat_17 T c4.2 else (F_X12_menNow T x0 c4.2).bind fun c7 => if c7.1 ≤ (6 : Int32) then (F_X12_seats T x0 x1 x2 c7.2).bind fun c10 => if 0 ≤ c10.1 then (gA T c10.2 x0 76 0).bind fun a13 => (rI c10.2 a13.1 a13.2 x3).bind fun v15 => f_X12_seat_50 T v15 c10.2 else f_X12_seat_50 T (-1 : Int32) c10.2 else some ((-2 : Int32), c7.2)
def f_X12_better_13 (T : List Dsc) (x0 : Nat) (x1 : Int32) (x2 : Int32) (x3 : Int32) (μ : Mem) : Option ((Int32 × Mem) ⊕ ((Mem))) :=
  (F_X12_menNow T x0 μ).bind fun c1 => if c1.1 ≤ x3 then some (Sum.inr c1.2) else (gA T c1.2 x0 75 0).bind fun a4 => (wI c1.2 a4.1 a4.2 x3 x3).bind fun μ6 => (nmI (x3 + (1 : Int32))).bind fun v8 => some (Sum.inl (v8, μ6))
def g_X12_better_13 (T : List Dsc) (x0 : Nat) (x1 : Int32) (x2 : Int32) (s : Int32 × Mem) : Option ((Int32 × Mem) ⊕ ((Mem))) := f_X12_better_13 T x0 x1 x2 s.1 s.2
def f_X12_better_142 (T : List Dsc) (x0 : Nat) (x1 : Int32) (x2 : Int32) (x3 : Int32) (x4 : Int32) (x5 : Int32) (x6 : Int32) (μ : Mem) : Option ((Int32 × Int32 × Int32 × Mem) ⊕ ((Int32 × Int32 × Mem))) :=
  (nmI (x6 + (1 : Int32))).bind fun v1 => some (Sum.inl (x3, x4, v1, μ))
def f_X12_better_63 (T : List Dsc) (x0 : Nat) (x1 : Int32) (x2 : Int32) (x3 : Int32) (x4 : Int32) (x5 : Int32) (x6 : Int32) (μ : Mem) : Option ((Int32 × Int32 × Int32 × Mem) ⊕ ((Int32 × Int32 × Mem))) :=
  (F_X12_menNow T x0 μ).bind fun c1 => if c1.1 ≤ x6 then some (Sum.inr (x3, x4, c1.2)) else (gA T c1.2 x0 75 0).bind fun a4 => (wI c1.2 a4.1 a4.2 x5 x6).bind fun μ6 => (gA T μ6 x0 75 0).bind fun a8 => (wI μ6 a8.1 a8.2 x6 x5).bind fun μ10 => (F_X12_comesTo T x0 x1 x2 μ10).bind fun c12 => (gA T c12.2 x0 75 0).bind fun a14 => (wI c12.2 a14.1 a14.2 x5 x5).bind fun μ16 => (gA T μ16 x0 75 0).bind fun a18 => (wI μ16 a18.1 a18.2 x6 x6).bind fun μ20 => (F_X12_isBetter T x1 c12.1 x3 μ20).bind fun c22 => if c22.1 = 0 then f_X12_better_142 T x0 x1 x2 x3 x4 x5 x6 c22.2 else (nmI (((100 : Int32) * x5) + x6)).bind fun v25 => f_X12_better_142 T x0 x1 x2 c12.1 v25 x5 x6 c22.2
def g_X12_better_63 (T : List Dsc) (x0 : Nat) (x1 : Int32) (x2 : Int32) (x5 : Int32) (s : Int32 × Int32 × Int32 × Mem) : Option ((Int32 × Int32 × Int32 × Mem) ⊕ ((Int32 × Int32 × Mem))) := f_X12_better_63 T x0 x1 x2 s.1 s.2.1 x5 s.2.2.1 s.2.2.2
def f_X12_better_48 (T : List Dsc) (x0 : Nat) (x1 : Int32) (x2 : Int32) (x3 : Int32) (x4 : Int32) (x5 : Int32) (μ : Mem) : Option ((Int32 × Int32 × Int32 × Mem) ⊕ ((Int32 × Mem))) :=
  (F_X12_menNow T x0 μ).bind fun c1 => if c1.1 ≤ x5 then some (Sum.inr (x4, c1.2)) else (nmI (x5 + (1 : Int32))).bind fun v4 => (loop (g_X12_better_63 T x0 x1 x2 x5) (x3, x4, v4, c1.2)).bind fun e6 => (nmI (x5 + (1 : Int32))).bind fun v8 => some (Sum.inl (e6.1, e6.2.1, v8, e6.2.2))
def g_X12_better_48 (T : List Dsc) (x0 : Nat) (x1 : Int32) (x2 : Int32) (s : Int32 × Int32 × Int32 × Mem) : Option ((Int32 × Int32 × Int32 × Mem) ⊕ ((Int32 × Mem))) := f_X12_better_48 T x0 x1 x2 s.1 s.2.1 s.2.2.1 s.2.2.2
def F_X12_better (T : List Dsc) (x0 : Nat) (x1 : Int32) (x2 : Int32) (μ : Mem) : Option (Int32 × Mem) :=
  (F_X12_canSeat T x0 x1 x2 μ).bind fun c1 => if c1.1 = 0 then some ((-1 : Int32), c1.2) else (loop (g_X12_better_13 T x0 x1 x2) ((0 : Int32), c1.2)).bind fun e4 => (F_X12_comesTo T x0 x1 x2 e4).bind fun c6 => (loop (g_X12_better_48 T x0 x1 x2) (c6.1, (-2 : Int32), (0 : Int32), c6.2)).bind fun e8 => some (e8.1, e8.2)
def f_X12_numberOf_6 (T : List Dsc) (x0 : Nat) (x2 : Int32) (x3 : Int32) (μ : Mem) : Option ((Int32 × Int32 × Mem) ⊕ ((Int32 × Mem))) :=
  if x3 < 0 then some (Sum.inr (x2, μ)) else (F_X12_all T x0 μ).bind fun c2 => (gA T c2.2 x0 63 0).bind fun a4 => (rI c2.2 a4.1 a4.2 x3).bind fun v6 => (nmI ((x2 * c2.1) + v6)).bind fun v8 => (nmI (x3 + (-1 : Int32))).bind fun v10 => some (Sum.inl (v8, v10, c2.2))
def g_X12_numberOf_6 (T : List Dsc) (x0 : Nat) (s : Int32 × Int32 × Mem) : Option ((Int32 × Int32 × Mem) ⊕ ((Int32 × Mem))) := f_X12_numberOf_6 T x0 s.1 s.2.1 s.2.2
def F_X12_numberOf (T : List Dsc) (x0 : Nat) (x1 : Int32) (μ : Mem) : Option (Int32 × Mem) :=
  (nmI (x1 - (1 : Int32))).bind fun v1 => (loop (g_X12_numberOf_6 T x0) ((0 : Int32), v1, μ)).bind fun e3 => some (e3.1, e3.2)
def f_X12_follows_4 (T : List Dsc) (x0 : Nat) (x1 : Int32) (x2 : Int32) (x3 : Int32) (μ : Mem) : Option ((Int32 × Int32 × Mem) ⊕ ((Int32 × Int32 × Mem))) :=
  (gA T μ x0 78 0).bind fun a1 => (rI μ a1.1 a1.2 x2).bind fun v3 => if v3 = (-1 : Int32) then (gA T μ x0 78 0).bind fun a6 => (wI μ a6.1 a6.2 x2 (-3 : Int32)).bind fun μ8 => (gA T μ8 x0 77 0).bind fun a10 => (rI μ8 a10.1 a10.2 x2).bind fun v12 => (nmI (x3 + (1 : Int32))).bind fun v14 => some (Sum.inl (v12, v14, μ8)) else some (Sum.inr (x2, x3, μ))
def g_X12_follows_4 (T : List Dsc) (x0 : Nat) (x1 : Int32) (s : Int32 × Int32 × Mem) : Option ((Int32 × Int32 × Mem) ⊕ ((Int32 × Int32 × Mem))) := f_X12_follows_4 T x0 x1 s.1 s.2.1 s.2.2
def f_X12_follows_68 (T : List Dsc) (x0 : Nat) (x2 : Int32) (x3 : Int32) (x4 : Int32) (s0 : Nat) (ms0 : Nat) (s1 : Int32) (s2 : Int32) (μ : Mem) : Option ((Int32 × Int32 × Mem) ⊕ ((Mem))) :=
  (wI μ s0 ms0 s1 s2).bind fun μ1 => (gA T μ1 x0 77 0).bind fun a3 => (rI μ1 a3.1 a3.2 x2).bind fun v5 => (nmI (x3 + (-1 : Int32))).bind fun v7 => some (Sum.inl (v5, v7, μ1))
def f_X12_follows_45 (T : List Dsc) (x0 : Nat) (x2 : Int32) (x3 : Int32) (x4 : Int32) (μ : Mem) : Option ((Int32 × Int32 × Mem) ⊕ ((Mem))) :=
  if x3 ≤ 0 then some (Sum.inr μ) else (gA T μ x0 78 0).bind fun a2 => if 0 ≤ x4 then f_X12_follows_68 T x0 x2 x3 x4 a2.1 a2.2 x2 (x4 + x3) μ else f_X12_follows_68 T x0 x2 x3 x4 a2.1 a2.2 x2 (-2 : Int32) μ
def g_X12_follows_45 (T : List Dsc) (x0 : Nat) (x4 : Int32) (s : Int32 × Int32 × Mem) : Option ((Int32 × Int32 × Mem) ⊕ ((Mem))) := f_X12_follows_45 T x0 s.1 s.2.1 x4 s.2.2
def F_X12_follows (T : List Dsc) (x0 : Nat) (x1 : Int32) (μ : Mem) : Option Mem :=
  (loop (g_X12_follows_4 T x0 x1) (x1, (0 : Int32), μ)).bind fun e1 => (gA T e1.2.2 x0 78 0).bind fun a3 => (rI e1.2.2 a3.1 a3.2 e1.1).bind fun v5 => (loop (g_X12_follows_45 T x0 v5) (x1, e1.2.1, e1.2.2)).bind fun e7 => some e7
def f_X12_fillEvery_25 (T : List Dsc) (x0 : Nat) (x1 : Int32) (x2 : Int32) (x3 : Int32) (x4 : Int32) (x5 : Int32) (x6 : Int32) (μ : Mem) : Option ((Int32 × Int32 × Mem) ⊕ ((Mem))) :=
  if x2 ≤ x6 then some (Sum.inr μ) else (gA T μ x0 63 0).bind fun a2 => (F_X12_all T x0 μ).bind fun c4 => (rmI x5 c4.1).bind fun v6 => (wI c4.2 a2.1 a2.2 x6 v6).bind fun μ8 => (gA T μ8 x0 64 0).bind fun a10 => (wI μ8 a10.1 a10.2 x6 x1).bind fun μ12 => (F_X12_all T x0 μ12).bind fun c14 => (dvI x5 c14.1).bind fun v16 => (nmI (x6 + (1 : Int32))).bind fun v18 => some (Sum.inl (v16, v18, c14.2))
def g_X12_fillEvery_25 (T : List Dsc) (x0 : Nat) (x1 : Int32) (x2 : Int32) (x3 : Int32) (x4 : Int32) (s : Int32 × Int32 × Mem) : Option ((Int32 × Int32 × Mem) ⊕ ((Mem))) := f_X12_fillEvery_25 T x0 x1 x2 x3 x4 s.1 s.2.1 s.2.2
def f_X12_fillEvery_108 (T : List Dsc) (x0 : Nat) (x1 : Int32) (x2 : Int32) (x3 : Int32) (x4 : Int32) (s0 : Nat) (ms0 : Nat) (s1 : Int32) (s2 : Int32) (μ : Mem) : Option ((Int32 × Mem) ⊕ ((Mem))) :=
  (wI μ s0 ms0 s1 s2).bind fun μ1 => (nmI (x4 + (1 : Int32))).bind fun v3 => some (Sum.inl (v3, μ1))
def f_X12_fillEvery_12 (T : List Dsc) (x0 : Nat) (x1 : Int32) (x2 : Int32) (x3 : Int32) (x4 : Int32) (μ : Mem) : Option ((Int32 × Mem) ⊕ ((Mem))) :=
  if x3 ≤ x4 then some (Sum.inr μ) else (loop (g_X12_fillEvery_25 T x0 x1 x2 x3 x4) (x4, (0 : Int32), μ)).bind fun e2 => (F_X12_strikes T x0 (0 : Int32) e2).bind fun c4 => (gA T c4 x0 77 0).bind fun a6 => (F_X12_numberOf T x0 x2 c4).bind fun c8 => (wI c8.2 a6.1 a6.2 x4 c8.1).bind fun μ10 => (gA T μ10 x0 78 0).bind fun a12 => (gA T μ10 x0 77 0).bind fun a14 => (rI μ10 a14.1 a14.2 x4).bind fun v16 => if v16 = x4 then f_X12_fillEvery_108 T x0 x1 x2 x3 x4 a12.1 a12.2 x4 (0 : Int32) μ10 else f_X12_fillEvery_108 T x0 x1 x2 x3 x4 a12.1 a12.2 x4 (-1 : Int32) μ10
def g_X12_fillEvery_12 (T : List Dsc) (x0 : Nat) (x1 : Int32) (x2 : Int32) (x3 : Int32) (s : Int32 × Mem) : Option ((Int32 × Mem) ⊕ ((Mem))) := f_X12_fillEvery_12 T x0 x1 x2 x3 s.1 s.2
def f_X12_fillEvery_118 (T : List Dsc) (x0 : Nat) (x3 : Int32) (x4 : Int32) (μ : Mem) : Option ((Int32 × Mem) ⊕ ((Mem))) :=
  if x3 ≤ x4 then some (Sum.inr μ) else (F_X12_follows T x0 x4 μ).bind fun c2 => (nmI (x4 + (1 : Int32))).bind fun v4 => some (Sum.inl (v4, c2))
def g_X12_fillEvery_118 (T : List Dsc) (x0 : Nat) (x3 : Int32) (s : Int32 × Mem) : Option ((Int32 × Mem) ⊕ ((Mem))) := f_X12_fillEvery_118 T x0 x3 s.1 s.2
def F_X12_fillEvery (T : List Dsc) (x0 : Nat) (x1 : Int32) (x2 : Int32) (x3 : Int32) (μ : Mem) : Option Mem :=
  (F_X12_takes T x0 μ).bind fun c1 => (pI c1 x0 65 x2).bind fun μ3 => (loop (g_X12_fillEvery_12 T x0 x1 x2 x3) ((0 : Int32), μ3)).bind fun e5 => (loop (g_X12_fillEvery_118 T x0 x3) ((0 : Int32), e5)).bind fun e7 => some e7
def f_X12_every_37 (T : List Dsc) (μ : Mem) : Option (Int32 × Mem) :=
  some ((-1 : Int32), μ)
def f_X12_every_45 (T : List Dsc) (x0 : Nat) (x1 : Int32) (x2 : Int32) (x3 : Int32) (x4 : Int32) (x5 : Int32) (μ : Mem) : Option ((Int32 × Int32 × Mem) ⊕ ((Int32 × Mem))) :=
  if x2 ≤ x5 then some (Sum.inr (x4, μ)) else (F_X12_all T x0 μ).bind fun c2 => (nmI (x4 * c2.1)).bind fun v4 => (nmI (x5 + (1 : Int32))).bind fun v6 => some (Sum.inl (v4, v6, c2.2))
def g_X12_every_45 (T : List Dsc) (x0 : Nat) (x1 : Int32) (x2 : Int32) (x3 : Int32) (s : Int32 × Int32 × Mem) : Option ((Int32 × Int32 × Mem) ⊕ ((Int32 × Mem))) := f_X12_every_45 T x0 x1 x2 x3 s.1 s.2.1 s.2.2
def f_X12_every_146 (T : List Dsc) (x0 : Nat) (x3 : Int32) (x4 : Int32) (x5 : Int32) (x6 : Int32) (x7 : Int32) (μ : Mem) : Option ((Int32 × Int32 × Int32 × Mem) ⊕ ((Int32 × Int32 × Mem))) :=
  (nmI (x7 + (1 : Int32))).bind fun v1 => some (Sum.inl (x5, x6, v1, μ))
def f_X12_every_102 (T : List Dsc) (x0 : Nat) (x3 : Int32) (x4 : Int32) (x5 : Int32) (x6 : Int32) (x7 : Int32) (μ : Mem) : Option ((Int32 × Int32 × Int32 × Mem) ⊕ ((Int32 × Int32 × Mem))) :=
  if x4 ≤ x7 then some (Sum.inr (x5, x6, μ)) else (gA T μ x0 78 0).bind fun a2 => (rI μ a2.1 a2.2 x7).bind fun v4 => if 0 ≤ v4 then (nmI (x5 + (1 : Int32))).bind fun v7 => (gA T μ x0 78 0).bind fun a9 => (rI μ a9.1 a9.2 x7).bind fun v11 => if v11 ≤ x6 then f_X12_every_146 T x0 x3 x4 v7 x6 x7 μ else (gA T μ x0 78 0).bind fun a14 => (rI μ a14.1 a14.2 x7).bind fun v16 => f_X12_every_146 T x0 x3 x4 v7 v16 x7 μ else f_X12_every_146 T x0 x3 x4 x5 x6 x7 μ
def g_X12_every_102 (T : List Dsc) (x0 : Nat) (x3 : Int32) (x4 : Int32) (s : Int32 × Int32 × Int32 × Mem) : Option ((Int32 × Int32 × Int32 × Mem) ⊕ ((Int32 × Int32 × Mem))) := f_X12_every_102 T x0 x3 x4 s.1 s.2.1 s.2.2.1 s.2.2.2
def f_X12_every_163 (T : List Dsc) (s0 : Int32) (μ : Mem) : Option (Int32 × Mem) :=
  some (s0, μ)
def F_X12_every (T : List Dsc) (x0 : Nat) (x1 : Int32) (x2 : Int32) (x3 : Int32) (μ : Mem) : Option (Int32 × Mem) :=
  (gA T μ x0 24 0).bind fun a1 => (rI μ a1.1 a1.2 (gI μ x0 18)).bind fun v3 => (F_X12_in T x1 (0 : Int32) (v3 - (1 : Int32)) μ).bind fun c5 => if c5.1 = 0 then f_X12_every_37 T c5.2 else (F_X12_in T x2 (1 : Int32) (4 : Int32) c5.2).bind fun c8 => if c8.1 = 0 then f_X12_every_37 T c8.2 else (F_X12_in T x3 (0 : Int32) (2 : Int32) c8.2).bind fun c11 => if c11.1 = 0 then f_X12_every_37 T c11.2 else (loop (g_X12_every_45 T x0 x1 x2 x3) ((1 : Int32), (0 : Int32), c11.2)).bind fun e14 => if e14.1 ≤ (20736 : Int32) then if x3 = (2 : Int32) then some (e14.1, e14.2) else (F_X12_fillEvery T x0 x1 x2 e14.1 e14.2).bind fun c18 => (loop (g_X12_every_102 T x0 x3 e14.1) ((0 : Int32), (0 : Int32), (0 : Int32), c18)).bind fun e20 => if x3 = 0 then f_X12_every_163 T e20.1 e20.2.2 else f_X12_every_163 T e20.2.1 e20.2.2 else some ((-2 : Int32), e14.2)
def f_X12_ram_26 (T : List Dsc) (μ : Mem) : Option (Int32 × Mem) :=
  some ((-1 : Int32), μ)
def f_X12_ram_93 (T : List Dsc) (x0 : Nat) (x1 : Int32) (x2 : Int32) (x3 : Int32) (x4 : Int32) (x5 : Int32) (x6 : Int32) (x7 : Int32) (x8 : Int32) (μ : Mem) : Option ((Int32 × Mem) ⊕ ((Mem))) :=
  (F_X12_isFog T x0 (((gI μ x0 60) + x8) - (1 : Int32)) μ).bind fun c1 => (F_X12_strikes T x0 c1.1 c1.2).bind fun c3 => (nmI (x8 + (1 : Int32))).bind fun v5 => some (Sum.inl (v5, c3))
def f_X12_ram_74 (T : List Dsc) (x0 : Nat) (x1 : Int32) (x2 : Int32) (x3 : Int32) (x4 : Int32) (x5 : Int32) (x6 : Int32) (x7 : Int32) (x8 : Int32) (μ : Mem) : Option ((Int32 × Mem) ⊕ ((Mem))) :=
  if x1 < x8 then some (Sum.inr μ) else if x8 = x6 then (pI μ x0 66 x7).bind fun μ3 => f_X12_ram_93 T x0 x1 x2 x3 x4 x5 x6 x7 x8 μ3 else f_X12_ram_93 T x0 x1 x2 x3 x4 x5 x6 x7 x8 μ
def g_X12_ram_74 (T : List Dsc) (x0 : Nat) (x1 : Int32) (x2 : Int32) (x3 : Int32) (x4 : Int32) (x5 : Int32) (x6 : Int32) (x7 : Int32) (s : Int32 × Mem) : Option ((Int32 × Mem) ⊕ ((Mem))) := f_X12_ram_74 T x0 x1 x2 x3 x4 x5 x6 x7 s.1 s.2
def f_X12_ram_142 (T : List Dsc) (x0 : Nat) (x1 : Int32) (x2 : Int32) (x3 : Int32) (x4 : Int32) (x5 : Int32) (x6 : Int32) (x7 : Int32) (μ : Mem) : Option ((Int32 × Int32 × Int32 × Int32 × Mem) ⊕ ((Int32 × Int32 × Int32 × Mem))) :=
  (nmI (x7 + (1 : Int32))).bind fun v1 => some (Sum.inl (x3, x4, x5, v1, μ))
def f_X12_ram_58 (T : List Dsc) (x0 : Nat) (x1 : Int32) (x2 : Int32) (x3 : Int32) (x4 : Int32) (x5 : Int32) (x6 : Int32) (x7 : Int32) (μ : Mem) : Option ((Int32 × Int32 × Int32 × Int32 × Mem) ⊕ ((Int32 × Int32 × Int32 × Mem))) :=
  (F_X12_all T x0 μ).bind fun c1 => if c1.1 ≤ x7 then some (Sum.inr (x3, x4, x5, c1.2)) else (F_X12_takes T x0 c1.2).bind fun c4 => (loop (g_X12_ram_74 T x0 x1 x2 x3 x4 x5 x6 x7) ((1 : Int32), c4)).bind fun e6 => (F_X12_wayNow T x0 e6).bind fun c8 => if x3 < c8.1 then f_X12_ram_142 T x0 x1 x2 c8.1 x6 x7 x6 x7 c8.2 else f_X12_ram_142 T x0 x1 x2 x3 x4 x5 x6 x7 c8.2
def g_X12_ram_58 (T : List Dsc) (x0 : Nat) (x1 : Int32) (x2 : Int32) (x6 : Int32) (s : Int32 × Int32 × Int32 × Int32 × Mem) : Option ((Int32 × Int32 × Int32 × Int32 × Mem) ⊕ ((Int32 × Int32 × Int32 × Mem))) := f_X12_ram_58 T x0 x1 x2 s.1 s.2.1 s.2.2.1 x6 s.2.2.2.1 s.2.2.2.2
def f_X12_ram_50 (T : List Dsc) (x0 : Nat) (x1 : Int32) (x2 : Int32) (x3 : Int32) (x4 : Int32) (x5 : Int32) (x6 : Int32) (μ : Mem) : Option ((Int32 × Int32 × Int32 × Int32 × Mem) ⊕ ((Int32 × Int32 × Int32 × Mem))) :=
  if x6 ≤ 0 then some (Sum.inr (x3, x4, x5, μ)) else (loop (g_X12_ram_58 T x0 x1 x2 x6) (x3, x4, x5, (0 : Int32), μ)).bind fun e2 => (nmI (x6 + (-1 : Int32))).bind fun v4 => some (Sum.inl (e2.1, e2.2.1, e2.2.2.1, v4, e2.2.2.2))
def g_X12_ram_50 (T : List Dsc) (x0 : Nat) (x1 : Int32) (x2 : Int32) (s : Int32 × Int32 × Int32 × Int32 × Mem) : Option ((Int32 × Int32 × Int32 × Int32 × Mem) ⊕ ((Int32 × Int32 × Int32 × Mem))) := f_X12_ram_50 T x0 x1 x2 s.1 s.2.1 s.2.2.1 s.2.2.2.1 s.2.2.2.2
def f_X12_ram_174 (T : List Dsc) (s0 : Int32) (μ : Mem) : Option (Int32 × Mem) :=
  some (s0, μ)
def F_X12_ram (T : List Dsc) (x0 : Nat) (x1 : Int32) (x2 : Int32) (μ : Mem) : Option (Int32 × Mem) :=
  (F_X12_in T x1 (1 : Int32) (60 : Int32) μ).bind fun c1 => if c1.1 = 0 then f_X12_ram_26 T c1.2 else (F_X12_in T x2 (0 : Int32) (2 : Int32) c1.2).bind fun c4 => if c4.1 = 0 then f_X12_ram_26 T c4.2 else (F_X12_menNow T x0 c4.2).bind fun c7 => if c7.1 = 0 then f_X12_ram_26 T c7.2 else if (gI c7.2 x0 58) = (-1 : Int32) then some ((-2 : Int32), c7.2) else (loop (g_X12_ram_50 T x0 x1 x2) ((-1 : Int32), (0 : Int32), (0 : Int32), x1, c7.2)).bind fun e11 => if x2 = 0 then f_X12_ram_174 T e11.1 e11.2.2.2 else if x2 = (1 : Int32) then f_X12_ram_174 T e11.2.1 e11.2.2.2 else f_X12_ram_174 T e11.2.2.1 e11.2.2.2
def f_X12_odds_36 (T : List Dsc) (μ : Mem) : Option (Int64 × Mem) :=
  some ((-1 : Int64), μ)
def f_X12_odds_104 (T : List Dsc) (x0 : Nat) (x1 : Int32) (x2 : Int32) (x3 : Int32) (x4 : Int64) (x6 : Int32) (x9 : Int32) (x10 : Int32) (s0 : Int64) (s1 : Int64) (μ : Mem) : Option ((Int64 × Int32 × Mem) ⊕ ((Int64 × Mem))) :=
  (nmJ (s0 * s1)).bind fun v1 => (F_X12_strikes T x0 x10 μ).bind fun c3 => (nmI (x9 + (1 : Int32))).bind fun v5 => some (Sum.inl (v1, v5, c3))
def f_X12_odds_86 (T : List Dsc) (x0 : Nat) (x1 : Int32) (x2 : Int32) (x3 : Int32) (x4 : Int64) (x6 : Int32) (x7 : Int64) (x9 : Int32) (s0 : Int32) (μ : Mem) : Option ((Int64 × Int32 × Mem) ⊕ ((Int64 × Mem))) :=
  if s0 = 0 then f_X12_odds_104 T x0 x1 x2 x3 x4 x6 x9 s0 x7 (x3 - x2).toInt64 μ else f_X12_odds_104 T x0 x1 x2 x3 x4 x6 x9 s0 x7 x2.toInt64 μ
def f_X12_odds_64 (T : List Dsc) (x0 : Nat) (x1 : Int32) (x2 : Int32) (x3 : Int32) (x4 : Int64) (x6 : Int32) (x7 : Int64) (x9 : Int32) (μ : Mem) : Option ((Int64 × Int32 × Mem) ⊕ ((Int64 × Mem))) :=
  if x1 ≤ x9 then some (Sum.inr (x7, μ)) else if ((x6 >>> (x9 &&& 31)) &&& (1 : Int32)) = (1 : Int32) then f_X12_odds_86 T x0 x1 x2 x3 x4 x6 x7 x9 (1 : Int32) μ else f_X12_odds_86 T x0 x1 x2 x3 x4 x6 x7 x9 (0 : Int32) μ
def g_X12_odds_64 (T : List Dsc) (x0 : Nat) (x1 : Int32) (x2 : Int32) (x3 : Int32) (x4 : Int64) (x6 : Int32) (s : Int64 × Int32 × Mem) : Option ((Int64 × Int32 × Mem) ⊕ ((Int64 × Mem))) := f_X12_odds_64 T x0 x1 x2 x3 x4 x6 s.1 s.2.1 s.2.2
def f_X12_odds_46 (T : List Dsc) (x0 : Nat) (x1 : Int32) (x2 : Int32) (x3 : Int32) (x4 : Int64) (x6 : Int32) (μ : Mem) : Option ((Int64 × Int32 × Mem) ⊕ ((Int64 × Mem))) :=
  if ((1 : Int32) <<< (x1 &&& 31)) ≤ x6 then some (Sum.inr (x4, μ)) else (F_X12_takes T x0 μ).bind fun c2 => (loop (g_X12_odds_64 T x0 x1 x2 x3 x4 x6) ((1 : Int64), (0 : Int32), c2)).bind fun e4 => (F_X12_wayNow T x0 e4.2).bind fun c6 => (nmJ (x4 + (e4.1 * c6.1.toInt64))).bind fun v8 => (nmI (x6 + (1 : Int32))).bind fun v10 => some (Sum.inl (v8, v10, c6.2))
def g_X12_odds_46 (T : List Dsc) (x0 : Nat) (x1 : Int32) (x2 : Int32) (x3 : Int32) (s : Int64 × Int32 × Mem) : Option ((Int64 × Int32 × Mem) ⊕ ((Int64 × Mem))) := f_X12_odds_46 T x0 x1 x2 x3 s.1 s.2.1 s.2.2
def F_X12_odds (T : List Dsc) (x0 : Nat) (x1 : Int32) (x2 : Int32) (x3 : Int32) (μ : Mem) : Option (Int64 × Mem) :=
  (F_X12_in T x1 (1 : Int32) (10 : Int32) μ).bind fun c1 => if c1.1 = 0 then f_X12_odds_36 T c1.2 else (F_X12_in T x3 (1 : Int32) (9 : Int32) c1.2).bind fun c4 => if c4.1 = 0 then f_X12_odds_36 T c4.2 else (F_X12_in T x2 (0 : Int32) x3 c4.2).bind fun c7 => if c7.1 = 0 then f_X12_odds_36 T c7.2 else (F_X12_menNow T x0 c7.2).bind fun c10 => if c10.1 = 0 then f_X12_odds_36 T c10.2 else (loop (g_X12_odds_46 T x0 x1 x2 x3) ((0 : Int64), (0 : Int32), c10.2)).bind fun e13 => some (e13.1, e13.2)
def f_X12_tell__33 (T : List Dsc) (μ : Mem) : Option (Int32 × Mem) :=
  some ((-1 : Int32), μ)
def F_X12_tell_ (T : List Dsc) (x0 : Nat) (x1 : Int32) (x2 : Int32) (x3 : Int32) (μ : Mem) : Option (Int32 × Mem) :=
  if (gI μ x0 79) = (20 : Int32) then f_X12_tell__33 T μ else (F_X12_in T x1 (0 : Int32) (99 : Int32) μ).bind fun c2 => if c2.1 = 0 then f_X12_tell__33 T c2.2 else (F_X12_menNow T x0 c2.2).bind fun c5 => (F_X12_in T x2 (1 : Int32) (c5.1 - (1 : Int32)) c5.2).bind fun c7 => if c7.1 = 0 then f_X12_tell__33 T c7.2 else (gA T c7.2 x0 80 0).bind fun a10 => (wI c7.2 a10.1 a10.2 (gI c7.2 x0 79) x1).bind fun μ12 => (gA T μ12 x0 81 0).bind fun a14 => (wI μ12 a14.1 a14.2 (gI μ12 x0 79) x2).bind fun μ16 => (gA T μ16 x0 82 3).bind fun a18 => (zb x3).bind fun v22 => (wI μ16 a18.1 a18.2 (gI μ16 x0 79) v22).bind fun μ20 => (pI μ20 x0 79 ((gI μ20 x0 79) + (1 : Int32))).bind fun μ24 => some ((gI μ24 x0 79) - (1 : Int32), μ24)
def F_X12_forget (T : List Dsc) (x0 : Nat) (μ : Mem) : Option (Int32 × Mem) :=
  (nmI (gI μ x0 79)).bind fun v1 => (pI μ x0 79 (0 : Int32)).bind fun μ3 => some (v1, μ3)
def f_X12_breaks_96 (T : List Dsc) (x0 : Nat) (x1 : Int32) (x2 : Int32) (s0 : Nat) (ms0 : Nat) (s1 : Int32) (s2 : Int32) (μ : Mem) : Option ((Int32 × Mem) ⊕ ((Mem))) :=
  (wI μ s0 ms0 s1 s2).bind fun μ1 => (nmI (x2 + (1 : Int32))).bind fun v3 => some (Sum.inl (v3, μ1))
def f_X12_breaks_36 (T : List Dsc) (x0 : Nat) (x1 : Int32) (x2 : Int32) (μ : Mem) : Option ((Int32 × Mem) ⊕ ((Mem))) :=
  if (gI μ x0 65) ≤ x2 then some (Sum.inr μ) else (gA T μ x0 63 0).bind fun a2 => (gA T μ x0 34 0).bind fun a4 => (rI μ a4.1 a4.2 (((12 : Int32) * (gI μ x0 18)) + x2)).bind fun v6 => (wI μ a2.1 a2.2 x2 v6).bind fun μ8 => (gA T μ8 x0 64 0).bind fun a10 => if ((x1 >>> (x2 &&& 31)) &&& (1 : Int32)) = (1 : Int32) then f_X12_breaks_96 T x0 x1 x2 a10.1 a10.2 x2 (-1 : Int32) μ8 else (gA T μ8 x0 33 0).bind fun a13 => (rI μ8 a13.1 a13.2 (((12 : Int32) * (gI μ8 x0 18)) + x2)).bind fun v15 => f_X12_breaks_96 T x0 x1 x2 a10.1 a10.2 x2 v15 μ8
def g_X12_breaks_36 (T : List Dsc) (x0 : Nat) (x1 : Int32) (s : Int32 × Mem) : Option ((Int32 × Mem) ⊕ ((Mem))) := f_X12_breaks_36 T x0 x1 s.1 s.2
def F_X12_breaks (T : List Dsc) (x0 : Nat) (x1 : Int32) (μ : Mem) : Option Mem :=
  (F_X12_menNow T x0 μ).bind fun c1 => (pI c1.2 x0 65 c1.1).bind fun μ3 => (gA T μ3 x0 35 0).bind fun a5 => (rI μ3 a5.1 a5.2 (gI μ3 x0 18)).bind fun v7 => (pI μ3 x0 66 v7).bind fun μ9 => (gA T μ9 x0 36 0).bind fun a11 => (rI μ9 a11.1 a11.2 (gI μ9 x0 18)).bind fun v13 => (pI μ9 x0 67 v13).bind fun μ15 => (loop (g_X12_breaks_36 T x0 x1) ((0 : Int32), μ15)).bind fun e17 => some e17
def f_X12_fits_35 (T : List Dsc) (x0 : Nat) (x2 : Int32) (x3 : Int32) (x4 : Int32) (μ : Mem) : Option ((Int32 × Int32 × Mem) ⊕ ((Int32 × Mem))) :=
  (nmI (x4 + (1 : Int32))).bind fun v1 => some (Sum.inl (x3, v1, μ))
def f_X12_fits_10 (T : List Dsc) (x0 : Nat) (x2 : Int32) (x3 : Int32) (x4 : Int32) (μ : Mem) : Option ((Int32 × Int32 × Mem) ⊕ ((Int32 × Mem))) :=
  if x2 ≤ x4 then some (Sum.inr (x3, μ)) else (gA T μ x0 80 0).bind fun a2 => (rI μ a2.1 a2.2 x4).bind fun v4 => if v4 ≤ x3 then f_X12_fits_35 T x0 x2 x3 x4 μ else (gA T μ x0 80 0).bind fun a7 => (rI μ a7.1 a7.2 x4).bind fun v9 => f_X12_fits_35 T x0 x2 v9 x4 μ
def g_X12_fits_10 (T : List Dsc) (x0 : Nat) (x2 : Int32) (s : Int32 × Int32 × Mem) : Option ((Int32 × Int32 × Mem) ⊕ ((Int32 × Mem))) := f_X12_fits_10 T x0 x2 s.1 s.2.1 s.2.2
def f_X12_fits_110 (T : List Dsc) (x0 : Nat) (x2 : Int32) (x3 : Int32) (x4 : Int32) (x5 : Int32) (x6 : Int32) (μ : Mem) : Option ((Int32 × Mem) ⊕ ((Mem) ⊕ (Mem))) :=
  (nmI (x6 + (1 : Int32))).bind fun v1 => some (Sum.inl (v1, μ))
def f_X12_fits_98 (T : List Dsc) (x0 : Nat) (x2 : Int32) (x3 : Int32) (x4 : Int32) (x5 : Int32) (x6 : Int32) (s0 : Int32) (μ : Mem) : Option ((Int32 × Mem) ⊕ ((Mem) ⊕ (Mem))) :=
  (gA T μ x0 82 3).bind fun a1 => (rI μ a1.1 a1.2 x6).bind fun v3 => if s0 = v3 then f_X12_fits_110 T x0 x2 x3 x4 x5 x6 μ else some (Sum.inr (Sum.inl μ))
def f_X12_fits_59 (T : List Dsc) (x0 : Nat) (x2 : Int32) (x3 : Int32) (x4 : Int32) (x5 : Int32) (x6 : Int32) (μ : Mem) : Option ((Int32 × Mem) ⊕ ((Mem) ⊕ (Mem))) :=
  if x2 ≤ x6 then some (Sum.inr (Sum.inr μ)) else (gA T μ x0 80 0).bind fun a2 => (rI μ a2.1 a2.2 x6).bind fun v4 => if v4 = x4 then (gA T μ x0 81 0).bind fun a7 => (rI μ a7.1 a7.2 x6).bind fun v9 => if ((x5 >>> (v9 &&& 31)) &&& (1 : Int32)) = (1 : Int32) then f_X12_fits_98 T x0 x2 x3 x4 x5 x6 (1 : Int32) μ else f_X12_fits_98 T x0 x2 x3 x4 x5 x6 (0 : Int32) μ else f_X12_fits_110 T x0 x2 x3 x4 x5 x6 μ
def g_X12_fits_59 (T : List Dsc) (x0 : Nat) (x2 : Int32) (x3 : Int32) (x4 : Int32) (x5 : Int32) (s : Int32 × Mem) : Option ((Int32 × Mem) ⊕ ((Mem) ⊕ (Mem))) := f_X12_fits_59 T x0 x2 x3 x4 x5 s.1 s.2
def f_X12_fits_44 (T : List Dsc) (x0 : Nat) (x2 : Int32) (x3 : Int32) (x4 : Int32) (μ : Mem) : Option ((Int32 × Mem) ⊕ ((Mem) ⊕ (Mem))) :=
  if x3 < x4 then some (Sum.inr (Sum.inr μ)) else (F_X12_clashesNow T x0 μ).bind fun c2 => (loop (g_X12_fits_59 T x0 x2 x3 x4 c2.1) ((0 : Int32), c2.2)).bind fun e4 => (Sum.elim (fun e4_0 => some (Sum.inr (Sum.inl e4_0))) (fun e4_1 => (F_X12_isFog T x0 x4 e4_1).bind fun c6 => (F_X12_strikes T x0 c6.1 c6.2).bind fun c8 => (nmI (x4 + (1 : Int32))).bind fun v10 => some (Sum.inl (v10, c8)))) e4
def g_X12_fits_44 (T : List Dsc) (x0 : Nat) (x2 : Int32) (x3 : Int32) (s : Int32 × Mem) : Option ((Int32 × Mem) ⊕ ((Mem) ⊕ (Mem))) := f_X12_fits_44 T x0 x2 x3 s.1 s.2
def F_X12_fits (T : List Dsc) (x0 : Nat) (x1 : Int32) (x2 : Int32) (μ : Mem) : Option (Int32 × Mem) :=
  (F_X12_breaks T x0 x1 μ).bind fun c1 => (loop (g_X12_fits_10 T x0 x2) ((-1 : Int32), (0 : Int32), c1)).bind fun e3 => (loop (g_X12_fits_44 T x0 x2 e3.1) ((0 : Int32), e3.2)).bind fun e5 => (Sum.elim (fun e5_0 => some ((0 : Int32), e5_0)) (fun e5_1 => some ((1 : Int32), e5_1))) e5
def f_X12_canSuspect_26 (T : List Dsc) (s0 : Int32) (μ : Mem) : Option (Int32 × Mem) :=
  (zb s0).bind fun v1 => some (v1, μ)
def f_X12_canSuspect_25 (T : List Dsc) (μ : Mem) : Option (Int32 × Mem) :=
  f_X12_canSuspect_26 T (0 : Int32) μ
def F_X12_canSuspect (T : List Dsc) (x0 : Nat) (x1 : Int32) (x2 : Int32) (μ : Mem) : Option (Int32 × Mem) :=
  (F_X12_in T x1 (0 : Int32) (2 : Int32) μ).bind fun c1 => if c1.1 = 0 then f_X12_canSuspect_25 T c1.2 else (F_X12_in T x2 (0 : Int32) (gI c1.2 x0 79) c1.2).bind fun c4 => if c4.1 = 0 then f_X12_canSuspect_25 T c4.2 else f_X12_canSuspect_26 T (1 : Int32) c4.2
def f_X12_fillSuspects_60 (T : List Dsc) (x0 : Nat) (x1 : Int32) (x2 : Int32) (x3 : Int32) (μ : Mem) : Option ((Int32 × Mem) ⊕ ((Mem))) :=
  (nmI (x3 + (1 : Int32))).bind fun v1 => some (Sum.inl (v1, μ))
def f_X12_fillSuspects_7 (T : List Dsc) (x0 : Nat) (x1 : Int32) (x2 : Int32) (x3 : Int32) (μ : Mem) : Option ((Int32 × Mem) ⊕ ((Mem))) :=
  (F_X12_menNow T x0 μ).bind fun c1 => if ((1 : Int32) <<< (c1.1 &&& 31)) ≤ x3 then some (Sum.inr c1.2) else (F_X12_bits T x0 x3 (12 : Int32) c1.2).bind fun c4 => if c4.1 = x1 then (F_X12_fits T x0 x3 x2 c4.2).bind fun c7 => if c7.1 = 0 then f_X12_fillSuspects_60 T x0 x1 x2 x3 c7.2 else (gA T c7.2 x0 83 0).bind fun a10 => (wI c7.2 a10.1 a10.2 (gI c7.2 x0 84) x3).bind fun μ12 => (pI μ12 x0 84 ((gI μ12 x0 84) + (1 : Int32))).bind fun μ14 => f_X12_fillSuspects_60 T x0 x1 x2 x3 μ14 else f_X12_fillSuspects_60 T x0 x1 x2 x3 c4.2
def g_X12_fillSuspects_7 (T : List Dsc) (x0 : Nat) (x1 : Int32) (x2 : Int32) (s : Int32 × Mem) : Option ((Int32 × Mem) ⊕ ((Mem))) := f_X12_fillSuspects_7 T x0 x1 x2 s.1 s.2
def F_X12_fillSuspects (T : List Dsc) (x0 : Nat) (x1 : Int32) (x2 : Int32) (μ : Mem) : Option Mem :=
  (pI μ x0 84 (0 : Int32)).bind fun μ1 => (loop (g_X12_fillSuspects_7 T x0 x1 x2) ((0 : Int32), μ1)).bind fun e3 => some e3
def F_X12_suspects (T : List Dsc) (x0 : Nat) (x1 : Int32) (x2 : Int32) (μ : Mem) : Option (Int32 × Mem) :=
  (F_X12_canSuspect T x0 x1 x2 μ).bind fun c1 => if c1.1 = 0 then some ((-1 : Int32), c1.2) else (F_X12_fillSuspects T x0 x1 x2 c1.2).bind fun c4 => some (gI c4 x0 84, c4)
def f_X12_suspect_41 (T : List Dsc) (s0 : Int32) (μ : Mem) : Option (Int32 × Mem) :=
  some (s0, μ)
def F_X12_suspect (T : List Dsc) (x0 : Nat) (x1 : Int32) (x2 : Int32) (x3 : Int32) (μ : Mem) : Option (Int32 × Mem) :=
  (F_X12_canSuspect T x0 x1 x2 μ).bind fun c1 => if c1.1 = 0 then some ((-1 : Int32), c1.2) else (F_X12_fillSuspects T x0 x1 x2 c1.2).bind fun c4 => (F_X12_in T x3 (0 : Int32) ((gI c4 x0 84) - (1 : Int32)) c4).bind fun c6 => if c6.1 = 0 then f_X12_suspect_41 T (-1 : Int32) c6.2 else (gA T c6.2 x0 83 0).bind fun a9 => (rI c6.2 a9.1 a9.2 x3).bind fun v11 => f_X12_suspect_41 T v11 c6.2
def f_X12_greater_40 (T : List Dsc) (s0 : Int32) (μ : Mem) : Option (Int32 × Mem) :=
  some (s0, μ)
def F_X12_greater (T : List Dsc) (x0 : Nat) (x1 : Int32) (μ : Mem) : Option (Int32 × Mem) :=
  (gA T μ x0 72 0).bind fun a1 => (rI μ a1.1 a1.2 x1).bind fun v3 => (gA T μ x0 72 0).bind fun a5 => (rI μ a5.1 a5.2 x1).bind fun v7 => if v3 ≤ ((gI μ x0 84) - v7) then (gA T μ x0 72 0).bind fun a10 => (rI μ a10.1 a10.2 x1).bind fun v12 => f_X12_greater_40 T ((gI μ x0 84) - v12) μ else (gA T μ x0 72 0).bind fun a14 => (rI μ a14.1 a14.2 x1).bind fun v16 => f_X12_greater_40 T v16 μ
def f_X12_check_19 (T : List Dsc) (μ : Mem) : Option (Int32 × Mem) :=
  some ((-1 : Int32), μ)
def f_X12_check_42 (T : List Dsc) (μ : Mem) : Option (Int32 × Mem) :=
  some ((-2 : Int32), μ)
def f_X12_check_48 (T : List Dsc) (x0 : Nat) (x3 : Int32) (x4 : Int32) (μ : Mem) : Option ((Int32 × Mem) ⊕ ((Mem))) :=
  if (12 : Int32) ≤ x4 then some (Sum.inr μ) else (gA T μ x0 72 0).bind fun a2 => (wI μ a2.1 a2.2 x4 (0 : Int32)).bind fun μ4 => (nmI (x4 + (1 : Int32))).bind fun v6 => some (Sum.inl (v6, μ4))
def g_X12_check_48 (T : List Dsc) (x0 : Nat) (x3 : Int32) (s : Int32 × Mem) : Option ((Int32 × Mem) ⊕ ((Mem))) := f_X12_check_48 T x0 x3 s.1 s.2
def f_X12_check_95 (T : List Dsc) (x0 : Nat) (x3 : Int32) (x4 : Int32) (x5 : Int32) (μ : Mem) : Option ((Int32 × Mem) ⊕ ((Mem))) :=
  if x3 ≤ x5 then some (Sum.inr μ) else (F_X12_isFog T x0 x5 μ).bind fun c2 => (F_X12_strikes T x0 c2.1 c2.2).bind fun c4 => (nmI (x5 + (1 : Int32))).bind fun v6 => some (Sum.inl (v6, c4))
def g_X12_check_95 (T : List Dsc) (x0 : Nat) (x3 : Int32) (x4 : Int32) (s : Int32 × Mem) : Option ((Int32 × Mem) ⊕ ((Mem))) := f_X12_check_95 T x0 x3 x4 s.1 s.2
def f_X12_check_126 (T : List Dsc) (x0 : Nat) (x3 : Int32) (x4 : Int32) (x5 : Int32) (x6 : Int32) (μ : Mem) : Option ((Int32 × Mem) ⊕ ((Mem))) :=
  if (12 : Int32) ≤ x6 then some (Sum.inr μ) else (gA T μ x0 72 0).bind fun a2 => (rI μ a2.1 a2.2 x6).bind fun v4 => (wI μ a2.1 a2.2 x6 (v4 + ((x5 >>> (x6 &&& 31)) &&& (1 : Int32)))).bind fun μ6 => (nmI (x6 + (1 : Int32))).bind fun v8 => some (Sum.inl (v8, μ6))
def g_X12_check_126 (T : List Dsc) (x0 : Nat) (x3 : Int32) (x4 : Int32) (x5 : Int32) (s : Int32 × Mem) : Option ((Int32 × Mem) ⊕ ((Mem))) := f_X12_check_126 T x0 x3 x4 x5 s.1 s.2
def f_X12_check_72 (T : List Dsc) (x0 : Nat) (x3 : Int32) (x4 : Int32) (μ : Mem) : Option ((Int32 × Mem) ⊕ ((Mem))) :=
  if (gI μ x0 84) ≤ x4 then some (Sum.inr μ) else (gA T μ x0 83 0).bind fun a2 => (rI μ a2.1 a2.2 x4).bind fun v4 => (F_X12_breaks T x0 v4 μ).bind fun c6 => (loop (g_X12_check_95 T x0 x3 x4) ((0 : Int32), c6)).bind fun e8 => (F_X12_clashesNow T x0 e8).bind fun c10 => (loop (g_X12_check_126 T x0 x3 x4 c10.1) ((0 : Int32), c10.2)).bind fun e12 => (nmI (x4 + (1 : Int32))).bind fun v14 => some (Sum.inl (v14, e12))
def g_X12_check_72 (T : List Dsc) (x0 : Nat) (x3 : Int32) (s : Int32 × Mem) : Option ((Int32 × Mem) ⊕ ((Mem))) := f_X12_check_72 T x0 x3 s.1 s.2
def f_X12_check_196 (T : List Dsc) (x0 : Nat) (x4 : Int32) (x5 : Int32) (μ : Mem) : Option ((Int32 × Int32 × Mem) ⊕ ((Int32 × Mem))) :=
  (nmI (x5 + (1 : Int32))).bind fun v1 => some (Sum.inl (x4, v1, μ))
def f_X12_check_168 (T : List Dsc) (x0 : Nat) (x4 : Int32) (x5 : Int32) (μ : Mem) : Option ((Int32 × Int32 × Mem) ⊕ ((Int32 × Mem))) :=
  (F_X12_menNow T x0 μ).bind fun c1 => if c1.1 ≤ x5 then some (Sum.inr (x4, c1.2)) else (F_X12_greater T x0 x5 c1.2).bind fun c4 => (F_X12_greater T x0 x4 c4.2).bind fun c6 => if c6.1 ≤ c4.1 then f_X12_check_196 T x0 x4 x5 c6.2 else f_X12_check_196 T x0 x5 x5 c6.2
def g_X12_check_168 (T : List Dsc) (x0 : Nat) (s : Int32 × Int32 × Mem) : Option ((Int32 × Int32 × Mem) ⊕ ((Int32 × Mem))) := f_X12_check_168 T x0 s.1 s.2.1 s.2.2
def F_X12_check (T : List Dsc) (x0 : Nat) (x1 : Int32) (x2 : Int32) (x3 : Int32) (μ : Mem) : Option (Int32 × Mem) :=
  (F_X12_canSuspect T x0 x1 x2 μ).bind fun c1 => if c1.1 = 0 then f_X12_check_19 T c1.2 else (F_X12_in T x3 (0 : Int32) (99 : Int32) c1.2).bind fun c4 => if c4.1 = 0 then f_X12_check_19 T c4.2 else (F_X12_fillSuspects T x0 x1 x2 c4.2).bind fun c7 => if (gI c7 x0 84) = 0 then f_X12_check_42 T c7 else (F_X12_menNow T x0 c7).bind fun c10 => if (2 : Int32) ≤ c10.1 then (loop (g_X12_check_48 T x0 x3) ((0 : Int32), c10.2)).bind fun e13 => (loop (g_X12_check_72 T x0 x3) ((0 : Int32), e13)).bind fun e15 => (loop (g_X12_check_168 T x0) ((1 : Int32), (2 : Int32), e15)).bind fun e17 => some (e17.1, e17.2) else f_X12_check_42 T c10.2
def f_X12_hold_50 (T : List Dsc) (x0 : Nat) (x1 : Int32) (x2 : Int32) (μ : Mem) : Option ((Int32 × Mem) ⊕ ((Mem))) :=
  if (12 : Int32) ≤ x2 then some (Sum.inr μ) else (gA T μ x0 86 0).bind fun a2 => (gA T μ x0 55 0).bind fun a4 => (rI μ a4.1 a4.2 x2).bind fun v6 => (wI μ a2.1 a2.2 (((12 : Int32) * x1) + x2) v6).bind fun μ8 => (gA T μ8 x0 87 0).bind fun a10 => (gA T μ8 x0 56 0).bind fun a12 => (rI μ8 a12.1 a12.2 x2).bind fun v14 => (wI μ8 a10.1 a10.2 (((12 : Int32) * x1) + x2) v14).bind fun μ16 => (gA T μ16 x0 88 0).bind fun a18 => (gA T μ16 x0 57 0).bind fun a20 => (rI μ16 a20.1 a20.2 x2).bind fun v22 => (wI μ16 a18.1 a18.2 (((12 : Int32) * x1) + x2) v22).bind fun μ24 => (nmI (x2 + (1 : Int32))).bind fun v26 => some (Sum.inl (v26, μ24))
def g_X12_hold_50 (T : List Dsc) (x0 : Nat) (x1 : Int32) (s : Int32 × Mem) : Option ((Int32 × Mem) ⊕ ((Mem))) := f_X12_hold_50 T x0 x1 s.1 s.2
def F_X12_hold (T : List Dsc) (x0 : Nat) (x1 : Int32) (μ : Mem) : Option (Int32 × Mem) :=
  (F_X12_in T x1 (0 : Int32) (2 : Int32) μ).bind fun c1 => if c1.1 = 0 then some ((0 : Int32), c1.2) else (gA T c1.2 x0 85 3).bind fun a4 => (wI c1.2 a4.1 a4.2 x1 (1 : Int32)).bind fun μ6 => (gA T μ6 x0 89 0).bind fun a8 => (wI μ6 a8.1 a8.2 x1 (gI μ6 x0 58)).bind fun μ10 => (gA T μ10 x0 90 0).bind fun a12 => (wI μ10 a12.1 a12.2 x1 (gI μ10 x0 59)).bind fun μ14 => (gA T μ14 x0 91 0).bind fun a16 => (wI μ14 a16.1 a16.2 x1 (gI μ14 x0 60)).bind fun μ18 => (loop (g_X12_hold_50 T x0 x1) ((0 : Int32), μ18)).bind fun e20 => some ((1 : Int32), e20)
def f_X12_restore_18 (T : List Dsc) (μ : Mem) : Option (Int32 × Mem) :=
  some ((0 : Int32), μ)
def f_X12_restore_57 (T : List Dsc) (x0 : Nat) (x1 : Int32) (x2 : Int32) (μ : Mem) : Option ((Int32 × Mem) ⊕ ((Mem))) :=
  if (12 : Int32) ≤ x2 then some (Sum.inr μ) else (gA T μ x0 55 0).bind fun a2 => (gA T μ x0 86 0).bind fun a4 => (rI μ a4.1 a4.2 (((12 : Int32) * x1) + x2)).bind fun v6 => (wI μ a2.1 a2.2 x2 v6).bind fun μ8 => (gA T μ8 x0 56 0).bind fun a10 => (gA T μ8 x0 87 0).bind fun a12 => (rI μ8 a12.1 a12.2 (((12 : Int32) * x1) + x2)).bind fun v14 => (wI μ8 a10.1 a10.2 x2 v14).bind fun μ16 => (gA T μ16 x0 57 0).bind fun a18 => (gA T μ16 x0 88 0).bind fun a20 => (rI μ16 a20.1 a20.2 (((12 : Int32) * x1) + x2)).bind fun v22 => (wI μ16 a18.1 a18.2 x2 v22).bind fun μ24 => (nmI (x2 + (1 : Int32))).bind fun v26 => some (Sum.inl (v26, μ24))
def g_X12_restore_57 (T : List Dsc) (x0 : Nat) (x1 : Int32) (s : Int32 × Mem) : Option ((Int32 × Mem) ⊕ ((Mem))) := f_X12_restore_57 T x0 x1 s.1 s.2
def F_X12_restore (T : List Dsc) (x0 : Nat) (x1 : Int32) (μ : Mem) : Option (Int32 × Mem) :=
  (F_X12_in T x1 (0 : Int32) (2 : Int32) μ).bind fun c1 => if c1.1 = 0 then f_X12_restore_18 T c1.2 else (gA T c1.2 x0 85 3).bind fun a4 => (rI c1.2 a4.1 a4.2 x1).bind fun v6 => if v6 = 0 then f_X12_restore_18 T c1.2 else (gA T c1.2 x0 89 0).bind fun a9 => (rI c1.2 a9.1 a9.2 x1).bind fun v11 => (pI c1.2 x0 58 v11).bind fun μ13 => (gA T μ13 x0 90 0).bind fun a15 => (rI μ13 a15.1 a15.2 x1).bind fun v17 => (pI μ13 x0 59 v17).bind fun μ19 => (gA T μ19 x0 91 0).bind fun a21 => (rI μ19 a21.1 a21.2 x1).bind fun v23 => (pI μ19 x0 60 v23).bind fun μ25 => (pI μ25 x0 61 (0 : Int32)).bind fun μ27 => (loop (g_X12_restore_57 T x0 x1) ((0 : Int32), μ27)).bind fun e29 => some ((1 : Int32), e29)
def f_X12_count_115 (T : List Dsc) (s0 : Int32) (μ : Mem) : Option (Int32 × Mem) :=
  some (s0, μ)
def f_X12_count_148 (T : List Dsc) (s0 : Int32) (μ : Mem) : Option (Int32 × Mem) :=
  some (s0, μ)
def f_X12_count_217 (T : List Dsc) (s0 : Int32) (s1 : Int32) (μ : Mem) : Option (Int32 × Mem) :=
  some (s0 + s1, μ)
def f_X12_count_202 (T : List Dsc) (x0 : Nat) (s0 : Int32) (s1 : Int32) (μ : Mem) : Option (Int32 × Mem) :=
  (gA T μ x0 85 3).bind fun a1 => (rI μ a1.1 a1.2 (2 : Int32)).bind fun v3 => if v3 = 0 then f_X12_count_217 T (s0 + s1) (0 : Int32) μ else f_X12_count_217 T (s0 + s1) (1 : Int32) μ
def f_X12_count_188 (T : List Dsc) (x0 : Nat) (s0 : Int32) (μ : Mem) : Option (Int32 × Mem) :=
  (gA T μ x0 85 3).bind fun a1 => (rI μ a1.1 a1.2 (1 : Int32)).bind fun v3 => if v3 = 0 then f_X12_count_202 T x0 s0 (0 : Int32) μ else f_X12_count_202 T x0 s0 (1 : Int32) μ
def f_X12_count_235 (T : List Dsc) (s0 : Int32) (μ : Mem) : Option (Int32 × Mem) :=
  some (s0, μ)
def F_X12_count (T : List Dsc) (x0 : Nat) (x1 : Int32) (μ : Mem) : Option (Int32 × Mem) :=
  if x1 = (0 : Int32) then (gA T μ x0 23 0).bind fun a2 => (rI μ a2.1 a2.2 (gI μ x0 18)).bind fun v4 => some (v4, μ) else if x1 = (1 : Int32) then (gA T μ x0 24 0).bind fun a7 => (rI μ a7.1 a7.2 (gI μ x0 18)).bind fun v9 => some (v9, μ) else if x1 = (2 : Int32) then (F_X12_menNow T x0 μ).bind fun c12 => some (c12.1, c12.2) else if x1 = (3 : Int32) then some (gI μ x0 60, μ) else if x1 = (4 : Int32) then if (gI μ x0 58) = (-1 : Int32) then f_X12_count_115 T (-2 : Int32) μ else f_X12_count_115 T (gI μ x0 58) μ else if x1 = (5 : Int32) then some (gI μ x0 59, μ) else if x1 = (6 : Int32) then (gA T μ x0 37 0).bind fun a19 => (rI μ a19.1 a19.2 (gI μ x0 18)).bind fun v21 => if v21 = (-1 : Int32) then f_X12_count_148 T (-2 : Int32) μ else (gA T μ x0 37 0).bind fun a24 => (rI μ a24.1 a24.2 (gI μ x0 18)).bind fun v26 => f_X12_count_148 T v26 μ else if x1 = (7 : Int32) then (gA T μ x0 38 0).bind fun a29 => (rI μ a29.1 a29.2 (gI μ x0 18)).bind fun v31 => some (v31, μ) else if x1 = (8 : Int32) then some (gI μ x0 2, μ) else if x1 = (9 : Int32) then some (gI μ x0 61, μ) else if x1 = (10 : Int32) then some (gI μ x0 79, μ) else if x1 = (11 : Int32) then (gA T μ x0 85 3).bind fun a37 => (rI μ a37.1 a37.2 (0 : Int32)).bind fun v39 => if v39 = 0 then f_X12_count_188 T x0 (0 : Int32) μ else f_X12_count_188 T x0 (1 : Int32) μ else if x1 = (12 : Int32) then (F_X12_isFog T x0 (gI μ x0 60) μ).bind fun c43 => if c43.1 = 0 then f_X12_count_235 T (0 : Int32) c43.2 else f_X12_count_235 T (1 : Int32) c43.2 else some ((-1 : Int32), μ)
