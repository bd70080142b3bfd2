/-! the law's loop -/
theorem le6 {L i : Nat} (hL : L ≤ 3072) (hi : i ≤ 4000) (h : ¬ nI L - 6 < nI i) : i + 6 ≤ L := by
  rw [Int32.lt_iff_toInt_lt, show (6 : Int32) = nI 6 from rfl, pk_sub_toInt (by omega) (by omega), nI_toInt (by omega)] at h
  omega
theorem cnt1 {n a a' : Nat} (h : a ≤ a') : n + 2 * a + 2 * (a' - a) = n + 2 * a' := by omega
theorem cnt2 {n a a' : Nat} (h : a ≤ a') : n + 41472 * a + 41472 * (a' - a) = n + 41472 * a' := by omega
set_option maxHeartbeats 4000000 in
set_option maxRecDepth 100000 in
theorem law_sw {X : CX} {T : List Dsc} {R : RM} {c e l a b L i n1 n2 : Nat} {s : SS} {m : M2} {xs : Nat → Int32} (hLw : XLw X b L xs) (hL : L ≤ 3072) (hi : i + 6 ≤ L) (hX : ∀ a, a ≤ 1 → XR X 80 (n1 + 2 * a) (n2 + 41472 * a)) (hG : Geo T R c e) (hP : PH T R a) (hB : BS m c l s) (kk : ∀ (T : List Dsc) (R : RM) (c e l a : Nat) (s : SS) (m : M2), Geo T R c e → PH T R a → BS m c l s → Wp X code RL 4 T (mk m R) (n1 + 2 * a) (n2 + 41472 * a) 1109 [(0, .ref 1000), (1, .ref 0), (2, .ref 56), (3, .int (nI i))] []) : Wp X code RL 4 T (mk m R) (n1 + 2 * a) (n2 + 41472 * a) 33 [(0, .ref 1000), (1, .ref 0), (2, .ref 56), (3, .int (nI i))] [.int (xs i &&& 31)] := by
  have hXa := hX a hP.le
  have k0 : ∀ (m' : M2) (s' : SS), BS m' c l s' → Wp X code RL 4 T (mk m' R) (n1 + 2 * a) (n2 + 41472 * a) 1109 [(0, .ref 1000), (1, .ref 0), (2, .ref 56), (3, .int (nI i))] [] := fun m' s' hB' => kk T R c e l a s' m' hG hP hB'
  obtain ⟨j, hj, ej⟩ := pk_andE (xs i) (m := 31) 5 (by decide)
  have hj32 : j < 32 := hj
  clear hj
  match j, hj32, ej with
  | 0, _, ej =>
    refine Wp.swIn (pc := 33) (v := (0 : Int32)) 176 dL_33 ej (by decide) (by decide) rfl (by decide) ?_
    exact lc_0 (a := a) hLw hL hi hXa hG hB k0
  | 1, _, ej =>
    refine Wp.swIn (pc := 33) (v := (1 : Int32)) 239 dL_33 ej (by decide) (by decide) rfl (by decide) ?_
    exact lc_1 (a := a) hLw hL hi hXa hG hB k0
  | 2, _, ej =>
    refine Wp.swIn (pc := 33) (v := (2 : Int32)) 262 dL_33 ej (by decide) (by decide) rfl (by decide) ?_
    exact lc_2 hLw hL hi hXa hG hP hB (fun R' c' e' l' m' s' g p q => kk T R' c' e' l' a s' m' g p q)
  | 3, _, ej =>
    refine Wp.swIn (pc := 33) (v := (3 : Int32)) 275 dL_33 ej (by decide) (by decide) rfl (by decide) ?_
    exact lc_3 (a := a) hLw hL hi hXa hG hB k0
  | 4, _, ej =>
    refine Wp.swIn (pc := 33) (v := (4 : Int32)) 288 dL_33 ej (by decide) (by decide) rfl (by decide) ?_
    exact lc_4 (a := a) hLw hL hi hXa hG hB k0
  | 5, _, ej =>
    refine Wp.swIn (pc := 33) (v := (5 : Int32)) 321 dL_33 ej (by decide) (by decide) rfl (by decide) ?_
    exact lc_5 (a := a) hLw hL hi hXa hG hB k0
  | 6, _, ej =>
    refine Wp.swIn (pc := 33) (v := (6 : Int32)) 344 dL_33 ej (by decide) (by decide) rfl (by decide) ?_
    exact lc_6 (a := a) hLw hL hi hXa hG hB k0
  | 7, _, ej =>
    refine Wp.swIn (pc := 33) (v := (7 : Int32)) 357 dL_33 ej (by decide) (by decide) rfl (by decide) ?_
    exact lc_7 (a := a) hLw hL hi hXa hG hB k0
  | 8, _, ej =>
    refine Wp.swIn (pc := 33) (v := (8 : Int32)) 370 dL_33 ej (by decide) (by decide) rfl (by decide) ?_
    exact lc_8 (a := a) hLw hL hi hXa hG hB k0
  | 9, _, ej =>
    refine Wp.swIn (pc := 33) (v := (9 : Int32)) 393 dL_33 ej (by decide) (by decide) rfl (by decide) ?_
    exact lc_9 (a := a) hLw hL hi hXa hG hB k0
  | 10, _, ej =>
    refine Wp.swIn (pc := 33) (v := (10 : Int32)) 416 dL_33 ej (by decide) (by decide) rfl (by decide) ?_
    exact lc_10 (a := a) hLw hL hi hXa hG hB k0
  | 11, _, ej =>
    refine Wp.swIn (pc := 33) (v := (11 : Int32)) 439 dL_33 ej (by decide) (by decide) rfl (by decide) ?_
    exact lc_11 (a := a) hLw hL hi hXa hG hB k0
  | 12, _, ej =>
    refine Wp.swIn (pc := 33) (v := (12 : Int32)) 462 dL_33 ej (by decide) (by decide) rfl (by decide) ?_
    exact lc_12 (a := a) hLw hL hi hXa hG hB k0
  | 13, _, ej =>
    refine Wp.swIn (pc := 33) (v := (13 : Int32)) 475 dL_33 ej (by decide) (by decide) rfl (by decide) ?_
    exact lc_13 (a := a) hLw hL hi hXa hG hB k0
  | 14, _, ej =>
    refine Wp.swIn (pc := 33) (v := (14 : Int32)) 498 dL_33 ej (by decide) (by decide) rfl (by decide) ?_
    exact lc_14 (a := a) hLw hL hi hXa hG hB k0
  | 15, _, ej =>
    refine Wp.swIn (pc := 33) (v := (15 : Int32)) 531 dL_33 ej (by decide) (by decide) rfl (by decide) ?_
    exact lc_15 (a := a) hLw hL hi hXa hG hB k0
  | 16, _, ej =>
    refine Wp.swIn (pc := 33) (v := (16 : Int32)) 564 dL_33 ej (by decide) (by decide) rfl (by decide) ?_
    exact lc_16 (a := a) hLw hL hi hXa hG hB k0
  | 17, _, ej =>
    refine Wp.swIn (pc := 33) (v := (17 : Int32)) 597 dL_33 ej (by decide) (by decide) rfl (by decide) ?_
    exact lc_17 (a := a) hLw hL hi hXa hG hB k0
  | 18, _, ej =>
    refine Wp.swIn (pc := 33) (v := (18 : Int32)) 620 dL_33 ej (by decide) (by decide) rfl (by decide) ?_
    exact lc_18 (a := a) hLw hL hi hXa hG hB k0
  | 19, _, ej =>
    refine Wp.swIn (pc := 33) (v := (19 : Int32)) 653 dL_33 ej (by decide) (by decide) rfl (by decide) ?_
    exact lc_19 (a := a) hLw hL hi hXa hG hB k0
  | 20, _, ej =>
    refine Wp.swIn (pc := 33) (v := (20 : Int32)) 696 dL_33 ej (by decide) (by decide) rfl (by decide) ?_
    exact lc_20 (a := a) hLw hL hi hXa hG hB k0
  | 21, _, ej =>
    refine Wp.swIn (pc := 33) (v := (21 : Int32)) 729 dL_33 ej (by decide) (by decide) rfl (by decide) ?_
    refine lc_21 hLw hL hi (fun a' ha' => ?_) hG hP hB (fun T' R' a' m' s' haa g p q => ?_)
    · by_cases h : a ≤ a'
      · rw [cnt1 h, cnt2 h]
        exact hX a' ha'
      · rw [show a' - a = 0 by omega]
        exact hXa
    · rw [cnt1 haa, cnt2 haa]
      exact kk T' R' c e l a' s' m' g p q
  | 22, _, ej =>
    refine Wp.swIn (pc := 33) (v := (22 : Int32)) 772 dL_33 ej (by decide) (by decide) rfl (by decide) ?_
    exact lc_22 (a := a) hLw hL hi hXa hG hB k0
  | 23, _, ej =>
    refine Wp.swIn (pc := 33) (v := (23 : Int32)) 805 dL_33 ej (by decide) (by decide) rfl (by decide) ?_
    exact lc_23 (a := a) hLw hL hi hXa hG hB k0
  | 24, _, ej =>
    refine Wp.swIn (pc := 33) (v := (24 : Int32)) 849 dL_33 ej (by decide) (by decide) rfl (by decide) ?_
    by_cases hz : xs (i + 3) = 0
    · exact lc_24a (a := a) hLw hL hi hz hXa hG hB k0
    · exact lc_24b (a := a) hLw hL hi hz hXa hG hB k0
  | 25, _, ej =>
    refine Wp.swIn (pc := 33) (v := (25 : Int32)) 908 dL_33 ej (by decide) (by decide) rfl (by decide) ?_
    exact lc_25 (a := a) hLw hL hi hXa hG hB k0
  | 26, _, ej =>
    refine Wp.swIn (pc := 33) (v := (26 : Int32)) 921 dL_33 ej (by decide) (by decide) rfl (by decide) ?_
    exact lc_26 (a := a) hLw hL hi hXa hG hB k0
  | 27, _, ej =>
    refine Wp.swIn (pc := 33) (v := (27 : Int32)) 954 dL_33 ej (by decide) (by decide) rfl (by decide) ?_
    exact lc_27 (a := a) hLw hL hi hXa hG hB k0
  | 28, _, ej =>
    refine Wp.swIn (pc := 33) (v := (28 : Int32)) 997 dL_33 ej (by decide) (by decide) rfl (by decide) ?_
    exact lc_28 (a := a) hLw hL hi hXa hG hB k0
  | 29, _, ej =>
    refine Wp.swIn (pc := 33) (v := (29 : Int32)) 1040 dL_33 ej (by decide) (by decide) rfl (by decide) ?_
    exact lc_29 (a := a) hLw hL hi hXa hG hB k0
  | 30, _, ej =>
    refine Wp.swIn (pc := 33) (v := (30 : Int32)) 1063 dL_33 ej (by decide) (by decide) rfl (by decide) ?_
    exact lc_30 (a := a) hLw hL hi hXa hG hB k0
  | 31, _, ej =>
    refine Wp.swIn (pc := 33) (v := (31 : Int32)) 1086 dL_33 ej (by decide) (by decide) rfl (by decide) ?_
    exact lc_31 (a := a) hLw hL hi hXa hG hB k0
  | j + 32, h, _ => exact absurd h (by omega)
set_option maxHeartbeats 4000000 in
set_option maxRecDepth 100000 in
theorem law_loop {X : CX} {b L n1 n2 : Nat} {xs : Nat → Int32} (hLw : XLw X b L xs) (hL : L ≤ 3072) (hX : ∀ a, a ≤ 1 → XR X 80 (n1 + 2 * a) (n2 + 41472 * a)) (hE : ∀ (T : List Dsc) (μ : Mem) (a : Nat) (lo : List (Nat × Value)), a ≤ 1 → Wp X code RL 4 T μ (n1 + 2 * a) (n2 + 41472 * a) 1115 lo []) : ∀ (k i : Nat), L < i + k → i ≤ 4000 → ∀ (T : List Dsc) (R : RM) (c e l a : Nat) (s : SS) (m : M2), Geo T R c e → PH T R a → BS m c l s → Wp X code RL 4 T (mk m R) (n1 + 2 * a) (n2 + 41472 * a) 18 [(0, .ref 1000), (1, .ref 0), (2, .ref 56), (3, .int (nI i))] [] := by
  intro k
  induction k with
  | zero =>
    intro i hk hi T R c e l a s m hG hP hB
    refine Wp.iload_n (pc := 18) 3 rfl rfl dL_18 ?_
    refine Wp.aload_n (pc := 19) 0 rfl rfl dL_19 ?_
    refine Wp.slen (pc := 20) hLw dL_20 ?_
    refine Wp.bipush (pc := 21) (6 : Int32) (by decide) dL_21 ?_
    refine Wp.isub (pc := 23) dL_23 ?_
    refine Wp.icmp_gt (pc := 24) 1115 dL_24 (by decide) (fun _ => hE _ _ _ _ hP.le) (fun h => ?_)
    have := le6 hL hi h
    omega
  | succ k ih =>
    intro i hk hi T R c e l a s m hG hP hB
    refine Wp.iload_n (pc := 18) 3 rfl rfl dL_18 ?_
    refine Wp.aload_n (pc := 19) 0 rfl rfl dL_19 ?_
    refine Wp.slen (pc := 20) hLw dL_20 ?_
    refine Wp.bipush (pc := 21) (6 : Int32) (by decide) dL_21 ?_
    refine Wp.isub (pc := 23) dL_23 ?_
    refine Wp.icmp_gt (pc := 24) 1115 dL_24 (by decide) (fun _ => hE _ _ _ _ hP.le) (fun h => ?_)
    have h6 := le6 hL hi h
    refine Wp.aload_n (pc := 27) 0 rfl rfl dL_27 ?_
    refine Wp.iload_n (pc := 28) 3 rfl rfl dL_28 ?_
    refine Wp.sld (pc := 29) hLw (vp_in_nI (by omega) (by omega)) dL_29 ?_
    rw [nI_clamp (by omega)]
    refine Wp.bipush (pc := 30) (31 : Int32) (by decide) dL_30 ?_
    refine Wp.iand (pc := 32) dL_32 ?_
    refine law_sw hLw hL h6 hX hG hP hB (fun T R c e l a s m hG hP hB => ?_)
    refine Wp.iinc (pc := 1109) (lo' := [(0, .ref 1000), (1, .ref 0), (2, .ref 56), (3, .int (nI i + 6))]) (6 : Int32) (by decide) 3 rfl [1, 2, 3, 0] rfl (by decide) dL_1109 ?_
    refine Wp.goto (pc := 1112) 18 dL_1112 (by decide) ?_
    rw [show nI i + 6 = nI (i + 6) from nI_add i 6]
    exact ih (i + 6) (by omega) (by omega) T R c e l a s m hG hP hB
