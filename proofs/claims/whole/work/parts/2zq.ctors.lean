/-! ===== the constructors: printed by program from the bytecode ===== -/
theorem tapp {T L : List Dsc} {k : Nat} {d : Dsc} (h : T[k]? = some d) : (T ++ L)[k]? = some d := by rw [List.getElem?_append_left (List.getElem?_eq_some_iff.mp h).1]; exact h
theorem vbn {M : Nat} : ∀ v ∈ ([] : List Value), vbl M v := fun v h => by cases h
theorem vbc {M : Nat} {v : Value} {l : List Value} (h : vbl M v) (hl : ∀ v ∈ l, vbl M v) : ∀ u ∈ v :: l, vbl M u := fun u hu => (List.mem_cons.mp hu).elim (fun e => e ▸ h) (hl u)
theorem vbr {M r : Nat} (h : r < M) : vbl M (.ref r) := h
theorem lbn {M : Nat} : ∀ q ∈ ([] : List (Nat × Value)), vbl M q.2 := fun v h => by cases h
theorem lbc {M i : Nat} {v : Value} {l : List (Nat × Value)} (h : vbl M v) (hl : ∀ q ∈ l, vbl M q.2) : ∀ q ∈ (i, v) :: l, vbl M q.2 := fun u hu => (List.mem_cons.mp hu).elim (fun e => e ▸ h) (hl u)
theorem tlen1 {T : List Dsc} {n : Nat} {d : Dsc} (h : T.length = n) : (T ++ [d]).length = n + 1 := by rw [List.length_append, h]; rfl
theorem Wp.newA1 {X : CX} {cc : ByteArray} {own : String} {nL : Nat} {T : List Dsc} {μ : Mem} {n1 n2 pc : Nat} {lo : List (Nat × Value)} {st : List Value} {d M : Nat} {atype : ArrayType} {ty : FieldType} {n : Int32} {N : Nat} (hM : T.length = M) (hF : Frs μ M) (hO : XOl X M) (hX : XR X d (n1 + 1) (n2 + N)) (hst : ∀ v ∈ st, vbl M v) (hlo : ∀ q ∈ lo, vbl M q.2) (harr : Cond.arrayClass (newarray.typeOf atype) ∈ gw) (hty : newarray.typeOf atype = ty) (hdf : isI ty = true ∨ ty = .long) (hn0 : ¬ n < 0) (hN : n.toNatClampNeg = N) (hbytes : N * componentBytes ty ≤ 536870912) (hd : decode cc pc = .ok (.newarray atype, 2))
    (kk : Wp X cc own nL (T ++ [.inr (ty, N)]) μ (n1 + 1) (n2 + N) (pc + 2) lo (.ref M :: st)) : Wp X cc own nL T μ n1 n2 pc lo (.int n :: st) := by
  subst hM
  exact Wp.newA hF hO hX hst hlo harr hty hdf hn0 hN hbytes hd kk
theorem dX0_init_0 : decode cX0_init 0 = .ok (.aload_n 0, 1) := by decide +kernel
theorem dX0_init_1 : decode cX0_init 1 = .ok (.invokespecial 1, 3) := by decide +kernel
theorem dX0_init_4 : decode cX0_init 4 = .ok (.aload_n 0, 1) := by decide +kernel
theorem dX0_init_5 : decode cX0_init 5 = .ok (.aload_n 1, 1) := by decide +kernel
theorem dX0_init_6 : decode cX0_init 6 = .ok (.putfield 7, 3) := by decide +kernel
theorem dX0_init_9 : decode cX0_init 9 = .ok (.return_, 1) := by decide +kernel
theorem oi_RX0 : OI RX0 1 := ⟨gw_tb 362 (by decide +kernel) rfl, gw_tb 27 (by decide +kernel) rfl, gw_tb 28 (by decide +kernel) rfl⟩
theorem nk_RX0_7 : FK RX0 7 0 0 := ⟨_, _, _, rfl, by decide, gw_tb 363 (by decide +kernel) rfl⟩
theorem nf_RX0_0_0 : FKf RX0 0 0 true := by
  intro C TT N h
  cases h
  exact ⟨rfl, fun h => rfl⟩
set_option maxHeartbeats 4000000 in
set_option maxRecDepth 100000 in
theorem ct_X0_init {T : List Dsc} {μ : Mem} {n : Nat} {b : Nat} {p1 : Nat} (hb : b < n) (hp1 : p1 < n) (hn : T.length = n) (hT : T[b]? = some (.inl 0)) (hF : Frs μ n) : CtA 1 yX0_init cX0_init 2 none T μ [.ref b , .ref p1] none T (sR μ b 0 (some p1)) 0 0 ∧ Frs (sR μ b 0 (some p1)) (n + 0) := by
  refine ⟨CtA.ofV (by decide +kernel) (Nat.le_of_ble_eq_true rfl) (fun X hX hN hO hQ => ?_), ?_⟩
  rotate_left
  · have hF : Frs μ (n + 0) := hF.up (by omega)
    have hF := hF.sR (k := b) (j := 0) (r := p1) (by omega) (by omega)
    exact hF
  refine Wp.lo' (lo' := [(0, .ref b), (1, .ref p1)]) [0, 1] rfl ?_
  rw [hn] at hO
  refine Wp.aload_n (pc := 0) 0 rfl rfl dX0_init_0 ?_
  refine Wp.objI (pc := 1) oi_RX0 (hX.le (Nat.le_refl _)  (by decide) (by decide)) (Nat.le_refl _) (by decide) dX0_init_1 ?_
  refine Wp.aload_n (pc := 4) 0 rfl rfl dX0_init_4 ?_
  refine Wp.aload_n (pc := 5) 1 rfl rfl dX0_init_5 ?_
  refine Wp.putFR (pc := 6) hN hT nk_RX0_7 nf_RX0_0_0 rfl dX0_init_6 ?_
  have hF := hF.sR (k := b) (j := 0) (r := p1) (by omega) (by omega)
  exact hQ 9 _ dX0_init_9
theorem dX1_init_0 : decode cX1_init 0 = .ok (.aload_n 0, 1) := by decide +kernel
theorem dX1_init_1 : decode cX1_init 1 = .ok (.invokespecial 3, 3) := by decide +kernel
theorem dX1_init_4 : decode cX1_init 4 = .ok (.aload_n 0, 1) := by decide +kernel
theorem dX1_init_5 : decode cX1_init 5 = .ok (.bipush 12, 2) := by decide +kernel
theorem dX1_init_7 : decode cX1_init 7 = .ok (.newarray .int, 2) := by decide +kernel
theorem dX1_init_9 : decode cX1_init 9 = .ok (.putfield 9, 3) := by decide +kernel
theorem dX1_init_12 : decode cX1_init 12 = .ok (.aload_n 0, 1) := by decide +kernel
theorem dX1_init_13 : decode cX1_init 13 = .ok (.bipush 12, 2) := by decide +kernel
theorem dX1_init_15 : decode cX1_init 15 = .ok (.newarray .int, 2) := by decide +kernel
theorem dX1_init_17 : decode cX1_init 17 = .ok (.putfield 15, 3) := by decide +kernel
theorem dX1_init_20 : decode cX1_init 20 = .ok (.aload_n 0, 1) := by decide +kernel
theorem dX1_init_21 : decode cX1_init 21 = .ok (.iconst (-1), 1) := by decide +kernel
theorem dX1_init_22 : decode cX1_init 22 = .ok (.putfield 18, 3) := by decide +kernel
theorem dX1_init_25 : decode cX1_init 25 = .ok (.return_, 1) := by decide +kernel
theorem oi_RX1 : OI RX1 3 := ⟨gw_tb 283 (by decide +kernel) rfl, gw_tb 27 (by decide +kernel) rfl, gw_tb 28 (by decide +kernel) rfl⟩
theorem ar_int : Cond.arrayClass (.int) ∈ gw := gw_tb 119 (by decide +kernel) rfl
theorem nk_RX1_9 : FK RX1 9 1 1 := ⟨_, _, _, rfl, by decide, gw_tb 289 (by decide +kernel) rfl⟩
theorem nf_RX1_1_1 : FKf RX1 1 1 true := by
  intro C TT N h
  cases h
  exact ⟨rfl, fun h => rfl⟩
theorem nk_RX1_15 : FK RX1 15 1 2 := ⟨_, _, _, rfl, by decide, gw_tb 291 (by decide +kernel) rfl⟩
theorem nf_RX1_1_2 : FKf RX1 1 2 true := by
  intro C TT N h
  cases h
  exact ⟨rfl, fun h => rfl⟩
theorem nk_RX1_18 : FK RX1 18 1 3 := ⟨_, _, _, rfl, by decide, gw_tb 296 (by decide +kernel) rfl⟩
theorem nf_RX1_1_3 : FKf RX1 1 3 false := by
  intro C TT N h
  cases h
  exact ⟨rfl, fun h => by cases h⟩
set_option maxHeartbeats 4000000 in
set_option maxRecDepth 100000 in
theorem ct_X1_init {T : List Dsc} {μ : Mem} {n : Nat} {b : Nat} (hb : b < n) (hn : T.length = n) (hT : T[b]? = some (.inl 1)) (hF : Frs μ n) : CtA 1 yX1_init cX1_init 1 none T μ [.ref b] none ((T ++ [.inr (.int, 12)]) ++ [.inr (.int, 12)]) (sI (sR (sR μ b 1 (some (n))) b 2 (some (n + 1))) b 3 (-1)) 2 24 ∧ Frs (sI (sR (sR μ b 1 (some (n))) b 2 (some (n + 1))) b 3 (-1)) (n + 2) := by
  refine ⟨CtA.ofV (by decide +kernel) (Nat.le_of_ble_eq_true rfl) (fun X hX hN hO hQ => ?_), ?_⟩
  rotate_left
  · have hF : Frs μ (n + 2) := hF.up (by omega)
    have hF := hF.sR (k := b) (j := 1) (r := (n)) (by omega) (by omega)
    have hF := hF.sR (k := b) (j := 2) (r := (n + 1)) (by omega) (by omega)
    have hF := hF.sI (k := b) (j := 3) (v := (-1)) (by omega)
    exact hF
  refine Wp.lo' (lo' := [(0, .ref b)]) [0] rfl ?_
  rw [hn] at hO
  refine Wp.aload_n (pc := 0) 0 rfl rfl dX1_init_0 ?_
  refine Wp.objI (pc := 1) oi_RX1 (hX.le (Nat.le_refl _)  (by decide) (by decide)) (Nat.le_refl _) (by decide) dX1_init_1 ?_
  refine Wp.aload_n (pc := 4) 0 rfl rfl dX1_init_4 ?_
  refine Wp.bipush (pc := 5) (12 : Int32) (by decide) dX1_init_5 ?_
  refine Wp.newA1 (pc := 7) (N := 12) (atype := .int) (ty := .int) hn hF hO (hX.le (Nat.le_refl _) (by decide) (by decide)) (vbc (vbr (by omega)) vbn) (lbc (vbr (by omega)) lbn) ar_int rfl (Or.inl rfl) (by decide) (by decide) (by decide) dX1_init_7 ?_
  have hT := tapp (L := ([.inr (.int, 12)] : List Dsc)) hT
  have hn := tlen1 (d := (.inr (.int, 12) : Dsc)) hn
  have hO := hO.up (Nat.le_succ _)
  have hF := hF.up (Nat.le_succ _)
  refine Wp.putFR (pc := 9) hN hT nk_RX1_9 nf_RX1_1_1 rfl dX1_init_9 ?_
  have hF := hF.sR (k := b) (j := 1) (r := (n)) (by omega) (by omega)
  refine Wp.aload_n (pc := 12) 0 rfl rfl dX1_init_12 ?_
  refine Wp.bipush (pc := 13) (12 : Int32) (by decide) dX1_init_13 ?_
  refine Wp.newA1 (pc := 15) (N := 12) (atype := .int) (ty := .int) hn hF hO (hX.le (Nat.le_refl _) (by decide) (by decide)) (vbc (vbr (by omega)) vbn) (lbc (vbr (by omega)) lbn) ar_int rfl (Or.inl rfl) (by decide) (by decide) (by decide) dX1_init_15 ?_
  have hT := tapp (L := ([.inr (.int, 12)] : List Dsc)) hT
  have hn := tlen1 (d := (.inr (.int, 12) : Dsc)) hn
  have hO := hO.up (Nat.le_succ _)
  have hF := hF.up (Nat.le_succ _)
  refine Wp.putFR (pc := 17) hN hT nk_RX1_15 nf_RX1_1_2 rfl dX1_init_17 ?_
  have hF := hF.sR (k := b) (j := 2) (r := (n + 1)) (by omega) (by omega)
  refine Wp.aload_n (pc := 20) 0 rfl rfl dX1_init_20 ?_
  refine Wp.iconst (pc := 21) (-1 : Int32) (by decide) dX1_init_21 ?_
  refine Wp.putI (pc := 22) hT nk_RX1_18 nf_RX1_1_3 rfl dX1_init_22 ?_
  have hF := hF.sI (k := b) (j := 3) (v := (-1)) (by omega)
  exact hQ 25 _ dX1_init_25
theorem dX3_init_0 : decode cX3_init 0 = .ok (.aload_n 0, 1) := by decide +kernel
theorem dX3_init_1 : decode cX3_init 1 = .ok (.invokespecial 3, 3) := by decide +kernel
theorem dX3_init_4 : decode cX3_init 4 = .ok (.aload_n 0, 1) := by decide +kernel
theorem dX3_init_5 : decode cX3_init 5 = .ok (.bipush 100, 2) := by decide +kernel
theorem dX3_init_7 : decode cX3_init 7 = .ok (.newarray .long, 2) := by decide +kernel
theorem dX3_init_9 : decode cX3_init 9 = .ok (.putfield 9, 3) := by decide +kernel
theorem dX3_init_12 : decode cX3_init 12 = .ok (.return_, 1) := by decide +kernel
theorem oi_RX3 : OI RX3 3 := ⟨gw_tb 325 (by decide +kernel) rfl, gw_tb 27 (by decide +kernel) rfl, gw_tb 28 (by decide +kernel) rfl⟩
theorem ar_long : Cond.arrayClass (.long) ∈ gw := gw_tb 212 (by decide +kernel) rfl
theorem nk_RX3_9 : FK RX3 9 2 0 := ⟨_, _, _, rfl, by decide, gw_tb 326 (by decide +kernel) rfl⟩
theorem nf_RX3_2_0 : FKf RX3 2 0 true := by
  intro C TT N h
  cases h
  exact ⟨rfl, fun h => rfl⟩
set_option maxHeartbeats 4000000 in
set_option maxRecDepth 100000 in
theorem ct_X3_init {T : List Dsc} {μ : Mem} {n : Nat} {b : Nat} (hb : b < n) (hn : T.length = n) (hT : T[b]? = some (.inl 2)) (hF : Frs μ n) : CtA 1 yX3_init cX3_init 1 none T μ [.ref b] none (T ++ [.inr (.long, 100)]) (sR μ b 0 (some (n))) 1 100 ∧ Frs (sR μ b 0 (some (n))) (n + 1) := by
  refine ⟨CtA.ofV (by decide +kernel) (Nat.le_of_ble_eq_true rfl) (fun X hX hN hO hQ => ?_), ?_⟩
  rotate_left
  · have hF : Frs μ (n + 1) := hF.up (by omega)
    have hF := hF.sR (k := b) (j := 0) (r := (n)) (by omega) (by omega)
    exact hF
  refine Wp.lo' (lo' := [(0, .ref b)]) [0] rfl ?_
  rw [hn] at hO
  refine Wp.aload_n (pc := 0) 0 rfl rfl dX3_init_0 ?_
  refine Wp.objI (pc := 1) oi_RX3 (hX.le (Nat.le_refl _)  (by decide) (by decide)) (Nat.le_refl _) (by decide) dX3_init_1 ?_
  refine Wp.aload_n (pc := 4) 0 rfl rfl dX3_init_4 ?_
  refine Wp.bipush (pc := 5) (100 : Int32) (by decide) dX3_init_5 ?_
  refine Wp.newA1 (pc := 7) (N := 100) (atype := .long) (ty := .long) hn hF hO (hX.le (Nat.le_refl _) (by decide) (by decide)) (vbc (vbr (by omega)) vbn) (lbc (vbr (by omega)) lbn) ar_long rfl (Or.inr rfl) (by decide) (by decide) (by decide) dX3_init_7 ?_
  have hT := tapp (L := ([.inr (.long, 100)] : List Dsc)) hT
  have hn := tlen1 (d := (.inr (.long, 100) : Dsc)) hn
  have hO := hO.up (Nat.le_succ _)
  have hF := hF.up (Nat.le_succ _)
  refine Wp.putFR (pc := 9) hN hT nk_RX3_9 nf_RX3_2_0 rfl dX3_init_9 ?_
  have hF := hF.sR (k := b) (j := 0) (r := (n)) (by omega) (by omega)
  exact hQ 12 _ dX3_init_12
theorem dX5_init_0 : decode cX5_init 0 = .ok (.aload_n 0, 1) := by decide +kernel
theorem dX5_init_1 : decode cX5_init 1 = .ok (.invokespecial 5, 3) := by decide +kernel
theorem dX5_init_4 : decode cX5_init 4 = .ok (.aload_n 0, 1) := by decide +kernel
theorem dX5_init_5 : decode cX5_init 5 = .ok (.bipush 64, 2) := by decide +kernel
theorem dX5_init_7 : decode cX5_init 7 = .ok (.newarray .int, 2) := by decide +kernel
theorem dX5_init_9 : decode cX5_init 9 = .ok (.putfield 11, 3) := by decide +kernel
theorem dX5_init_12 : decode cX5_init 12 = .ok (.aload_n 0, 1) := by decide +kernel
theorem dX5_init_13 : decode cX5_init 13 = .ok (.bipush 6, 2) := by decide +kernel
theorem dX5_init_15 : decode cX5_init 15 = .ok (.newarray .int, 2) := by decide +kernel
theorem dX5_init_17 : decode cX5_init 17 = .ok (.putfield 17, 3) := by decide +kernel
theorem dX5_init_20 : decode cX5_init 20 = .ok (.aload_n 0, 1) := by decide +kernel
theorem dX5_init_21 : decode cX5_init 21 = .ok (.bipush 24, 2) := by decide +kernel
theorem dX5_init_23 : decode cX5_init 23 = .ok (.newarray .int, 2) := by decide +kernel
theorem dX5_init_25 : decode cX5_init 25 = .ok (.putfield 20, 3) := by decide +kernel
theorem dX5_init_28 : decode cX5_init 28 = .ok (.aload_n 0, 1) := by decide +kernel
theorem dX5_init_29 : decode cX5_init 29 = .ok (.bipush 12, 2) := by decide +kernel
theorem dX5_init_31 : decode cX5_init 31 = .ok (.newarray .int, 2) := by decide +kernel
theorem dX5_init_33 : decode cX5_init 33 = .ok (.putfield 23, 3) := by decide +kernel
theorem dX5_init_36 : decode cX5_init 36 = .ok (.aload_n 0, 1) := by decide +kernel
theorem dX5_init_37 : decode cX5_init 37 = .ok (.aload_n 1, 1) := by decide +kernel
theorem dX5_init_38 : decode cX5_init 38 = .ok (.putfield 26, 3) := by decide +kernel
theorem dX5_init_41 : decode cX5_init 41 = .ok (.return_, 1) := by decide +kernel
theorem oi_RX5 : OI RX5 5 := ⟨gw_tb 256 (by decide +kernel) rfl, gw_tb 27 (by decide +kernel) rfl, gw_tb 28 (by decide +kernel) rfl⟩
theorem nk_RX5_11 : FK RX5 11 4 1 := ⟨_, _, _, rfl, by decide, gw_tb 263 (by decide +kernel) rfl⟩
theorem nf_RX5_4_1 : FKf RX5 4 1 true := by
  intro C TT N h
  cases h
  exact ⟨rfl, fun h => rfl⟩
theorem nk_RX5_17 : FK RX5 17 4 2 := ⟨_, _, _, rfl, by decide, gw_tb 264 (by decide +kernel) rfl⟩
theorem nf_RX5_4_2 : FKf RX5 4 2 true := by
  intro C TT N h
  cases h
  exact ⟨rfl, fun h => rfl⟩
theorem nk_RX5_20 : FK RX5 20 4 3 := ⟨_, _, _, rfl, by decide, gw_tb 265 (by decide +kernel) rfl⟩
theorem nf_RX5_4_3 : FKf RX5 4 3 true := by
  intro C TT N h
  cases h
  exact ⟨rfl, fun h => rfl⟩
theorem nk_RX5_23 : FK RX5 23 4 4 := ⟨_, _, _, rfl, by decide, gw_tb 266 (by decide +kernel) rfl⟩
theorem nf_RX5_4_4 : FKf RX5 4 4 true := by
  intro C TT N h
  cases h
  exact ⟨rfl, fun h => rfl⟩
theorem nk_RX5_26 : FK RX5 26 4 0 := ⟨_, _, _, rfl, by decide, gw_tb 257 (by decide +kernel) rfl⟩
theorem nf_RX5_4_0 : FKf RX5 4 0 false := by
  intro C TT N h
  cases h
  exact ⟨rfl, fun h => by cases h⟩
set_option maxHeartbeats 4000000 in
set_option maxRecDepth 100000 in
theorem ct_X5_init {T : List Dsc} {μ : Mem} {n : Nat} {b : Nat} {p1 : Nat} (hb : b < n) (hp1 : p1 < n) (hn : T.length = n) (hT : T[b]? = some (.inl 4)) (hF : Frs μ n) : CtA 1 yX5_init cX5_init 2 none T μ [.ref b , .ref p1] none ((((T ++ [.inr (.int, 64)]) ++ [.inr (.int, 6)]) ++ [.inr (.int, 24)]) ++ [.inr (.int, 12)]) (sR (sR (sR (sR (sR μ b 1 (some (n))) b 2 (some (n + 1))) b 3 (some (n + 2))) b 4 (some (n + 3))) b 0 (some p1)) 4 106 ∧ Frs (sR (sR (sR (sR (sR μ b 1 (some (n))) b 2 (some (n + 1))) b 3 (some (n + 2))) b 4 (some (n + 3))) b 0 (some p1)) (n + 4) := by
  refine ⟨CtA.ofV (by decide +kernel) (Nat.le_of_ble_eq_true rfl) (fun X hX hN hO hQ => ?_), ?_⟩
  rotate_left
  · have hF : Frs μ (n + 4) := hF.up (by omega)
    have hF := hF.sR (k := b) (j := 1) (r := (n)) (by omega) (by omega)
    have hF := hF.sR (k := b) (j := 2) (r := (n + 1)) (by omega) (by omega)
    have hF := hF.sR (k := b) (j := 3) (r := (n + 2)) (by omega) (by omega)
    have hF := hF.sR (k := b) (j := 4) (r := (n + 3)) (by omega) (by omega)
    have hF := hF.sR (k := b) (j := 0) (r := p1) (by omega) (by omega)
    exact hF
  refine Wp.lo' (lo' := [(0, .ref b), (1, .ref p1)]) [0, 1] rfl ?_
  rw [hn] at hO
  refine Wp.aload_n (pc := 0) 0 rfl rfl dX5_init_0 ?_
  refine Wp.objI (pc := 1) oi_RX5 (hX.le (Nat.le_refl _)  (by decide) (by decide)) (Nat.le_refl _) (by decide) dX5_init_1 ?_
  refine Wp.aload_n (pc := 4) 0 rfl rfl dX5_init_4 ?_
  refine Wp.bipush (pc := 5) (64 : Int32) (by decide) dX5_init_5 ?_
  refine Wp.newA1 (pc := 7) (N := 64) (atype := .int) (ty := .int) hn hF hO (hX.le (Nat.le_refl _) (by decide) (by decide)) (vbc (vbr (by omega)) vbn) (lbc (vbr (by omega)) (lbc (vbr (by omega)) lbn)) ar_int rfl (Or.inl rfl) (by decide) (by decide) (by decide) dX5_init_7 ?_
  have hT := tapp (L := ([.inr (.int, 64)] : List Dsc)) hT
  have hn := tlen1 (d := (.inr (.int, 64) : Dsc)) hn
  have hO := hO.up (Nat.le_succ _)
  have hF := hF.up (Nat.le_succ _)
  refine Wp.putFR (pc := 9) hN hT nk_RX5_11 nf_RX5_4_1 rfl dX5_init_9 ?_
  have hF := hF.sR (k := b) (j := 1) (r := (n)) (by omega) (by omega)
  refine Wp.aload_n (pc := 12) 0 rfl rfl dX5_init_12 ?_
  refine Wp.bipush (pc := 13) (6 : Int32) (by decide) dX5_init_13 ?_
  refine Wp.newA1 (pc := 15) (N := 6) (atype := .int) (ty := .int) hn hF hO (hX.le (Nat.le_refl _) (by decide) (by decide)) (vbc (vbr (by omega)) vbn) (lbc (vbr (by omega)) (lbc (vbr (by omega)) lbn)) ar_int rfl (Or.inl rfl) (by decide) (by decide) (by decide) dX5_init_15 ?_
  have hT := tapp (L := ([.inr (.int, 6)] : List Dsc)) hT
  have hn := tlen1 (d := (.inr (.int, 6) : Dsc)) hn
  have hO := hO.up (Nat.le_succ _)
  have hF := hF.up (Nat.le_succ _)
  refine Wp.putFR (pc := 17) hN hT nk_RX5_17 nf_RX5_4_2 rfl dX5_init_17 ?_
  have hF := hF.sR (k := b) (j := 2) (r := (n + 1)) (by omega) (by omega)
  refine Wp.aload_n (pc := 20) 0 rfl rfl dX5_init_20 ?_
  refine Wp.bipush (pc := 21) (24 : Int32) (by decide) dX5_init_21 ?_
  refine Wp.newA1 (pc := 23) (N := 24) (atype := .int) (ty := .int) hn hF hO (hX.le (Nat.le_refl _) (by decide) (by decide)) (vbc (vbr (by omega)) vbn) (lbc (vbr (by omega)) (lbc (vbr (by omega)) lbn)) ar_int rfl (Or.inl rfl) (by decide) (by decide) (by decide) dX5_init_23 ?_
  have hT := tapp (L := ([.inr (.int, 24)] : List Dsc)) hT
  have hn := tlen1 (d := (.inr (.int, 24) : Dsc)) hn
  have hO := hO.up (Nat.le_succ _)
  have hF := hF.up (Nat.le_succ _)
  refine Wp.putFR (pc := 25) hN hT nk_RX5_20 nf_RX5_4_3 rfl dX5_init_25 ?_
  have hF := hF.sR (k := b) (j := 3) (r := (n + 2)) (by omega) (by omega)
  refine Wp.aload_n (pc := 28) 0 rfl rfl dX5_init_28 ?_
  refine Wp.bipush (pc := 29) (12 : Int32) (by decide) dX5_init_29 ?_
  refine Wp.newA1 (pc := 31) (N := 12) (atype := .int) (ty := .int) hn hF hO (hX.le (Nat.le_refl _) (by decide) (by decide)) (vbc (vbr (by omega)) vbn) (lbc (vbr (by omega)) (lbc (vbr (by omega)) lbn)) ar_int rfl (Or.inl rfl) (by decide) (by decide) (by decide) dX5_init_31 ?_
  have hT := tapp (L := ([.inr (.int, 12)] : List Dsc)) hT
  have hn := tlen1 (d := (.inr (.int, 12) : Dsc)) hn
  have hO := hO.up (Nat.le_succ _)
  have hF := hF.up (Nat.le_succ _)
  refine Wp.putFR (pc := 33) hN hT nk_RX5_23 nf_RX5_4_4 rfl dX5_init_33 ?_
  have hF := hF.sR (k := b) (j := 4) (r := (n + 3)) (by omega) (by omega)
  refine Wp.aload_n (pc := 36) 0 rfl rfl dX5_init_36 ?_
  refine Wp.aload_n (pc := 37) 1 rfl rfl dX5_init_37 ?_
  refine Wp.putR (pc := 38) hT nk_RX5_26 nf_RX5_4_0 rfl dX5_init_38 ?_
  have hF := hF.sR (k := b) (j := 0) (r := p1) (by omega) (by omega)
  exact hQ 41 _ dX5_init_41
theorem dX6_init_0 : decode cX6_init 0 = .ok (.aload_n 0, 1) := by decide +kernel
theorem dX6_init_1 : decode cX6_init 1 = .ok (.invokespecial 3, 3) := by decide +kernel
theorem dX6_init_4 : decode cX6_init 4 = .ok (.aload_n 0, 1) := by decide +kernel
theorem dX6_init_5 : decode cX6_init 5 = .ok (.bipush 12, 2) := by decide +kernel
theorem dX6_init_7 : decode cX6_init 7 = .ok (.newarray .int, 2) := by decide +kernel
theorem dX6_init_9 : decode cX6_init 9 = .ok (.putfield 9, 3) := by decide +kernel
theorem dX6_init_12 : decode cX6_init 12 = .ok (.aload_n 0, 1) := by decide +kernel
theorem dX6_init_13 : decode cX6_init 13 = .ok (.bipush 12, 2) := by decide +kernel
theorem dX6_init_15 : decode cX6_init 15 = .ok (.newarray .int, 2) := by decide +kernel
theorem dX6_init_17 : decode cX6_init 17 = .ok (.putfield 15, 3) := by decide +kernel
theorem dX6_init_20 : decode cX6_init 20 = .ok (.aload_n 0, 1) := by decide +kernel
theorem dX6_init_21 : decode cX6_init 21 = .ok (.bipush 12, 2) := by decide +kernel
theorem dX6_init_23 : decode cX6_init 23 = .ok (.newarray .int, 2) := by decide +kernel
theorem dX6_init_25 : decode cX6_init 25 = .ok (.putfield 18, 3) := by decide +kernel
theorem dX6_init_28 : decode cX6_init 28 = .ok (.aload_n 0, 1) := by decide +kernel
theorem dX6_init_29 : decode cX6_init 29 = .ok (.aload_n 1, 1) := by decide +kernel
theorem dX6_init_30 : decode cX6_init 30 = .ok (.putfield 21, 3) := by decide +kernel
theorem dX6_init_33 : decode cX6_init 33 = .ok (.return_, 1) := by decide +kernel
theorem oi_RX6 : OI RX6 3 := ⟨gw_tb 342 (by decide +kernel) rfl, gw_tb 27 (by decide +kernel) rfl, gw_tb 28 (by decide +kernel) rfl⟩
theorem nk_RX6_9 : FK RX6 9 5 1 := ⟨_, _, _, rfl, by decide, gw_tb 344 (by decide +kernel) rfl⟩
theorem nf_RX6_5_1 : FKf RX6 5 1 true := by
  intro C TT N h
  cases h
  exact ⟨rfl, fun h => rfl⟩
theorem nk_RX6_15 : FK RX6 15 5 2 := ⟨_, _, _, rfl, by decide, gw_tb 345 (by decide +kernel) rfl⟩
theorem nf_RX6_5_2 : FKf RX6 5 2 true := by
  intro C TT N h
  cases h
  exact ⟨rfl, fun h => rfl⟩
theorem nk_RX6_18 : FK RX6 18 5 3 := ⟨_, _, _, rfl, by decide, gw_tb 347 (by decide +kernel) rfl⟩
theorem nf_RX6_5_3 : FKf RX6 5 3 true := by
  intro C TT N h
  cases h
  exact ⟨rfl, fun h => rfl⟩
theorem nk_RX6_21 : FK RX6 21 5 0 := ⟨_, _, _, rfl, by decide, gw_tb 343 (by decide +kernel) rfl⟩
theorem nf_RX6_5_0 : FKf RX6 5 0 true := by
  intro C TT N h
  cases h
  exact ⟨rfl, fun h => rfl⟩
set_option maxHeartbeats 4000000 in
set_option maxRecDepth 100000 in
theorem ct_X6_init {T : List Dsc} {μ : Mem} {n : Nat} {b : Nat} {p1 : Nat} (hb : b < n) (hp1 : p1 < n) (hn : T.length = n) (hT : T[b]? = some (.inl 5)) (hF : Frs μ n) : CtA 1 yX6_init cX6_init 2 none T μ [.ref b , .ref p1] none (((T ++ [.inr (.int, 12)]) ++ [.inr (.int, 12)]) ++ [.inr (.int, 12)]) (sR (sR (sR (sR μ b 1 (some (n))) b 2 (some (n + 1))) b 3 (some (n + 2))) b 0 (some p1)) 3 36 ∧ Frs (sR (sR (sR (sR μ b 1 (some (n))) b 2 (some (n + 1))) b 3 (some (n + 2))) b 0 (some p1)) (n + 3) := by
  refine ⟨CtA.ofV (by decide +kernel) (Nat.le_of_ble_eq_true rfl) (fun X hX hN hO hQ => ?_), ?_⟩
  rotate_left
  · have hF : Frs μ (n + 3) := hF.up (by omega)
    have hF := hF.sR (k := b) (j := 1) (r := (n)) (by omega) (by omega)
    have hF := hF.sR (k := b) (j := 2) (r := (n + 1)) (by omega) (by omega)
    have hF := hF.sR (k := b) (j := 3) (r := (n + 2)) (by omega) (by omega)
    have hF := hF.sR (k := b) (j := 0) (r := p1) (by omega) (by omega)
    exact hF
  refine Wp.lo' (lo' := [(0, .ref b), (1, .ref p1)]) [0, 1] rfl ?_
  rw [hn] at hO
  refine Wp.aload_n (pc := 0) 0 rfl rfl dX6_init_0 ?_
  refine Wp.objI (pc := 1) oi_RX6 (hX.le (Nat.le_refl _)  (by decide) (by decide)) (Nat.le_refl _) (by decide) dX6_init_1 ?_
  refine Wp.aload_n (pc := 4) 0 rfl rfl dX6_init_4 ?_
  refine Wp.bipush (pc := 5) (12 : Int32) (by decide) dX6_init_5 ?_
  refine Wp.newA1 (pc := 7) (N := 12) (atype := .int) (ty := .int) hn hF hO (hX.le (Nat.le_refl _) (by decide) (by decide)) (vbc (vbr (by omega)) vbn) (lbc (vbr (by omega)) (lbc (vbr (by omega)) lbn)) ar_int rfl (Or.inl rfl) (by decide) (by decide) (by decide) dX6_init_7 ?_
  have hT := tapp (L := ([.inr (.int, 12)] : List Dsc)) hT
  have hn := tlen1 (d := (.inr (.int, 12) : Dsc)) hn
  have hO := hO.up (Nat.le_succ _)
  have hF := hF.up (Nat.le_succ _)
  refine Wp.putFR (pc := 9) hN hT nk_RX6_9 nf_RX6_5_1 rfl dX6_init_9 ?_
  have hF := hF.sR (k := b) (j := 1) (r := (n)) (by omega) (by omega)
  refine Wp.aload_n (pc := 12) 0 rfl rfl dX6_init_12 ?_
  refine Wp.bipush (pc := 13) (12 : Int32) (by decide) dX6_init_13 ?_
  refine Wp.newA1 (pc := 15) (N := 12) (atype := .int) (ty := .int) hn hF hO (hX.le (Nat.le_refl _) (by decide) (by decide)) (vbc (vbr (by omega)) vbn) (lbc (vbr (by omega)) (lbc (vbr (by omega)) lbn)) ar_int rfl (Or.inl rfl) (by decide) (by decide) (by decide) dX6_init_15 ?_
  have hT := tapp (L := ([.inr (.int, 12)] : List Dsc)) hT
  have hn := tlen1 (d := (.inr (.int, 12) : Dsc)) hn
  have hO := hO.up (Nat.le_succ _)
  have hF := hF.up (Nat.le_succ _)
  refine Wp.putFR (pc := 17) hN hT nk_RX6_15 nf_RX6_5_2 rfl dX6_init_17 ?_
  have hF := hF.sR (k := b) (j := 2) (r := (n + 1)) (by omega) (by omega)
  refine Wp.aload_n (pc := 20) 0 rfl rfl dX6_init_20 ?_
  refine Wp.bipush (pc := 21) (12 : Int32) (by decide) dX6_init_21 ?_
  refine Wp.newA1 (pc := 23) (N := 12) (atype := .int) (ty := .int) hn hF hO (hX.le (Nat.le_refl _) (by decide) (by decide)) (vbc (vbr (by omega)) vbn) (lbc (vbr (by omega)) (lbc (vbr (by omega)) lbn)) ar_int rfl (Or.inl rfl) (by decide) (by decide) (by decide) dX6_init_23 ?_
  have hT := tapp (L := ([.inr (.int, 12)] : List Dsc)) hT
  have hn := tlen1 (d := (.inr (.int, 12) : Dsc)) hn
  have hO := hO.up (Nat.le_succ _)
  have hF := hF.up (Nat.le_succ _)
  refine Wp.putFR (pc := 25) hN hT nk_RX6_18 nf_RX6_5_3 rfl dX6_init_25 ?_
  have hF := hF.sR (k := b) (j := 3) (r := (n + 2)) (by omega) (by omega)
  refine Wp.aload_n (pc := 28) 0 rfl rfl dX6_init_28 ?_
  refine Wp.aload_n (pc := 29) 1 rfl rfl dX6_init_29 ?_
  refine Wp.putFR (pc := 30) hN hT nk_RX6_21 nf_RX6_5_0 rfl dX6_init_30 ?_
  have hF := hF.sR (k := b) (j := 0) (r := p1) (by omega) (by omega)
  exact hQ 33 _ dX6_init_33
theorem dX7_init_0 : decode cX7_init 0 = .ok (.aload_n 0, 1) := by decide +kernel
theorem dX7_init_1 : decode cX7_init 1 = .ok (.invokespecial 3, 3) := by decide +kernel
theorem dX7_init_4 : decode cX7_init 4 = .ok (.aload_n 0, 1) := by decide +kernel
theorem dX7_init_5 : decode cX7_init 5 = .ok (.bipush 24, 2) := by decide +kernel
theorem dX7_init_7 : decode cX7_init 7 = .ok (.putfield 9, 3) := by decide +kernel
theorem dX7_init_10 : decode cX7_init 10 = .ok (.aload_n 0, 1) := by decide +kernel
theorem dX7_init_11 : decode cX7_init 11 = .ok (.bipush 6, 2) := by decide +kernel
theorem dX7_init_13 : decode cX7_init 13 = .ok (.newarray .int, 2) := by decide +kernel
theorem dX7_init_15 : decode cX7_init 15 = .ok (.putfield 15, 3) := by decide +kernel
theorem dX7_init_18 : decode cX7_init 18 = .ok (.aload_n 0, 1) := by decide +kernel
theorem dX7_init_19 : decode cX7_init 19 = .ok (.sipush 400, 3) := by decide +kernel
theorem dX7_init_22 : decode cX7_init 22 = .ok (.newarray .int, 2) := by decide +kernel
theorem dX7_init_24 : decode cX7_init 24 = .ok (.putfield 19, 3) := by decide +kernel
theorem dX7_init_27 : decode cX7_init 27 = .ok (.aload_n 0, 1) := by decide +kernel
theorem dX7_init_28 : decode cX7_init 28 = .ok (.bipush 12, 2) := by decide +kernel
theorem dX7_init_30 : decode cX7_init 30 = .ok (.newarray .int, 2) := by decide +kernel
theorem dX7_init_32 : decode cX7_init 32 = .ok (.putfield 22, 3) := by decide +kernel
theorem dX7_init_35 : decode cX7_init 35 = .ok (.aload_n 0, 1) := by decide +kernel
theorem dX7_init_36 : decode cX7_init 36 = .ok (.iconst (-1), 1) := by decide +kernel
theorem dX7_init_37 : decode cX7_init 37 = .ok (.putfield 25, 3) := by decide +kernel
theorem dX7_init_40 : decode cX7_init 40 = .ok (.aload_n 0, 1) := by decide +kernel
theorem dX7_init_41 : decode cX7_init 41 = .ok (.iconst (-1), 1) := by decide +kernel
theorem dX7_init_42 : decode cX7_init 42 = .ok (.putfield 28, 3) := by decide +kernel
theorem dX7_init_45 : decode cX7_init 45 = .ok (.aload_n 0, 1) := by decide +kernel
theorem dX7_init_46 : decode cX7_init 46 = .ok (.iconst 4, 1) := by decide +kernel
theorem dX7_init_47 : decode cX7_init 47 = .ok (.newarray .int, 2) := by decide +kernel
theorem dX7_init_49 : decode cX7_init 49 = .ok (.putfield 31, 3) := by decide +kernel
theorem dX7_init_52 : decode cX7_init 52 = .ok (.aload_n 0, 1) := by decide +kernel
theorem dX7_init_53 : decode cX7_init 53 = .ok (.iconst 4, 1) := by decide +kernel
theorem dX7_init_54 : decode cX7_init 54 = .ok (.newarray .int, 2) := by decide +kernel
theorem dX7_init_56 : decode cX7_init 56 = .ok (.putfield 34, 3) := by decide +kernel
theorem dX7_init_59 : decode cX7_init 59 = .ok (.return_, 1) := by decide +kernel
theorem oi_RX7 : OI RX7 3 := ⟨gw_tb 34 (by decide +kernel) rfl, gw_tb 27 (by decide +kernel) rfl, gw_tb 28 (by decide +kernel) rfl⟩
theorem nk_RX7_9 : FK RX7 9 6 0 := ⟨_, _, _, rfl, by decide, gw_tb 35 (by decide +kernel) rfl⟩
theorem nf_RX7_6_0 : FKf RX7 6 0 false := by
  intro C TT N h
  cases h
  exact ⟨rfl, fun h => by cases h⟩
theorem nk_RX7_15 : FK RX7 15 6 2 := ⟨_, _, _, rfl, by decide, gw_tb 45 (by decide +kernel) rfl⟩
theorem nf_RX7_6_2 : FKf RX7 6 2 true := by
  intro C TT N h
  cases h
  exact ⟨rfl, fun h => rfl⟩
theorem nk_RX7_19 : FK RX7 19 6 3 := ⟨_, _, _, rfl, by decide, gw_tb 48 (by decide +kernel) rfl⟩
theorem nf_RX7_6_3 : FKf RX7 6 3 true := by
  intro C TT N h
  cases h
  exact ⟨rfl, fun h => rfl⟩
theorem nk_RX7_22 : FK RX7 22 6 6 := ⟨_, _, _, rfl, by decide, gw_tb 62 (by decide +kernel) rfl⟩
theorem nf_RX7_6_6 : FKf RX7 6 6 true := by
  intro C TT N h
  cases h
  exact ⟨rfl, fun h => rfl⟩
theorem nk_RX7_25 : FK RX7 25 6 8 := ⟨_, _, _, rfl, by decide, gw_tb 70 (by decide +kernel) rfl⟩
theorem nf_RX7_6_8 : FKf RX7 6 8 false := by
  intro C TT N h
  cases h
  exact ⟨rfl, fun h => by cases h⟩
theorem nk_RX7_28 : FK RX7 28 6 10 := ⟨_, _, _, rfl, by decide, gw_tb 78 (by decide +kernel) rfl⟩
theorem nf_RX7_6_10 : FKf RX7 6 10 false := by
  intro C TT N h
  cases h
  exact ⟨rfl, fun h => by cases h⟩
theorem nk_RX7_31 : FK RX7 31 6 12 := ⟨_, _, _, rfl, by decide, gw_tb 85 (by decide +kernel) rfl⟩
theorem nf_RX7_6_12 : FKf RX7 6 12 true := by
  intro C TT N h
  cases h
  exact ⟨rfl, fun h => rfl⟩
theorem nk_RX7_34 : FK RX7 34 6 13 := ⟨_, _, _, rfl, by decide, gw_tb 87 (by decide +kernel) rfl⟩
theorem nf_RX7_6_13 : FKf RX7 6 13 true := by
  intro C TT N h
  cases h
  exact ⟨rfl, fun h => rfl⟩
set_option maxHeartbeats 4000000 in
set_option maxRecDepth 100000 in
theorem ct_X7_init {T : List Dsc} {μ : Mem} {n : Nat} {b : Nat} (hb : b < n) (hn : T.length = n) (hT : T[b]? = some (.inl 6)) (hF : Frs μ n) : CtA 1 yX7_init cX7_init 1 none T μ [.ref b] none (((((T ++ [.inr (.int, 6)]) ++ [.inr (.int, 400)]) ++ [.inr (.int, 12)]) ++ [.inr (.int, 4)]) ++ [.inr (.int, 4)]) (sR (sR (sI (sI (sR (sR (sR (sI μ b 0 (24)) b 2 (some (n))) b 3 (some (n + 1))) b 6 (some (n + 2))) b 8 (-1)) b 10 (-1)) b 12 (some (n + 3))) b 13 (some (n + 4))) 5 426 ∧ Frs (sR (sR (sI (sI (sR (sR (sR (sI μ b 0 (24)) b 2 (some (n))) b 3 (some (n + 1))) b 6 (some (n + 2))) b 8 (-1)) b 10 (-1)) b 12 (some (n + 3))) b 13 (some (n + 4))) (n + 5) := by
  refine ⟨CtA.ofV (by decide +kernel) (Nat.le_of_ble_eq_true rfl) (fun X hX hN hO hQ => ?_), ?_⟩
  rotate_left
  · have hF : Frs μ (n + 5) := hF.up (by omega)
    have hF := hF.sI (k := b) (j := 0) (v := (24)) (by omega)
    have hF := hF.sR (k := b) (j := 2) (r := (n)) (by omega) (by omega)
    have hF := hF.sR (k := b) (j := 3) (r := (n + 1)) (by omega) (by omega)
    have hF := hF.sR (k := b) (j := 6) (r := (n + 2)) (by omega) (by omega)
    have hF := hF.sI (k := b) (j := 8) (v := (-1)) (by omega)
    have hF := hF.sI (k := b) (j := 10) (v := (-1)) (by omega)
    have hF := hF.sR (k := b) (j := 12) (r := (n + 3)) (by omega) (by omega)
    have hF := hF.sR (k := b) (j := 13) (r := (n + 4)) (by omega) (by omega)
    exact hF
  refine Wp.lo' (lo' := [(0, .ref b)]) [0] rfl ?_
  rw [hn] at hO
  refine Wp.aload_n (pc := 0) 0 rfl rfl dX7_init_0 ?_
  refine Wp.objI (pc := 1) oi_RX7 (hX.le (Nat.le_refl _)  (by decide) (by decide)) (Nat.le_refl _) (by decide) dX7_init_1 ?_
  refine Wp.aload_n (pc := 4) 0 rfl rfl dX7_init_4 ?_
  refine Wp.bipush (pc := 5) (24 : Int32) (by decide) dX7_init_5 ?_
  refine Wp.putI (pc := 7) hT nk_RX7_9 nf_RX7_6_0 rfl dX7_init_7 ?_
  have hF := hF.sI (k := b) (j := 0) (v := (24)) (by omega)
  refine Wp.aload_n (pc := 10) 0 rfl rfl dX7_init_10 ?_
  refine Wp.bipush (pc := 11) (6 : Int32) (by decide) dX7_init_11 ?_
  refine Wp.newA1 (pc := 13) (N := 6) (atype := .int) (ty := .int) hn hF hO (hX.le (Nat.le_refl _) (by decide) (by decide)) (vbc (vbr (by omega)) vbn) (lbc (vbr (by omega)) lbn) ar_int rfl (Or.inl rfl) (by decide) (by decide) (by decide) dX7_init_13 ?_
  have hT := tapp (L := ([.inr (.int, 6)] : List Dsc)) hT
  have hn := tlen1 (d := (.inr (.int, 6) : Dsc)) hn
  have hO := hO.up (Nat.le_succ _)
  have hF := hF.up (Nat.le_succ _)
  refine Wp.putFR (pc := 15) hN hT nk_RX7_15 nf_RX7_6_2 rfl dX7_init_15 ?_
  have hF := hF.sR (k := b) (j := 2) (r := (n)) (by omega) (by omega)
  refine Wp.aload_n (pc := 18) 0 rfl rfl dX7_init_18 ?_
  refine Wp.sipush (pc := 19) (400 : Int32) (by decide) dX7_init_19 ?_
  refine Wp.newA1 (pc := 22) (N := 400) (atype := .int) (ty := .int) hn hF hO (hX.le (Nat.le_refl _) (by decide) (by decide)) (vbc (vbr (by omega)) vbn) (lbc (vbr (by omega)) lbn) ar_int rfl (Or.inl rfl) (by decide) (by decide) (by decide) dX7_init_22 ?_
  have hT := tapp (L := ([.inr (.int, 400)] : List Dsc)) hT
  have hn := tlen1 (d := (.inr (.int, 400) : Dsc)) hn
  have hO := hO.up (Nat.le_succ _)
  have hF := hF.up (Nat.le_succ _)
  refine Wp.putFR (pc := 24) hN hT nk_RX7_19 nf_RX7_6_3 rfl dX7_init_24 ?_
  have hF := hF.sR (k := b) (j := 3) (r := (n + 1)) (by omega) (by omega)
  refine Wp.aload_n (pc := 27) 0 rfl rfl dX7_init_27 ?_
  refine Wp.bipush (pc := 28) (12 : Int32) (by decide) dX7_init_28 ?_
  refine Wp.newA1 (pc := 30) (N := 12) (atype := .int) (ty := .int) hn hF hO (hX.le (Nat.le_refl _) (by decide) (by decide)) (vbc (vbr (by omega)) vbn) (lbc (vbr (by omega)) lbn) ar_int rfl (Or.inl rfl) (by decide) (by decide) (by decide) dX7_init_30 ?_
  have hT := tapp (L := ([.inr (.int, 12)] : List Dsc)) hT
  have hn := tlen1 (d := (.inr (.int, 12) : Dsc)) hn
  have hO := hO.up (Nat.le_succ _)
  have hF := hF.up (Nat.le_succ _)
  refine Wp.putFR (pc := 32) hN hT nk_RX7_22 nf_RX7_6_6 rfl dX7_init_32 ?_
  have hF := hF.sR (k := b) (j := 6) (r := (n + 2)) (by omega) (by omega)
  refine Wp.aload_n (pc := 35) 0 rfl rfl dX7_init_35 ?_
  refine Wp.iconst (pc := 36) (-1 : Int32) (by decide) dX7_init_36 ?_
  refine Wp.putI (pc := 37) hT nk_RX7_25 nf_RX7_6_8 rfl dX7_init_37 ?_
  have hF := hF.sI (k := b) (j := 8) (v := (-1)) (by omega)
  refine Wp.aload_n (pc := 40) 0 rfl rfl dX7_init_40 ?_
  refine Wp.iconst (pc := 41) (-1 : Int32) (by decide) dX7_init_41 ?_
  refine Wp.putI (pc := 42) hT nk_RX7_28 nf_RX7_6_10 rfl dX7_init_42 ?_
  have hF := hF.sI (k := b) (j := 10) (v := (-1)) (by omega)
  refine Wp.aload_n (pc := 45) 0 rfl rfl dX7_init_45 ?_
  refine Wp.iconst (pc := 46) (4 : Int32) (by decide) dX7_init_46 ?_
  refine Wp.newA1 (pc := 47) (N := 4) (atype := .int) (ty := .int) hn hF hO (hX.le (Nat.le_refl _) (by decide) (by decide)) (vbc (vbr (by omega)) vbn) (lbc (vbr (by omega)) lbn) ar_int rfl (Or.inl rfl) (by decide) (by decide) (by decide) dX7_init_47 ?_
  have hT := tapp (L := ([.inr (.int, 4)] : List Dsc)) hT
  have hn := tlen1 (d := (.inr (.int, 4) : Dsc)) hn
  have hO := hO.up (Nat.le_succ _)
  have hF := hF.up (Nat.le_succ _)
  refine Wp.putFR (pc := 49) hN hT nk_RX7_31 nf_RX7_6_12 rfl dX7_init_49 ?_
  have hF := hF.sR (k := b) (j := 12) (r := (n + 3)) (by omega) (by omega)
  refine Wp.aload_n (pc := 52) 0 rfl rfl dX7_init_52 ?_
  refine Wp.iconst (pc := 53) (4 : Int32) (by decide) dX7_init_53 ?_
  refine Wp.newA1 (pc := 54) (N := 4) (atype := .int) (ty := .int) hn hF hO (hX.le (Nat.le_refl _) (by decide) (by decide)) (vbc (vbr (by omega)) vbn) (lbc (vbr (by omega)) lbn) ar_int rfl (Or.inl rfl) (by decide) (by decide) (by decide) dX7_init_54 ?_
  have hT := tapp (L := ([.inr (.int, 4)] : List Dsc)) hT
  have hn := tlen1 (d := (.inr (.int, 4) : Dsc)) hn
  have hO := hO.up (Nat.le_succ _)
  have hF := hF.up (Nat.le_succ _)
  refine Wp.putFR (pc := 56) hN hT nk_RX7_34 nf_RX7_6_13 rfl dX7_init_56 ?_
  have hF := hF.sR (k := b) (j := 13) (r := (n + 4)) (by omega) (by omega)
  exact hQ 59 _ dX7_init_59
theorem dX9_init_0 : decode cX9_init 0 = .ok (.aload_n 0, 1) := by decide +kernel
theorem dX9_init_1 : decode cX9_init 1 = .ok (.invokespecial 1, 3) := by decide +kernel
theorem dX9_init_4 : decode cX9_init 4 = .ok (.aload_n 0, 1) := by decide +kernel
theorem dX9_init_5 : decode cX9_init 5 = .ok (.sipush 401, 3) := by decide +kernel
theorem dX9_init_8 : decode cX9_init 8 = .ok (.newarray .long, 2) := by decide +kernel
theorem dX9_init_10 : decode cX9_init 10 = .ok (.putfield 9, 3) := by decide +kernel
theorem dX9_init_13 : decode cX9_init 13 = .ok (.aload_n 0, 1) := by decide +kernel
theorem dX9_init_14 : decode cX9_init 14 = .ok (.aload_n 1, 1) := by decide +kernel
theorem dX9_init_15 : decode cX9_init 15 = .ok (.putfield 13, 3) := by decide +kernel
theorem dX9_init_18 : decode cX9_init 18 = .ok (.return_, 1) := by decide +kernel
theorem oi_RX9 : OI RX9 1 := ⟨gw_tb 386 (by decide +kernel) rfl, gw_tb 27 (by decide +kernel) rfl, gw_tb 28 (by decide +kernel) rfl⟩
theorem nk_RX9_9 : FK RX9 9 8 1 := ⟨_, _, _, rfl, by decide, gw_tb 388 (by decide +kernel) rfl⟩
theorem nf_RX9_8_1 : FKf RX9 8 1 true := by
  intro C TT N h
  cases h
  exact ⟨rfl, fun h => rfl⟩
theorem nk_RX9_13 : FK RX9 13 8 0 := ⟨_, _, _, rfl, by decide, gw_tb 387 (by decide +kernel) rfl⟩
theorem nf_RX9_8_0 : FKf RX9 8 0 true := by
  intro C TT N h
  cases h
  exact ⟨rfl, fun h => rfl⟩
set_option maxHeartbeats 4000000 in
set_option maxRecDepth 100000 in
theorem ct_X9_init {T : List Dsc} {μ : Mem} {n : Nat} {b : Nat} {p1 : Nat} (hb : b < n) (hp1 : p1 < n) (hn : T.length = n) (hT : T[b]? = some (.inl 8)) (hF : Frs μ n) : CtA 1 yX9_init cX9_init 2 none T μ [.ref b , .ref p1] none (T ++ [.inr (.long, 401)]) (sR (sR μ b 1 (some (n))) b 0 (some p1)) 1 401 ∧ Frs (sR (sR μ b 1 (some (n))) b 0 (some p1)) (n + 1) := by
  refine ⟨CtA.ofV (by decide +kernel) (Nat.le_of_ble_eq_true rfl) (fun X hX hN hO hQ => ?_), ?_⟩
  rotate_left
  · have hF : Frs μ (n + 1) := hF.up (by omega)
    have hF := hF.sR (k := b) (j := 1) (r := (n)) (by omega) (by omega)
    have hF := hF.sR (k := b) (j := 0) (r := p1) (by omega) (by omega)
    exact hF
  refine Wp.lo' (lo' := [(0, .ref b), (1, .ref p1)]) [0, 1] rfl ?_
  rw [hn] at hO
  refine Wp.aload_n (pc := 0) 0 rfl rfl dX9_init_0 ?_
  refine Wp.objI (pc := 1) oi_RX9 (hX.le (Nat.le_refl _)  (by decide) (by decide)) (Nat.le_refl _) (by decide) dX9_init_1 ?_
  refine Wp.aload_n (pc := 4) 0 rfl rfl dX9_init_4 ?_
  refine Wp.sipush (pc := 5) (401 : Int32) (by decide) dX9_init_5 ?_
  refine Wp.newA1 (pc := 8) (N := 401) (atype := .long) (ty := .long) hn hF hO (hX.le (Nat.le_refl _) (by decide) (by decide)) (vbc (vbr (by omega)) vbn) (lbc (vbr (by omega)) (lbc (vbr (by omega)) lbn)) ar_long rfl (Or.inr rfl) (by decide) (by decide) (by decide) dX9_init_8 ?_
  have hT := tapp (L := ([.inr (.long, 401)] : List Dsc)) hT
  have hn := tlen1 (d := (.inr (.long, 401) : Dsc)) hn
  have hO := hO.up (Nat.le_succ _)
  have hF := hF.up (Nat.le_succ _)
  refine Wp.putFR (pc := 10) hN hT nk_RX9_9 nf_RX9_8_1 rfl dX9_init_10 ?_
  have hF := hF.sR (k := b) (j := 1) (r := (n)) (by omega) (by omega)
  refine Wp.aload_n (pc := 13) 0 rfl rfl dX9_init_13 ?_
  refine Wp.aload_n (pc := 14) 1 rfl rfl dX9_init_14 ?_
  refine Wp.putFR (pc := 15) hN hT nk_RX9_13 nf_RX9_8_0 rfl dX9_init_15 ?_
  have hF := hF.sR (k := b) (j := 0) (r := p1) (by omega) (by omega)
  exact hQ 18 _ dX9_init_18
theorem dX10_init_0 : decode cX10_init 0 = .ok (.aload_n 0, 1) := by decide +kernel
theorem dX10_init_1 : decode cX10_init 1 = .ok (.invokespecial 3, 3) := by decide +kernel
theorem dX10_init_4 : decode cX10_init 4 = .ok (.aload_n 0, 1) := by decide +kernel
theorem dX10_init_5 : decode cX10_init 5 = .ok (.bipush 20, 2) := by decide +kernel
theorem dX10_init_7 : decode cX10_init 7 = .ok (.newarray .int, 2) := by decide +kernel
theorem dX10_init_9 : decode cX10_init 9 = .ok (.putfield 9, 3) := by decide +kernel
theorem dX10_init_12 : decode cX10_init 12 = .ok (.aload_n 0, 1) := by decide +kernel
theorem dX10_init_13 : decode cX10_init 13 = .ok (.bipush 20, 2) := by decide +kernel
theorem dX10_init_15 : decode cX10_init 15 = .ok (.newarray .int, 2) := by decide +kernel
theorem dX10_init_17 : decode cX10_init 17 = .ok (.putfield 15, 3) := by decide +kernel
theorem dX10_init_20 : decode cX10_init 20 = .ok (.aload_n 0, 1) := by decide +kernel
theorem dX10_init_21 : decode cX10_init 21 = .ok (.bipush 20, 2) := by decide +kernel
theorem dX10_init_23 : decode cX10_init 23 = .ok (.newarray .int, 2) := by decide +kernel
theorem dX10_init_25 : decode cX10_init 25 = .ok (.putfield 18, 3) := by decide +kernel
theorem dX10_init_28 : decode cX10_init 28 = .ok (.aload_n 0, 1) := by decide +kernel
theorem dX10_init_29 : decode cX10_init 29 = .ok (.bipush 12, 2) := by decide +kernel
theorem dX10_init_31 : decode cX10_init 31 = .ok (.newarray .int, 2) := by decide +kernel
theorem dX10_init_33 : decode cX10_init 33 = .ok (.putfield 21, 3) := by decide +kernel
theorem dX10_init_36 : decode cX10_init 36 = .ok (.aload_n 0, 1) := by decide +kernel
theorem dX10_init_37 : decode cX10_init 37 = .ok (.bipush 12, 2) := by decide +kernel
theorem dX10_init_39 : decode cX10_init 39 = .ok (.newarray .int, 2) := by decide +kernel
theorem dX10_init_41 : decode cX10_init 41 = .ok (.putfield 24, 3) := by decide +kernel
theorem dX10_init_44 : decode cX10_init 44 = .ok (.aload_n 0, 1) := by decide +kernel
theorem dX10_init_45 : decode cX10_init 45 = .ok (.aload_n 1, 1) := by decide +kernel
theorem dX10_init_46 : decode cX10_init 46 = .ok (.putfield 27, 3) := by decide +kernel
theorem dX10_init_49 : decode cX10_init 49 = .ok (.return_, 1) := by decide +kernel
theorem oi_RX10 : OI RX10 3 := ⟨gw_tb 419 (by decide +kernel) rfl, gw_tb 27 (by decide +kernel) rfl, gw_tb 28 (by decide +kernel) rfl⟩
theorem nk_RX10_9 : FK RX10 9 9 2 := ⟨_, _, _, rfl, by decide, gw_tb 423 (by decide +kernel) rfl⟩
theorem nf_RX10_9_2 : FKf RX10 9 2 true := by
  intro C TT N h
  cases h
  exact ⟨rfl, fun h => rfl⟩
theorem nk_RX10_15 : FK RX10 15 9 3 := ⟨_, _, _, rfl, by decide, gw_tb 424 (by decide +kernel) rfl⟩
theorem nf_RX10_9_3 : FKf RX10 9 3 true := by
  intro C TT N h
  cases h
  exact ⟨rfl, fun h => rfl⟩
theorem nk_RX10_18 : FK RX10 18 9 4 := ⟨_, _, _, rfl, by decide, gw_tb 425 (by decide +kernel) rfl⟩
theorem nf_RX10_9_4 : FKf RX10 9 4 true := by
  intro C TT N h
  cases h
  exact ⟨rfl, fun h => rfl⟩
theorem nk_RX10_21 : FK RX10 21 9 5 := ⟨_, _, _, rfl, by decide, gw_tb 426 (by decide +kernel) rfl⟩
theorem nf_RX10_9_5 : FKf RX10 9 5 true := by
  intro C TT N h
  cases h
  exact ⟨rfl, fun h => rfl⟩
theorem nk_RX10_24 : FK RX10 24 9 6 := ⟨_, _, _, rfl, by decide, gw_tb 427 (by decide +kernel) rfl⟩
theorem nf_RX10_9_6 : FKf RX10 9 6 true := by
  intro C TT N h
  cases h
  exact ⟨rfl, fun h => rfl⟩
theorem nk_RX10_27 : FK RX10 27 9 0 := ⟨_, _, _, rfl, by decide, gw_tb 420 (by decide +kernel) rfl⟩
theorem nf_RX10_9_0 : FKf RX10 9 0 true := by
  intro C TT N h
  cases h
  exact ⟨rfl, fun h => rfl⟩
set_option maxHeartbeats 4000000 in
set_option maxRecDepth 100000 in
theorem ct_X10_init {T : List Dsc} {μ : Mem} {n : Nat} {b : Nat} {p1 : Nat} (hb : b < n) (hp1 : p1 < n) (hn : T.length = n) (hT : T[b]? = some (.inl 9)) (hF : Frs μ n) : CtA 1 yX10_init cX10_init 2 none T μ [.ref b , .ref p1] none (((((T ++ [.inr (.int, 20)]) ++ [.inr (.int, 20)]) ++ [.inr (.int, 20)]) ++ [.inr (.int, 12)]) ++ [.inr (.int, 12)]) (sR (sR (sR (sR (sR (sR μ b 2 (some (n))) b 3 (some (n + 1))) b 4 (some (n + 2))) b 5 (some (n + 3))) b 6 (some (n + 4))) b 0 (some p1)) 5 84 ∧ Frs (sR (sR (sR (sR (sR (sR μ b 2 (some (n))) b 3 (some (n + 1))) b 4 (some (n + 2))) b 5 (some (n + 3))) b 6 (some (n + 4))) b 0 (some p1)) (n + 5) := by
  refine ⟨CtA.ofV (by decide +kernel) (Nat.le_of_ble_eq_true rfl) (fun X hX hN hO hQ => ?_), ?_⟩
  rotate_left
  · have hF : Frs μ (n + 5) := hF.up (by omega)
    have hF := hF.sR (k := b) (j := 2) (r := (n)) (by omega) (by omega)
    have hF := hF.sR (k := b) (j := 3) (r := (n + 1)) (by omega) (by omega)
    have hF := hF.sR (k := b) (j := 4) (r := (n + 2)) (by omega) (by omega)
    have hF := hF.sR (k := b) (j := 5) (r := (n + 3)) (by omega) (by omega)
    have hF := hF.sR (k := b) (j := 6) (r := (n + 4)) (by omega) (by omega)
    have hF := hF.sR (k := b) (j := 0) (r := p1) (by omega) (by omega)
    exact hF
  refine Wp.lo' (lo' := [(0, .ref b), (1, .ref p1)]) [0, 1] rfl ?_
  rw [hn] at hO
  refine Wp.aload_n (pc := 0) 0 rfl rfl dX10_init_0 ?_
  refine Wp.objI (pc := 1) oi_RX10 (hX.le (Nat.le_refl _)  (by decide) (by decide)) (Nat.le_refl _) (by decide) dX10_init_1 ?_
  refine Wp.aload_n (pc := 4) 0 rfl rfl dX10_init_4 ?_
  refine Wp.bipush (pc := 5) (20 : Int32) (by decide) dX10_init_5 ?_
  refine Wp.newA1 (pc := 7) (N := 20) (atype := .int) (ty := .int) hn hF hO (hX.le (Nat.le_refl _) (by decide) (by decide)) (vbc (vbr (by omega)) vbn) (lbc (vbr (by omega)) (lbc (vbr (by omega)) lbn)) ar_int rfl (Or.inl rfl) (by decide) (by decide) (by decide) dX10_init_7 ?_
  have hT := tapp (L := ([.inr (.int, 20)] : List Dsc)) hT
  have hn := tlen1 (d := (.inr (.int, 20) : Dsc)) hn
  have hO := hO.up (Nat.le_succ _)
  have hF := hF.up (Nat.le_succ _)
  refine Wp.putFR (pc := 9) hN hT nk_RX10_9 nf_RX10_9_2 rfl dX10_init_9 ?_
  have hF := hF.sR (k := b) (j := 2) (r := (n)) (by omega) (by omega)
  refine Wp.aload_n (pc := 12) 0 rfl rfl dX10_init_12 ?_
  refine Wp.bipush (pc := 13) (20 : Int32) (by decide) dX10_init_13 ?_
  refine Wp.newA1 (pc := 15) (N := 20) (atype := .int) (ty := .int) hn hF hO (hX.le (Nat.le_refl _) (by decide) (by decide)) (vbc (vbr (by omega)) vbn) (lbc (vbr (by omega)) (lbc (vbr (by omega)) lbn)) ar_int rfl (Or.inl rfl) (by decide) (by decide) (by decide) dX10_init_15 ?_
  have hT := tapp (L := ([.inr (.int, 20)] : List Dsc)) hT
  have hn := tlen1 (d := (.inr (.int, 20) : Dsc)) hn
  have hO := hO.up (Nat.le_succ _)
  have hF := hF.up (Nat.le_succ _)
  refine Wp.putFR (pc := 17) hN hT nk_RX10_15 nf_RX10_9_3 rfl dX10_init_17 ?_
  have hF := hF.sR (k := b) (j := 3) (r := (n + 1)) (by omega) (by omega)
  refine Wp.aload_n (pc := 20) 0 rfl rfl dX10_init_20 ?_
  refine Wp.bipush (pc := 21) (20 : Int32) (by decide) dX10_init_21 ?_
  refine Wp.newA1 (pc := 23) (N := 20) (atype := .int) (ty := .int) hn hF hO (hX.le (Nat.le_refl _) (by decide) (by decide)) (vbc (vbr (by omega)) vbn) (lbc (vbr (by omega)) (lbc (vbr (by omega)) lbn)) ar_int rfl (Or.inl rfl) (by decide) (by decide) (by decide) dX10_init_23 ?_
  have hT := tapp (L := ([.inr (.int, 20)] : List Dsc)) hT
  have hn := tlen1 (d := (.inr (.int, 20) : Dsc)) hn
  have hO := hO.up (Nat.le_succ _)
  have hF := hF.up (Nat.le_succ _)
  refine Wp.putFR (pc := 25) hN hT nk_RX10_18 nf_RX10_9_4 rfl dX10_init_25 ?_
  have hF := hF.sR (k := b) (j := 4) (r := (n + 2)) (by omega) (by omega)
  refine Wp.aload_n (pc := 28) 0 rfl rfl dX10_init_28 ?_
  refine Wp.bipush (pc := 29) (12 : Int32) (by decide) dX10_init_29 ?_
  refine Wp.newA1 (pc := 31) (N := 12) (atype := .int) (ty := .int) hn hF hO (hX.le (Nat.le_refl _) (by decide) (by decide)) (vbc (vbr (by omega)) vbn) (lbc (vbr (by omega)) (lbc (vbr (by omega)) lbn)) ar_int rfl (Or.inl rfl) (by decide) (by decide) (by decide) dX10_init_31 ?_
  have hT := tapp (L := ([.inr (.int, 12)] : List Dsc)) hT
  have hn := tlen1 (d := (.inr (.int, 12) : Dsc)) hn
  have hO := hO.up (Nat.le_succ _)
  have hF := hF.up (Nat.le_succ _)
  refine Wp.putFR (pc := 33) hN hT nk_RX10_21 nf_RX10_9_5 rfl dX10_init_33 ?_
  have hF := hF.sR (k := b) (j := 5) (r := (n + 3)) (by omega) (by omega)
  refine Wp.aload_n (pc := 36) 0 rfl rfl dX10_init_36 ?_
  refine Wp.bipush (pc := 37) (12 : Int32) (by decide) dX10_init_37 ?_
  refine Wp.newA1 (pc := 39) (N := 12) (atype := .int) (ty := .int) hn hF hO (hX.le (Nat.le_refl _) (by decide) (by decide)) (vbc (vbr (by omega)) vbn) (lbc (vbr (by omega)) (lbc (vbr (by omega)) lbn)) ar_int rfl (Or.inl rfl) (by decide) (by decide) (by decide) dX10_init_39 ?_
  have hT := tapp (L := ([.inr (.int, 12)] : List Dsc)) hT
  have hn := tlen1 (d := (.inr (.int, 12) : Dsc)) hn
  have hO := hO.up (Nat.le_succ _)
  have hF := hF.up (Nat.le_succ _)
  refine Wp.putFR (pc := 41) hN hT nk_RX10_24 nf_RX10_9_6 rfl dX10_init_41 ?_
  have hF := hF.sR (k := b) (j := 6) (r := (n + 4)) (by omega) (by omega)
  refine Wp.aload_n (pc := 44) 0 rfl rfl dX10_init_44 ?_
  refine Wp.aload_n (pc := 45) 1 rfl rfl dX10_init_45 ?_
  refine Wp.putFR (pc := 46) hN hT nk_RX10_27 nf_RX10_9_0 rfl dX10_init_46 ?_
  have hF := hF.sR (k := b) (j := 0) (r := p1) (by omega) (by omega)
  exact hQ 49 _ dX10_init_49
