theorem Wp.newO1 {X : CX} {cc : ByteArray} {own : String} {nL : Nat} {T : List Dsc} {μ : Mem} {n1 n2 pc : Nat} {lo : List (Nat × Value)} {st : List Value} {d M ci ix : Nat} (hM : T.length = M) (hF : Frs μ M) (hO : XOl X M) (hX : XR X d (n1 + 1) (n2 + cN ci)) (hst : ∀ v ∈ st, vbl M v) (hlo : ∀ q ∈ lo, vbl M q.2) (hc : NwK own ix ci) (hd : decode cc pc = .ok (.new ix, 3))
    (kk : Wp X cc own nL (T ++ [.inl ci]) μ (n1 + 1) (n2 + cN ci) (pc + 3) lo (.ref M :: st)) : Wp X cc own nL T μ n1 n2 pc lo st := by
  subst hM
  exact Wp.newO hF hO hX hst hlo hc hd kk
theorem dX4_init_0 : decode cX4_init 0 = .ok (.aload_n 0, 1) := by decide +kernel
theorem dX4_init_1 : decode cX4_init 1 = .ok (.invokespecial 3, 3) := by decide +kernel
theorem dX4_init_4 : decode cX4_init 4 = .ok (.aload_n 0, 1) := by decide +kernel
theorem dX4_init_5 : decode cX4_init 5 = .ok (.iconst (-1), 1) := by decide +kernel
theorem dX4_init_6 : decode cX4_init 6 = .ok (.putfield 9, 3) := by decide +kernel
theorem dX4_init_9 : decode cX4_init 9 = .ok (.aload_n 0, 1) := by decide +kernel
theorem dX4_init_10 : decode cX4_init 10 = .ok (.bipush 25, 2) := by decide +kernel
theorem dX4_init_12 : decode cX4_init 12 = .ok (.newarray .int, 2) := by decide +kernel
theorem dX4_init_14 : decode cX4_init 14 = .ok (.putfield 15, 3) := by decide +kernel
theorem dX4_init_17 : decode cX4_init 17 = .ok (.aload_n 0, 1) := by decide +kernel
theorem dX4_init_18 : decode cX4_init 18 = .ok (.bipush 18, 2) := by decide +kernel
theorem dX4_init_20 : decode cX4_init 20 = .ok (.newarray .long, 2) := by decide +kernel
theorem dX4_init_22 : decode cX4_init 22 = .ok (.putfield 19, 3) := by decide +kernel
theorem dX4_init_25 : decode cX4_init 25 = .ok (.aload_n 0, 1) := by decide +kernel
theorem dX4_init_26 : decode cX4_init 26 = .ok (.bipush 18, 2) := by decide +kernel
theorem dX4_init_28 : decode cX4_init 28 = .ok (.newarray .int, 2) := by decide +kernel
theorem dX4_init_30 : decode cX4_init 30 = .ok (.putfield 23, 3) := by decide +kernel
theorem dX4_init_33 : decode cX4_init 33 = .ok (.aload_n 0, 1) := by decide +kernel
theorem dX4_init_34 : decode cX4_init 34 = .ok (.new 26, 3) := by decide +kernel
theorem dX4_init_37 : decode cX4_init 37 = .ok (.dup, 1) := by decide +kernel
theorem dX4_init_38 : decode cX4_init 38 = .ok (.aload_n 1, 1) := by decide +kernel
theorem dX4_init_39 : decode cX4_init 39 = .ok (.invokespecial 28, 3) := by decide +kernel
theorem dX4_init_42 : decode cX4_init 42 = .ok (.putfield 31, 3) := by decide +kernel
theorem dX4_init_45 : decode cX4_init 45 = .ok (.aload_n 0, 1) := by decide +kernel
theorem dX4_init_46 : decode cX4_init 46 = .ok (.aload_n 2, 1) := by decide +kernel
theorem dX4_init_47 : decode cX4_init 47 = .ok (.putfield 35, 3) := by decide +kernel
theorem dX4_init_50 : decode cX4_init 50 = .ok (.return_, 1) := by decide +kernel
theorem oi_RX4 : OI RX4 3 := ⟨gw_tb 125 (by decide +kernel) rfl, gw_tb 27 (by decide +kernel) rfl, gw_tb 28 (by decide +kernel) rfl⟩
theorem nk_RX4_9 : FK RX4 9 3 5 := ⟨_, _, _, rfl, by decide, gw_tb 218 (by decide +kernel) rfl⟩
theorem nf_RX4_3_5 : FKf RX4 3 5 false := by
  intro C TT N h
  cases h
  exact ⟨rfl, fun h => by cases h⟩
theorem nk_RX4_15 : FK RX4 15 3 8 := ⟨_, _, _, rfl, by decide, gw_tb 222 (by decide +kernel) rfl⟩
theorem nf_RX4_3_8 : FKf RX4 3 8 true := by
  intro C TT N h
  cases h
  exact ⟨rfl, fun h => rfl⟩
theorem nk_RX4_19 : FK RX4 19 3 9 := ⟨_, _, _, rfl, by decide, gw_tb 223 (by decide +kernel) rfl⟩
theorem nf_RX4_3_9 : FKf RX4 3 9 true := by
  intro C TT N h
  cases h
  exact ⟨rfl, fun h => rfl⟩
theorem nk_RX4_23 : FK RX4 23 3 10 := ⟨_, _, _, rfl, by decide, gw_tb 224 (by decide +kernel) rfl⟩
theorem nf_RX4_3_10 : FKf RX4 3 10 true := by
  intro C TT N h
  cases h
  exact ⟨rfl, fun h => rfl⟩
theorem nn_RX4_26 : NwK RX4 26 7 := ⟨_, _, _, rfl, gw_tb 126 (by decide +kernel) rfl, gw_tb 127 (by decide +kernel) rfl, gw_tb 4 (by decide +kernel) rfl, by decide⟩
theorem nmb_X8_init : MB yX8_init cX8_init 4 none 1 := ⟨gw_tb 4 (by decide +kernel) rfl, gw_tb 130 (by decide +kernel) rfl, by decide +kernel, by decide +kernel, by decide +kernel⟩
theorem nmi_X8_init : Cond.instanceMethod yX8_init ∈ gw := gw_tb 129 (by decide +kernel) rfl
theorem nml_RX4_28 : ML RX4 28 yX8_init := gw_tb 128 (by decide +kernel) rfl
theorem nk_RX4_31 : FK RX4 31 3 0 := ⟨_, _, _, rfl, by decide, gw_tb 213 (by decide +kernel) rfl⟩
theorem nf_RX4_3_0 : FKf RX4 3 0 true := by
  intro C TT N h
  cases h
  exact ⟨rfl, fun h => rfl⟩
theorem nk_RX4_35 : FK RX4 35 3 3 := ⟨_, _, _, rfl, by decide, gw_tb 216 (by decide +kernel) rfl⟩
theorem nf_RX4_3_3 : FKf RX4 3 3 false := by
  intro C TT N h
  cases h
  exact ⟨rfl, fun h => by cases h⟩
def mRd (μ : Mem) (n b p1 p2 : Nat) : Mem := (sR (sR (setJ (mTk (sR (sR (sR (sI μ b 5 (-1)) b 8 (some (n))) b 9 (some (n + 1))) b 10 (some (n + 2))) (n + 4) (n + 3) p1) (n + 4) (tkG 76)) b 0 (some (n + 3))) b 3 (some p2))
theorem fr_X4_init {μ : Mem} {n b p1 p2 : Nat} (hb : b < n) (hp1 : p1 < n) (hp2 : p2 < n) (hF : Frs μ n) : Frs (mRd μ n b p1 p2) (n + 8) := by
  have hF : Frs μ (n + 4) := hF.up (by omega)
  have hF := hF.sI (k := b) (j := 5) (v := (-1)) (by omega)
  have hF := hF.sR (k := b) (j := 8) (r := (n)) (by omega) (by omega)
  have hF := hF.sR (k := b) (j := 9) (r := (n + 1)) (by omega) (by omega)
  have hF := hF.sR (k := b) (j := 10) (r := (n + 2)) (by omega) (by omega)
  have hF := (fr_X8_init (b := n + 3) (p1 := p1) (by omega) (by omega) hF).setJ (k := n + 4) (g := tkG 76) (by omega)
  have hF := hF.sR (k := b) (j := 0) (r := (n + 3)) (by omega) (by omega)
  have hF := hF.sR (k := b) (j := 3) (r := p2) (by omega) (by omega)
  exact hF
set_option maxHeartbeats 4000000 in
set_option maxRecDepth 100000 in
theorem ct_X4_init {T : List Dsc} {μ : Mem} {n b p1 p2 : Nat} (hb : b < n) (hp1 : p1 < n) (hp2 : p2 < n) (hn : T.length = n) (hT : T[b]? = some (.inl 3)) (hF : Frs μ n) : CtS 6 yX4_init cX4_init 3 none T μ [.ref b, .ref p1, .ref p2] none ((((((((T ++ [.inr (.int, 25)]) ++ [.inr (.long, 18)]) ++ [.inr (.int, 18)]) ++ [.inl 7]) ++ [.inr (.long, 17)]) ++ [.inr (.int, 401)]) ++ [.inr (.long, 401)]) ++ [.inr (.int, 401)]) (mRd μ n b p1 p2) 8 1289 := by
  refine CtS.ofV (by decide +kernel) (Nat.le_of_ble_eq_true rfl) (fun X a v f hX hN hO hS0 hQ => ?_)
  refine Wp.lo' (lo' := [(0, .ref b), (1, .ref p1), (2, .ref p2)]) [0, 1, 2] rfl ?_
  rw [hn] at hO
  refine Wp.aload_n (pc := 0) 0 rfl rfl dX4_init_0 ?_
  refine Wp.objI (pc := 1) oi_RX4 (hX.le (Nat.le_refl _) (by decide) (by decide)) (by decide) (by decide) dX4_init_1 ?_
  refine Wp.aload_n (pc := 4) 0 rfl rfl dX4_init_4 ?_
  refine Wp.iconst (pc := 5) (-1 : Int32) (by decide) dX4_init_5 ?_
  refine Wp.putI (pc := 6) hT nk_RX4_9 nf_RX4_3_5 rfl dX4_init_6 ?_
  have hF := hF.sI (k := b) (j := 5) (v := (-1)) (by omega)
  refine Wp.aload_n (pc := 9) 0 rfl rfl dX4_init_9 ?_
  refine Wp.bipush (pc := 10) (25 : Int32) (by decide) dX4_init_10 ?_
  refine Wp.newA1 (pc := 12) (N := 25) (atype := .int) (ty := .int) hn hF hO (hX.le (Nat.le_refl _) (by decide) (by decide)) (vbc (vbr (by omega)) vbn) (lbc (vbr (by omega)) (lbc (vbr (by omega)) (lbc (vbr (by omega)) lbn))) ar_int rfl (Or.inl rfl) (by decide) (by decide) (by decide) dX4_init_12 ?_
  have hT := tapp (L := ([.inr (.int, 25)] : List Dsc)) hT
  have hn := tlen1 (d := (.inr (.int, 25) : Dsc)) hn
  have hO := hO.up (Nat.le_succ _)
  have hF := hF.up (Nat.le_succ _)
  refine Wp.putFR (pc := 14) hN hT nk_RX4_15 nf_RX4_3_8 rfl dX4_init_14 ?_
  have hF := hF.sR (k := b) (j := 8) (r := (n)) (by omega) (by omega)
  refine Wp.aload_n (pc := 17) 0 rfl rfl dX4_init_17 ?_
  refine Wp.bipush (pc := 18) (18 : Int32) (by decide) dX4_init_18 ?_
  refine Wp.newA1 (pc := 20) (N := 18) (atype := .long) (ty := .long) hn hF hO (hX.le (Nat.le_refl _) (by decide) (by decide)) (vbc (vbr (by omega)) vbn) (lbc (vbr (by omega)) (lbc (vbr (by omega)) (lbc (vbr (by omega)) lbn))) ar_long rfl (Or.inr rfl) (by decide) (by decide) (by decide) dX4_init_20 ?_
  have hT := tapp (L := ([.inr (.long, 18)] : List Dsc)) hT
  have hn := tlen1 (d := (.inr (.long, 18) : Dsc)) hn
  have hO := hO.up (Nat.le_succ _)
  have hF := hF.up (Nat.le_succ _)
  refine Wp.putFR (pc := 22) hN hT nk_RX4_19 nf_RX4_3_9 rfl dX4_init_22 ?_
  have hF := hF.sR (k := b) (j := 9) (r := (n + 1)) (by omega) (by omega)
  refine Wp.aload_n (pc := 25) 0 rfl rfl dX4_init_25 ?_
  refine Wp.bipush (pc := 26) (18 : Int32) (by decide) dX4_init_26 ?_
  refine Wp.newA1 (pc := 28) (N := 18) (atype := .int) (ty := .int) hn hF hO (hX.le (Nat.le_refl _) (by decide) (by decide)) (vbc (vbr (by omega)) vbn) (lbc (vbr (by omega)) (lbc (vbr (by omega)) (lbc (vbr (by omega)) lbn))) ar_int rfl (Or.inl rfl) (by decide) (by decide) (by decide) dX4_init_28 ?_
  have hT := tapp (L := ([.inr (.int, 18)] : List Dsc)) hT
  have hn := tlen1 (d := (.inr (.int, 18) : Dsc)) hn
  have hO := hO.up (Nat.le_succ _)
  have hF := hF.up (Nat.le_succ _)
  refine Wp.putFR (pc := 30) hN hT nk_RX4_23 nf_RX4_3_10 rfl dX4_init_30 ?_
  have hF := hF.sR (k := b) (j := 10) (r := (n + 2)) (by omega) (by omega)
  refine Wp.aload_n (pc := 33) 0 rfl rfl dX4_init_33 ?_
  refine Wp.newO1 (pc := 34) hn hF hO (hX.le (Nat.le_refl _) (by decide) (by decide)) (vbc (vbr (by omega)) vbn) (lbc (vbr (by omega)) (lbc (vbr (by omega)) (lbc (vbr (by omega)) lbn))) nn_RX4_26 dX4_init_34 ?_
  have hK := tnew (d := (.inl 7 : Dsc)) hn
  have hT := tapp (L := ([.inl 7] : List Dsc)) hT
  have hn := tlen1 (d := (.inl 7 : Dsc)) hn
  have hO := hO.up (Nat.le_succ _)
  have hF := hF.up (Nat.le_succ _)
  refine Wp.dup (pc := 37) rfl dX4_init_37 ?_
  refine Wp.aload_n (pc := 38) 1 rfl rfl dX4_init_38 ?_
  have hc := ct_X8_init (T := _) (μ := _) (n := n + 4) (b := n + 3) (p1 := p1) (by omega) (by omega) hn hK hF
  refine Wp.callIS (pc := 39) (st := [.ref (n + 3), .ref b]) (as := [.ref p1]) hS0 hc.1 rfl nml_RX4_28 nmi_X8_init nmb_X8_init (hX.le (Nat.le_refl _) (by decide) (by decide)) (by rw [hn]; exact hO) (by rw [hn]; exact (vbc (vbr (by omega)) (vbc (vbr (by omega)) vbn))) (by rw [hn]; exact (lbc (vbr (by omega)) (lbc (vbr (by omega)) (lbc (vbr (by omega)) lbn)))) (by decide) (by decide) rfl (Nat.le_of_ble_eq_true rfl) dX4_init_39 rfl ?_
  have hF := hc.2
  have hT := tapp (L := ([.inr (.long, 17)] : List Dsc)) hT
  have hT := tapp (L := ([.inr (.int, 401)] : List Dsc)) hT
  have hT := tapp (L := ([.inr (.long, 401)] : List Dsc)) hT
  have hT := tapp (L := ([.inr (.int, 401)] : List Dsc)) hT
  refine Wp.putFR (pc := 42) hN hT nk_RX4_31 nf_RX4_3_0 rfl dX4_init_42 ?_
  have hF := hF.sR (k := b) (j := 0) (r := (n + 3)) (by omega) (by omega)
  refine Wp.aload_n (pc := 45) 0 rfl rfl dX4_init_45 ?_
  refine Wp.aload_n (pc := 46) 2 rfl rfl dX4_init_46 ?_
  refine Wp.putR (pc := 47) hT nk_RX4_35 nf_RX4_3_3 rfl dX4_init_47 ?_
  have hF := hF.sR (k := b) (j := 3) (r := p2) (by omega) (by omega)
  exact hQ 50 _ dX4_init_50
