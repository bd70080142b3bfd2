theorem dX8_init_0 : decode cX8_init 0 = .ok (.aload_n 0, 1) := by decide +kernel
theorem dX8_init_1 : decode cX8_init 1 = .ok (.invokespecial 3, 3) := by decide +kernel
theorem dX8_init_4 : decode cX8_init 4 = .ok (.aload_n 0, 1) := by decide +kernel
theorem dX8_init_5 : decode cX8_init 5 = .ok (.bipush 17, 2) := by decide +kernel
theorem dX8_init_7 : decode cX8_init 7 = .ok (.newarray .long, 2) := by decide +kernel
theorem dX8_init_9 : decode cX8_init 9 = .ok (.putfield 11, 3) := by decide +kernel
theorem dX8_init_12 : decode cX8_init 12 = .ok (.aload_n 0, 1) := by decide +kernel
theorem dX8_init_13 : decode cX8_init 13 = .ok (.sipush 401, 3) := by decide +kernel
theorem dX8_init_16 : decode cX8_init 16 = .ok (.newarray .int, 2) := by decide +kernel
theorem dX8_init_18 : decode cX8_init 18 = .ok (.putfield 17, 3) := by decide +kernel
theorem dX8_init_21 : decode cX8_init 21 = .ok (.aload_n 0, 1) := by decide +kernel
theorem dX8_init_22 : decode cX8_init 22 = .ok (.sipush 401, 3) := by decide +kernel
theorem dX8_init_25 : decode cX8_init 25 = .ok (.newarray .long, 2) := by decide +kernel
theorem dX8_init_27 : decode cX8_init 27 = .ok (.putfield 21, 3) := by decide +kernel
theorem dX8_init_30 : decode cX8_init 30 = .ok (.aload_n 0, 1) := by decide +kernel
theorem dX8_init_31 : decode cX8_init 31 = .ok (.sipush 401, 3) := by decide +kernel
theorem dX8_init_34 : decode cX8_init 34 = .ok (.newarray .int, 2) := by decide +kernel
theorem dX8_init_36 : decode cX8_init 36 = .ok (.putfield 24, 3) := by decide +kernel
theorem dX8_init_39 : decode cX8_init 39 = .ok (.aload_n 0, 1) := by decide +kernel
theorem dX8_init_40 : decode cX8_init 40 = .ok (.aload_n 1, 1) := by decide +kernel
theorem dX8_init_41 : decode cX8_init 41 = .ok (.putfield 27, 3) := by decide +kernel
theorem dX8_init_44 : decode cX8_init 44 = .ok (.iconst 0, 1) := by decide +kernel
theorem dX8_init_45 : decode cX8_init 45 = .ok (.istore_n 2, 1) := by decide +kernel
theorem dX8_init_46 : decode cX8_init 46 = .ok (.iconst 0, 1) := by decide +kernel
theorem dX8_init_47 : decode cX8_init 47 = .ok (.istore_n 3, 1) := by decide +kernel
theorem dX8_init_48 : decode cX8_init 48 = .ok (.iload_n 3, 1) := by decide +kernel
theorem dX8_init_49 : decode cX8_init 49 = .ok (.ldc 31, 2) := by decide +kernel
theorem dX8_init_51 : decode cX8_init 51 = .ok (.invokevirtual 33, 3) := by decide +kernel
theorem dX8_init_54 : decode cX8_init 54 = .ok (.if_icmp .ge 53, 3) := by decide +kernel
theorem dX8_init_57 : decode cX8_init 57 = .ok (.iload_n 2, 1) := by decide +kernel
theorem dX8_init_58 : decode cX8_init 58 = .ok (.bipush 17, 2) := by decide +kernel
theorem dX8_init_60 : decode cX8_init 60 = .ok (.if_icmp .ge 47, 3) := by decide +kernel
theorem dX8_init_63 : decode cX8_init 63 = .ok (.ldc 31, 2) := by decide +kernel
theorem dX8_init_65 : decode cX8_init 65 = .ok (.iload_n 3, 1) := by decide +kernel
theorem dX8_init_66 : decode cX8_init 66 = .ok (.invokevirtual 39, 3) := by decide +kernel
theorem dX8_init_69 : decode cX8_init 69 = .ok (.bipush 32, 2) := by decide +kernel
theorem dX8_init_71 : decode cX8_init 71 = .ok (.if_icmp .ne 9, 3) := by decide +kernel
theorem dX8_init_74 : decode cX8_init 74 = .ok (.iinc 2 1, 3) := by decide +kernel
theorem dX8_init_77 : decode cX8_init 77 = .ok (.goto 24, 3) := by decide +kernel
theorem dX8_init_80 : decode cX8_init 80 = .ok (.aload_n 0, 1) := by decide +kernel
theorem dX8_init_81 : decode cX8_init 81 = .ok (.getfield 11, 3) := by decide +kernel
theorem dX8_init_84 : decode cX8_init 84 = .ok (.iload_n 2, 1) := by decide +kernel
theorem dX8_init_85 : decode cX8_init 85 = .ok (.aload_n 0, 1) := by decide +kernel
theorem dX8_init_86 : decode cX8_init 86 = .ok (.getfield 11, 3) := by decide +kernel
theorem dX8_init_89 : decode cX8_init 89 = .ok (.iload_n 2, 1) := by decide +kernel
theorem dX8_init_90 : decode cX8_init 90 = .ok (.laload, 1) := by decide +kernel
theorem dX8_init_91 : decode cX8_init 91 = .ok (.ldc 31, 2) := by decide +kernel
theorem dX8_init_93 : decode cX8_init 93 = .ok (.iload_n 3, 1) := by decide +kernel
theorem dX8_init_94 : decode cX8_init 94 = .ok (.invokevirtual 39, 3) := by decide +kernel
theorem dX8_init_97 : decode cX8_init 97 = .ok (.invokestatic 43, 3) := by decide +kernel
theorem dX8_init_100 : decode cX8_init 100 = .ok (.lastore, 1) := by decide +kernel
theorem dX8_init_101 : decode cX8_init 101 = .ok (.iinc 3 1, 3) := by decide +kernel
theorem dX8_init_104 : decode cX8_init 104 = .ok (.goto (-56), 3) := by decide +kernel
theorem dX8_init_107 : decode cX8_init 107 = .ok (.return_, 1) := by decide +kernel
theorem oi_RX8 : OI RX8 3 := ⟨gw_tb 131 (by decide +kernel) rfl, gw_tb 27 (by decide +kernel) rfl, gw_tb 28 (by decide +kernel) rfl⟩
theorem nk_RX8_11 : FK RX8 11 7 0 := ⟨_, _, _, rfl, by decide, gw_tb 184 (by decide +kernel) rfl⟩
theorem nf_RX8_7_0 : FKf RX8 7 0 true := by
  intro C TT N h
  cases h
  exact ⟨rfl, fun h => rfl⟩
theorem nk_RX8_17 : FK RX8 17 7 1 := ⟨_, _, _, rfl, by decide, gw_tb 185 (by decide +kernel) rfl⟩
theorem nf_RX8_7_1 : FKf RX8 7 1 true := by
  intro C TT N h
  cases h
  exact ⟨rfl, fun h => rfl⟩
theorem nk_RX8_21 : FK RX8 21 7 2 := ⟨_, _, _, rfl, by decide, gw_tb 187 (by decide +kernel) rfl⟩
theorem nf_RX8_7_2 : FKf RX8 7 2 true := by
  intro C TT N h
  cases h
  exact ⟨rfl, fun h => rfl⟩
theorem nk_RX8_24 : FK RX8 24 7 3 := ⟨_, _, _, rfl, by decide, gw_tb 189 (by decide +kernel) rfl⟩
theorem nf_RX8_7_3 : FKf RX8 7 3 true := by
  intro C TT N h
  cases h
  exact ⟨rfl, fun h => rfl⟩
theorem nk_RX8_27 : FK RX8 27 7 4 := ⟨_, _, _, rfl, by decide, gw_tb 191 (by decide +kernel) rfl⟩
theorem nf_RX8_7_4 : FKf RX8 7 4 true := by
  intro C TT N h
  cases h
  exact ⟨rfl, fun h => rfl⟩
theorem nmb_X8_withLetter : MB yX8_withLetter cX8_withLetter 3 (some .long) 2 := ⟨gw_tb 4 (by decide +kernel) rfl, gw_tb 183 (by decide +kernel) rfl, by decide +kernel, by decide +kernel, by decide +kernel⟩
theorem nms_X8_withLetter : Cond.static yX8_withLetter ∈ gw := gw_tb 182 (by decide +kernel) rfl
theorem nml_RX8_43 : ML RX8 43 yX8_withLetter := gw_tb 181 (by decide +kernel) rfl
def setJ (μ : Mem) (k : Nat) (g : Nat → Int64) : Mem := (μ.1, fun a b => if a = k then g b else μ.2.1 a b, μ.2.2)
def tkW : Nat → Nat
  | 0 => 0
  | i + 1 => if byS.getD i 0 = 32 then tkW i + 1 else tkW i
def tkG : Nat → Nat → Int64
  | 0, _ => 0
  | i + 1, k => if byS.getD i 0 = 32 then tkG i k else if k = tkW i then (tkG i k <<< ((5 : Int32).toInt64 &&& 63)) ||| ((byS.getD i 0 - (97 : Int32)) + (1 : Int32)).toInt64 else tkG i k
theorem tkW_lt : ∀ i, i < 76 → tkW i < 17 := by decide +kernel
theorem tkG_end : ∀ w, w < 17 → tkG 76 w = lN (W5 w) := by decide +kernel
theorem setJ_st {μ : Mem} {n k : Nat} {g g' : Nat → Int64} {v : Int64} (h1 : g' k = v) (h2 : ∀ j, j ≠ k → g' j = g j) : sJ (setJ μ n g) n k v = setJ μ n g' := by
  unfold sJ setJ
  congr 2
  funext a b
  unfold u2
  by_cases ha : a = n
  · subst ha
    by_cases hb : b = k
    · subst hb
      simp [h1]
    · simp [hb, h2 b hb]
  · simp [ha]
theorem setJ_0 {μ : Mem} {n : Nat} {g : Nat → Int64} (h : ∀ j, gJ μ n j = 0) (hg : ∀ j, g j = 0) : μ = setJ μ n g := by
  obtain ⟨a, b, c⟩ := μ
  unfold setJ
  congr 2
  funext x y
  by_cases hx : x = n
  · subst hx
    show b x y = if x = x then g y else b x y
    rw [if_pos rfl, hg]
    exact h y
  · show b x y = if x = n then g y else b x y
    rw [if_neg hx]
theorem Frs.setJ {μ : Mem} {N k : Nat} {g : Nat → Int64} (h : Frs μ N) (hk : k < N) : Frs (setJ μ k g) N := by
  refine ⟨fun a b ha => ?_, fun a b r hr => h.2 a b r hr⟩
  have h1 := h.1 a b ha
  refine ⟨h1.1, ?_, h1.2.2⟩
  show (if a = k then g b else gJ μ a b) = 0
  rw [if_neg (by omega)]
  exact h1.2.1
def mTk (μ : Mem) (n b p1 : Nat) : Mem := (sR (sR (sR (sR (sR μ b 0 (some (n))) b 1 (some (n + 1))) b 2 (some (n + 2))) b 3 (some (n + 3))) b 4 (some p1))
theorem ct_letter {T : List Dsc} {μ : Mem} (x0 : Int64) (x2 : Int32) : Ct 1 yX8_withLetter cX8_withLetter 3 (some .long) T μ [.long x0, .int x2] (some (.long ((x0 <<< ((5 : Int32).toInt64 &&& 63)) ||| ((x2 - (97 : Int32)) + (1 : Int32)).toInt64))) μ := cf_X8_withLetter (R := μ.2.2) (m := (μ.1, μ.2.1)) (r := (_, _)) rfl
set_option maxHeartbeats 4000000 in
set_option maxRecDepth 100000 in
theorem tk_loop {X : CX} {T : List Dsc} {μ : Mem} {n b a v f n1 n2 : Nat} (hX : XR X 5 n1 n2) (hS0 : XSt X a v f) (hT : T[b]? = some (.inl 7)) (hA : T[n]? = some (.inr (.long, 17))) (hR : gR μ b 0 = some n) (hQ : FnV X cX8_init RX8 4 T n1 n2 (setJ μ n (tkG 76))) : ∀ k i, i + k = 76 → Wp X cX8_init RX8 4 T (setJ μ n (tkG i)) n1 n2 48 [(0, .ref b), (2, .int (nI (tkW i))), (3, .int (nI i))] [] := by
  intro k
  induction k with
  | zero =>
    intro i hi
    have hi' : i = 76 := by omega
    subst hi'
    refine Wp.iload_n (pc := 48) 2 rfl rfl dX8_init_48 ?_
    refine Wp.sLen (pc := 49) hS0 hX (by decide) (Nat.le_of_ble_eq_true rfl) dX8_init_49 dX8_init_51 ?_
    refine Wp.icmp_ge (pc := 54) 107 dX8_init_54 (by decide) (fun _ => ?_) (fun q => absurd (by decide) q)
    exact hQ 107 _ dX8_init_107
  | succ k ih =>
    intro i hi
    have hi' : i < 76 := by omega
    have hw := tkW_lt i hi'
    have hix := ixb_nI hi' (by decide)
    have hcl : (nI i).toNatClampNeg = i := nI_clamp (by omega)
    have hcw : (nI (tkW i)).toNatClampNeg = tkW i := nI_clamp (by omega)
    refine Wp.iload_n (pc := 48) 2 rfl rfl dX8_init_48 ?_
    refine Wp.sLen (pc := 49) hS0 hX (by decide) (Nat.le_of_ble_eq_true rfl) dX8_init_49 dX8_init_51 ?_
    refine Wp.icmp_ge (pc := 54) 107 dX8_init_54 (by decide) (fun q => absurd q (nI_ge hi' (by decide))) (fun _ => ?_)
    refine Wp.iload_n (pc := 57) 1 rfl rfl dX8_init_57 ?_
    refine Wp.bipush (pc := 58) (17 : Int32) (by decide) dX8_init_58 ?_
    refine Wp.icmp_ge (pc := 60) 107 dX8_init_60 (by decide) (fun q => absurd q (nI_ge hw (by decide))) (fun _ => ?_)
    refine Wp.sAt (pc := 63) 2 rfl rfl hix hS0 hX (by decide) (Nat.le_of_ble_eq_true rfl) dX8_init_63 dX8_init_65 dX8_init_66 ?_
    rw [hcl]
    refine Wp.bipush (pc := 69) (32 : Int32) (by decide) dX8_init_69 ?_
    refine Wp.icmp_ne (pc := 71) 80 dX8_init_71 (by decide) (fun hc => ?_) (fun hc => ?_)
    · refine Wp.aload_n (pc := 80) 0 rfl rfl dX8_init_80 ?_
      refine Wp.getR (pc := 81) (r := n) hR hT nk_RX8_11 rfl dX8_init_81 ?_
      refine Wp.iload_n (pc := 84) 1 rfl rfl dX8_init_84 ?_
      refine Wp.aload_n (pc := 85) 0 rfl rfl dX8_init_85 ?_
      refine Wp.getR (pc := 86) (r := n) hR hT nk_RX8_11 rfl dX8_init_86 ?_
      refine Wp.iload_n (pc := 89) 1 rfl rfl dX8_init_89 ?_
      refine Wp.lald (pc := 90) (v := tkG i (tkW i)) (n := 17) (by unfold rJ; rw [if_pos (ixb_nI hw (by decide)), hcw]; exact congrArg some (if_pos rfl)) (aLen_mk hA rfl) dX8_init_90 ?_
      refine Wp.sAt (pc := 91) 2 rfl rfl hix hS0 hX (by decide) (Nat.le_of_ble_eq_true rfl) dX8_init_91 dX8_init_93 dX8_init_94 ?_
      rw [hcl]
      refine Wp.callSl (pc := 97) (st := [.int (nI (tkW i)), .ref n]) (as := [.long (tkG i (tkW i)), .int (byS.getD i 0)]) (ct_letter _ _) nml_RX8_43 nms_X8_withLetter nmb_X8_withLetter hX (by decide) (by decide) rfl (Nat.le_of_ble_eq_true rfl) dX8_init_97 rfl ?_
      refine Wp.last (pc := 100) (n := 17) (wJ_at (k := tkW i) (ixb_nI hw (by decide)) hcw) (aLen_mk hA rfl) dX8_init_100 ?_
      rw [setJ_st (g' := tkG (i + 1)) (by show (if _ then _ else _) = _; rw [if_neg hc, if_pos rfl]) (fun j hj => by show (if _ then _ else _) = _; rw [if_neg hc, if_neg hj])]
      refine Wp.iinc (pc := 101) (lo' := [(0, .ref b), (2, .int (nI (tkW i))), (3, .int (nI i + 1))]) (1 : Int32) (by decide) 2 rfl [1, 2, 0] rfl (by decide) dX8_init_101 ?_
      refine Wp.goto (pc := 104) 48 dX8_init_104 (by decide) ?_
      have e1 : tkW (i + 1) = tkW i := if_neg hc
      have hgo := ih (i + 1) (by omega)
      rw [e1] at hgo
      rw [nI_1]
      exact hgo
    · refine Wp.iinc (pc := 74) (lo' := [(0, .ref b), (2, .int (nI (tkW i) + 1)), (3, .int (nI i))]) (1 : Int32) (by decide) 1 rfl [1, 0, 2] rfl (by decide) dX8_init_74 ?_
      refine Wp.goto (pc := 77) 101 dX8_init_77 (by decide) ?_
      refine Wp.iinc (pc := 101) (lo' := [(0, .ref b), (2, .int (nI (tkW i) + 1)), (3, .int (nI i + 1))]) (1 : Int32) (by decide) 2 rfl [1, 2, 0] rfl (by decide) dX8_init_101 ?_
      refine Wp.goto (pc := 104) 48 dX8_init_104 (by decide) ?_
      have e1 : tkW (i + 1) = tkW i + 1 := if_pos hc
      have e2 : tkG (i + 1) = tkG i := funext fun j => if_pos hc
      have hgo := ih (i + 1) (by omega)
      rw [e1, e2] at hgo
      rw [nI_1, nI_1]
      exact hgo
theorem fr_X8_init {μ : Mem} {n b p1 : Nat} (hb : b < n) (hp1 : p1 < n) (hF : Frs μ n) : Frs (mTk μ n b p1) (n + 4) := by
  have hF : Frs μ (n + 4) := hF.up (by omega)
  have hF := hF.sR (k := b) (j := 0) (r := (n)) (by omega) (by omega)
  have hF := hF.sR (k := b) (j := 1) (r := (n + 1)) (by omega) (by omega)
  have hF := hF.sR (k := b) (j := 2) (r := (n + 2)) (by omega) (by omega)
  have hF := hF.sR (k := b) (j := 3) (r := (n + 3)) (by omega) (by omega)
  have hF := hF.sR (k := b) (j := 4) (r := p1) (by omega) (by omega)
  exact hF
set_option maxHeartbeats 4000000 in
set_option maxRecDepth 100000 in
theorem ct_X8_init {T : List Dsc} {μ : Mem} {n b p1 : Nat} (hb : b < n) (hp1 : p1 < n) (hn : T.length = n) (hT : T[b]? = some (.inl 7)) (hF : Frs μ n) : CtS 5 yX8_init cX8_init 4 none T μ [.ref b, .ref p1] none ((((T ++ [.inr (.long, 17)]) ++ [.inr (.int, 401)]) ++ [.inr (.long, 401)]) ++ [.inr (.int, 401)]) (setJ (mTk μ n b p1) n (tkG 76)) 4 1220 ∧ Frs (setJ (mTk μ n b p1) n (tkG 76)) (n + 4) := by
  refine ⟨CtS.ofV (by decide +kernel) (Nat.le_of_ble_eq_true rfl) (fun X a v f hX hN hO hS0 hQ => ?_), (fr_X8_init hb hp1 hF).setJ (by omega)⟩
  have hJ0 : ∀ j, gJ (mTk μ n b p1) n j = 0 := fun j => (hF.1 n j (Nat.le_refl _)).2.1
  refine Wp.lo' (lo' := [(0, .ref b), (1, .ref p1)]) [0, 1] rfl ?_
  rw [hn] at hO
  refine Wp.aload_n (pc := 0) 0 rfl rfl dX8_init_0 ?_
  refine Wp.objI (pc := 1) oi_RX8 (hX.le (Nat.le_refl _) (by decide) (by decide)) (by decide) (by decide) dX8_init_1 ?_
  refine Wp.aload_n (pc := 4) 0 rfl rfl dX8_init_4 ?_
  refine Wp.bipush (pc := 5) (17 : Int32) (by decide) dX8_init_5 ?_
  refine Wp.newA1 (pc := 7) (N := 17) (atype := .long) (ty := .long) hn hF hO (hX.le (Nat.le_refl _) (by decide) (by decide)) (vbc (vbr (by omega)) vbn) (lbc (vbr (by omega)) (lbc (vbr (by omega)) lbn)) ar_long rfl (Or.inr rfl) (by decide) (by decide) (by decide) dX8_init_7 ?_
  have hA0 := tnew (d := (.inr (.long, 17) : Dsc)) hn
  have hT := tapp (L := ([.inr (.long, 17)] : List Dsc)) hT
  have hn := tlen1 (d := (.inr (.long, 17) : Dsc)) hn
  have hO := hO.up (Nat.le_succ _)
  have hF := hF.up (Nat.le_succ _)
  refine Wp.putFR (pc := 9) hN hT nk_RX8_11 nf_RX8_7_0 rfl dX8_init_9 ?_
  have hF := hF.sR (k := b) (j := 0) (r := (n)) (by omega) (by omega)
  refine Wp.aload_n (pc := 12) 0 rfl rfl dX8_init_12 ?_
  refine Wp.sipush (pc := 13) (401 : Int32) (by decide) dX8_init_13 ?_
  refine Wp.newA1 (pc := 16) (N := 401) (atype := .int) (ty := .int) hn hF hO (hX.le (Nat.le_refl _) (by decide) (by decide)) (vbc (vbr (by omega)) vbn) (lbc (vbr (by omega)) (lbc (vbr (by omega)) lbn)) ar_int rfl (Or.inl rfl) (by decide) (by decide) (by decide) dX8_init_16 ?_
  have hA0 := tapp (L := ([.inr (.int, 401)] : List Dsc)) hA0
  have hT := tapp (L := ([.inr (.int, 401)] : List Dsc)) hT
  have hn := tlen1 (d := (.inr (.int, 401) : Dsc)) hn
  have hO := hO.up (Nat.le_succ _)
  have hF := hF.up (Nat.le_succ _)
  refine Wp.putFR (pc := 18) hN hT nk_RX8_17 nf_RX8_7_1 rfl dX8_init_18 ?_
  have hF := hF.sR (k := b) (j := 1) (r := (n + 1)) (by omega) (by omega)
  refine Wp.aload_n (pc := 21) 0 rfl rfl dX8_init_21 ?_
  refine Wp.sipush (pc := 22) (401 : Int32) (by decide) dX8_init_22 ?_
  refine Wp.newA1 (pc := 25) (N := 401) (atype := .long) (ty := .long) hn hF hO (hX.le (Nat.le_refl _) (by decide) (by decide)) (vbc (vbr (by omega)) vbn) (lbc (vbr (by omega)) (lbc (vbr (by omega)) lbn)) ar_long rfl (Or.inr rfl) (by decide) (by decide) (by decide) dX8_init_25 ?_
  have hA0 := tapp (L := ([.inr (.long, 401)] : List Dsc)) hA0
  have hT := tapp (L := ([.inr (.long, 401)] : List Dsc)) hT
  have hn := tlen1 (d := (.inr (.long, 401) : Dsc)) hn
  have hO := hO.up (Nat.le_succ _)
  have hF := hF.up (Nat.le_succ _)
  refine Wp.putFR (pc := 27) hN hT nk_RX8_21 nf_RX8_7_2 rfl dX8_init_27 ?_
  have hF := hF.sR (k := b) (j := 2) (r := (n + 2)) (by omega) (by omega)
  refine Wp.aload_n (pc := 30) 0 rfl rfl dX8_init_30 ?_
  refine Wp.sipush (pc := 31) (401 : Int32) (by decide) dX8_init_31 ?_
  refine Wp.newA1 (pc := 34) (N := 401) (atype := .int) (ty := .int) hn hF hO (hX.le (Nat.le_refl _) (by decide) (by decide)) (vbc (vbr (by omega)) vbn) (lbc (vbr (by omega)) (lbc (vbr (by omega)) lbn)) ar_int rfl (Or.inl rfl) (by decide) (by decide) (by decide) dX8_init_34 ?_
  have hA0 := tapp (L := ([.inr (.int, 401)] : List Dsc)) hA0
  have hT := tapp (L := ([.inr (.int, 401)] : List Dsc)) hT
  have hn := tlen1 (d := (.inr (.int, 401) : Dsc)) hn
  have hO := hO.up (Nat.le_succ _)
  have hF := hF.up (Nat.le_succ _)
  refine Wp.putFR (pc := 36) hN hT nk_RX8_24 nf_RX8_7_3 rfl dX8_init_36 ?_
  have hF := hF.sR (k := b) (j := 3) (r := (n + 3)) (by omega) (by omega)
  refine Wp.aload_n (pc := 39) 0 rfl rfl dX8_init_39 ?_
  refine Wp.aload_n (pc := 40) 1 rfl rfl dX8_init_40 ?_
  refine Wp.putFR (pc := 41) hN hT nk_RX8_27 nf_RX8_7_4 rfl dX8_init_41 ?_
  have hF := hF.sR (k := b) (j := 4) (r := p1) (by omega) (by omega)
  show Wp X _ _ _ _ (mTk μ n b p1) _ _ _ _ _
  refine Wp.iconst (pc := 44) (0 : Int32) (by decide) dX8_init_44 ?_
  refine Wp.istore_n (pc := 45) (lo' := [(0, .ref b), (2, .int (0 : Int32))]) [1, 0] rfl (by decide) rfl dX8_init_45 ?_
  refine Wp.iconst (pc := 46) (0 : Int32) (by decide) dX8_init_46 ?_
  refine Wp.istore_n (pc := 47) (lo' := [(0, .ref b), (2, .int (0 : Int32)), (3, .int (0 : Int32))]) [1, 2, 0] rfl (by decide) rfl dX8_init_47 ?_
  rw [setJ_0 (μ := mTk μ n b p1) (n := n) (g := tkG 0) hJ0 (fun j => rfl)]
  exact tk_loop hX hS0 hT hA0 (by unfold mTk; simp [gR_sR]) hQ 76 0 rfl
