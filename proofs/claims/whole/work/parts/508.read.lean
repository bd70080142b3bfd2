/-! ===== read: the two texts change places ===== -/
theorem tx_o {c : Nat} (h : tx c) : tx (10 - c) := by
  rcases h with rfl | rfl
  · exact Or.inr rfl
  · exact Or.inl rfl
theorem tx_lt {c : Nat} (h : tx c) : c < 120 ∧ 10 - c < 120 ∧ 10 - (10 - c) = c := by
  rcases h with rfl | rfl <;> decide
def swR (R : RM) (c : Nat) : RM := u2 (u2 (u2 R 0 2 (some (10 - c))) 0 3 (some c)) 23 0 (some (10 - c))
theorem geo_sw {T : List Dsc} {R : RM} {c e : Nat} (h : Geo T R c e) : Geo T (swR R c) (10 - c) e := by
  have hc := h.hc
  obtain ⟨h1, h2, h3, h4, h5, h6, h7⟩ := h
  refine ⟨h1, fun k j r hr => ?_, ⟨tx_o h3.1, h3.2⟩, rfl, ?_, rfl, h7⟩
  · have e1 : ¬ (k = 23 ∧ j = 0) := by
      rintro ⟨rfl, rfl⟩
      cases hr
    have e2 : ¬ (k = 0 ∧ j = 3) := by
      rintro ⟨rfl, rfl⟩
      cases hr
    have e3 : ¬ (k = 0 ∧ j = 2) := by
      rintro ⟨rfl, rfl⟩
      cases hr
    unfold swR u2
    rw [if_neg e1, if_neg e2, if_neg e3]
    exact h2 k j r hr
  · rw [(tx_lt hc).2.2]
    rfl
def rdR (R : RM) (c : Nat) (v : Int32) : RM := if v = 0 then swR (u2 R 14 3 (some (10 - c))) c else u2 R 14 3 (some (10 - c))
theorem geo_rd {T : List Dsc} {R : RM} {c e : Nat} (h : Geo T R c e) (v : Int32) : Geo T (rdR R c v) (if v = 0 then 10 - c else c) (10 - c) := by
  have h1 := h.set3 (tx_o h.hc)
  unfold rdR
  split
  · exact geo_sw h1
  · exact h1
theorem ri_u2 {R : RM} {k j r : Nat} (h : RI R) (hk : k < 120) (hr : r < 120) : RI (u2 R k j (some r)) := by
  intro a b q hq
  unfold u2 at hq
  split at hq
  · next z =>
    cases hq
    exact ⟨hr, by omega⟩
  · exact h a b q hq
theorem rl_u2 {R : RM} {k j r N : Nat} (h : ∀ a b q, R a b = some q → q < N) (hr : r < N) : ∀ a b q, u2 R k j (some r) a b = some q → q < N := by
  intro a b q hq
  unfold u2 at hq
  split at hq
  · cases hq
    exact hr
  · exact h a b q hq
theorem ph_rd {T : List Dsc} {R : RM} {c a : Nat} (hc : tx c) (h : PH T R a) (v : Int32) : PH T (rdR R c v) a := by
  obtain ⟨c1, c2, c3⟩ := tx_lt hc
  rcases h with ⟨h1, h2, h3, h4, h5⟩ | ⟨h1, h2, h3, h4⟩
  · refine Or.inl ⟨h1, h2, ?_, ?_, ?_⟩
    · unfold rdR
      split
      · exact h3
      · exact h3
    · unfold rdR
      split
      · exact h4
      · exact h4
    · have q := ri_u2 (k := 14) (j := 3) (r := 10 - c) h5 (by decide) c2
      unfold rdR
      split
      · exact ri_u2 (ri_u2 (ri_u2 q (by decide) c2) (by decide) c1) (by decide) c2
      · exact q
  · obtain ⟨b1, b2, b3, b4⟩ := h3
    refine Or.inr ⟨h1, h2, ⟨?_, ?_, b3, b4⟩, ?_⟩
    · unfold rdR
      split
      · exact b1
      · exact b1
    · unfold rdR
      split
      · exact b2
      · exact b2
    · have q := rl_u2 (k := 14) (j := 3) (r := 10 - c) h4 (by omega)
      unfold rdR
      split
      · exact rl_u2 (rl_u2 (rl_u2 q (by omega)) (by omega)) (by omega)
      · exact q
set_option maxRecDepth 100000 in
set_option maxHeartbeats 4000000 in
theorem ca_put {T : List Dsc} {R : RM} {c e : Nat} {m r : M2} (hG : Geo T R c e) (hf : rdEnd (10 - c) m = some r) : Ct 2 yX11_putSpareInPlace cX11_putSpareInPlace 3 none T (mk m R) [.ref 0] none (mk r (swR R c)) := by
  refine Ct.ofV (r := mk r (swR R c)) (by decide +kernel) (Nat.le_of_ble_eq_true rfl) (fun X hX hk => ?_)
  refine Wp.lo' (lo' := [(0, .ref 0)]) [0] rfl ?_
  unfold rdEnd at hf
  obtain ⟨m3, h3, hf⟩ := bnd hf
  obtain ⟨m4, h4, hf⟩ := bnd hf
  have hG2 := geo_sw hG
  refine Wp.aload_n (pc := 0) 0 rfl rfl dX11_putSpareInPlace_0 ?_
  refine Wp.getR2 (pc := 1) hG.r0 (hG.t 0 rfl) nk_RX11_16 rfl dX11_putSpareInPlace_1 ?_
  refine Wp.astore_n (pc := 4) (lo' := [(0, .ref 0), (1, .ref c)]) [1, 0] rfl (by decide) rfl dX11_putSpareInPlace_4 ?_
  refine Wp.aload_n (pc := 5) 0 rfl rfl dX11_putSpareInPlace_5 ?_
  refine Wp.aload_n (pc := 6) 0 rfl rfl dX11_putSpareInPlace_6 ?_
  refine Wp.getR2 (pc := 7) hG.r1 (hG.t 0 rfl) nk_RX11_20 rfl dX11_putSpareInPlace_7 ?_
  refine Wp.ptR2 (pc := 10) (hG.t 0 rfl) nk_RX11_16 nf_RX11_10_2 rfl dX11_putSpareInPlace_10 ?_
  refine Wp.aload_n (pc := 13) 0 rfl rfl dX11_putSpareInPlace_13 ?_
  refine Wp.aload_n (pc := 14) 1 rfl rfl dX11_putSpareInPlace_14 ?_
  refine Wp.ptR2 (pc := 15) (hG.t 0 rfl) nk_RX11_20 nf_RX11_10_3 rfl dX11_putSpareInPlace_15 ?_
  refine Wp.aload_n (pc := 18) 0 rfl rfl dX11_putSpareInPlace_18 ?_
  refine Wp.getR2 (pc := 19) (j := 5) (r := 23) (hG.r 0 5 rfl) (hG.t 0 rfl) nk_RX11_37 rfl dX11_putSpareInPlace_19 ?_
  refine Wp.aload_n (pc := 22) 0 rfl rfl dX11_putSpareInPlace_22 ?_
  refine Wp.getR2 (pc := 23) (j := 2) (r := 10 - c) rfl (hG.t 0 rfl) nk_RX11_16 rfl dX11_putSpareInPlace_23 ?_
  refine Wp.ptR2 (pc := 26) (hG.t 23 rfl) nk_RX11_107 nf_RX11_4_0 rfl dX11_putSpareInPlace_26 ?_
  show Wp X _ _ _ T (mk m (swR R c)) _ _ _ _ _
  refine Wp.aload_n (pc := 29) 0 rfl rfl dX11_putSpareInPlace_29 ?_
  refine Wp.getR2 (pc := 30) (hG2.r 0 6 rfl) (hG.t 0 rfl) nk_RX11_44 rfl dX11_putSpareInPlace_30 ?_
  refine Wp.aload_n (pc := 33) 0 rfl rfl dX11_putSpareInPlace_33 ?_
  refine Wp.getR2 (pc := 34) hG2.r0 (hG.t 0 rfl) nk_RX11_16 rfl dX11_putSpareInPlace_34 ?_
  refine Wp.callVv (pc := 37) (b := 28) (st := []) (as := [.ref (10 - c)]) (ci := 1) (c_X1_begin hG2 (Or.inl rfl) hG2.hc h3) nml_RX11_89 nmv_X1_begin nmb_X1_begin hX (by decide) (by decide) rfl (hG.t 28 rfl) rfl (by decide) dX11_putSpareInPlace_37 rfl ?_
  refine Wp.aload_n (pc := 40) 0 rfl rfl dX11_putSpareInPlace_40 ?_
  refine Wp.getR2 (pc := 41) (hG2.r 0 8 rfl) (hG.t 0 rfl) nk_RX11_55 rfl dX11_putSpareInPlace_41 ?_
  refine Wp.callVv (pc := 44) (b := 32) (st := []) (as := []) (ci := 2) (c_X3_clear hG2 h4) nml_RX11_108 nmv_X3_clear nmb_X3_clear hX (by decide) (by decide) rfl (hG.t 32 rfl) rfl (by decide) dX11_putSpareInPlace_44 rfl ?_
  refine Wp.aload_n (pc := 47) 0 rfl rfl dX11_putSpareInPlace_47 ?_
  refine Wp.getR2 (pc := 48) (hG2.r 0 12 rfl) (hG.t 0 rfl) nk_RX11_85 rfl dX11_putSpareInPlace_48 ?_
  refine Wp.iconst (pc := 51) (0 : Int32) (by decide) dX11_putSpareInPlace_51 ?_
  refine Wp.ptI2 (pc := 52) (m' := tI m4 41 1 0) rfl (hG.t 41 rfl) nk_RX11_111 nf_RX11_9_1 rfl dX11_putSpareInPlace_52 ?_
  refine Wp.iconst (pc := 55) (0 : Int32) (by decide) dX11_putSpareInPlace_55 ?_
  refine Wp.istore_n (pc := 56) (lo' := [(0, .ref 0), (2, .int (0 : Int32))]) [1, 0] rfl (by decide) rfl dX11_putSpareInPlace_56 ?_
  refine Wp.iload_n (pc := 57) 1 rfl rfl dX11_putSpareInPlace_57 ?_
  refine Wp.iconst (pc := 58) (3 : Int32) (by decide) dX11_putSpareInPlace_58 ?_
  refine Wp.icmp_ge (pc := 59) 78 dX11_putSpareInPlace_59 (by decide) (fun q => absurd q (by decide)) (fun _ => ?_)
  refine Wp.aload_n (pc := 62) 0 rfl rfl dX11_putSpareInPlace_62 ?_
  refine Wp.getR2 (pc := 63) (hG2.r 0 7 rfl) (hG.t 0 rfl) nk_RX11_48 rfl dX11_putSpareInPlace_63 ?_
  refine Wp.iload_n (pc := 66) 1 rfl rfl dX11_putSpareInPlace_66 ?_
  refine Wp.aald2 (pc := 67) (k := 0) (v := 47) (by decide) (hG2.r 31 0 rfl) (hG.t 47 rfl) (hG.a 31 4 rfl) dX11_putSpareInPlace_67 ?_
  refine Wp.iconst (pc := 68) (0 : Int32) (by decide) dX11_putSpareInPlace_68 ?_
  refine Wp.ptZ2 (pc := 69) (m' := tI (tI m4 41 1 0) 47 5 0) (Or.inl rfl) rfl (hG.t 47 rfl) nk_RX11_114 nf_RX11_1_5 rfl dX11_putSpareInPlace_69 ?_
  refine Wp.iincN (pc := 72) (lo' := [(0, .ref 0), (2, .int (1 : Int32))]) (1 : Int32) (by decide) (congrArg some (by decide)) 1 rfl [1, 0] rfl (by decide) dX11_putSpareInPlace_72 ?_
  refine Wp.goto (pc := 75) 57 dX11_putSpareInPlace_75 (by decide) ?_
  refine Wp.iload_n (pc := 57) 1 rfl rfl dX11_putSpareInPlace_57 ?_
  refine Wp.iconst (pc := 58) (3 : Int32) (by decide) dX11_putSpareInPlace_58 ?_
  refine Wp.icmp_ge (pc := 59) 78 dX11_putSpareInPlace_59 (by decide) (fun q => absurd q (by decide)) (fun _ => ?_)
  refine Wp.aload_n (pc := 62) 0 rfl rfl dX11_putSpareInPlace_62 ?_
  refine Wp.getR2 (pc := 63) (hG2.r 0 7 rfl) (hG.t 0 rfl) nk_RX11_48 rfl dX11_putSpareInPlace_63 ?_
  refine Wp.iload_n (pc := 66) 1 rfl rfl dX11_putSpareInPlace_66 ?_
  refine Wp.aald2 (pc := 67) (k := 1) (v := 50) (by decide) (hG2.r 31 1 rfl) (hG.t 50 rfl) (hG.a 31 4 rfl) dX11_putSpareInPlace_67 ?_
  refine Wp.iconst (pc := 68) (0 : Int32) (by decide) dX11_putSpareInPlace_68 ?_
  refine Wp.ptZ2 (pc := 69) (m' := tI (tI (tI m4 41 1 0) 47 5 0) 50 5 0) (Or.inl rfl) rfl (hG.t 50 rfl) nk_RX11_114 nf_RX11_1_5 rfl dX11_putSpareInPlace_69 ?_
  refine Wp.iincN (pc := 72) (lo' := [(0, .ref 0), (2, .int (2 : Int32))]) (1 : Int32) (by decide) (congrArg some (by decide)) 1 rfl [1, 0] rfl (by decide) dX11_putSpareInPlace_72 ?_
  refine Wp.goto (pc := 75) 57 dX11_putSpareInPlace_75 (by decide) ?_
  refine Wp.iload_n (pc := 57) 1 rfl rfl dX11_putSpareInPlace_57 ?_
  refine Wp.iconst (pc := 58) (3 : Int32) (by decide) dX11_putSpareInPlace_58 ?_
  refine Wp.icmp_ge (pc := 59) 78 dX11_putSpareInPlace_59 (by decide) (fun q => absurd q (by decide)) (fun _ => ?_)
  refine Wp.aload_n (pc := 62) 0 rfl rfl dX11_putSpareInPlace_62 ?_
  refine Wp.getR2 (pc := 63) (hG2.r 0 7 rfl) (hG.t 0 rfl) nk_RX11_48 rfl dX11_putSpareInPlace_63 ?_
  refine Wp.iload_n (pc := 66) 1 rfl rfl dX11_putSpareInPlace_66 ?_
  refine Wp.aald2 (pc := 67) (k := 2) (v := 53) (by decide) (hG2.r 31 2 rfl) (hG.t 53 rfl) (hG.a 31 4 rfl) dX11_putSpareInPlace_67 ?_
  refine Wp.iconst (pc := 68) (0 : Int32) (by decide) dX11_putSpareInPlace_68 ?_
  refine Wp.ptZ2 (pc := 69) (m' := tI (tI (tI (tI m4 41 1 0) 47 5 0) 50 5 0) 53 5 0) (Or.inl rfl) rfl (hG.t 53 rfl) nk_RX11_114 nf_RX11_1_5 rfl dX11_putSpareInPlace_69 ?_
  refine Wp.iincN (pc := 72) (lo' := [(0, .ref 0), (2, .int (3 : Int32))]) (1 : Int32) (by decide) (congrArg some (by decide)) 1 rfl [1, 0] rfl (by decide) dX11_putSpareInPlace_72 ?_
  refine Wp.goto (pc := 75) 57 dX11_putSpareInPlace_75 (by decide) ?_
  refine Wp.iload_n (pc := 57) 1 rfl rfl dX11_putSpareInPlace_57 ?_
  refine Wp.iconst (pc := 58) (3 : Int32) (by decide) dX11_putSpareInPlace_58 ?_
  refine Wp.icmp_ge (pc := 59) 78 dX11_putSpareInPlace_59 (by decide) (fun _ => ?_) (fun q => absurd (by decide) q)
  cases hf
  exact hk _ _ dX11_putSpareInPlace_78
set_option maxRecDepth 100000 in
set_option maxHeartbeats 4000000 in
theorem ca_read {T : List Dsc} {R : RM} {c e : Nat} {m : M2} {r : Int32 × M2} (hG : Geo T R c e) (hf : F_read e c m = some r) : Ct 75 yX11_read cX11_read 2 (some .int) T (mk m R) [.ref 0] (some (.int r.1)) (mk r.2 (rdR R c r.1)) := by
  refine Ct.ofI (r := (r.1, mk r.2 (rdR R c r.1))) (by decide +kernel) (Nat.le_of_ble_eq_true rfl) (fun X hX hk => ?_)
  refine Wp.lo' (lo' := [(0, .ref 0)]) [0] rfl ?_
  unfold F_read at hf
  obtain ⟨q, hq, hf⟩ := bnd hf
  have hG1 := hG.set3 (tx_o hG.hc)
  refine Wp.aload_n (pc := 0) 0 rfl rfl dX11_read_0 ?_
  refine Wp.getR2 (pc := 1) (hG.r 0 4 rfl) (hG.t 0 rfl) nk_RX11_28 rfl dX11_read_1 ?_
  refine Wp.aload_n (pc := 4) 0 rfl rfl dX11_read_4 ?_
  refine Wp.getI2 (pc := 5) (hG.t 0 rfl) nk_RX11_92 rfl dX11_read_5 ?_
  refine Wp.aload_n (pc := 8) 0 rfl rfl dX11_read_8 ?_
  refine Wp.getR2 (pc := 9) hG.r1 (hG.t 0 rfl) nk_RX11_20 rfl dX11_read_9 ?_
  refine Wp.callVi (pc := 12) (b := 14) (st := []) (as := [.int (hI m 0 1), .ref (10 - c)]) (ci := 3) (c_X4_readTape hG (tx_o hG.hc) hq) nml_RX11_100 nmv_X4_readTape nmb_X4_readTape hX (by decide) (by decide) rfl (hG.t 14 rfl) rfl (by decide) dX11_read_12 rfl ?_
  refine Wp.istore_n (pc := 15) (lo' := [(0, .ref 0), (1, .int q.1)]) [1, 0] rfl (by decide) rfl dX11_read_15 ?_
  refine Wp.aload_n (pc := 16) 0 rfl rfl dX11_read_16 ?_
  refine Wp.iconst (pc := 17) (0 : Int32) (by decide) dX11_read_17 ?_
  refine Wp.ptI2 (pc := 18) (m' := tI q.2 0 1 0) rfl (hG.t 0 rfl) nk_RX11_92 nf_RX11_10_1 rfl dX11_read_18 ?_
  refine Wp.iload_n (pc := 21) 1 rfl rfl dX11_read_21 ?_
  refine Wp.if_ne (pc := 22) 29 dX11_read_22 (by decide) (fun h => ?_) (fun h => ?_)
  · rw [if_neg h] at hf
    cases hf
    refine Wp.iload_n (pc := 29) 1 rfl rfl dX11_read_29 ?_
    have e1 : rdR R c q.1 = u2 R 14 3 (some (10 - c)) := if_neg h
    rw [← e1]
    exact hk _ _ dX11_read_30
  · rw [if_pos h] at hf
    obtain ⟨m', hm, hf⟩ := bnd hf
    cases hf
    refine Wp.aload_n (pc := 25) 0 rfl rfl dX11_read_25 ?_
    refine Wp.callVv (pc := 26) (b := 0) (st := []) (as := []) (ci := 10) (ca_put hG1 hm) nml_RX11_104 nmv_X11_putSpareInPlace nmb_X11_putSpareInPlace hX (by decide) (by decide) rfl (hG.t 0 rfl) rfl (by decide) dX11_read_26 rfl ?_
    refine Wp.iload_n (pc := 29) 1 rfl rfl dX11_read_29 ?_
    have e1 : rdR R c q.1 = swR (u2 R 14 3 (some (10 - c))) c := if_pos h
    rw [← e1]
    exact hk _ _ dX11_read_30
