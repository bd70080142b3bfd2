/-! ===== every: its rows are made once ===== -/
section WPE
variable {X : CX} {cc : ByteArray} {own : String} {nL : Nat} {T : List Dsc} {μ μ' : Mem} {n1 n2 pc : Nat} {lo : List (Nat × Value)} {st : List Value} {b : Nat}
theorem wS_agree {α : Nat → Nat} {cA : Nat → ClassId} (h : ∀ k, k < T.length → ∀ j, gI μ' k j = gI μ k j ∧ gJ μ' k j = gJ μ k j ∧ gR μ' k j = gR μ k j) : wS T μ' α cA = wS T μ α cA := by
  unfold wS
  apply List.map_congr_left
  intro k hk
  have hk' := List.mem_range.mp hk
  rw [eN_off (fun j => (h k hk' j).1) (fun j => (h k hk' j).2.1) (fun j => (h k hk' j).2.2)]
/-- what lies behind the cells doesn't matter -/
theorem Wp.agree (h : ∀ k, k < T.length → ∀ j, gI μ' k j = gI μ k j ∧ gJ μ' k j = gJ μ k j ∧ gR μ' k j = gR μ k j) (kk : Wp X cc own nL T μ' n1 n2 pc lo st) : Wp X cc own nL T μ n1 n2 pc lo st := by
  obtain ⟨p, l, e, R, s, m, args, below, meth, c, Q, A, D, n0, α0⟩ := X
  intro hx hb hml hown hts hlk hA H locs ls α cA ha hW hS hl
  have hW' : Wd D A T μ' α cA s H := by
    unfold Wd at hW ⊢
    rw [wS_agree h]
    exact hW
  exact kk hx hb hml hown hts hlk hA H locs ls α cA ha hW' hS hl
theorem Wp.inull {off : Int} (hd : decode cc pc = .ok (.ifnull off, 3)) (kk : Wp X cc own nL T μ n1 n2 (pc + 3) lo st) : Wp X cc own nL T μ n1 n2 pc lo (.ref b :: st) := by
  obtain ⟨p, l, e, R, s, m, args, below, meth, c, Q, A, D, n0, α0⟩ := X
  intro hx hb hml hown hts hlk hA H locs ls α cA ha hW hS hl
  exact lv_ifnull hx hb hd (kk hx hb hml hown hts hlk hA H locs ls α cA ha hW hS hl)
theorem Wp.inullN {off : Int} (tgt : Nat) (hd : decode cc pc = .ok (.ifnull off, 3)) (ht : (pc : Int) + off = (tgt : Int)) (kk : Wp X cc own nL T μ n1 n2 tgt lo st) : Wp X cc own nL T μ n1 n2 pc lo (.null :: st) := by
  obtain ⟨p, l, e, R, s, m, args, below, meth, c, Q, A, D, n0, α0⟩ := X
  intro hx hb hml hown hts hlk hA H locs ls α cA ha hW hS hl
  exact lv_ifnullN hx hb hd ht (kk hx hb hml hown hts hlk hA H locs ls α cA ha hW hS hl)
end WPE
def zF (m : M2) : M2 := (fun k j => if k < 120 then m.1 k j else 0, fun k j => if k < 120 then m.2 k j else 0)
def zA (m : M2) : M2 := (fun k j => if k = 120 ∨ k = 121 then 0 else m.1 k j, fun k j => if k = 120 ∨ k = 121 then 0 else m.2 k j)
theorem zA_fr (m : M2) : Fr (fun k _ => k = 120 ∨ k = 121) m (zA m) := fun k j h => ⟨if_neg h, if_neg h⟩
def TBB : List Dsc := (T0 ++ [.inr (.int, 20736)]) ++ [.inr (.int, 20736)]
def RB (R : RM) : RM := u2 (u2 R 38 1 (some 120)) 38 2 (some 121)
/-- what is no row of every's -/
def RI (R : RM) : Prop := ∀ k j r, R k j = some r → r < 120 ∧ k < 120
theorem len_T0 : T0.length = 120 := by decide +kernel
theorem len_TBB : TBB.length = 122 := by
  unfold TBB
  rw [List.length_append, List.length_append, len_T0]
  rfl
theorem geo_B {R : RM} {c e : Nat} (h : Geo T0 R c e) : Geo TBB (RB R) c e := by
  obtain ⟨h1, h2, h3, h4, h5, h6, h7⟩ := h
  refine ⟨fun k d hd => tapp (tapp hd), fun k j r hr => ?_, h3, h4, h5, h6, h7⟩
  have e1 : ¬ (k = 38 ∧ j = 2) := by
    rintro ⟨rfl, rfl⟩
    cases hr
  have e2 : ¬ (k = 38 ∧ j = 1) := by
    rintro ⟨rfl, rfl⟩
    cases hr
  unfold RB u2
  rw [if_neg e1, if_neg e2]
  exact h2 k j r hr
theorem geoB_B {R : RM} : GeoB TBB (RB R) := ⟨rfl, rfl, by decide +kernel, by decide +kernel⟩
theorem fr_zF {m : M2} {R : RM} (h : RI R) : Frs (mk (zF m) R) 120 := by
  refine ⟨fun k j hk => ⟨if_neg (by omega), if_neg (by omega), ?_⟩, fun k j r hr => (h k j r hr).1⟩
  cases hr : R k j with
  | none => exact hr
  | some r => exact absurd (h k j r hr).2 (by omega)
theorem cp_B {T : List Dsc} {R : RM} {c e : Nat} {x1 x2 x3 : Int32} {m r : M2} (hG : Geo T R c e) (hB : GeoB T R) (hf : f_prove_32 c x1 x2 x3 m = some r) : Ct 6 yX0_prove cX0_prove 6 none T (mk m R) [.ref 38, .int x1, .int x2, .int x3] none (mk r R) := by
  refine Ct.ofV (r := mk r R) (by decide +kernel) (Nat.le_of_ble_eq_true rfl) (fun X hX hk => ?_)
  refine Wp.lo' (lo' := [(0, .ref 38), (1, .int x1), (2, .int x2), (3, .int x3)]) [0, 1, 2, 3] rfl ?_
  refine Wp.aload_n (pc := 0) 0 rfl rfl dX0_prove_0 ?_
  refine Wp.getR2 (pc := 1) hB.1 (hG.t 38 rfl) fk_RX0_25 rfl dX0_prove_1 ?_
  refine Wp.inull (pc := 4) dX0_prove_4 ?_
  refine Wp.aload_n (pc := 7) 0 rfl rfl dX0_prove_7 ?_
  refine Wp.getR2 (pc := 8) hB.2.1 (hG.t 38 rfl) fk_RX0_29 rfl dX0_prove_8 ?_
  refine Wp.nnull (pc := 11) (tgt := 32) dX0_prove_11 (by decide) ?_
  exact w_prove_32 hX hG hB hf hk
set_option maxRecDepth 100000 in
set_option maxHeartbeats 4000000 in
theorem cp_A {R : RM} {c e : Nat} {x1 x2 x3 : Int32} {m r : M2} (hG : Geo T0 R c e) (h1 : R 38 1 = none) (h2 : R 38 2 = none) (hR : RI R) (hf : f_prove_32 c x1 x2 x3 (zA m) = some r) : CtA 6 yX0_prove cX0_prove 6 none T0 (mk m R) [.ref 38, .int x1, .int x2, .int x3] none TBB (mk r (RB R)) 2 41472 := by
  refine CtA.ofV (by decide +kernel) (Nat.le_of_ble_eq_true rfl) (fun X hX hN hO hQ => ?_)
  rw [len_T0] at hO
  refine Wp.lo' (lo' := [(0, .ref 38), (1, .int x1), (2, .int x2), (3, .int x3)]) [0, 1, 2, 3] rfl ?_
  refine Wp.agree (μ' := mk (zF m) R) (fun k hk j => ?_) ?_
  · rw [len_T0] at hk
    exact ⟨if_pos hk, if_pos hk, rfl⟩
  have hF := fr_zF (m := m) hR
  refine Wp.aload_n (pc := 0) 0 rfl rfl dX0_prove_0 ?_
  refine Wp.getN (pc := 1) (μ := mk (zF m) R) h1 (hG.t 38 rfl) fk_RX0_25 rfl dX0_prove_1 ?_
  refine Wp.inullN (pc := 4) 14 dX0_prove_4 (by decide) ?_
  refine Wp.aload_n (pc := 14) 0 rfl rfl dX0_prove_14 ?_
  refine Wp.sipush (pc := 15) (20736 : Int32) (by decide) dX0_prove_15 ?_
  refine Wp.newA1 (pc := 18) (M := 120) (N := 20736) (atype := .int) (ty := .int) len_T0 hF hO (hX.le (Nat.le_refl _) (by decide) (by decide)) (vbc (vbr (by decide)) vbn) (lbc (vbr (by decide)) (lbc trivial (lbc trivial (lbc trivial lbn)))) ar_int rfl (Or.inl rfl) (by decide) (by decide) (by decide) dX0_prove_18 ?_
  have hT := tapp (L := ([.inr (.int, 20736)] : List Dsc)) (hG.t 38 rfl)
  have hn := tlen1 (d := (.inr (.int, 20736) : Dsc)) len_T0
  refine Wp.putR (pc := 20) (k := 38) hT fk_RX0_25 nf_RX0_0_1 rfl dX0_prove_20 ?_
  have hF := (hF.up (show 120 ≤ 121 by decide)).sR (k := 38) (j := 1) (r := 120) (by decide) (by decide)
  refine Wp.aload_n (pc := 23) 0 rfl rfl dX0_prove_23 ?_
  refine Wp.sipush (pc := 24) (20736 : Int32) (by decide) dX0_prove_24 ?_
  refine Wp.newA1 (pc := 27) (M := 121) (N := 20736) (atype := .int) (ty := .int) hn hF (hO.up (by decide)) (hX.le (Nat.le_refl _) (by decide) (by decide)) (vbc (vbr (by decide)) vbn) (lbc (vbr (by decide)) (lbc trivial (lbc trivial (lbc trivial lbn)))) ar_int rfl (Or.inl rfl) (by decide) (by decide) (by decide) dX0_prove_27 ?_
  have hT := tapp (L := ([.inr (.int, 20736)] : List Dsc)) hT
  refine Wp.putR (pc := 29) (k := 38) hT fk_RX0_29 nf_RX0_0_2 rfl dX0_prove_29 ?_
  show Wp X _ _ _ TBB _ _ _ _ _ _
  refine Wp.agree (μ' := mk (zA m) (RB R)) (fun k hk j => ?_) ?_
  · rw [len_TBB] at hk
    refine ⟨?_, ?_, rfl⟩
    · show (if k = 120 ∨ k = 121 then 0 else m.1 k j) = if k < 120 then m.1 k j else 0
      by_cases h : k < 120
      · rw [if_pos h, if_neg (by omega)]
      · rw [if_neg h, if_pos (by omega)]
    · show (if k = 120 ∨ k = 121 then 0 else m.2 k j) = if k < 120 then m.2 k j else 0
      by_cases h : k < 120
      · rw [if_pos h, if_neg (by omega)]
      · rw [if_neg h, if_pos (by omega)]
  exact w_prove_32 hX (geo_B hG) geoB_B hf hQ
