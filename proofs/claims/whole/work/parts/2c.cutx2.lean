/-! ===== the class's tokens ===== -/
section KC
variable {m : M2} {By : Nat → Nat} {n : Nat}
theorem x_kind (h : BX m By n) {i : Nat} (hi : i ≤ n) (ha : hI m 18 6 = nI i) (hv : hJ m 18 7 = 0) : ∃ m', F_X8_nextKind m = some (nI (lexK By n i), m') ∧ (i < n → hI m' 18 6 = nI (i + lexN By n i)) ∧ (lexK By n i = 3 → hJ m' 18 7 = lN (vB 10 (dgr By i) (rl isDi By n i))) ∧ (lexK By n i = 2 → hJ m' 18 7 = lN (vB 32 (ltr By i) (rl isLt By n i))) ∧ Fr SA m m' := by
  have hn := h.2.1
  unfold F_X8_nextKind
  rw [ha]
  by_cases q : i < n
  · have hc := h.2.2.2.1 i
    have hk := sgK_lt (By i) (nxB By n (i + 1))
    rw [x_byte h q, bind_s]
    dsimp only
    rw [if_pos (nI_0le (by omega)), x_isLt hc, bind_s]
    dsimp only
    by_cases q1 : isLt (By i) = true
    · have eK : lexK By n i = (if 8 < rl isLt By n i then 1 else kN (vB 32 (ltr By i) (rl isLt By n i))) := by unfold lexK; rw [if_neg (show ¬ n ≤ i by omega), if_pos q1]
      have eN : lexN By n i = rl isLt By n i := by unfold lexN; rw [if_pos q1]
      rw [b1_1 q1, if_neg (by decide), eK, eN]
      obtain ⟨m1, e1, a1, a2, f1⟩ := x_word h q ha hv
      rw [e1, bind_s]
      have hkn := kN_lt (vB 32 (ltr By i) (rl isLt By n i))
      refine ⟨m1, rfl, fun _ => a1, fun z => ?_, fun z => a2 ?_, f1⟩
      · exfalso
        by_cases h8 : 8 < rl isLt By n i
        · rw [if_pos h8] at z; omega
        · rw [if_neg h8] at z
          unfold kN at z
          split at z <;> omega
      · by_cases h8 : 8 < rl isLt By n i
        · rw [if_pos h8] at z; omega
        · omega
    · rw [b1_f (Bool.eq_false_iff.mpr q1), if_pos rfl, x_isDi hc, bind_s]
      dsimp only
      by_cases q2 : isDi (By i) = true
      · have eK : lexK By n i = (if 4 < rl isDi By n i then 1 else 3) := by unfold lexK; rw [if_neg (show ¬ n ≤ i by omega), if_neg q1, if_pos q2]
        have eN : lexN By n i = rl isDi By n i := by unfold lexN; rw [if_neg q1, if_pos q2]
        rw [b1_1 q2, if_neg (by decide), eK, eN]
        obtain ⟨m1, e1, a1, a2, f1⟩ := x_int h q ha hv
        rw [e1, bind_s]
        refine ⟨m1, rfl, fun _ => a1, fun _ => a2, fun z => ?_, f1⟩
        exfalso
        split at z <;> omega
      · have eK : lexK By n i = sgK (By i) (nxB By n (i + 1)) := by unfold lexK; rw [if_neg (show ¬ n ≤ i by omega), if_neg q1, if_neg q2]
        have eN : lexN By n i = (if sg2 (By i) (nxB By n (i + 1)) = 0 then 1 else 2) := by unfold lexN; rw [if_neg q1, if_neg q2]
        rw [b1_f (Bool.eq_false_iff.mpr q2), if_pos rfl, eK, eN]
        obtain ⟨m1, e1, a1, f1⟩ := x_sign h q ha
        rw [e1, bind_s]
        exact ⟨m1, rfl, fun _ => a1, fun z => by omega, fun z => by omega, f1⟩
  · rw [x_byte0 h (by omega) (by omega), bind_s]
    dsimp only
    rw [if_neg (by decide)]
    have : lexK By n i = 0 := by unfold lexK; rw [if_pos (by omega)]
    rw [this]
    exact ⟨m, rfl, fun z => by omega, fun z => by omega, fun z => by omega, Fr.rf⟩
/-- the class's tokens stand as they must -/
def TkX (m : M2) (By : Nat → Nat) (n T : Nat) : Prop := ∀ t, t < T → hI m 20 t = nI (tk By n t) ∧ hI m 22 t = nI (tp By n t) ∧ (tk By n t = 3 → hJ m 21 t = lN (vI By n t)) ∧ (tk By n t = 2 → hJ m 21 t = lN (v5 By n t))
abbrev SCt : Nat → Nat → Prop := fun k j => (k = 18 ∧ (j = 5 ∨ j = 6 ∨ j = 7)) ∨ k = 20 ∨ k = 21 ∨ k = 22
theorem x_cut {n : Nat} (hn : n ≤ 2000) (hB : ∀ i, i < n → hI m 1 i &&& (255 : Int32) = nI (By i)) (hB2 : ∀ i, By i < 256) (hW : ∀ w, w < 17 → hJ m 19 w = lN (W5 w)) : ∃ m', F_X8_cut (nI n) m = some m' ∧ TkX m' By n (te By n + 1) ∧ Fr SCt m m' := by
  have hte := te_le By n
  unfold F_X8_cut
  rw [mnI_n (by omega) (by omega), Nat.min_eq_left hn, qI_e, bind_s, qI_e, bind_s]
  have f0 : Fr SCt m (tI (tI m 18 5 (nI n)) 18 6 0) := (Fr.rf.tI _ (by omega)).tI _ (by omega)
  have h0 : BX (tI (tI m 18 5 (nI n)) 18 6 0) By n := by
    refine ⟨?_, hn, fun i hi => ?_, hB2, fun w hw => ?_⟩
    · rw [hI_tI, if_neg (by omega), hI_tI, if_pos ⟨rfl, rfl⟩]
    · rw [hI_tI, if_neg (by omega), hI_tI, if_neg (by omega)]; exact hB i hi
    · rw [hJ_tI, hJ_tI]; exact hW w hw
  have a0 : hI (tI (tI m 18 5 (nI n)) 18 6 0) 18 6 = nI 0 := by rw [hI_tI, if_pos ⟨rfl, rfl⟩]; rfl
  generalize tI (tI m 18 5 (nI n)) 18 6 0 = m0 at f0 h0 a0 ⊢
  have key : ∃ e, loop g_X8_cut_20 ((0 : Int32), m0) = some e ∧ ∃ m', (e = Sum.inl m' ∨ e = Sum.inr m') ∧ TkX m' By n (te By n + 1) ∧ Fr SCt m m' := by
    refine loop_ex (te By n + 1) (fun t z => (t = te By n + 1 → te By n = 400 ∧ 2 ≤ tk By n (te By n)) ∧ z.1 = nI t ∧ (∃ i, i ≤ n ∧ hI z.2 18 6 = nI i ∧ skp By n i = tp By n t) ∧ TkX z.2 By n t ∧ BX z.2 By n ∧ Fr SCt m z.2) _ (by omega) ?_ ?_ ⟨fun z => by omega, rfl, ⟨0, by omega, a0, rfl⟩, fun t ht => by omega, h0, f0⟩
    · rintro t ⟨x, m1⟩ ht ⟨_, i1, ⟨i, hi, i2, i3⟩, i4, i5, i6⟩
      dsimp only at i1 i2 i4 i5 i6
      subst i1
      show (∃ s', f_X8_cut_20 (nI t) m1 = some (Sum.inl s') ∧ _) ∨ ∃ e, f_X8_cut_20 (nI t) m1 = some (Sum.inr e) ∧ _
      obtain ⟨m2, e2, a2, f2⟩ := x_skip i5 hi i2
      rw [i3] at a2
      have hp := skp_b (By := By) (n := n) hi
      rw [i3] at hp
      have h3 : BX (tJ (tI m2 22 t (nI (tp By n t))) 18 7 0) By n := (i5.fr f2 (fun k j z => by omega)).fr ((Fr.rf (S := fun k j => k = 22 ∨ (k = 18 ∧ j = 7))).tI (k := 22) (j := t) _ (by omega) |>.tJ (k := 18) (j := 7) _ (by omega)) (fun k j z => by omega)
      obtain ⟨m4, e4, a4, b4, c4, f4⟩ := x_kind (i := tp By n t) h3 hp.2 (by rw [hI_tJ, hI_tI, if_neg (by omega)]; exact a2) (by rw [hJ_tJ, if_pos ⟨rfl, rfl⟩])
      unfold f_X8_cut_20
      rw [show (400 : Int32) = nI 400 from rfl, if_neg (fun z => absurd (nI_le (show t ≤ 400 by omega) (by omega)) (lt_nle z)), e2, bind_s, a2, bI_n _ 22 _ (show t < 401 by omega) (by omega), bind_s, qJ_e, bind_s, e4, bind_s]
      dsimp only
      rw [bI_n _ 20 _ (show t < 401 by omega) (by omega), bind_s, bJ_n _ 21 _ (show t < 401 by omega) (by omega), bind_s, aI_n _ 20 (show t < 401 by omega) (by omega), bind_s, bind_s]
      have ek : hI (tJ (tI m4 20 t (nI (lexK By n (tp By n t)))) 21 t (hJ (tI m4 20 t (nI (lexK By n (tp By n t)))) 18 7)) 20 t = nI (tk By n t) := by
        rw [hI_tJ, hI_tI, if_pos ⟨rfl, rfl⟩]; rfl
      rw [ek, hJ_tI]
      have f14 : Fr (fun k j => (k = 18 ∧ (j = 6 ∨ j = 7)) ∨ (k = 22 ∧ j = t)) m1 m4 := ((f2.mono (fun k j z => by omega)).tI _ (by omega)).tJ _ (by omega) |>.tr (f4.mono (fun k j z => by omega))
      have g22 : hI m4 22 t = nI (tp By n t) := by rw [f4.I _ _ (by omega), hI_tJ, hI_tI, if_pos ⟨rfl, rfl⟩]
      have hT : TkX (tJ (tI m4 20 t (nI (lexK By n (tp By n t)))) 21 t (hJ m4 18 7)) By n (t + 1) := by
        intro u hu
        by_cases e : u = t
        · subst e
          rw [hI_tJ, hI_tI, if_pos ⟨rfl, rfl⟩, hI_tJ, hI_tI, if_neg (by omega), hJ_tJ, if_pos ⟨rfl, rfl⟩]
          exact ⟨rfl, g22, fun z => b4 z, fun z => c4 z⟩
        · rw [hI_tJ, hI_tI, if_neg (by omega), hI_tJ, hI_tI, if_neg (by omega), hJ_tJ, if_neg (by omega), hJ_tI, f14.I _ _ (by omega), f14.I _ _ (by omega), f14.J _ _ (by omega)]
          exact i4 u (by omega)
      have ff : Fr SCt m (tJ (tI m4 20 t (nI (lexK By n (tp By n t)))) 21 t (hJ m4 18 7)) := ((i6.tr (f14.mono (fun k j z => by omega))).tI _ (by omega)).tJ _ (by omega)
      have h5 : BX (tJ (tI m4 20 t (nI (lexK By n (tp By n t)))) 21 t (hJ m4 18 7)) By n := i5.fr (((f14.mono (S' := fun k j => (k = 18 ∧ (j = 6 ∨ j = 7)) ∨ k = 20 ∨ k = 21 ∨ k = 22) (fun k j z => by omega)).tI _ (by omega)).tJ _ (by omega)) (fun k j z => by omega)
      have a5 : hI (tJ (tI m4 20 t (nI (lexK By n (tp By n t)))) 21 t (hJ m4 18 7)) 18 6 = hI m4 18 6 := by rw [hI_tJ, hI_tI, if_neg (by omega)]
      generalize tJ (tI m4 20 t (nI (lexK By n (tp By n t)))) 21 t (hJ m4 18 7) = m5 at hT ff h5 a5 ⊢
      have hkl := lexK_lt By n (tp By n t)
      by_cases k2 : 2 ≤ tk By n t
      · left
        have hpn := tk_p (By := By) (n := n) (t := t) (by omega)
        have hln := lexN_b (By := By) hpn
        rw [if_neg (nI_ne0 (by omega) (by show lexK By n (tp By n t) < _; omega)), if_neg (show ¬ nI (tk By n t) = 1 from eq_nI (d := 1) (by show lexK By n (tp By n t) < _; omega) (by omega) (by omega)), nmI_e, bind_s, nI_1]
        refine ⟨_, rfl, fun z => ?_, rfl, ⟨tp By n t + lexN By n (tp By n t), hln.2, by rw [a5]; exact a4 hpn, rfl⟩, hT, h5, ff⟩
        have e : t = te By n := by omega
        refine ⟨?_, by rw [← e]; exact k2⟩
        rw [e] at k2
        apply Classical.byContradiction
        intro z2
        have := te_e (By := By) (n := n) (by omega)
        omega
      · right
        have e : t = te By n := by
          apply Nat.le_antisymm (by omega)
          apply Classical.byContradiction
          intro z
          have := te_b (By := By) (n := n) (t := t) (by omega)
          omega
        rw [e] at hT
        by_cases k0 : tk By n t = 0
        · rw [if_pos (by rw [k0]; rfl)]
          exact ⟨_, rfl, m5, Or.inl rfl, hT, ff⟩
        · rw [if_neg (nI_ne0 (by omega) (by show lexK By n (tp By n t) < _; omega)), if_pos (by rw [show tk By n t = 1 by omega]; rfl)]
          exact ⟨_, rfl, m5, Or.inl rfl, hT, ff⟩
    · rintro ⟨x, m1⟩ ⟨i0, i1, i2, i4, i5, i6⟩
      dsimp only at i1 i4 i5 i6
      subst i1
      show ∃ e, f_X8_cut_20 (nI (te By n + 1)) m1 = some (Sum.inr e) ∧ _
      have := (i0 rfl).1
      unfold f_X8_cut_20
      rw [show (400 : Int32) = nI 400 from rfl, if_pos (nI_lt (by omega) (by omega))]
      exact ⟨_, rfl, m1, Or.inr rfl, i4, i6⟩
  obtain ⟨e, e1, m', r, hT, ff⟩ := key
  rw [e1, bind_s]
  rcases r with rfl | rfl
  · exact ⟨m', rfl, hT, ff⟩
  · exact ⟨m', rfl, hT, ff⟩
end KC
