/-! ===== rubs ===== -/
section K8
variable {m : M2} {c l : Nat} {s : SS}
def bitN (x : Int32) (b : Nat) : Nat := (x >>> (nI b &&& 31)).toBitVec.toNat % 2
theorem bit_n (x : Int32) (b : Nat) : (x >>> (nI b &&& 31)) &&& 1 = nI (bitN x b) := pk_and _ 1 rfl
theorem bitN_le (x : Int32) (b : Nat) : bitN x b ≤ 1 := by unfold bitN; omega
def rbc (s : SS) (b : Nat) : Nat → Nat
  | 0 => 0
  | k + 1 => rbc s b k + if b = 0 then 0 else bitN (clb (tdP (ssD s)) (sqS s (k + 1)) (tdN (ssD s))) b
theorem rbc_le (s : SS) (b : Nat) : ∀ k, rbc s b k ≤ k
  | 0 => Nat.le_refl 0
  | k + 1 => by
    have := rbc_le s b k
    have h2 := bitN_le (clb (tdP (ssD s)) (sqS s (k + 1)) (tdN (ssD s))) b
    unfold rbc
    split <;> omega
theorem rbc_0 (s : SS) : ∀ k, rbc s 0 k = 0
  | 0 => rfl
  | k + 1 => by
    unfold rbc
    rw [rbc_0 s k, if_pos rfl]
def rbV (s : SS) (n : Nat) : Int32 := if bst (fun b => rbc s b n) (tdN (ssD s) - 1) = 0 then -2 else nI (bst (fun b => rbc s b n) (tdN (ssD s) - 1))
theorem x_mostClashing (hX : XS m c s) (hV : VS s) {n : Nat} (hn : n ≤ 100) : ∃ m', F_X5_mostClashing c 28 (nI n) m = some (rbV s n, m') ∧ Fr (fun k _ => 24 ≤ k ∧ k ≤ 27) m m' := by
  have hN := hV.n
  obtain ⟨a1, a2, a3, a4⟩ := hX.2.1
  have hc := hX.tx
  unfold F_X5_mostClashing
  obtain ⟨m1, e1, z1, f1⟩ := x_fill (m := m) 27 12 0 (by omega)
  rw [e1, bind_s, nmJ_e, bind_s, show hJ m1 28 0 = lN (pk (cdT (ssK s)) (tdN (ssD s))) from by rw [f1.J _ _ (by omega)]; exact a1]
  have key : ∃ e, loop (g_X5_mostClashing_16 c 28 (nI n)) (lN (pk (cdT (ssK s)) (tdN (ssD s))), (0 : Int32), m1) = some e ∧ (∀ b, b < 12 → b < tdN (ssD s) ∨ b = 0 → hI e 27 b = nI (rbc s b n)) ∧ Fr (fun k _ => 24 ≤ k ∧ k ≤ 27) m e := by
    refine loop_to n (fun i z => z.1 = lN (pk (sqS s i) (tdN (ssD s))) ∧ z.2.1 = nI i ∧ (∀ b, b < 12 → b < tdN (ssD s) ∨ b = 0 → hI z.2.2 27 b = nI (rbc s b i)) ∧ Fr (fun k _ => 24 ≤ k ∧ k ≤ 27) m z.2.2) _ (by omega) ?_ ?_ ⟨rfl, rfl, fun b hb _ => z1 b hb, f1.mono (fun k j z => by omega)⟩
    · rintro i ⟨tt, x, m2⟩ hi ⟨i1, i2, i3, i4⟩
      dsimp only at i1 i2 i3 i4
      subst i1 i2
      show ∃ s', f_X5_mostClashing_16 c 28 (nI n) _ (nI i) m2 = some (Sum.inl s') ∧ _
      have hX2 := hX.1.fr i4 (fun k j z1 z2 => by omega)
      have hr := VR.sq hV.1 hV.2.1.r (fS s) i
      have hr1 := VR.sq hV.1 hV.2.1.r (fS s) (i + 1)
      unfold f_X5_mostClashing_16
      rw [if_neg (nI_ge hi (by omega)), show hI m2 28 4 = cdS (ssK s) from by rw [i4.I _ _ (by omega)]; exact a4, x_isFog hX2 hV.1, bind_s]
      dsimp only
      rw [show hI m2 28 3 = cdD (ssK s) from by rw [i4.I _ _ (by omega)]; exact a3]
      obtain ⟨m3, e3, f3⟩ := x_st (a := 28 + 2) hX2 hV.1 hr (fun b hb => by rw [i4.I _ _ (by omega)]; exact (a2 b hb).2) (by omega) (fogd (ssD s) (cdS (ssK s) + nI i))
      have e3' : F_X5_stroke c (lN (pk (sqS s i) (tdN (ssD s)))) (28 + 2) (cdD (ssK s)) (fogd (ssD s) (cdS (ssK s) + nI i)) m2 = some (lN (pk (sqS s (i + 1)) (tdN (ssD s))), m3) := e3
      rw [e3', bind_s]
      dsimp only
      have f23 := i4.tr (f3.mono (S' := fun k _ => 24 ≤ k ∧ k ≤ 27) (fun k j z => by omega))
      have hX3 := hX.1.fr f23 (fun k j z1 z2 => by omega)
      have hcl : F_X5_clashBits c (lN (pk (sqS s (i + 1)) (tdN (ssD s)))) m3 = some (clb (tdP (ssD s)) (sqS s (i + 1)) (tdN (ssD s)), m3) := x_clash hX3.1 (hr1.t32 hV.1)
      rw [hcl, bind_s]
      dsimp only
      have g3 : ∀ b, b < 12 → b < tdN (ssD s) ∨ b = 0 → hI m3 27 b = nI (rbc s b i) := fun b hb h => by rw [f3.I _ _ (by omega)]; exact i3 b hb h
      have inner : ∃ e, loop (g_X5_mostClashing_60 c 28 (nI n) (lN (pk (sqS s (i + 1)) (tdN (ssD s)))) (nI i) (clb (tdP (ssD s)) (sqS s (i + 1)) (tdN (ssD s)))) ((1 : Int32), m3) = some e ∧ (∀ b, b < 12 → b < tdN (ssD s) ∨ b = 0 → hI e 27 b = nI (rbc s b (i + 1))) ∧ Fr (fun k _ => 24 ≤ k ∧ k ≤ 27) m e := by
        refine loop_to (tdN (ssD s) - 1) (fun j z => z.1 = nI (j + 1) ∧ (∀ b, b < 12 → b < tdN (ssD s) ∨ b = 0 → hI z.2 27 b = if b < j + 1 then nI (rbc s b (i + 1)) else nI (rbc s b i)) ∧ Fr (fun k _ => 24 ≤ k ∧ k ≤ 27) m z.2) _ (by omega) ?_ ?_ ⟨rfl, fun b hb h => ?_, f23⟩
        · rintro j ⟨x, m4⟩ hj ⟨j1, j2, j3⟩
          dsimp only at j1 j2 j3
          subst j1
          show ∃ s', f_X5_mostClashing_60 c 28 (nI n) _ (nI i) _ (nI (j + 1)) m4 = some (Sum.inl s') ∧ _
          unfold f_X5_mostClashing_60
          rw [show hI m4 c 5 = nI (tdN (ssD s)) from by rw [j3.I _ _ (by omega)]; exact hX.n, if_neg (nI_ge (show j + 1 < tdN (ssD s) by omega) (by omega)), aI_n _ 27 (show j + 1 < 12 by omega) (by omega), bind_s, bI_n _ 27 _ (show j + 1 < 12 by omega) (by omega), bind_s, nmI_e, bind_s, bit_n, j2 (j + 1) (by omega) (by omega), if_neg (by omega), nI_add]
          refine ⟨_, rfl, nI_1 (j + 1), fun b hb h => ?_, j3.tI _ (by omega)⟩
          rw [hI_tI]
          by_cases e : b = j + 1
          · subst e
            rw [if_pos ⟨rfl, rfl⟩, if_pos (by omega), rbc, if_neg (by omega)]
          · rw [if_neg (by omega), j2 b hb h]
            by_cases e2 : b < j + 1
            · rw [if_pos e2, if_pos (by omega)]
            · rw [if_neg e2, if_neg (by omega)]
        · rintro ⟨x, m4⟩ ⟨j1, j2, j3⟩
          dsimp only at j1 j2 j3
          subst j1
          show ∃ e, f_X5_mostClashing_60 c 28 (nI n) _ (nI i) _ (nI (tdN (ssD s) - 1 + 1)) m4 = some (Sum.inr e) ∧ _
          unfold f_X5_mostClashing_60
          rw [show hI m4 c 5 = nI (tdN (ssD s)) from by rw [j3.I _ _ (by omega)]; exact hX.n, if_pos (nI_le (by omega) (by omega))]
          exact ⟨_, rfl, fun b hb h => by rw [j2 b hb h, if_pos (by omega)], j3⟩
        · show hI m3 27 b = _
          rw [g3 b hb h]
          by_cases e : b < 0 + 1
          · have : b = 0 := by omega
            subst this
            rw [if_pos e, rbc_0, rbc_0]
          · rw [if_neg e]
      obtain ⟨m4, e4, g4, f4⟩ := inner
      rw [e4, bind_s, nmI_e, bind_s]
      exact ⟨_, rfl, rfl, nI_1 i, g4, f4⟩
    · rintro ⟨tt, x, m2⟩ ⟨i1, i2, i3, i4⟩
      dsimp only at i1 i2 i3 i4
      subst i1 i2
      show ∃ e, f_X5_mostClashing_16 c 28 (nI n) _ (nI n) m2 = some (Sum.inr e) ∧ _
      unfold f_X5_mostClashing_16
      rw [if_pos (nI_le (Nat.le_refl _) (by omega))]
      exact ⟨_, rfl, i3, i4⟩
  obtain ⟨m2, e2, g2, f2⟩ := key
  rw [e2, bind_s]
  have key2 : ∃ e, loop (g_X5_mostClashing_107 c) ((0 : Int32), (1 : Int32), m2) = some e ∧ e = (nI (bst (fun b => rbc s b n) (tdN (ssD s) - 1)), m2) := by
    refine loop_to (tdN (ssD s) - 1) (fun j z => z = (nI (bst (fun b => rbc s b n) j), nI (j + 1), m2)) _ (by omega) ?_ ?_ rfl
    · rintro j z hj rfl
      show ∃ s', f_X5_mostClashing_107 c (nI (bst (fun b => rbc s b n) j)) (nI (j + 1)) m2 = some (Sum.inl s') ∧ _
      have hb := bst_le (fun b => rbc s b n) j
      have l1 := rbc_le s (j + 1) n
      have l2 := rbc_le s (bst (fun b => rbc s b n) j) n
      unfold f_X5_mostClashing_107
      rw [show hI m2 c 5 = nI (tdN (ssD s)) from by rw [f2.I _ _ (by omega)]; exact hX.n, if_neg (nI_ge (show j + 1 < tdN (ssD s) by omega) (by omega)), aI_n _ 27 (show j + 1 < 12 by omega) (by omega), bind_s, g2 (j + 1) (by omega) (by omega), aI_n _ 27 (show bst (fun b => rbc s b n) j < 12 by omega) (by omega), bind_s, g2 _ (by omega) (by omega)]
      by_cases hg : rbc s (bst (fun b => rbc s b n) j) n < rbc s (j + 1) n
      · rw [if_neg (nI_ge hg (by omega))]
        refine ⟨_, rfl, ?_⟩
        rw [show bst (fun b => rbc s b n) (j + 1) = j + 1 from if_pos hg, nI_1]
      · rw [if_pos (nI_le (by omega) (by omega))]
        refine ⟨_, rfl, ?_⟩
        rw [show bst (fun b => rbc s b n) (j + 1) = bst (fun b => rbc s b n) j from if_neg hg, nI_1]
    · rintro z rfl
      show ∃ e, f_X5_mostClashing_107 c _ (nI (tdN (ssD s) - 1 + 1)) m2 = some (Sum.inr e) ∧ _
      unfold f_X5_mostClashing_107
      rw [show hI m2 c 5 = nI (tdN (ssD s)) from by rw [f2.I _ _ (by omega)]; exact hX.n, if_pos (nI_le (by omega) (by omega))]
      exact ⟨_, rfl, rfl⟩
  obtain ⟨e, e3, rfl⟩ := key2
  rw [e3, bind_s]
  dsimp only
  have hb := bst_le (fun b => rbc s b n) (tdN (ssD s) - 1)
  unfold rbV
  by_cases h0 : bst (fun b => rbc s b n) (tdN (ssD s) - 1) = 0
  · rw [if_pos (by rw [h0]; rfl), if_pos h0]
    exact ⟨m2, rfl, f2⟩
  · rw [if_neg (nI_ne0 (by omega) (by omega)), if_neg h0]
    exact ⟨m2, rfl, f2⟩
theorem k_rubs_x1 (hX : XS m c s) (hV : VS s) {n : Nat} (h1 : 1 ≤ n) (hn : n ≤ 100) : OkX m c (F_X11_rubs c (nI n) m) (rbV s n) s := by
  unfold F_X11_rubs
  obtain ⟨m1, e1, f1⟩ := x_mostClashing hX hV hn
  rw [lit_1, if_neg (nI_nlt h1 (by omega)), lit_100, if_pos (nI_le hn (by omega)), e1, bind_s]
  exact OkX.scr hX f1 (fun k j z => ⟨fun z2 => by unfold xk at z2; omega, fun z2 => by omega⟩)
theorem k_rubs_x0 (hX : XS m c s) {x : Int32} (h : ¬ isR 1 100 x) : OkX m c (F_X11_rubs c x m) (-1) s := by
  rw [isRx (by omega) (by omega)] at h
  unfold F_X11_rubs
  by_cases h1 : x < nI 1
  · rw [lit_1, if_pos h1]
    exact OkX.same hX
  · rw [lit_1, if_neg h1, lit_100, if_neg (fun z => h ⟨h1, fun z2 => lt_nle z2 z⟩)]
    exact OkX.same hX
theorem k_rubs_m1 (hM : MS m l s) (hV : VS s) {n : Nat} (h1 : 1 ≤ n) (hn : n ≤ 100) : OkM m l (F_X12_rubs (nI n) m) (rbV s n) s := by
  have hN := hV.n
  unfold F_X12_rubs
  rw [show F_X12_in (nI n) 1 100 m = some (1, m) from (inR (a := 1) (b := 100) (by omega) (by omega) _).1 ⟨n, h1, hn, rfl⟩, bind_s]
  dsimp only
  obtain ⟨m1, e1, R1, f1⟩ := m_takes hM.lv hM.l2 hM.n hN hM.2.1
  rw [if_neg (by decide), e1, bind_s]
  have key0 : ∃ e, loop (g_X12_rubs_18 (nI n)) ((0 : Int32), m1) = some e ∧ (∀ b, b < 12 → hI e 102 b = 0) ∧ Fr (fun k _ => k = 102) m1 e := by
    refine loop_to 12 (fun j z => z.1 = nI j ∧ (∀ b, b < j → hI z.2 102 b = 0) ∧ Fr (fun k _ => k = 102) m1 z.2) _ (by omega) ?_ ?_ ⟨rfl, fun b hb => by omega, Fr.rf⟩
    · rintro j ⟨x, m2⟩ hj ⟨i1, i2, i3⟩
      dsimp only at i1 i2 i3
      subst i1
      show ∃ s', f_X12_rubs_18 (nI n) (nI j) m2 = some (Sum.inl s') ∧ _
      unfold f_X12_rubs_18
      rw [lit_12, if_neg (nI_ge hj (by omega)), bI_n _ 102 _ hj (by omega), bind_s, nmI_e, bind_s]
      refine ⟨_, rfl, nI_1 j, fun b hb => ?_, i3.tI _ rfl⟩
      rw [hI_tI]
      by_cases e : b = j
      · rw [if_pos ⟨rfl, e⟩]
      · rw [if_neg (by omega)]
        exact i2 b (by omega)
    · rintro ⟨x, m2⟩ ⟨i1, i2, i3⟩
      dsimp only at i1 i2 i3
      subst i1
      show ∃ e, f_X12_rubs_18 (nI n) (nI 12) m2 = some (Sum.inr e) ∧ _
      unfold f_X12_rubs_18
      rw [lit_12, if_pos (nI_le (Nat.le_refl _) (by omega))]
      exact ⟨_, rfl, i2, i3⟩
  obtain ⟨m2, e2, z2, f2⟩ := key0
  rw [e2, bind_s]
  have S2 : hI m2 56 60 = cdS (ssK s) := by rw [f2.I _ _ (by omega), f1.I _ _ (by omega)]; exact hM.2.1.2.2.2
  have hM2 := (hM.1.fr f1 (fun k j h z => by omega)).fr f2 (fun k j h z => by omega)
  have key : ∃ e, loop (g_X12_rubs_39 (nI n)) ((0 : Int32), m2) = some e ∧ (∀ b, b < 12 → 0 < b → hI e 102 b = nI (rbc s b n)) ∧ Fr (fun k j => SrM k j ∨ k = 102) m2 e := by
    refine loop_to n (fun i z => z.1 = nI i ∧ RwM z.2 (tdN (ssD s)) (tdG (ssD s)) (cdD (ssK s)) (cdL (ssK s)) (sqS s i) ∧ (∀ b, b < 12 → 0 < b → hI z.2 102 b = nI (rbc s b i)) ∧ Fr (fun k j => SrM k j ∨ k = 102) m2 z.2) _ (by omega) ?_ ?_ ⟨rfl, R1.fr f2 (fun k j h z => by omega), fun b hb _ => z2 b hb, Fr.rf⟩
    · rintro i ⟨x, m3⟩ hi ⟨i1, i2, i3, i4⟩
      dsimp only at i1 i2 i3 i4
      subst i1
      show ∃ s', f_X12_rubs_39 (nI n) (nI i) m3 = some (Sum.inl s') ∧ _
      have hM3 := hM2.fr i4 (fun k j h z => by omega)
      unfold f_X12_rubs_39
      rw [if_neg (nI_ge hi (by omega)), show hI m3 56 60 = cdS (ssK s) from by rw [i4.I _ _ (by omega)]; exact S2, m_isFog hM3 hV.1, bind_s]
      dsimp only
      obtain ⟨m4, e4, R4, f4⟩ := m_st hM3 hV.1 i2 hN hV.2.1.2.1 hV.2.1.2.2.1 (VR.sq hV.1 hV.2.1.r (fS s) i).1 (fogd (ssD s) (cdS (ssK s) + nI i))
      have R4' : RwM m4 (tdN (ssD s)) (tdG (ssD s)) (cdD (ssK s)) (cdL (ssK s)) (sqS s (i + 1)) := R4
      have hM4 := hM3.fr f4 (fun k j h z => by omega)
      rw [e4, bind_s, m_clash hM4.1 hV.p R4' hN, bind_s]
      dsimp only
      have inner : ∃ e, loop (g_X12_rubs_66 (nI n) (nI i) (clb (tdP (ssD s)) (sqS s (i + 1)) (tdN (ssD s)))) ((0 : Int32), m4) = some e ∧ (∀ b, b < 12 → 0 < b → hI e 102 b = nI (rbc s b (i + 1))) ∧ Fr (fun k _ => k = 102) m4 e := by
        refine loop_to 12 (fun j z => z.1 = nI j ∧ (∀ b, b < 12 → 0 < b → hI z.2 102 b = if b < j then nI (rbc s b (i + 1)) else nI (rbc s b i)) ∧ Fr (fun k _ => k = 102) m4 z.2) _ (by omega) ?_ ?_ ⟨rfl, fun b hb h => by rw [if_neg (by omega), f4.I _ _ (by omega)]; exact i3 b hb h, Fr.rf⟩
        · rintro j ⟨x, m5⟩ hj ⟨j1, j2, j3⟩
          dsimp only at j1 j2 j3
          subst j1
          show ∃ s', f_X12_rubs_66 (nI n) (nI i) _ (nI j) m5 = some (Sum.inl s') ∧ _
          unfold f_X12_rubs_66
          rw [lit_12, if_neg (nI_ge hj (by omega)), aI_n _ 102 hj (by omega), bind_s, bI_n _ 102 _ hj (by omega), bind_s, nmI_e, bind_s, bit_n]
          refine ⟨_, rfl, nI_1 j, fun b hb h => ?_, j3.tI _ rfl⟩
          rw [hI_tI]
          by_cases e : b = j
          · subst e
            rw [if_pos ⟨rfl, rfl⟩, if_pos (by omega), j2 b hb h, if_neg (by omega), nI_add, rbc, if_neg (by omega)]
          · rw [if_neg (by omega), j2 b hb h]
            by_cases e2 : b < j
            · rw [if_pos e2, if_pos (by omega)]
            · rw [if_neg e2, if_neg (by omega)]
        · rintro ⟨x, m5⟩ ⟨j1, j2, j3⟩
          dsimp only at j1 j2 j3
          subst j1
          show ∃ e, f_X12_rubs_66 (nI n) (nI i) _ (nI 12) m5 = some (Sum.inr e) ∧ _
          unfold f_X12_rubs_66
          rw [lit_12, if_pos (nI_le (Nat.le_refl _) (by omega))]
          exact ⟨_, rfl, fun b hb h => by rw [j2 b hb h, if_pos hb], j3⟩
      obtain ⟨m5, e5, g5, f5⟩ := inner
      rw [e5, bind_s, nmI_e, bind_s]
      exact ⟨_, rfl, nI_1 i, R4'.fr f5 (fun k j h z => by omega), g5, (i4.tr (f4.mono (fun k j z => Or.inl z))).tr (f5.mono (fun k j z => Or.inr z))⟩
    · rintro ⟨x, m3⟩ ⟨i1, i2, i3, i4⟩
      dsimp only at i1 i2 i3 i4
      subst i1
      show ∃ e, f_X12_rubs_39 (nI n) (nI n) m3 = some (Sum.inr e) ∧ _
      unfold f_X12_rubs_39
      rw [if_pos (nI_le (Nat.le_refl _) (by omega))]
      exact ⟨_, rfl, i3, i4⟩
  obtain ⟨m3, e3, g3, f3⟩ := key
  rw [e3, bind_s]
  have hM3 := hM2.fr f3 (fun k j h z => by omega)
  have key2 : ∃ e, loop g_X12_rubs_106 ((-2 : Int32), (1 : Int32), m3) = some e ∧ e = (rbV s n, m3) := by
    refine loop_to (tdN (ssD s) - 1) (fun j z => z = (if bst (fun b => rbc s b n) j = 0 then -2 else nI (bst (fun b => rbc s b n) j), nI (j + 1), m3)) _ (by omega) ?_ ?_ rfl
    · rintro j z hj rfl
      show ∃ s', f_X12_rubs_106 _ (nI (j + 1)) m3 = some (Sum.inl s') ∧ _
      have hb := bst_le (fun b => rbc s b n) j
      have l1 := rbc_le s (j + 1) n
      have l2 := rbc_le s (bst (fun b => rbc s b n) j) n
      unfold f_X12_rubs_106
      rw [m_menNow hM3.1.1 hM.l2 hM3.1.2.2.2.1, bind_s]
      dsimp only
      rw [if_neg (nI_ge (show j + 1 < tdN (ssD s) by omega) (by omega)), aI_n _ 102 (show j + 1 < 12 by omega) (by omega), bind_s, g3 (j + 1) (by omega) (by omega)]
      have y : rbc s (bst (fun b => rbc s b n) j) n < rbc s (j + 1) n → bst (fun b => rbc s b n) (j + 1) = j + 1 := fun h => if_pos h
      have nn : ¬ rbc s (bst (fun b => rbc s b n) j) n < rbc s (j + 1) n → bst (fun b => rbc s b n) (j + 1) = bst (fun b => rbc s b n) j := fun h => if_neg h
      have yes : rbc s (bst (fun b => rbc s b n) j) n < rbc s (j + 1) n → ∃ s', f_X12_rubs_142 (nI (j + 1)) m3 = some (Sum.inl s') ∧ s' = (if bst (fun b => rbc s b n) (j + 1) = 0 then -2 else nI (bst (fun b => rbc s b n) (j + 1)), nI (j + 1 + 1), m3) := by
        intro h
        refine ⟨_, rfl, ?_⟩
        rw [y h, if_neg (by omega), nI_1]
      have no : ¬ rbc s (bst (fun b => rbc s b n) j) n < rbc s (j + 1) n → ∃ s', f_X12_rubs_144 (if bst (fun b => rbc s b n) j = 0 then -2 else nI (bst (fun b => rbc s b n) j)) (nI (j + 1)) m3 = some (Sum.inl s') ∧ s' = (if bst (fun b => rbc s b n) (j + 1) = 0 then -2 else nI (bst (fun b => rbc s b n) (j + 1)), nI (j + 1 + 1), m3) := by
        intro h
        refine ⟨_, rfl, ?_⟩
        rw [nn h, nI_1]
      by_cases hz : rbc s (j + 1) n = 0
      · rw [if_pos (by rw [hz]; decide)]
        exact no (by omega)
      · rw [if_neg (nI_nle (by omega) (by omega))]
        by_cases h0 : bst (fun b => rbc s b n) j = 0
        · rw [if_pos h0, if_pos (by decide)]
          exact yes (by rw [h0, rbc_0]; omega)
        · rw [if_neg h0] at no ⊢
          rw [if_neg (nI_pos (by omega)), bind_s, aI_n _ 102 (show bst (fun b => rbc s b n) j < 12 by omega) (by omega), bind_s, g3 _ (by omega) (by omega)]
          by_cases hg : rbc s (bst (fun b => rbc s b n) j) n < rbc s (j + 1) n
          · rw [if_neg (nI_ge hg (by omega))]
            exact yes hg
          · rw [if_pos (nI_le (by omega) (by omega))]
            exact no hg
    · rintro z rfl
      show ∃ e, f_X12_rubs_106 _ (nI (tdN (ssD s) - 1 + 1)) m3 = some (Sum.inr e) ∧ _
      unfold f_X12_rubs_106
      rw [m_menNow hM3.1.1 hM.l2 hM3.1.2.2.2.1, bind_s]
      dsimp only
      rw [if_pos (nI_le (by omega) (by omega))]
      exact ⟨_, rfl, rfl⟩
  obtain ⟨e, e4, rfl⟩ := key2
  rw [e4, bind_s]
  exact OkM.scr hM (S := fun k j => StM k j ∨ SrM k j ∨ k = 102) (((f1.mono (fun k j z => Or.inl z)).tr (f2.mono (fun k j z => Or.inr (Or.inr z)))).tr (f3.mono (fun k j z => Or.inr z))) (fun k j z => ⟨fun z2 => by unfold mk2 at z2; omega, by omega⟩)
theorem k_rubs_m0 (hM : MS m l s) {x : Int32} (h : ¬ isR 1 100 x) : OkM m l (F_X12_rubs x m) (-1) s := by
  unfold F_X12_rubs
  rw [show F_X12_in x 1 100 m = some (0, m) from (inR (a := 1) (b := 100) (by omega) (by omega) _).2 h, bind_s]
  exact OkM.same hM
end K8
