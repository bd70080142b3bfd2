/-! ===== check, the reference's ===== -/
section KF
variable {m : M2} {c l : Nat} {s : SS}
theorem chS_sm {n k st b : Nat} {A : Nat → Nat} (hb : 0 < b) (hA : ∀ z, z < 2 ^ tdN (ssD s) → susB s n k z = true → A (cS s n k z) = z) : ∀ K, K ≤ 2 ^ tdN (ssD s) → sm (fun j => bitN (clZ s (A j) st) b) (cS s n k K) = chS s n k st b K
  | 0, _ => rfl
  | K + 1, hK => by
    have ih := chS_sm (st := st) hb hA K (by omega)
    rw [chS]
    by_cases h : susB s n k K = true
    · rw [cS_y h, if_pos ⟨h, hb⟩]
      show sm _ (cS s n k K) + bitN (clZ s (A (cS s n k K)) st) b = _
      rw [ih, hA K (by omega) h]
    · rw [cS_n h, if_neg (fun z => h z.1), ih, Nat.add_zero]
theorem sm_le1 {f : Nat → Nat} (h : ∀ j, f j ≤ 1) : ∀ K, sm f K ≤ K
  | 0 => Nat.le_refl 0
  | K + 1 => by
    have := sm_le1 h K
    have := h K
    show sm f K + f K ≤ K + 1
    omega
theorem m_greater {f : Nat → Nat} {S b : Nat} (hb : b < 12) (h : hI m 102 b = nI (f b)) (hS' : hI m 56 84 = nI S) (hf : f b ≤ S) (hS : S ≤ 100) : F_X12_greater (nI b) m = some (nI (grP f S b), m) := by
  unfold F_X12_greater grP
  rw [aI_n _ 102 hb (by omega), bind_s, bind_s, h, hS', pk_sub hf]
  by_cases z : f b ≤ S - f b
  · rw [if_pos (nI_le z (by omega)), bind_s, pk_sub hf, Nat.max_eq_right z]
    rfl
  · rw [if_neg (nI_ge (by omega) (by omega)), bind_s, Nat.max_eq_left (by omega)]
    rfl
theorem k_check_m (hM : MS m l s) (hV : VS s) {n k st : Nat} (hn : n ≤ 2) (hk : k ≤ ssQ s) (hst : st ≤ 99) : OkM m l (F_X12_check (nI n) (nI k) (nI st) m) (ckV s n k st) s := by
  have hN := hV.n
  have hp := p12 hV
  have hle := cS_le s n k (2 ^ tdN (ssD s))
  have h66 := cP_le (n := n) (K := 2 ^ tdN (ssD s)) (by omega) hp
  unfold F_X12_check
  rw [(m_canS hM hV _ _).1 ⟨⟨n, by omega, hn, rfl⟩, ⟨k, by omega, hk, rfl⟩⟩, bind_s]
  dsimp only
  rw [if_neg (by decide), show F_X12_in (nI st) 0 99 m = some (1, m) from (inR (a := 0) (b := 99) (by omega) (by omega) _).1 ⟨st, by omega, hst, rfl⟩, bind_s]
  dsimp only
  obtain ⟨m1, A, e1, e2, e3, e4, f1⟩ := m_fill hM hV hn hk
  rw [if_neg (by decide), e1, bind_s, e2]
  unfold ckV
  by_cases h0 : cS s n k (2 ^ tdN (ssD s)) = 0
  · rw [if_pos (by rw [h0]; rfl), if_pos (Or.inl h0)]
    exact OkM.scr hM f1 SSuM
  have hM1 := hM.1.fr f1 (fun k j h z => by omega)
  rw [if_neg (nI_ne0 (by omega) (by omega)), m_menNow hM1.1.1 hM.l2 hM1.1.2.2.2.1, bind_s]
  dsimp only
  rw [lit_2]
  by_cases h2 : tdN (ssD s) < 2
  · rw [if_neg (nI_ge h2 (by omega)), if_pos (Or.inr h2)]
    exact OkM.scr hM f1 SSuM
  rw [if_pos (nI_le (by omega) (by omega)), if_neg (fun z => by omega)]
  have key0 : ∃ e, loop (g_X12_check_48 (nI st)) ((0 : Int32), m1) = some e ∧ (∀ b, b < 12 → hI e 102 b = 0) ∧ Fr (fun k _ => k = 102) m1 e := by
    refine loop_to 12 (fun j z => z.1 = nI j ∧ (∀ b, b < j → hI z.2 102 b = 0) ∧ Fr (fun k _ => k = 102) m1 z.2) _ (by omega) ?_ ?_ ⟨rfl, fun b hb => by omega, Fr.rf⟩
    · rintro j ⟨x, m2⟩ hj ⟨i1, i2, i3⟩
      dsimp only at i1 i2 i3
      subst i1
      show ∃ s', f_X12_check_48 (nI st) (nI j) m2 = some (Sum.inl s') ∧ _
      unfold f_X12_check_48
      rw [lit_12, if_neg (nI_ge hj (by omega)), bI_n _ 102 _ hj (by omega), bind_s, nmI_e, bind_s]
      refine ⟨_, rfl, nI_1 j, fun b hb => ?_, i3.tI _ rfl⟩
      rw [hI_tI]
      by_cases e : b = j
      · rw [if_pos ⟨rfl, e⟩]
      · rw [if_neg (by omega)]
        exact i2 b (by omega)
    · rintro ⟨x, m2⟩ ⟨i1, i2, i3⟩
      dsimp only at i1 i2 i3
      subst i1
      show ∃ e, f_X12_check_48 (nI st) (nI 12) m2 = some (Sum.inr e) ∧ _
      unfold f_X12_check_48
      rw [lit_12, if_pos (nI_le (Nat.le_refl _) (by omega))]
      exact ⟨_, rfl, i2, i3⟩
  obtain ⟨m2, e5, z2, f2⟩ := key0
  rw [e5, bind_s]
  have f12 : Fr SSu m m2 := f1.tr (f2.mono (fun k j z => by omega))
  have key : ∃ e, loop (g_X12_check_72 (nI st)) ((0 : Int32), m2) = some e ∧ (∀ b, b < 12 → hI e 102 b = nI (sm (fun j => bitN (clZ s (A j) st) b) (cS s n k (2 ^ tdN (ssD s))))) ∧ hI e 56 84 = nI (cS s n k (2 ^ tdN (ssD s))) ∧ Fr SSu m e := by
    refine loop_to (cS s n k (2 ^ tdN (ssD s))) (fun i z => z.1 = nI i ∧ (∀ b, b < 12 → hI z.2 102 b = nI (sm (fun j => bitN (clZ s (A j) st) b) i)) ∧ Fr (fun k j => StM k j ∨ SrM k j ∨ k = 102) m1 z.2) _ (by omega) ?_ ?_ ⟨rfl, fun b hb => z2 b hb, f2.mono (fun k j z => by omega)⟩
    · rintro i ⟨x, m3⟩ hi ⟨i1, i2, i3⟩
      dsimp only at i1 i2 i3
      subst i1
      show ∃ s', f_X12_check_72 (nI st) (nI i) m3 = some (Sum.inl s') ∧ _
      obtain ⟨a1, a2, a3, a4⟩ := e3 i hi
      have f13 : Fr SSu m m3 := f1.tr (i3.mono (fun k j z => by omega))
      have hM3 := hM.1.fr f13 (fun k j h z => by omega)
      unfold f_X12_check_72
      rw [show hI m3 56 84 = nI (cS s n k (2 ^ tdN (ssD s))) from by rw [i3.I _ _ (by omega)]; exact e2, if_neg (nI_ge hi (by omega)), aI_n _ 112 (show i < 80 by omega) (by omega), bind_s, show hI m3 112 i = nI (A i) from by rw [i3.I _ _ (by omega)]; exact a1]
      obtain ⟨m4, e6, R4, f4⟩ := m_breaks (s := s) (z := A i) hM3 hV (by omega)
      rw [e6, bind_s]
      have f14 : Fr (fun k j => StM k j ∨ SrM k j ∨ k = 102) m1 m4 := i3.tr (f4.mono (fun k j z => Or.inl z))
      have strokes : ∃ e, loop (g_X12_check_95 (nI st) (nI i)) ((0 : Int32), m4) = some e ∧ RwM e (tdN (ssD s)) (tdG (ssD s)) (tdD (ssD s)) (Lb s (A i)) (sqZ s (A i) st) ∧ Fr SrM m4 e := by
        refine loop_to st (fun q z => z.1 = nI q ∧ RwM z.2 (tdN (ssD s)) (tdG (ssD s)) (tdD (ssD s)) (Lb s (A i)) (sqZ s (A i) q) ∧ Fr SrM m4 z.2) _ (by omega) ?_ ?_ ⟨rfl, R4, Fr.rf⟩
        · rintro q ⟨x, m5⟩ hq ⟨j1, j2, j3⟩
          dsimp only at j1 j2 j3
          subst j1
          show ∃ s', f_X12_check_95 (nI st) (nI i) (nI q) m5 = some (Sum.inl s') ∧ _
          have f15 : Fr SSu m m5 := f1.tr ((f14.tr (j3.mono (fun k j z => Or.inr (Or.inl z)))).mono (fun k j z => by omega))
          have hM5 := hM.1.fr f15 (fun k j h z => by omega)
          unfold f_X12_check_95
          rw [if_neg (nI_ge hq (by omega)), m_isFog hM5 hV.1, bind_s]
          dsimp only
          obtain ⟨m6, e7, R6, f6⟩ := m_st hM5 hV.1 j2 hN (VR.z hV (A i)).2.1 (VR.z hV (A i)).2.2 (VR.zq hV (A i) q).1 (fogd (ssD s) (nI q))
          rw [e7, bind_s, nmI_e, bind_s]
          exact ⟨_, rfl, nI_1 q, R6, j3.tr f6⟩
        · rintro ⟨x, m5⟩ ⟨j1, j2, j3⟩
          dsimp only at j1 j2 j3
          subst j1
          show ∃ e, f_X12_check_95 (nI st) (nI i) (nI st) m5 = some (Sum.inr e) ∧ _
          unfold f_X12_check_95
          rw [if_pos (nI_le (Nat.le_refl _) (by omega))]
          exact ⟨_, rfl, j2, j3⟩
      obtain ⟨m5, e7, R5, f5⟩ := strokes
      rw [e7, bind_s]
      have f15 : Fr (fun k j => StM k j ∨ SrM k j ∨ k = 102) m1 m5 := f14.tr (f5.mono (fun k j z => Or.inr (Or.inl z)))
      have hM5 := hM1.fr f15 (fun k j h z => by omega)
      have hcl : F_X12_clashesNow m5 = some (clZ s (A i) st, m5) := m_clash hM5.1 hV.p R5 hN
      rw [hcl, bind_s]
      dsimp only
      have inner : ∃ e, loop (g_X12_check_126 (nI st) (nI i) (clZ s (A i) st)) ((0 : Int32), m5) = some e ∧ (∀ b, b < 12 → hI e 102 b = nI (sm (fun j => bitN (clZ s (A j) st) b) (i + 1))) ∧ Fr (fun k _ => k = 102) m5 e := by
        refine loop_to 12 (fun j z => z.1 = nI j ∧ (∀ b, b < 12 → hI z.2 102 b = if b < j then nI (sm (fun j => bitN (clZ s (A j) st) b) (i + 1)) else nI (sm (fun j => bitN (clZ s (A j) st) b) i)) ∧ Fr (fun k _ => k = 102) m5 z.2) _ (by omega) ?_ ?_ ⟨rfl, fun b hb => by rw [if_neg (by omega), f5.I _ _ (by omega), f4.I _ _ (by omega)]; exact i2 b hb, Fr.rf⟩
        · rintro j ⟨x, m6⟩ hj ⟨j1, j2, j3⟩
          dsimp only at j1 j2 j3
          subst j1
          show ∃ s', f_X12_check_126 (nI st) (nI i) _ (nI j) m6 = some (Sum.inl s') ∧ _
          unfold f_X12_check_126
          rw [lit_12, if_neg (nI_ge hj (by omega)), aI_n _ 102 hj (by omega), bind_s, bI_n _ 102 _ hj (by omega), bind_s, nmI_e, bind_s, bit_n]
          refine ⟨_, rfl, nI_1 j, fun b hb => ?_, j3.tI _ rfl⟩
          rw [hI_tI]
          by_cases e : b = j
          · subst e
            rw [if_pos ⟨rfl, rfl⟩, if_pos (by omega), j2 b hb, if_neg (by omega), nI_add]
            rfl
          · rw [if_neg (by omega), j2 b hb]
            by_cases e2 : b < j
            · rw [if_pos e2, if_pos (by omega)]
            · rw [if_neg e2, if_neg (by omega)]
        · rintro ⟨x, m6⟩ ⟨j1, j2, j3⟩
          dsimp only at j1 j2 j3
          subst j1
          show ∃ e, f_X12_check_126 (nI st) (nI i) _ (nI 12) m6 = some (Sum.inr e) ∧ _
          unfold f_X12_check_126
          rw [lit_12, if_pos (nI_le (Nat.le_refl _) (by omega))]
          exact ⟨_, rfl, fun b hb => by rw [j2 b hb, if_pos hb], j3⟩
      obtain ⟨m6, e8, g6, f6⟩ := inner
      rw [e8, bind_s, nmI_e, bind_s]
      exact ⟨_, rfl, nI_1 i, g6, f15.tr (f6.mono (fun k j z => by omega))⟩
    · rintro ⟨x, m3⟩ ⟨i1, i2, i3⟩
      dsimp only at i1 i2 i3
      subst i1
      show ∃ e, f_X12_check_72 (nI st) (nI _) m3 = some (Sum.inr e) ∧ _
      have e84 : hI m3 56 84 = nI (cS s n k (2 ^ tdN (ssD s))) := by rw [i3.I _ _ (by omega)]; exact e2
      unfold f_X12_check_72
      rw [e84, if_pos (nI_le (Nat.le_refl _) (by omega))]
      exact ⟨_, rfl, i2, e84, f1.tr (i3.mono (fun k j z => by omega))⟩
  obtain ⟨m3, e6, g3, g4, f3⟩ := key
  rw [e6, bind_s]
  have hM3 := hM.1.fr f3 (fun k j h z => by omega)
  have g5 : ∀ b, b < 12 → 0 < b → hI m3 102 b = nI ((fun b => chS s n k st b (2 ^ tdN (ssD s))) b) := by
    intro b hb h
    rw [g3 b hb, chS_sm h e4 _ (Nat.le_refl _)]
  have key2 : ∃ e, loop g_X12_check_168 ((1 : Int32), nI 2, m3) = some e ∧ e = (nI (bmn (grP (fun b => chS s n k st b (2 ^ tdN (ssD s))) (cS s n k (2 ^ tdN (ssD s)))) (tdN (ssD s) - 2)), m3) := by
    refine loop_to (tdN (ssD s) - 2) (fun j y => y = (nI (bmn (grP (fun b => chS s n k st b (2 ^ tdN (ssD s))) (cS s n k (2 ^ tdN (ssD s)))) j), nI (j + 2), m3)) _ (by omega) ?_ ?_ rfl
    · rintro j y hj rfl
      show ∃ s', f_X12_check_168 (nI (bmn _ j)) (nI (j + 2)) m3 = some (Sum.inl s') ∧ _
      obtain ⟨b1, b2⟩ := bmn_le (grP (fun b => chS s n k st b (2 ^ tdN (ssD s))) (cS s n k (2 ^ tdN (ssD s)))) j
      generalize hB : bmn (grP (fun b => chS s n k st b (2 ^ tdN (ssD s))) (cS s n k (2 ^ tdN (ssD s)))) j = B at b1 b2 ⊢
      have c1 := chS_le s n k st (j + 2) (2 ^ tdN (ssD s))
      have c2 := chS_le s n k st B (2 ^ tdN (ssD s))
      unfold f_X12_check_168
      rw [m_menNow hM3.1.1 hM.l2 hM3.1.2.2.2.1, bind_s]
      dsimp only
      rw [if_neg (nI_ge (show j + 2 < tdN (ssD s) by omega) (by omega)), m_greater (f := fun b => chS s n k st b (2 ^ tdN (ssD s))) (show j + 2 < 12 by omega) (g5 (j + 2) (by omega) (by omega)) g4 c1 (by omega), bind_s]
      dsimp only
      rw [m_greater (f := fun b => chS s n k st b (2 ^ tdN (ssD s))) (show B < 12 by omega) (g5 B (by omega) (by omega)) g4 c2 (by omega), bind_s]
      dsimp only
      have u1 : grP (fun b => chS s n k st b (2 ^ tdN (ssD s))) (cS s n k (2 ^ tdN (ssD s))) (j + 2) ≤ 100 := by unfold grP; dsimp only; omega
      have u2 : grP (fun b => chS s n k st b (2 ^ tdN (ssD s))) (cS s n k (2 ^ tdN (ssD s))) B ≤ 100 := by unfold grP; dsimp only; omega
      by_cases hg : grP (fun b => chS s n k st b (2 ^ tdN (ssD s))) (cS s n k (2 ^ tdN (ssD s))) (j + 2) < grP (fun b => chS s n k st b (2 ^ tdN (ssD s))) (cS s n k (2 ^ tdN (ssD s))) B
      · rw [if_neg (nI_ge hg (by omega))]
        refine ⟨_, rfl, ?_⟩
        rw [show bmn (grP (fun b => chS s n k st b (2 ^ tdN (ssD s))) (cS s n k (2 ^ tdN (ssD s)))) (j + 1) = j + 2 from if_pos (by rw [hB]; exact hg), nI_1]
      · rw [if_pos (nI_le (by omega) (by omega))]
        refine ⟨_, rfl, ?_⟩
        rw [show bmn (grP (fun b => chS s n k st b (2 ^ tdN (ssD s))) (cS s n k (2 ^ tdN (ssD s)))) (j + 1) = B from (if_neg (by rw [hB]; exact hg)).trans hB, nI_1]
    · rintro y rfl
      show ∃ e, f_X12_check_168 _ (nI (tdN (ssD s) - 2 + 2)) m3 = some (Sum.inr e) ∧ _
      unfold f_X12_check_168
      rw [m_menNow hM3.1.1 hM.l2 hM3.1.2.2.2.1, bind_s]
      dsimp only
      rw [if_pos (nI_le (by omega) (by omega))]
      exact ⟨_, rfl, rfl⟩
  obtain ⟨e, e7, rfl⟩ := key2
  rw [e7, bind_s]
  exact OkM.scr hM f3 SSuM
theorem k_check_m0 (hM : MS m l s) (hV : VS s) {x y w : Int32} (h : ¬ (suOk s x y ∧ isR 0 99 w)) : OkM m l (F_X12_check x y w m) (-1) s := by
  unfold F_X12_check
  by_cases h1 : suOk s x y
  · rw [(m_canS hM hV _ _).1 h1, bind_s]
    dsimp only
    rw [if_neg (by decide), show F_X12_in w 0 99 m = some (0, m) from (inR (a := 0) (b := 99) (by omega) (by omega) _).2 (fun z => h ⟨h1, z⟩), bind_s]
    exact OkM.same hM
  · rw [(m_canS hM hV _ _).2 h1, bind_s]
    exact OkM.same hM
end KF
