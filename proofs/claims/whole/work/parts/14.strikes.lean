/-! ===== the reference's stroke ===== -/
def RwM (m : M2) (n lag : Nat) (drum : Int32) (laws : Nat → Int32) (t : Nat → Nat) : Prop := hI m 56 65 = nI n ∧ hI m 56 66 = drum ∧ hI m 56 67 = nI lag ∧ (∀ b, b < n → hI m 97 b = nI (t b)) ∧ ∀ b, b < n → hI m 98 b = laws b
/-- what a stroke of the reference changes beside the times -/
abbrev SkM : Nat → Nat → Prop := fun k j => k = 99 ∨ k = 100 ∨ k = 101 ∨ (k = 56 ∧ j = 71)
abbrev SrM : Nat → Nat → Prop := fun k j => k = 97 ∨ k = 99 ∨ k = 100 ∨ k = 101 ∨ (k = 56 ∧ j = 71)
theorem RwM.fr {S : Nat → Nat → Prop} {m m' : M2} {n lag : Nat} {drum : Int32} {laws : Nat → Int32} {t : Nat → Nat} (h : RwM m n lag drum laws t) (hf : Fr S m m') (hs : ∀ k j, k = 97 ∨ k = 98 ∨ (k = 56 ∧ (j = 65 ∨ j = 66 ∨ j = 67)) → ¬ S k j) : RwM m' n lag drum laws t := by
  obtain ⟨h1, h2, h3, h4, h5⟩ := h
  exact ⟨by rw [hf.I _ _ (hs _ _ (by omega))]; exact h1, by rw [hf.I _ _ (hs _ _ (by omega))]; exact h2, by rw [hf.I _ _ (hs _ _ (by omega))]; exact h3, fun b hb => by rw [hf.I _ _ (hs _ _ (by omega))]; exact h4 b hb, fun b hb => by rw [hf.I _ _ (hs _ _ (by omega))]; exact h5 b hb⟩
theorem m_heard {m : M2} {l P n k nl lag : Nat} {song drum fog : Int32} {laws : Nat → Int32} {t : Nat → Nat} (hT : TxM m l P n nl song) (hP : 3 ≤ P ∧ P ≤ 24) (hlag : lag ≤ 23) (hR : RwM m k lag drum laws t) (hk : k ≤ 12) (hd : Dr P drum) {b : Nat} (hb : b < k) : F_X12_heard (nI b) fog m = some (nI (hrd P lag drum fog t b), m) := by
  obtain ⟨t1, t2, t3, t4, t5, t6⟩ := hT
  obtain ⟨r1, r2, r3, r4, r5⟩ := hR
  have own : f_X12_heard_12 (nI b) m = some (nI (t b), m) := by
    unfold f_X12_heard_12
    rw [aI_n _ 97 (show b < 12 by omega) (by omega), bind_s, r4 b hb]
    rfl
  unfold F_X12_heard hrd
  by_cases hf : fog = 0
  · rw [if_pos hf, r2]
    rcases hd with rfl | ⟨d, hd, rfl⟩
    · rw [if_pos rfl, if_neg (fun z => z.2 rfl), own]
    · have : lag * b ≤ 23 * 11 := Nat.mul_le_mul (by omega) (by omega)
      rw [if_neg (nI_m1 (by omega)), if_pos ⟨hf, nI_m1 (by omega)⟩, r3, pk_mul, nI_add, m_rest t1 t2 t3 (by omega) (by omega), bind_s, nI_clamp (by omega)]
      show some (nI (rst P (nI (d + lag * b))), m) = _
      unfold rst
      rw [nI_toInt (by omega)]
      congr 3
  · rw [if_neg hf, if_neg (fun z => hf z.1), own]
theorem m_strikes {m : M2} {l P n k nl lag : Nat} {song drum fog : Int32} {ev : Ev} {laws : Nat → Int32} {t : Nat → Nat} (hT : TxM m l P n nl song) (hW : LwM m l nl ev) (hP : 3 ≤ P ∧ P ≤ 24) (hlag : lag ≤ 23) (hnl : nl ≤ 6) (hR : RwM m k lag drum laws t) (hk : k ≤ 12) (hd : Dr P drum) (hL : LwOk nl k laws) (ht : ∀ b, b < k → t b < P) : ∃ m', F_X12_strikes fog m = some m' ∧ RwM m' k lag drum laws (stp ev P lag song laws drum fog t) ∧ Fr SrM m m' := by
  have hT0 := hT
  have hR0 := hR
  unfold F_X12_strikes
  have key1 : ∃ e, loop (g_X12_strikes_2 fog) ((0 : Int32), m) = some e ∧ (∀ b, b < k → hI e 99 b = nI (stp ev P lag song laws drum fog t b)) ∧ Fr SkM m e := by
    refine loop_to k (fun j s => s.1 = nI j ∧ (∀ b, b < j → hI s.2 99 b = nI (stp ev P lag song laws drum fog t b)) ∧ Fr SkM m s.2) _ (by omega) ?_ ?_ ⟨rfl, fun b hb => by omega, Fr.rf⟩
    · rintro b ⟨x, m1⟩ hb ⟨i1, i2, i3⟩
      dsimp only at i1 i2 i3
      subst i1
      show ∃ s', f_X12_strikes_2 fog (nI b) m1 = some (Sum.inl s') ∧ _
      have hR1 := hR0.fr i3 (fun k j h z => by omega)
      have hT1 := hT0.fr i3 (fun k j h z => by omega)
      obtain ⟨r1, r2, r3, r4, r5⟩ := hR1
      unfold f_X12_strikes_2
      rw [r1, if_neg (nI_ge hb (by omega)), aI_n _ 97 (show b < 12 by omega) (by omega), bind_s, r4 b hb, bI_e _ 100 (n := 6) (i := 0) (j := 0) _ rfl (by omega) (by omega), bind_s]
      -- the looks are laid
      have last : ∀ (m2 : M2), Fr SkM m m2 → (∀ b', b' < b → hI m2 99 b' = nI (stp ev P lag song laws drum fog t b')) → (∀ i, i < 5 → hI m2 100 i = lk P lag song drum fog t b i) → ∀ s5, s5 = lk P lag song drum fog t b 5 → ∃ s', f_X12_strikes_140 fog (nI b) 5 s5 m2 = some (Sum.inl s') ∧ s'.1 = nI (b + 1) ∧ (∀ b', b' < b + 1 → hI s'.2 99 b' = nI (stp ev P lag song laws drum fog t b')) ∧ Fr SkM m s'.2 := by
        intro m2 f2 g2 v2 s5 hs5
        unfold f_X12_strikes_140
        rw [bI_e _ 100 (n := 6) (i := 5) (j := 5) _ rfl (by omega) (by omega), bind_s]
        have f3 := f2.tI (k := 100) (j := 5) s5 (by omega)
        have v3 : ∀ i, i < 6 → hI (tI m2 100 5 s5) 100 i = lk P lag song drum fog t b i := by
          intro i hi
          by_cases e : i = 5
          · subst e
            rw [hI_tI, if_pos ⟨rfl, rfl⟩, hs5]
          · rw [hI_tI, if_neg (fun z => e z.2)]
            exact v2 i (by omega)
        have g3 : ∀ b', b' < b → hI (tI m2 100 5 s5) 99 b' = nI (stp ev P lag song laws drum fog t b') := by
          intro b' hb'
          rw [hI_tI, if_neg (fun z => by omega)]
          exact g2 b' hb'
        generalize tI m2 100 5 s5 = m3 at f3 v3 g3 ⊢
        obtain ⟨q1, q2, q3, q4, q5⟩ := hR0.fr f3 (fun k j h z => by omega)
        rw [aI_n _ 98 (show b < 12 by omega) (by omega), bind_s, aI_n _ 97 (show b < 12 by omega) (by omega), bind_s, q5 b hb, q4 b hb]
        have row : ∃ m4, F_X12_rowsBy (laws b) (nI (t b)) m3 = some (nI (stp ev P lag song laws drum fog t b), m4) ∧ Fr SkM m m4 ∧ ∀ b', hI m4 99 b' = hI m3 99 b' := by
          rcases hL b hb with h1 | ⟨q, hq, h1⟩
          · refine ⟨m3, ?_, f3, fun _ => rfl⟩
            unfold F_X12_rowsBy stp
            rw [h1, if_pos rfl, if_pos rfl]
          · obtain ⟨m4, e1, e2⟩ := hW q hq (lk P lag song drum fog t b) m3 (t b) P (ht b hb) hP.2 hT0.2.2.1 rfl (f3.mono (fun k j z z2 => by have := z2.a; omega)) v3
            refine ⟨m4, ?_, f3.tr (e2.mono (fun k j z => by omega)), fun b' => e2.I _ _ (fun z => by omega)⟩
            unfold stp
            rw [h1, if_neg (nI_m1 (by omega)), nI_clamp (by omega)]
            exact e1
        obtain ⟨m4, e1, e2, e3⟩ := row
        rw [e1, bind_s]
        dsimp only
        rw [bI_n _ 99 _ (show b < 12 by omega) (by omega), bind_s, nmI_e, bind_s]
        refine ⟨_, rfl, nI_1 b, fun b' hb' => ?_, e2.tI _ (by omega)⟩
        rw [hI_tI]
        by_cases e : b' = b
        · subst e
          rw [if_pos ⟨rfl, rfl⟩]
        · rw [if_neg (fun z => e z.2), e3]
          exact g3 b' (by omega)
      have mid : ∀ (m2 : M2), Fr SkM m m2 → (∀ b', b' < b → hI m2 99 b' = nI (stp ev P lag song laws drum fog t b')) → (∀ i, i < 2 → hI m2 100 i = lk P lag song drum fog t b i) → ∃ s', f_X12_strikes_84 fog (nI b) 2 (nI (t (b - 2))) m2 = some (Sum.inl s') ∧ s'.1 = nI (b + 1) ∧ (∀ b', b' < b + 1 → hI s'.2 99 b' = nI (stp ev P lag song laws drum fog t b')) ∧ Fr SkM m s'.2 := by
        intro m2 f2 g2 v2
        unfold f_X12_strikes_84
        rw [bI_e _ 100 (n := 6) (i := 2) (j := 2) _ rfl (by omega) (by omega), bind_s]
        have f3 := f2.tI (k := 100) (j := 2) (nI (t (b - 2))) (by omega)
        rw [m_heard (hT0.fr f3 (fun k j h z => by omega)) hP hlag (hR0.fr f3 (fun k j h z => by omega)) hk hd hb, bind_s]
        dsimp only
        rw [bI_e _ 100 (n := 6) (i := 3) (j := 3) _ rfl (by omega) (by omega), bind_s, bI_e _ 100 (n := 6) (i := 4) (j := 4) _ rfl (by omega) (by omega), bind_s]
        have f4 := (f3.tI (k := 100) (j := 3) (nI (hrd P lag drum fog t b)) (by omega)).tI (k := 100) (j := 4) (nI b) (by omega)
        have v4 : ∀ i, i < 5 → hI (tI (tI (tI m2 100 2 (nI (t (b - 2)))) 100 3 (nI (hrd P lag drum fog t b))) 100 4 (nI b)) 100 i = lk P lag song drum fog t b i := by
          intro i hi
          match i, hi with
          | 0, _ => simp [hI_tI]; exact v2 0 (by omega)
          | 1, _ => simp [hI_tI]; exact v2 1 (by omega)
          | 2, _ => simp [hI_tI, lk]
          | 3, _ => simp [hI_tI, lk]
          | 4, _ => simp [hI_tI, lk]
        have g4 : ∀ b', b' < b → hI (tI (tI (tI m2 100 2 (nI (t (b - 2)))) 100 3 (nI (hrd P lag drum fog t b))) 100 4 (nI b)) 99 b' = nI (stp ev P lag song laws drum fog t b') := by
          intro b' hb'
          simp only [hI_tI]
          rw [if_neg (by omega), if_neg (by omega), if_neg (by omega)]
          exact g2 b' hb'
        generalize tI (tI (tI m2 100 2 (nI (t (b - 2)))) 100 3 (nI (hrd P lag drum fog t b))) 100 4 (nI b) = m4 at f4 v4 g4 ⊢
        obtain ⟨t1, t2, t3, t4, t5, t6⟩ := hT0.fr f4 (fun k j h z => by omega)
        obtain ⟨q1, q2, q3, q4, q5⟩ := hR0.fr f4 (fun k j h z => by omega)
        rw [t1, aI_n _ 79 t2 (by omega), bind_s, t6]
        by_cases hs : song = -1
        · rw [if_pos hs, aI_n _ 97 (show b < 12 by omega) (by omega), bind_s, q4 b hb]
          exact last m4 f4 g4 v4 _ (by simp [lk, hs])
        · rw [if_neg hs, bind_s]
          exact last m4 f4 g4 v4 _ (by simp [lk, hs])
      have fst : ∀ (m2 : M2), Fr SkM m m2 → (∀ b', b' < b → hI m2 99 b' = nI (stp ev P lag song laws drum fog t b')) → hI m2 100 0 = nI (t b) → ∃ s', f_X12_strikes_48 fog (nI b) 1 (nI (t (b - 1))) m2 = some (Sum.inl s') ∧ s'.1 = nI (b + 1) ∧ (∀ b', b' < b + 1 → hI s'.2 99 b' = nI (stp ev P lag song laws drum fog t b')) ∧ Fr SkM m s'.2 := by
        intro m2 f2 g2 v2
        unfold f_X12_strikes_48
        rw [bI_e _ 100 (n := 6) (i := 1) (j := 1) _ rfl (by omega) (by omega), bind_s]
        have f3 := f2.tI (k := 100) (j := 1) (nI (t (b - 1))) (by omega)
        have v3 : ∀ i, i < 2 → hI (tI m2 100 1 (nI (t (b - 1)))) 100 i = lk P lag song drum fog t b i := by
          intro i hi
          match i, hi with
          | 0, _ => simp [hI_tI, lk]; exact v2
          | 1, _ => simp [hI_tI, lk]
        have g3 : ∀ b', b' < b → hI (tI m2 100 1 (nI (t (b - 1)))) 99 b' = nI (stp ev P lag song laws drum fog t b') := by
          intro b' hb'
          rw [hI_tI, if_neg (by omega)]
          exact g2 b' hb'
        generalize tI m2 100 1 (nI (t (b - 1))) = m3 at f3 v3 g3 ⊢
        obtain ⟨q1, q2, q3, q4, q5⟩ := hR0.fr f3 (fun k j h z => by omega)
        have h83 : ∀ (i : Int32), i = nI (b - 2) → ∃ s', f_X12_strikes_83 fog (nI b) 2 i m3 = some (Sum.inl s') ∧ s'.1 = nI (b + 1) ∧ (∀ b', b' < b + 1 → hI s'.2 99 b' = nI (stp ev P lag song laws drum fog t b')) ∧ Fr SkM m s'.2 := by
          intro i hi
          unfold f_X12_strikes_83
          rw [aI_e _ 97 (n := 12) hi (by omega) (by omega), bind_s, q4 (b - 2) (by omega)]
          exact mid m3 f3 g3 v3
        by_cases hb0 : b = 0
        · subst hb0
          rw [if_pos (show nI 0 = 0 from rfl), aI_e _ 97 (n := 12) (i := 0) (j := 0) rfl (by omega) (by omega), bind_s, q4 0 hb]
          exact mid m3 f3 g3 v3
        · rw [if_neg (nI_ne0 (by omega) (by omega))]
          by_cases hb1 : b = 1
          · subst hb1
            rw [if_pos (show nI 1 = 1 from rfl)]
            exact h83 0 rfl
          · have hne : ¬ nI b = 1 := fun z => hb1 ((nI_eq (by omega) (by omega)).mp (show nI b = nI 1 from z))
            rw [if_neg hne]
            exact h83 _ (by rw [lit_2, pk_sub (by omega)])
      have f2 := i3.tI (k := 100) (j := 0) (nI (t b)) (by omega)
      have g2 : ∀ b', b' < b → hI (tI m1 100 0 (nI (t b))) 99 b' = nI (stp ev P lag song laws drum fog t b') := by
        intro b' hb'
        rw [hI_tI, if_neg (by omega)]
        exact i2 b' hb'
      have v2 : hI (tI m1 100 0 (nI (t b))) 100 0 = nI (t b) := by rw [hI_tI, if_pos ⟨rfl, rfl⟩]
      generalize tI m1 100 0 (nI (t b)) = m2 at f2 g2 v2 ⊢
      obtain ⟨q1, q2, q3, q4, q5⟩ := hR0.fr f2 (fun k j h z => by omega)
      by_cases hb0 : b = 0
      · subst hb0
        rw [if_pos (show nI 0 = 0 from rfl), aI_e _ 97 (n := 12) (i := 0) (j := 0) rfl (by omega) (by omega), bind_s, q4 0 hb]
        exact fst m2 f2 g2 v2
      · rw [if_neg (nI_ne0 (by omega) (by omega)), lit_1, pk_sub (by omega), aI_n _ 97 (show b - 1 < 12 by omega) (by omega), bind_s, q4 (b - 1) (by omega)]
        exact fst m2 f2 g2 v2
    · rintro ⟨x, m1⟩ ⟨i1, i2, i3⟩
      dsimp only at i1 i2 i3
      subst i1
      show ∃ e, f_X12_strikes_2 fog (nI k) m1 = some (Sum.inr e) ∧ _
      obtain ⟨r1, r2, r3, r4, r5⟩ := hR0.fr i3 (fun k j h z => by omega)
      unfold f_X12_strikes_2
      rw [r1, if_pos (nI_le (Nat.le_refl k) (by omega))]
      exact ⟨_, rfl, i2, i3⟩
  obtain ⟨m1, e1, v1, f1⟩ := key1
  rw [e1, bind_s]
  have key2 : ∃ e, loop g_X12_strikes_171 ((0 : Int32), m1) = some e ∧ (∀ b, b < k → hI e 97 b = nI (stp ev P lag song laws drum fog t b)) ∧ Fr SrM m e := by
    refine loop_to k (fun j s => s.1 = nI j ∧ (∀ b, b < j → hI s.2 97 b = nI (stp ev P lag song laws drum fog t b)) ∧ (∀ b, b < k → hI s.2 99 b = nI (stp ev P lag song laws drum fog t b)) ∧ Fr SrM m s.2) _ (by omega) ?_ ?_ ⟨rfl, fun b hb => by omega, v1, f1.mono (fun k j z => by omega)⟩
    · rintro b ⟨x, m2⟩ hb ⟨i1, i2, i3, i4⟩
      dsimp only at i1 i2 i3 i4
      subst i1
      show ∃ s', f_X12_strikes_171 (nI b) m2 = some (Sum.inl s') ∧ _
      unfold f_X12_strikes_171
      have r1 : hI m2 56 65 = nI k := by rw [i4.I _ _ (fun z => by omega)]; exact hR0.1
      rw [r1, if_neg (nI_ge hb (by omega)), aI_n _ 99 (show b < 12 by omega) (by omega), bind_s, bI_n _ 97 _ (show b < 12 by omega) (by omega), bind_s, nmI_e, bind_s]
      refine ⟨_, rfl, nI_1 b, fun b' hb' => ?_, fun b' hb' => ?_, i4.tI _ (by omega)⟩
      · rw [hI_tI]
        by_cases e : b' = b
        · subst e
          rw [if_pos ⟨rfl, rfl⟩, i3 b' hb]
        · rw [if_neg (fun z => e z.2)]
          exact i2 b' (by omega)
      · rw [hI_tI, if_neg (by omega)]
        exact i3 b' hb'
    · rintro ⟨x, m2⟩ ⟨i1, i2, i3, i4⟩
      dsimp only at i1 i2 i3 i4
      subst i1
      show ∃ e, f_X12_strikes_171 (nI k) m2 = some (Sum.inr e) ∧ _
      unfold f_X12_strikes_171
      have r1 : hI m2 56 65 = nI k := by rw [i4.I _ _ (fun z => by omega)]; exact hR0.1
      rw [r1, if_pos (nI_le (Nat.le_refl k) (by omega))]
      exact ⟨_, rfl, i2, i4⟩
  obtain ⟨m2, e2, v2, f2⟩ := key2
  rw [e2, bind_s]
  obtain ⟨r1, r2, r3, r4, r5⟩ := hR0
  exact ⟨m2, rfl, ⟨by rw [f2.I _ _ (fun z => by omega)]; exact r1, by rw [f2.I _ _ (fun z => by omega)]; exact r2, by rw [f2.I _ _ (fun z => by omega)]; exact r3, v2, fun b hb => by rw [f2.I _ _ (fun z => by omega)]; exact r5 b hb⟩, f2⟩
