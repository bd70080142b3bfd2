/-! ===== every: the reference ===== -/
section KO
variable {m : M2} {c l : Nat} {s : SS}
theorem m_digits {l N : Nat} {P i k : Nat} {q x3 : Int32} (hl : hI m 56 18 = nI l) (h2 : l < 2) (hp : hI m 66 l = nI P) (hP : 3 ≤ P ∧ P ≤ 24) (hi : i ≤ 20736) (hk : k ≤ 12) {x4 : Int32} : ∃ m', loop (g_X12_fillEvery_25 q (nI k) x3 x4) (nI i, (0 : Int32), m) = some m' ∧ (∀ b, b < k → hI m' 97 b = nI (dgt P i b) ∧ hI m' 98 b = q) ∧ Fr (fun k _ => k = 97 ∨ k = 98) m m' := by
  refine loop_to k (fun j z => z.1 = nI (i / P ^ j) ∧ z.2.1 = nI j ∧ (∀ b, b < j → hI z.2.2 97 b = nI (dgt P i b) ∧ hI z.2.2 98 b = q) ∧ Fr (fun k _ => k = 97 ∨ k = 98) m z.2.2) _ (by omega) ?_ ?_ ⟨by rw [Nat.pow_zero, Nat.div_one], rfl, fun b hb => by omega, Fr.rf⟩
  · rintro j ⟨z1, z2, m1⟩ hj ⟨i1, i2, i3, i4⟩
    dsimp only at i1 i2 i3 i4
    subst i1 i2
    show ∃ s', f_X12_fillEvery_25 q (nI k) x3 x4 (nI (i / P ^ j)) (nI j) m1 = some (Sum.inl s') ∧ _
    have hd := Nat.div_le_self i (P ^ j)
    unfold f_X12_fillEvery_25
    rw [if_neg (nI_ge hj (by omega)), m_all ((i4.I _ _ (by omega)).trans hl) h2 ((i4.I _ _ (by omega)).trans hp), bind_s]
    dsimp only
    rw [rmI_n (by omega) (by omega) (by omega), bind_s, bI_n _ 97 _ (show j < 12 by omega) (by omega), bind_s, bI_n _ 98 _ (show j < 12 by omega) (by omega), bind_s, m_all (n := nI P) (l := l) ?_ h2 ?_, bind_s]
    · dsimp only
      rw [dvI_n (by omega) (by omega) (by omega), bind_s, nmI_e, bind_s, nI_1]
      refine ⟨_, rfl, ?_, rfl, fun b hb => ?_, (i4.tI _ (by omega)).tI _ (by omega)⟩
      · show nI (i / P ^ j / P) = nI (i / P ^ (j + 1))
        rw [Nat.div_div_eq_div_mul, Nat.pow_succ]
      · show hI (tI (tI m1 97 j _) 98 j q) 97 b = _ ∧ hI (tI (tI m1 97 j _) 98 j q) 98 b = _
        rw [hI_tI, if_neg (by omega), hI_tI, hI_tI]
        by_cases e : b = j
        · rw [if_pos ⟨rfl, e⟩, if_pos ⟨rfl, e⟩, e]
          exact ⟨rfl, rfl⟩
        · rw [if_neg (by omega), if_neg (by omega), hI_tI, if_neg (by omega)]
          exact i3 b (by omega)
    · rw [hI_tI, if_neg (by omega), hI_tI, if_neg (by omega), i4.I _ _ (by omega)]; exact hl
    · rw [hI_tI, if_neg (by omega), hI_tI, if_neg (by omega), i4.I _ _ (by omega)]; exact hp
  · rintro ⟨z1, z2, m1⟩ ⟨i1, i2, i3, i4⟩
    dsimp only at i1 i2 i3 i4
    subst i1 i2
    show ∃ e, f_X12_fillEvery_25 q (nI k) x3 x4 (nI (i / P ^ k)) (nI k) m1 = some (Sum.inr e) ∧ _
    unfold f_X12_fillEvery_25
    rw [if_pos (nI_le (Nat.le_refl _) (by omega))]
    exact ⟨_, rfl, i3, i4⟩
theorem m_numberOf {l P k : Nat} {t : Nat → Nat} (hl : hI m 56 18 = nI l) (h2 : l < 2) (hp : hI m 66 l = nI P) (hk1 : 1 ≤ k) (hk : k ≤ 12) (ht : ∀ b, b < k → hI m 97 b = nI (t b)) : F_X12_numberOf (nI k) m = some (nI (mN P t k), m) := by
  unfold F_X12_numberOf
  rw [nmI_e, bind_s, nI_m1s hk1]
  have key : ∃ e, loop g_X12_numberOf_6 ((0 : Int32), nI (k - 1), m) = some e ∧ e = (nI (mN P t k), m) := by
    refine loop_to k (fun j z => z = (nI (mN P (fun b => t (k - j + b)) j), iI ((k : Int) - 1 - j), m)) _ (by omega) ?_ ?_ ?_
    · rintro j z hj rfl
      obtain ⟨i, hi⟩ : ∃ i, k - j = i + 1 := ⟨k - j - 1, by omega⟩
      have ei : iI ((k : Int) - 1 - j) = nI i := by rw [show (k : Int) - 1 - j = (i : Nat) by omega, iI_nat]
      show ∃ s', f_X12_numberOf_6 (nI (mN P (fun b => t (k - j + b)) j)) (iI ((k : Int) - 1 - j)) m = some (Sum.inl s') ∧ _
      unfold f_X12_numberOf_6
      rw [ei, if_neg (nI_pos (by omega)), m_all hl h2 hp, bind_s]
      dsimp only
      rw [aI_n _ 97 (show i < 12 by omega) (by omega), bind_s, nmI_e, bind_s, nmI_e, bind_s, ht i (by omega), pk_mul, nI_add, iI_pred]
      refine ⟨_, rfl, ?_⟩
      have e1 : mN P (fun b => t (k - (j + 1) + b)) (j + 1) = mN P (fun b => t (k - j + b)) j * P + t i := by
        show t (k - (j + 1) + 0) + P * mN P (fun b => t (k - (j + 1) + (b + 1))) j = _
        rw [show k - (j + 1) + 0 = i by omega, Nat.mul_comm P, Nat.add_comm]
        congr 2
        exact mN_cg (fun b hb => by congr 1; omega)
      rw [e1, show (k : Int) - 1 - (j + 1 : Nat) = (i : Int) - 1 by omega]
    · rintro z rfl
      show ∃ e, f_X12_numberOf_6 (nI (mN P (fun b => t (k - k + b)) k)) (iI ((k : Int) - 1 - k)) m = some (Sum.inr e) ∧ _
      have ei : iI ((k : Int) - 1 - k) = -1 := by rw [show (k : Int) - 1 - k = -1 by omega]; rfl
      unfold f_X12_numberOf_6
      rw [ei, if_pos (by decide)]
      refine ⟨_, rfl, ?_⟩
      rw [mN_cg (P := P) (t := fun b => t (k - k + b)) (u := t) (fun b hb => by congr 1; omega)]
    · show _ = (nI 0, iI ((k : Int) - 1 - (0 : Nat)), m)
      rw [show (k : Int) - 1 - (0 : Nat) = ((k - 1 : Nat) : Int) by omega, iI_nat]
      rfl
  obtain ⟨e, e1, rfl⟩ := key
  rw [e1, bind_s]
theorem m_follows {f : Nat → Nat} {A i : Nat} (hA : A ≤ 20736) (hf : ∀ x, x < A → f x < A) (hN : ∀ x, x < A → hI m 107 x = nI (f x)) (hT : InvT f A (hI m 108)) (hF : ∀ x, x < A → hI m 108 x = -1 → ¬ f x = x) (hi : i < A) : ∃ m', F_X12_follows (nI i) m = some m' ∧ InvT f A (hI m' 108) ∧ (∀ x, x < A → ¬ hI m 108 x = -1 → ¬ hI m' 108 x = -1) ∧ ¬ hI m' 108 i = -1 ∧ Fr (fun k _ => k = 108) m m' := by
  have hp := itr_lt hf hi
  have hu := un_le (hI m 108) A
  unfold F_X12_follows
  have k1 : ∃ e, loop (g_X12_follows_4 (nI i)) (nI i, (0 : Int32), m) = some e ∧ ∃ n, e.1 = nI (itr f n i) ∧ e.2.1 = nI n ∧ n ≤ A ∧ Wk f A (hI m 108) i (-3) n (hI e.2.2 108) ∧ ¬ hI e.2.2 108 (itr f n i) = -1 ∧ Fr (fun k _ => k = 108) m e.2.2 := by
    refine loop_ex (un (hI m 108) A) (fun n z => z.1 = nI (itr f n i) ∧ z.2.1 = nI n ∧ Wk f A (hI m 108) i (-3) n (hI z.2.2 108) ∧ Fr (fun k _ => k = 108) m z.2.2) _ (by omega) ?_ ?_ ⟨rfl, rfl, ⟨fun j hj => by omega, fun x => Or.inr rfl, rfl⟩, Fr.rf⟩
    · rintro n ⟨z1, z2, m1⟩ hn ⟨i1, i2, i3, i4⟩
      dsimp only at i1 i2 i3 i4
      subst i1 i2
      show (∃ s', f_X12_follows_4 (nI i) (nI (itr f n i)) (nI n) m1 = some (Sum.inl s') ∧ _) ∨ ∃ e, f_X12_follows_4 (nI i) (nI (itr f n i)) (nI n) m1 = some (Sum.inr e) ∧ _
      have hpn := hp n
      unfold f_X12_follows_4
      rw [aI_n _ 108 (show itr f n i < 20736 by omega) (by omega), bind_s]
      by_cases q : hI m1 108 (itr f n i) = -1
      · left
        have q2 : ¬ f (itr f n i) = itr f n i := by
          refine hF _ hpn ?_
          rcases i3.2.1 (itr f n i) with ⟨j, hj, ej⟩ | z
          · have := (i3.1 j hj).2.2
            rw [← ej, q] at this
            exact absurd this (by decide)
          · rw [← z]; exact q
        rw [if_pos q, bI_n _ 108 _ (show itr f n i < 20736 by omega) (by omega), bind_s, aI_n _ 107 (show itr f n i < 20736 by omega) (by omega), bind_s, nmI_e, bind_s, nI_1]
        refine ⟨_, rfl, ?_, rfl, ?_, i4.tI _ rfl⟩
        · show hI m1 107 (itr f n i) = nI (f (itr f n i))
          rw [i4.I 107 _ (by omega), hN _ hpn]
        · show Wk f A (hI m 108) i (-3) (n + 1) (hI (tI m1 108 (itr f n i) (-3)) 108)
          rw [hI_upT]
          exact i3.nxt (by decide) hpn q q2
      · right
        rw [if_neg q]
        exact ⟨_, rfl, n, rfl, rfl, by omega, i3, q, i4⟩
    · rintro ⟨z1, z2, m1⟩ ⟨i1, i2, i3, i4⟩
      dsimp only at i1 i2 i3 i4
      subst i1 i2
      show ∃ e, f_X12_follows_4 (nI i) (nI (itr f (un (hI m 108) A) i)) (nI (un (hI m 108) A)) m1 = some (Sum.inr e) ∧ _
      have hpn := hp (un (hI m 108) A)
      have q : ¬ hI m1 108 (itr f (un (hI m 108) A) i) = -1 := un_0 (A := A) (by have := i3.2.2; omega) _ hpn
      unfold f_X12_follows_4
      rw [aI_n _ 108 (show itr f (un (hI m 108) A) i < 20736 by omega) (by omega), bind_s, if_neg q]
      exact ⟨_, rfl, _, rfl, rfl, by omega, i3, q, i4⟩
  obtain ⟨⟨y1, y2, m1⟩, e1, n, q1, q2, q3, q4, q5, q6⟩ := k1
  dsimp only at q1 q2 q3 q4 q5 q6
  subst q1 q2
  rw [e1, bind_s]
  dsimp only
  have hpn := hp n
  rw [aI_n _ 108 (show itr f n i < 20736 by omega) (by omega), bind_s]
  have hVw : Vw f (hI m1 108) (hI m1 108) (itr f n i) := fun x => Or.inl rfl
  have hv := q4.val (V := hI m1 108) (by decide) (by omega) hT hVw hpn q5
  have k2 : ∃ m', loop (g_X12_follows_45 (hI m1 108 (itr f n i))) (nI i, nI n, m1) = some m' ∧ Bk f A (un (hI m1 108) A) i (hI m1 108) n (hI m' 108) ∧ Fr (fun k _ => k = 108) m1 m' := by
    generalize hI m1 108 (itr f n i) = e at hv ⊢
    refine loop_to n (fun j z => z.1 = nI (itr f j i) ∧ z.2.1 = nI (n - j) ∧ Bk f A (un (hI m1 108) A) i (hI m1 108) j (hI z.2.2 108) ∧ Fr (fun k _ => k = 108) m1 z.2.2) _ (by omega) ?_ ?_ ⟨rfl, rfl, ⟨fun x => Or.inl rfl, fun j hj => by omega⟩, Fr.rf⟩
    · rintro j ⟨z1, z2, m2⟩ hj ⟨i1, i2, i3, i4⟩
      dsimp only at i1 i2 i3 i4
      subst i1 i2
      show ∃ s', f_X12_follows_45 (nI (itr f j i)) (nI (n - j)) e m2 = some (Sum.inl s') ∧ _
      have hpj := hp j
      obtain ⟨r, hr⟩ : ∃ r, n - j = r + 1 := ⟨n - j - 1, by omega⟩
      have fin : ∀ v : Int32, Gd f A (un (hI m1 108) A) (itr f j i) v → ∃ s', f_X12_follows_68 (nI (itr f j i)) (nI (n - j)) e (nI (itr f j i)) v m2 = some (Sum.inl s') ∧ s'.1 = nI (itr f (j + 1) i) ∧ s'.2.1 = nI (n - (j + 1)) ∧ Bk f A (un (hI m1 108) A) i (hI m1 108) (j + 1) (hI s'.2.2 108) ∧ Fr (fun k _ => k = 108) m1 s'.2.2 := by
        intro v hg
        unfold f_X12_follows_68
        rw [bI_n _ 108 _ (show itr f j i < 20736 by omega) (by omega), bind_s, aI_n _ 107 (show itr f j i < 20736 by omega) (by omega), bind_s, nmI_e, bind_s, hr, iI_pred, nI_m1']
        refine ⟨_, rfl, ?_, ?_, ?_, i4.tI _ rfl⟩
        · show hI m2 107 (itr f j i) = nI (f (itr f j i))
          rw [i4.I 107 _ (by omega), q6.I 107 _ (by omega), hN _ hpj]
        · rw [show n - (j + 1) = r by omega]
        · show Bk f A _ i (hI m1 108) (j + 1) (hI (tI m2 108 (itr f j i) v) 108)
          rw [hI_upT]
          exact i3.nxt hg
      unfold f_X12_follows_45
      rw [if_neg (nI_nle (by omega) (by omega))]
      rcases hv with ⟨k, rfl, k2, k3⟩ | ⟨h1, h2⟩
      · rw [if_pos (nI_0le (by omega)), nI_add]
        exact fin _ (k3 j hj)
      · rw [if_neg (lt_nle h1)]
        exact fin _ (h2 (-2) (by decide) (by decide) j hj)
    · rintro ⟨z1, z2, m2⟩ ⟨i1, i2, i3, i4⟩
      dsimp only at i1 i2 i3 i4
      subst i1 i2
      show ∃ e', f_X12_follows_45 (nI (itr f n i)) (nI (n - n)) e m2 = some (Sum.inr e') ∧ _
      unfold f_X12_follows_45
      rw [Nat.sub_self, if_pos (by decide)]
      exact ⟨_, rfl, i3, i4⟩
  obtain ⟨m2, e2, b2, f2⟩ := k2
  obtain ⟨r1, r2, r3⟩ := q4.fin (by omega) hT hVw q5 b2
  rw [e2, bind_s]
  exact ⟨m2, rfl, r1, r2, r3, q6.tr f2⟩
end KO
