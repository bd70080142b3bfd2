/-! ===== every: the answers ===== -/
section KP
variable {m : M2} {c l : Nat} {s : SS}
abbrev SEm : Nat → Nat → Prop := fun k j => StM k j ∨ SrM k j ∨ k = 107 ∨ k = 108
theorem SEmM (k j : Nat) (z : SEm k j) : ¬ mk2 k j ∧ SM2 k j := ⟨fun z2 => by unfold mk2 at z2; omega, by omega⟩
theorem m_fillEvery (hM : MS m l s) (hV : VS s) {q k : Nat} (hq : q < tdL (ssD s)) (hk1 : 1 ≤ k) (hk : k ≤ 4) (hA : tdP (ssD s) ^ k ≤ 20736) : ∃ m', F_X12_fillEvery (nI q) (nI k) (nI (tdP (ssD s) ^ k)) m = some m' ∧ (∀ x, x < tdP (ssD s) ^ k → ∃ u, Gd (mnx (Wq (ssD s) (cdD (ssK s)) q) (tdP (ssD s)) k) (tdP (ssD s) ^ k) u x (hI m' 108 x)) ∧ Fr SEm m m' := by
  have hP := hV.1.p
  have hL := hV.1.l
  have hN := hV.n
  unfold F_X12_fillEvery
  obtain ⟨m1, e1, R1, f1⟩ := m_takes hM.lv hM.l2 hM.n hN hM.2.1
  rw [e1, bind_s, qI_e, bind_s]
  obtain ⟨A, eA⟩ : ∃ A, A = tdP (ssD s) ^ k := ⟨_, rfl⟩
  obtain ⟨f, ef⟩ : ∃ f, f = mnx (Wq (ssD s) (cdD (ssK s)) q) (tdP (ssD s)) k := ⟨_, rfl⟩
  rw [← eA] at hA ⊢
  rw [← ef]
  have hf : ∀ x, x < A → f x < A := fun x _ => by
    rw [ef, eA]
    exact mN_lt (fun b hb => Wq_lt hV.1 hq _ b hb (fun b' _ => dgt_lt (by omega) _ _))
  have f1' : Fr SEm m (tI m1 56 65 (nI k)) := (f1.mono (fun k j z => by omega)).tI _ (by omega)
  have g66 : hI (tI m1 56 65 (nI k)) 56 66 = cdD (ssK s) := by rw [hI_tI, if_neg (by omega)]; exact R1.2.1
  have g67 : hI (tI m1 56 65 (nI k)) 56 67 = nI (tdG (ssD s)) := by rw [hI_tI, if_neg (by omega)]; exact R1.2.2.1
  have g65 : hI (tI m1 56 65 (nI k)) 56 65 = nI k := by rw [hI_tI, if_pos ⟨rfl, rfl⟩]
  generalize tI m1 56 65 (nI k) = m2 at f1' g65 g66 g67 ⊢
  have k1 : ∃ e, loop (g_X12_fillEvery_12 (nI q) (nI k) (nI A)) ((0 : Int32), m2) = some e ∧ (∀ x, x < A → hI e 107 x = nI (f x) ∧ hI e 108 x = if f x = x then 0 else -1) ∧ Fr SEm m e := by
    refine loop_to A (fun i z => z.1 = nI i ∧ (∀ x, x < i → hI z.2 107 x = nI (f x) ∧ hI z.2 108 x = if f x = x then 0 else -1) ∧ (hI z.2 56 65 = nI k ∧ hI z.2 56 66 = cdD (ssK s) ∧ hI z.2 56 67 = nI (tdG (ssD s))) ∧ Fr SEm m z.2) _ (by omega) ?_ ?_ ⟨rfl, fun x hx => by omega, ⟨g65, g66, g67⟩, f1'⟩
    · rintro i ⟨x, m3⟩ hi ⟨i1, i2, ⟨j1, j2, j3⟩, i4⟩
      dsimp only at i1 i2 j1 j2 j3 i4
      subst i1
      show ∃ s', f_X12_fillEvery_12 (nI q) (nI k) (nI A) (nI i) m3 = some (Sum.inl s') ∧ _
      have hM3 := hM.1.fr i4 (fun k j h z => by omega)
      obtain ⟨m4, e4, g4, f4⟩ := m_digits (N := 0) (m := m3) (q := nI q) (x3 := nI A) (x4 := nI i) (k := k) hM3.1.1 hM.l2 hM3.1.2.2.1 hP (show i ≤ 20736 by omega) (by omega)
      have R4 : RwM m4 k (tdG (ssD s)) (cdD (ssK s)) (fun _ => nI q) (dgt (tdP (ssD s)) i) := ⟨by rw [f4.I _ _ (by omega)]; exact j1, by rw [f4.I _ _ (by omega)]; exact j2, by rw [f4.I _ _ (by omega)]; exact j3, fun b hb => (g4 b hb).1, fun b hb => (g4 b hb).2⟩
      have hM4 := hM3.fr f4 (fun k j h z => by omega)
      obtain ⟨m5, e5, R5, f5⟩ := m_st hM4 hV.1 R4 (by omega) (fun b _ => Or.inr ⟨q, hq, rfl⟩) hV.2.1.2.2.1 (fun b _ => dgt_lt (by have := hV.p; omega) _ _) 0
      have hM5 := hM4.fr f5 (fun k j h z => by omega)
      have e6 := m_numberOf (P := tdP (ssD s)) (t := Wq (ssD s) (cdD (ssK s)) q (dgt (tdP (ssD s)) i)) hM5.1.1 hM.l2 hM5.1.2.2.1 hk1 (by omega) R5.2.2.2.1
      have ef' : mN (tdP (ssD s)) (Wq (ssD s) (cdD (ssK s)) q (dgt (tdP (ssD s)) i)) k = f i := by rw [ef]; rfl
      rw [ef'] at e6
      have hfi := hf i hi
      have f35 : Fr (fun k j => SrM k j ∨ k = 98) m3 m5 := (f4.mono (fun k j z => by omega)).tr (f5.mono (fun k j z => by omega))
      unfold f_X12_fillEvery_12
      rw [if_neg (nI_ge hi (by omega)), e4, bind_s, e5, bind_s, e6, bind_s]
      dsimp only
      rw [bI_n _ 107 _ (show i < 20736 by omega) (by omega), bind_s, aI_n _ 107 (show i < 20736 by omega) (by omega), bind_s, show hI (tI m5 107 i (nI (f i))) 107 i = nI (f i) by rw [hI_tI, if_pos ⟨rfl, rfl⟩]]
      have fin : ∀ v : Int32, v = (if f i = i then 0 else -1) → ∃ s', f_X12_fillEvery_108 (nI q) (nI k) (nI A) (nI i) (nI i) v (tI m5 107 i (nI (f i))) = some (Sum.inl s') ∧ s'.1 = nI (i + 1) ∧ (∀ x, x < i + 1 → hI s'.2 107 x = nI (f x) ∧ hI s'.2 108 x = if f x = x then 0 else -1) ∧ (hI s'.2 56 65 = nI k ∧ hI s'.2 56 66 = cdD (ssK s) ∧ hI s'.2 56 67 = nI (tdG (ssD s))) ∧ Fr SEm m s'.2 := by
        intro v hv
        unfold f_X12_fillEvery_108
        rw [bI_n _ 108 _ (show i < 20736 by omega) (by omega), bind_s, nmI_e, bind_s, nI_1]
        refine ⟨_, rfl, rfl, fun x hx => ?_, ⟨R5.1, R5.2.1, R5.2.2.1⟩, ((i4.tr (f35.mono (fun k j z => by omega))).tI _ (by omega)).tI _ (by omega)⟩
        show hI (tI (tI m5 107 i (nI (f i))) 108 i v) 107 x = _ ∧ hI (tI (tI m5 107 i (nI (f i))) 108 i v) 108 x = _
        rw [hI_tI, if_neg (by omega), hI_tI, hI_tI]
        by_cases e : x = i
        · rw [if_pos ⟨rfl, e⟩, if_pos ⟨rfl, e⟩, e]
          exact ⟨rfl, hv⟩
        · rw [if_neg (by omega), if_neg (by omega), hI_tI, if_neg (by omega), f35.I _ _ (by omega), f35.I _ _ (by omega)]
          exact i2 x (by omega)
      by_cases h : f i = i
      · rw [if_pos (by rw [h])]
        exact fin _ (if_pos h).symm
      · rw [if_neg (fun z => h ((nI_eq (by omega) (by omega)).mp z))]
        exact fin _ (if_neg h).symm
    · rintro ⟨x, m3⟩ ⟨i1, i2, i3, i4⟩
      dsimp only at i1 i2 i3 i4
      subst i1
      show ∃ e, f_X12_fillEvery_12 (nI q) (nI k) (nI A) (nI A) m3 = some (Sum.inr e) ∧ _
      unfold f_X12_fillEvery_12
      rw [if_pos (nI_le (Nat.le_refl _) (by omega))]
      exact ⟨_, rfl, i2, i4⟩
  obtain ⟨m3, e3, g3, f3⟩ := k1
  rw [e3, bind_s]
  have k2 : ∃ e, loop (g_X12_fillEvery_118 (nI A)) ((0 : Int32), m3) = some e ∧ (∀ x, x < A → ∃ u, Gd f A u x (hI e 108 x)) ∧ Fr (fun k _ => k = 108) m3 e := by
    refine loop_to A (fun i z => z.1 = nI i ∧ InvT f A (hI z.2 108) ∧ (∀ x, x < A → hI z.2 108 x = -1 → ¬ f x = x) ∧ (∀ x, x < i → ¬ hI z.2 108 x = -1) ∧ Fr (fun k _ => k = 108) m3 z.2) _ (by omega) ?_ ?_ ⟨rfl, fun x hx => ?_, fun x hx h => ?_, fun x hx => by omega, Fr.rf⟩
    · rintro i ⟨x, m4⟩ hi ⟨i1, i2, i3, i4, i5⟩
      dsimp only at i1 i2 i3 i4 i5
      subst i1
      show ∃ s', f_X12_fillEvery_118 (nI A) (nI i) m4 = some (Sum.inl s') ∧ _
      obtain ⟨m5, e5, r1, r2, r3, f5⟩ := m_follows (m := m4) hA hf (fun x hx => by rw [i5.I _ _ (by omega)]; exact (g3 x hx).1) i2 i3 hi
      unfold f_X12_fillEvery_118
      rw [if_neg (nI_ge hi (by omega)), e5, bind_s, nmI_e, bind_s, nI_1]
      refine ⟨_, rfl, rfl, r1, fun x hx h => ?_, fun x hx => ?_, i5.tr f5⟩
      · refine i3 x hx ?_
        apply Classical.byContradiction
        intro z
        exact r2 x hx z h
      · by_cases e : x = i
        · rw [e]; exact r3
        · exact r2 x (by omega) (i4 x (by omega))
    · rintro ⟨x, m4⟩ ⟨i1, i2, i3, i4, i5⟩
      dsimp only at i1 i2 i3 i4 i5
      subst i1
      show ∃ e, f_X12_fillEvery_118 (nI A) (nI A) m4 = some (Sum.inr e) ∧ _
      unfold f_X12_fillEvery_118
      rw [if_pos (nI_le (Nat.le_refl _) (by omega))]
      refine ⟨_, rfl, fun x hx => ?_, i5⟩
      rcases i2 x hx with z | z
      · exact absurd z (i4 x hx)
      · exact ⟨_, z⟩
    · show hI m3 108 x = -1 ∨ _
      rw [(g3 x hx).2]
      by_cases h : f x = x
      · right
        rw [if_pos h]
        exact Or.inl ⟨0, ⟨h, fun j hj => by omega⟩, rfl, by show 0 + un (hI m3 108) A ≤ A; have := un_le (hI m3 108) A; omega⟩
      · left; exact if_neg h
    · intro z
      have : hI m3 108 x = -1 := h
      rw [(g3 x hx).2, if_pos z] at this
      exact absurd this (by decide)
  obtain ⟨m4, e4, g4, f4⟩ := k2
  rw [e4, bind_s]
  exact ⟨m4, rfl, g4, f3.tr (f4.mono (fun k j z => by omega))⟩
def evA (s : SS) (k : Nat) : Nat := tdP (ssD s) ^ k
def evF (s : SS) (q k : Nat) : Nat → Nat := cnx (Wq (ssD s) (cdD (ssK s)) q) (tdP (ssD s)) k
def evV (s : SS) (q k w : Nat) : Int32 := if 20736 < evA s k then -2 else if w = 2 then nI (evA s k) else if w = 0 then nI (cnS (evF s q k) (evA s k) (evA s k)) else nI (mxS (evF s q k) (evA s k) (evA s k))
theorem ev_same (hV : VS s) {q k : Nat} (hq : q < tdL (ssD s)) : cnS (mnx (Wq (ssD s) (cdD (ssK s)) q) (tdP (ssD s)) k) (evA s k) (evA s k) = cnS (evF s q k) (evA s k) (evA s k) ∧ mxS (mnx (Wq (ssD s) (cdD (ssK s)) q) (tdP (ssD s)) k) (evA s k) (evA s k) = mxS (evF s q k) (evA s k) (evA s k) := by
  have hP := hV.1.p
  have a1 : ∀ x, x < evA s k → rvN (tdP (ssD s)) k x < evA s k := fun x _ => rvN_lt (by omega) k x
  have a2 : ∀ x, x < evA s k → rvN (tdP (ssD s)) k (rvN (tdP (ssD s)) k x) = x := fun x hx => rvN_rv (by omega) hx
  have a3 : ∀ x, x < evA s k → evF s q k x < evA s k := fun x _ => cnx_lt (Wq_lc _ _ _) (fun t b hb ht => Wq_lt hV.1 hq t b hb ht) (by omega) _
  have a4 : ∀ x, x < evA s k → mnx (Wq (ssD s) (cdD (ssK s)) q) (tdP (ssD s)) k (rvN (tdP (ssD s)) k x) = rvN (tdP (ssD s)) k (evF s q k x) := fun x _ => nx_rev (Wq_lc _ _ _) (fun t b hb ht => Wq_lt hV.1 hq t b hb ht) (by omega) _
  exact ⟨cnS_rev a1 a2 a3 a4, mxS_rev a1 a2 a3 a4⟩
def evOk (s : SS) (x1 x2 x3 : Int32) : Prop := isB (tdL (ssD s)) x1 ∧ isR 1 4 x2 ∧ isR 0 2 x3
theorem pw4 {P k : Nat} (hP : P ≤ 24) (hk : k ≤ 4) (h1 : 1 ≤ P) : P ^ k ≤ 331776 := by
  have h1 : P ^ k ≤ P ^ 4 := Nat.pow_le_pow_right h1 hk
  have h2 : P ^ 4 ≤ 24 ^ 4 := Nat.pow_le_pow_left hP 4
  have : (24 : Nat) ^ 4 = 331776 := by decide
  omega
theorem k_every_m (hM : MS m l s) (hV : VS s) {q k w : Nat} (hq : q < tdL (ssD s)) (hk1 : 1 ≤ k) (hk : k ≤ 4) (hw : w ≤ 2) : OkM m l (F_X12_every (nI q) (nI k) (nI w) m) (evV s q k w) s := by
  have hP := hV.1.p
  have hL := hV.1.l
  have hpw := pw4 (k := k) hP.2 hk (by omega)
  unfold F_X12_every
  rw [hM.lv, aI_n _ 67 hM.l2 (by omega), bind_s, hM.nl, (inB (by omega) _).1 ⟨q, hq, rfl⟩, bind_s]
  dsimp only
  rw [if_neg (by decide), show F_X12_in (nI k) 1 4 m = some (1, m) from (inR (a := 1) (b := 4) (by omega) (by omega) _).1 ⟨k, hk1, hk, rfl⟩, bind_s]
  dsimp only
  rw [if_neg (by decide), show F_X12_in (nI w) 0 2 m = some (1, m) from (inR (a := 0) (b := 2) (by omega) (by omega) _).1 ⟨w, by omega, hw, rfl⟩, bind_s]
  dsimp only
  rw [if_neg (by decide)]
  have k1 : ∃ e, loop (g_X12_every_45 (nI q) (nI k) (nI w)) ((1 : Int32), (0 : Int32), m) = some e ∧ e = (nI (tdP (ssD s) ^ k), m) := by
    refine loop_to k (fun j z => z = (nI (tdP (ssD s) ^ j), nI j, m)) _ (by omega) ?_ ?_ rfl
    · rintro j z hj rfl
      show ∃ s', f_X12_every_45 (nI q) (nI k) (nI w) (nI (tdP (ssD s) ^ j)) (nI j) m = some (Sum.inl s') ∧ _
      unfold f_X12_every_45
      rw [if_neg (nI_ge hj (by omega)), m_all hM.lv hM.l2 hM.1.1.2.2.1, bind_s]
      dsimp only
      rw [nmI_e, bind_s, nmI_e, bind_s, pk_mul, nI_1]
      exact ⟨_, rfl, rfl⟩
    · rintro z rfl
      show ∃ e, f_X12_every_45 (nI q) (nI k) (nI w) (nI (tdP (ssD s) ^ k)) (nI k) m = some (Sum.inr e) ∧ _
      unfold f_X12_every_45
      rw [if_pos (nI_le (Nat.le_refl _) (by omega))]
      exact ⟨_, rfl, rfl⟩
  obtain ⟨e, e1, rfl⟩ := k1
  rw [e1, bind_s, show (20736 : Int32) = nI 20736 from rfl]
  unfold evV
  by_cases hA : 20736 < evA s k
  · rw [if_neg (nI_ge (show 20736 < tdP (ssD s) ^ k from hA) (by omega)), if_pos hA]
    exact OkM.same hM
  · have hA' : tdP (ssD s) ^ k ≤ 20736 := by unfold evA at hA; omega
    rw [if_pos (nI_le hA' (by omega)), if_neg hA]
    dsimp only
    by_cases w2 : w = 2
    · rw [if_pos (by rw [w2]; rfl), if_pos w2]
      exact OkM.same hM
    · have h' : ¬ nI w = 2 := fun y => w2 ((nI_eq (by omega) (by omega)).mp (show nI _ = nI 2 from y))
      rw [if_neg h', if_neg w2]
      obtain ⟨m1, e1, g1, f1⟩ := m_fillEvery hM hV hq hk1 hk hA'
      rw [e1, bind_s]
      obtain ⟨s1, s2⟩ := ev_same (k := k) hV hq
      obtain ⟨f, ef⟩ : ∃ f, f = mnx (Wq (ssD s) (cdD (ssK s)) q) (tdP (ssD s)) k := ⟨_, rfl⟩
      rw [← s1, ← s2]
      rw [← ef] at g1 ⊢
      change ∀ x, x < evA s k → ∃ u, Gd f (evA s k) u x (hI m1 108 x) at g1
      change OkM m l ((loop (g_X12_every_102 (nI w) (nI (evA s k))) _).bind _) _ _
      change evA s k ≤ 20736 at hA'
      generalize evA s k = A at g1 hA' ⊢
      have k2 : ∃ e, loop (g_X12_every_102 (nI w) (nI A)) ((0 : Int32), (0 : Int32), (0 : Int32), m1) = some e ∧ e = (nI (cnS f A A), nI (mxS f A A), m1) := by
        refine loop_to A (fun i z => z = (nI (cnS f A i), nI (mxS f A i), nI i, m1)) _ (by omega) ?_ ?_ rfl
        · rintro i z hi rfl
          show ∃ s', f_X12_every_102 (nI w) (nI A) (nI (cnS f A i)) (nI (mxS f A i)) (nI i) m1 = some (Sum.inl s') ∧ _
          have c1 := cnS_le f A i
          have c2 := mxS_le f A i
          obtain ⟨u, hg⟩ := g1 i hi
          unfold f_X12_every_102
          rw [if_neg (nI_ge hi (by omega)), aI_n _ 108 (show i < 20736 by omega) (by omega), bind_s]
          rcases hg.ds with ⟨d1, d2⟩ | ⟨d1, d2⟩
          · have ec : cnS f A (i + 1) = cnS f A i + 1 := by show cnS f A i + (if dsv f A i ≤ A then 1 else 0) = _; rw [if_pos d1]
            have em : mxS f A (i + 1) = max (mxS f A i) (dsv f A i) := if_pos d1
            rw [d2, if_pos (nI_0le (by omega)), nmI_e, bind_s, bind_s, nI_1, ec, em]
            by_cases hx : dsv f A i ≤ mxS f A i
            · rw [if_pos (nI_le hx (by omega)), Nat.max_eq_left hx]
              unfold f_X12_every_146
              rw [nmI_e, bind_s, nI_1]
              exact ⟨_, rfl, rfl⟩
            · rw [if_neg (nI_ge (by omega) (by omega)), bind_s, Nat.max_eq_right (by omega)]
              unfold f_X12_every_146
              rw [nmI_e, bind_s, nI_1]
              exact ⟨_, rfl, rfl⟩
          · have ec : cnS f A (i + 1) = cnS f A i := by show cnS f A i + (if dsv f A i ≤ A then 1 else 0) = _; rw [if_neg (by omega), Nat.add_zero]
            have em : mxS f A (i + 1) = mxS f A i := if_neg (by omega)
            rw [if_neg (lt_nle d2), ec, em]
            unfold f_X12_every_146
            rw [nmI_e, bind_s, nI_1]
            exact ⟨_, rfl, rfl⟩
        · rintro z rfl
          show ∃ e, f_X12_every_102 (nI w) (nI A) (nI (cnS f A A)) (nI (mxS f A A)) (nI A) m1 = some (Sum.inr e) ∧ _
          unfold f_X12_every_102
          rw [if_pos (nI_le (Nat.le_refl _) (by omega))]
          exact ⟨_, rfl, rfl⟩
      obtain ⟨e, e2, rfl⟩ := k2
      rw [e2, bind_s]
      dsimp only
      by_cases w0 : w = 0
      · rw [if_pos (by rw [w0]; rfl), if_pos w0]
        exact OkM.scr hM f1 SEmM
      · rw [if_neg (nI_ne0 (by omega) (by omega)), if_neg w0]
        exact OkM.scr hM f1 SEmM
theorem k_every_m0 (hM : MS m l s) (hV : VS s) {x1 x2 x3 : Int32} (h : ¬ evOk s x1 x2 x3) : OkM m l (F_X12_every x1 x2 x3 m) (-1) s := by
  have hL := hV.1.l
  unfold F_X12_every
  rw [hM.lv, aI_n _ 67 hM.l2 (by omega), bind_s, hM.nl]
  by_cases h1 : isB (tdL (ssD s)) x1
  · rw [(inB (by omega) _).1 h1, bind_s]
    dsimp only
    rw [if_neg (by decide)]
    by_cases h2 : isR 1 4 x2
    · rw [show F_X12_in x2 1 4 m = some (1, m) from (inR (a := 1) (b := 4) (by omega) (by omega) _).1 h2, bind_s]
      dsimp only
      rw [if_neg (by decide), show F_X12_in x3 0 2 m = some (0, m) from (inR (a := 0) (b := 2) (by omega) (by omega) _).2 (fun z => h ⟨h1, h2, z⟩), bind_s]
      exact OkM.same hM
    · rw [show F_X12_in x2 1 4 m = some (0, m) from (inR (a := 1) (b := 4) (by omega) (by omega) _).2 h2, bind_s]
      exact OkM.same hM
  · rw [(inB (by omega) _).2 h1, bind_s]
    exact OkM.same hM
end KP
