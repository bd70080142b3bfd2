/-! ===== every: the class ===== -/
section KM
variable {m : M2} {c l : Nat} {s : SS}
theorem dgt_mod {P i a e : Nat} (he : e < a) : dgt P (i % P ^ a) e = dgt P i e := by
  unfold dgt
  rw [show P ^ a = P ^ e * (P * P ^ (a - e - 1)) by rw [← Nat.pow_succ', ← Nat.pow_add]; congr 1; omega, Nat.mod_mul_right_div_self, Nat.mod_mod_of_dvd _ (Nat.dvd_mul_right _ _)]
theorem x_howMany {d : TD} (hX : XT m c d) {k : Nat} (hk : k ≤ 4) : F_X0_howMany c (nI k) m = some (nI (tdP d ^ k), m) := by
  unfold F_X0_howMany
  have key : ∃ e, loop (g_X0_howMany_4 c (nI k)) ((1 : Int32), (0 : Int32), m) = some e ∧ e = (nI (tdP d ^ k), m) := by
    refine loop_to k (fun j z => z = (nI (tdP d ^ j), nI j, m)) _ (by omega) ?_ ?_ rfl
    · rintro j z hj rfl
      show ∃ s', f_X0_howMany_4 c (nI k) (nI (tdP d ^ j)) (nI j) m = some (Sum.inl s') ∧ _
      unfold f_X0_howMany_4
      rw [if_neg (nI_ge hj (by omega)), lit_4, if_neg (nI_ge (by omega) (by omega)), nmI_e, bind_s, nmI_e, bind_s, hX.1.1.1, pk_mul, nI_1]
      exact ⟨_, rfl, rfl⟩
    · rintro z rfl
      show ∃ e, f_X0_howMany_4 c (nI k) (nI (tdP d ^ k)) (nI k) m = some (Sum.inr e) ∧ _
      unfold f_X0_howMany_4
      rw [if_pos (nI_le (Nat.le_refl _) (by omega))]
      exact ⟨_, rfl, rfl⟩
  obtain ⟨e, e1, rfl⟩ := key
  rw [e1, bind_s]
  rfl
abbrev SEv : Nat → Nat → Prop := fun k _ => k = 24 ∨ k = 25 ∨ k = 120 ∨ k = 121
theorem pow_le2 {P a b : Nat} (h : 1 ≤ P) (hab : a ≤ b) : P ^ a ≤ P ^ b := Nat.pow_le_pow_right h hab
theorem x_bench1 {d : TD} {D : Int32} {q k : Nat} (hX : XT m c d) (hV : VT d) (hq : q < tdL d) (hD : Dr (tdP d) D) (hk : k < 4) {x1 x5 : Int32} (hS : tdP d ^ min (k + 1) 3 ≤ 20736) : ∃ m', loop (g_X0_addBench_34 c (nI q) (nI k) D (nI (tdP d)) (nI (tdP d ^ min (k + 1) 3))) ((0 : Int32), m) = some m' ∧ (∀ i, i < tdP d ^ min (k + 1) 3 → hI m' 121 i = nI (Wq d D q (fun b => dgt (tdP d) i (k - b)) k)) ∧ Fr (fun k _ => k = 24 ∨ k = 25 ∨ k = 121) m m' := by
  have hP := hV.p
  have hl := hV.l
  refine loop_to (tdP d ^ min (k + 1) 3) (fun i z => z.1 = nI i ∧ (∀ j, j < i → hI z.2 121 j = nI (Wq d D q (fun b => dgt (tdP d) j (k - b)) k)) ∧ Fr (fun k _ => k = 24 ∨ k = 25 ∨ k = 121) m z.2) _ (by omega) ?_ ?_ ⟨rfl, fun j hj => by omega, Fr.rf⟩
  · rintro i ⟨x, m1⟩ hi ⟨i1, i2, i3⟩
    dsimp only at i1 i2 i3
    subst i1
    show ∃ s', f_X0_addBench_34 c (nI q) (nI k) D (nI (tdP d)) (nI (tdP d ^ min (k + 1) 3)) (nI i) m1 = some (Sum.inl s') ∧ _
    have hc := hX.1.2.2.2.2.2.2
    have hX1 : XT m1 c d := hX.fr i3 (fun k j z1 z2 z3 => by unfold tx at hc; omega)
    obtain ⟨m2, e2, f2⟩ := x_turned (L := nI q) (fog := 0) (laws := fun _ => nI q) hX1.1 hX1.2.2.2.2.2.2 hD (fun b => dgt (tdP d) i (k - b)) (b := k) (by omega) (Or.inr ⟨q, hq, rfl⟩) rfl
    have fin : ∀ (x7 x8 x9 : Int32), x7 = nI (dgt (tdP d) i (k - k)) → x8 = nI (dgt (tdP d) i (k - (k - 1))) → x9 = nI (dgt (tdP d) i (k - (k - 2))) → ∃ s', f_X0_addBench_85 c (nI q) (nI k) D (nI (tdP d)) (nI (tdP d ^ min (k + 1) 3)) (nI i) x7 x8 x9 m1 = some (Sum.inl s') ∧ s'.1 = nI (i + 1) ∧ (∀ j, j < i + 1 → hI s'.2 121 j = nI (Wq d D q (fun b => dgt (tdP d) j (k - b)) k)) ∧ Fr (fun k _ => k = 24 ∨ k = 25 ∨ k = 121) m s'.2 := by
      rintro x7 x8 x9 rfl rfl rfl
      unfold f_X0_addBench_85
      rw [e2, bind_s]
      dsimp only
      rw [bI_n _ 121 _ (show i < 20736 by omega) (by omega), bind_s, nmI_e, bind_s, nI_1]
      refine ⟨_, rfl, rfl, fun j hj => ?_, (i3.tr (f2.mono (fun k j z => by omega))).tI _ (by omega)⟩
      show hI (tI m2 121 i _) 121 j = _
      rw [hI_tI]
      by_cases e : j = i
      · rw [if_pos ⟨rfl, e⟩, e]; rfl
      · rw [if_neg (by omega), f2.I _ _ (by omega)]
        exact i2 j (by omega)
    have dg0 : i % tdP d = dgt (tdP d) i (k - k) := by unfold dgt; rw [Nat.sub_self, Nat.pow_zero, Nat.div_one]
    unfold f_X0_addBench_34
    rw [if_neg (nI_ge hi (by omega)), rmI_n (by omega) (by omega) (by omega), bind_s]
    by_cases k0 : k = 0
    · rw [if_pos (by rw [k0]; rfl)]
      unfold f_X0_addBench_65
      rw [lit_2, if_neg (nI_ge (by omega) (by omega))]
      refine fin _ _ _ (by rw [dg0]) ?_ ?_
      · rw [dg0, show k - k = k - (k - 1) by omega]
      · rw [dg0, show k - k = k - (k - 2) by omega]
    · rw [if_neg (nI_ne0 (by omega) (by omega)), dvI_n (by omega) (by omega) (by omega), bind_s]
      have hd := Nat.div_le_self i (tdP d)
      rw [rmI_n (by omega) (by omega) (by omega), bind_s]
      have dg1 : i / tdP d % tdP d = dgt (tdP d) i (k - (k - 1)) := by unfold dgt; rw [show k - (k - 1) = 1 by omega, Nat.pow_one]
      unfold f_X0_addBench_65
      rw [lit_2]
      by_cases k2 : 2 ≤ k
      · rw [if_pos (nI_le k2 (by omega)), dvI_n (by omega) (by omega) (by omega), bind_s, dvI_n (by omega) (by omega) (by omega), bind_s]
        refine fin _ _ _ (by rw [dg0]) (by rw [dg1]) ?_
        congr 1
        unfold dgt
        rw [show k - (k - 2) = 2 by omega, Nat.div_div_eq_div_mul, show tdP d ^ 2 = tdP d * tdP d from Nat.pow_two _, Nat.mod_eq_of_lt]
        rw [show min (k + 1) 3 = 3 by omega, Nat.pow_succ, Nat.pow_two] at hi
        exact Nat.div_lt_of_lt_mul hi
      · rw [if_neg (nI_ge (by omega) (by omega))]
        refine fin _ _ _ (by rw [dg0]) (by rw [dg1]) ?_
        rw [dg1, show k - (k - 1) = k - (k - 2) by omega]
  · rintro ⟨x, m1⟩ ⟨i1, i2, i3⟩
    dsimp only at i1 i2 i3
    subst i1
    show ∃ e, f_X0_addBench_34 c (nI q) (nI k) D (nI (tdP d)) (nI (tdP d ^ min (k + 1) 3)) (nI (tdP d ^ min (k + 1) 3)) m1 = some (Sum.inr e) ∧ _
    unfold f_X0_addBench_34
    rw [if_pos (nI_le (Nat.le_refl _) (by omega))]
    exact ⟨_, rfl, i2, i3⟩
theorem x_bench2 {A S P : Nat} {o w : Nat → Nat} (hP : 2 ≤ P) (hP2 : P ≤ 24) (hA : A ≤ 20736) (hS0 : 0 < S) (hS : S ≤ 20736) (hA0 : 0 < A) (ho : ∀ i, i < A → hI m 120 (i / P) = nI (o (i / P))) (hw : ∀ i, i < S → hI m 121 i = nI (w i)) : ∃ m', loop (g_X0_addBench_134 c (nI P) (nI S)) (nI (A - 1), m) = some m' ∧ (∀ i, i < A → hI m' 120 i = nI (o (i / P) * P + w (i % S))) ∧ Fr (fun k _ => k = 120) m m' := by
  refine loop_to A (fun r z => z.1 = iI ((A : Int) - 1 - r) ∧ (∀ i, i < A - r → hI z.2 120 i = hI m 120 i) ∧ (∀ i, A - r ≤ i → i < A → hI z.2 120 i = nI (o (i / P) * P + w (i % S))) ∧ Fr (fun k _ => k = 120) m z.2) _ (by omega) ?_ ?_ ⟨?_, fun i hi => rfl, fun i h1 h2 => by omega, Fr.rf⟩
  · rintro r ⟨x, m1⟩ hr ⟨i1, i2, i3, i4⟩
    dsimp only at i1 i2 i3 i4
    obtain ⟨i, hi⟩ : ∃ i, A - r = i + 1 := ⟨A - r - 1, by omega⟩
    have ei : iI ((A : Int) - 1 - r) = nI i := by rw [show (A : Int) - 1 - r = (i : Nat) by omega, iI_nat]
    rw [ei] at i1
    subst i1
    show ∃ s', f_X0_addBench_134 c (nI P) (nI S) (nI i) m1 = some (Sum.inl s') ∧ _
    have hd := Nat.div_le_self i P
    have hm := Nat.mod_lt i hS0
    unfold f_X0_addBench_134
    rw [if_neg (nI_pos (by omega)), dvI_n (by omega) (by omega) (by omega), bind_s, aI_n _ 120 (show i / P < 20736 by omega) (by omega), bind_s, rmI_n (by omega) hS0 (by omega), bind_s, aI_n _ 121 (show i % S < 20736 by omega) (by omega), bind_s, bI_n _ 120 _ (show i < 20736 by omega) (by omega), bind_s, nmI_e, bind_s, iI_pred, i2 (i / P) (by omega), ho i (by omega), i4.I 121 _ (by omega), hw _ hm, pk_mul, nI_add]
    refine ⟨_, rfl, ?_, fun j hj => ?_, fun j h1 h2 => ?_, i4.tI _ rfl⟩
    · show iI ((i : Int) - 1) = iI ((A : Int) - 1 - (r + 1 : Nat))
      congr 1
      omega
    · show hI (tI m1 120 i _) 120 j = _
      rw [hI_tI, if_neg (by omega)]
      exact i2 j (by omega)
    · show hI (tI m1 120 i _) 120 j = _
      rw [hI_tI]
      by_cases e : j = i
      · rw [if_pos ⟨rfl, e⟩, e]
      · rw [if_neg (by omega)]
        exact i3 j (by omega) h2
  · rintro ⟨x, m1⟩ ⟨i1, i2, i3, i4⟩
    dsimp only at i1 i2 i3 i4
    have ei : iI ((A : Int) - 1 - A) = -1 := by rw [show (A : Int) - 1 - A = -1 by omega]; rfl
    rw [ei] at i1
    subst i1
    show ∃ e, f_X0_addBench_134 c (nI P) (nI S) (-1) m1 = some (Sum.inr e) ∧ _
    unfold f_X0_addBench_134
    rw [if_pos (by decide)]
    exact ⟨_, rfl, fun i hi => i3 i (by omega) hi, i4⟩
  · show nI (A - 1) = iI ((A : Int) - 1 - (0 : Nat))
    rw [show (A : Int) - 1 - (0 : Nat) = ((A - 1 : Nat) : Int) by omega, iI_nat]
theorem x_addBench {d : TD} {D : Int32} {q k : Nat} (hX : XT m c d) (hV : VT d) (hq : q < tdL d) (hD : Dr (tdP d) D) (hk : k < 4) (hA : tdP d ^ (k + 1) ≤ 20736) (h : ∀ i, i < tdP d ^ k → hI m 120 i = nI (cnx (Wq d D q) (tdP d) k i)) : ∃ m', F_X0_addBench c (nI q) (nI k) D m = some m' ∧ (∀ i, i < tdP d ^ (k + 1) → hI m' 120 i = nI (cnx (Wq d D q) (tdP d) (k + 1) i)) ∧ Fr SEv m m' := by
  have hP := hV.p
  have hc := hX.1.2.2.2.2.2.2
  have hS : tdP d ^ min (k + 1) 3 ≤ 20736 := Nat.le_trans (pow_le2 (by omega) (Nat.min_le_left _ _)) hA
  have hS0 : 0 < tdP d ^ min (k + 1) 3 := Nat.pow_pos (by omega)
  have hA0 : 0 < tdP d ^ (k + 1) := Nat.pow_pos (by omega)
  unfold F_X0_addBench
  rw [hX.1.1.1, nmI_e, bind_s, nI_1, lit_3, mnI_n (by omega) (by omega), x_howMany hX (by omega), bind_s]
  dsimp only
  rw [show (20736 : Int32) = nI 20736 from rfl, mnI_n (by omega) (by omega), Nat.min_eq_left hS, nmI_e, bind_s]
  obtain ⟨m1, e1, g1, f1⟩ := x_bench1 (x1 := 0) (x5 := 0) hX hV hq hD hk hS
  have hX1 : XT m1 c d := hX.fr f1 (fun k j z1 z2 z3 => by unfold tx at hc; omega)
  rw [e1, bind_s, x_howMany hX1 (by omega), bind_s]
  dsimp only
  rw [mnI_n (by omega) (by omega), Nat.min_eq_left hA, nmI_e, bind_s, nI_m1s hA0]
  obtain ⟨m2, e2, g2, f2⟩ := x_bench2 (c := c) (m := m1) (P := tdP d) (A := tdP d ^ (k + 1)) (S := tdP d ^ min (k + 1) 3) (o := cnx (Wq d D q) (tdP d) k) (w := fun i => Wq d D q (fun b => dgt (tdP d) i (k - b)) k) (by omega) hP.2 hA hS0 hS hA0 (fun i hi => by
    rw [f1.I _ _ (by omega)]
    refine h _ ?_
    rw [Nat.pow_succ, Nat.mul_comm] at hi
    exact Nat.div_lt_of_lt_mul hi) g1
  rw [e2, bind_s]
  refine ⟨m2, rfl, fun i hi => ?_, (f1.mono (fun k j z => by omega)).tr (f2.mono (fun k j z => by omega))⟩
  rw [g2 i hi]
  show nI _ = nI (cnx (Wq d D q) (tdP d) k (i / tdP d) * tdP d + Wq d D q (fun b => dgt (tdP d) i (k - b)) k)
  congr 2
  refine Wq_lc _ _ _ _ _ _ ?_ ?_ ?_
  · exact dgt_mod (by omega)
  · exact dgt_mod (by omega)
  · exact dgt_mod (by omega)
end KM
