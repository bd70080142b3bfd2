/-! ===== every: the class's ways ===== -/
section KN
variable {m : M2} {c l : Nat} {s : SS}
theorem un_0 {T : Nat → Int32} : ∀ {A : Nat}, un T A = 0 → ∀ x, x < A → ¬ T x = -1
  | 0, _, x, hx => by omega
  | k + 1, h, x, hx => by
    unfold un at h
    by_cases q : x = k
    · subst q
      intro z
      rw [if_pos z] at h
      omega
    · exact un_0 (A := k) (by omega) x (by omega)
theorem itr_lt {f : Nat → Nat} {A i : Nat} (hf : ∀ x, x < A → f x < A) (hi : i < A) : ∀ k, itr f k i < A
  | 0 => hi
  | k + 1 => hf _ (itr_lt hf hi k)
theorem x_way1 {f : Nat → Nat} {A i : Nat} (hA : A ≤ 20736) (hf : ∀ x, x < A → f x < A) (hN : ∀ x, x < A → hI m 120 x = nI (f x)) (hi : i < A) {x1 : Int32} : ∃ e, loop (g_X0_follow_4 c x1) (nI i, (0 : Int32), m) = some e ∧ ∃ n, e.1 = nI (itr f n i) ∧ e.2.1 = nI n ∧ n ≤ A ∧ Wk f A (hI m 121) i (-2) n (hI e.2.2 121) ∧ (¬ hI e.2.2 121 (itr f n i) = -1 ∨ f (itr f n i) = itr f n i) ∧ Fr (fun k _ => k = 121) m e.2.2 := by
  have hu := un_le (hI m 121) A
  have hp := itr_lt hf hi
  refine loop_ex (un (hI m 121) A) (fun n z => z.1 = nI (itr f n i) ∧ z.2.1 = nI n ∧ Wk f A (hI m 121) i (-2) n (hI z.2.2 121) ∧ Fr (fun k _ => k = 121) m z.2.2) _ (by omega) ?_ ?_ ⟨rfl, rfl, ⟨fun j hj => by omega, fun x => Or.inr rfl, rfl⟩, Fr.rf⟩
  · rintro n ⟨z1, z2, m1⟩ hn ⟨i1, i2, i3, i4⟩
    dsimp only at i1 i2 i3 i4
    subst i1 i2
    show (∃ s', f_X0_follow_4 c x1 (nI (itr f n i)) (nI n) m1 = some (Sum.inl s') ∧ _) ∨ ∃ e, f_X0_follow_4 c x1 (nI (itr f n i)) (nI n) m1 = some (Sum.inr e) ∧ _
    have hpn := hp n
    have hfn := hf _ hpn
    unfold f_X0_follow_4
    rw [show (20736 : Int32) = nI 20736 from rfl, if_neg (nI_ge (by omega) (by omega)), aI_n _ 121 (show itr f n i < 20736 by omega) (by omega), bind_s]
    by_cases q : hI m1 121 (itr f n i) = -1
    · rw [if_pos q, aI_n _ 120 (show itr f n i < 20736 by omega) (by omega), bind_s, i4.I 120 _ (by omega), hN _ hpn]
      by_cases q2 : f (itr f n i) = itr f n i
      · right
        rw [if_pos (by rw [q2])]
        exact ⟨_, rfl, n, rfl, rfl, by omega, i3, Or.inr q2, i4⟩
      · left
        rw [if_neg (fun z => q2 ((nI_eq (by omega) (by omega)).mp z)), bI_n _ 121 _ (show itr f n i < 20736 by omega) (by omega), bind_s, aI_n _ 120 (show itr f n i < 20736 by omega) (by omega), bind_s, nmI_e, bind_s, nI_1]
        refine ⟨_, rfl, ?_, rfl, ?_, i4.tI _ rfl⟩
        · show hI m1 120 (itr f n i) = nI (f (itr f n i))
          rw [i4.I 120 _ (by omega), hN _ hpn]
        · show Wk f A (hI m 121) i (-2) (n + 1) (hI (tI m1 121 (itr f n i) (-2)) 121)
          rw [hI_upT]
          exact i3.nxt (by decide) hpn q q2
    · right
      rw [if_neg q]
      exact ⟨_, rfl, n, rfl, rfl, by omega, i3, Or.inl q, i4⟩
  · rintro ⟨z1, z2, m1⟩ ⟨i1, i2, i3, i4⟩
    dsimp only at i1 i2 i3 i4
    subst i1 i2
    show ∃ e, f_X0_follow_4 c x1 (nI (itr f (un (hI m 121) A) i)) (nI (un (hI m 121) A)) m1 = some (Sum.inr e) ∧ _
    have hpn := hp (un (hI m 121) A)
    have q : ¬ hI m1 121 (itr f (un (hI m 121) A) i) = -1 := un_0 (A := A) (by have := i3.2.2; omega) _ hpn
    unfold f_X0_follow_4
    rw [show (20736 : Int32) = nI 20736 from rfl]
    by_cases h2 : 20736 ≤ un (hI m 121) A
    · rw [if_pos (nI_le h2 (by omega))]
      exact ⟨_, rfl, _, rfl, rfl, by omega, i3, Or.inl q, i4⟩
    · rw [if_neg (nI_ge (by omega) (by omega)), aI_n _ 121 (show itr f (un (hI m 121) A) i < 20736 by omega) (by omega), bind_s, if_neg q]
      exact ⟨_, rfl, _, rfl, rfl, by omega, i3, Or.inl q, i4⟩
theorem x_way2 {f : Nat → Nat} {A i u n : Nat} (hA : A ≤ 20736) (hf : ∀ x, x < A → f x < A) (hN : ∀ x, x < A → hI m 120 x = nI (f x)) (hi : i < A) (hn : n ≤ A) {e : Int32} (hv : (∃ k, e = nI k ∧ k + n ≤ A ∧ ∀ j, j < n → Gd f A u (itr f j i) (nI (k + (n - j)))) ∨ (e < 0 ∧ ∀ v : Int32, v < 0 → ¬ v = -1 → ∀ j, j < n → Gd f A u (itr f j i) v)) : ∃ m', loop (g_X0_follow_82 c (nI n) e) (nI i, (0 : Int32), m) = some m' ∧ Bk f A u i (hI m 121) n (hI m' 121) ∧ Fr (fun k _ => k = 121) m m' := by
  have hp := itr_lt hf hi
  refine loop_to n (fun j z => z.1 = nI (itr f j i) ∧ z.2.1 = nI j ∧ Bk f A u i (hI m 121) j (hI z.2.2 121) ∧ Fr (fun k _ => k = 121) m z.2.2) _ (by omega) ?_ ?_ ⟨rfl, rfl, ⟨fun x => Or.inl rfl, fun j hj => by omega⟩, Fr.rf⟩
  · rintro j ⟨z1, z2, m1⟩ hj ⟨i1, i2, i3, i4⟩
    dsimp only at i1 i2 i3 i4
    subst i1 i2
    show ∃ s', f_X0_follow_82 c (nI (itr f j i)) (nI n) e (nI j) m1 = some (Sum.inl s') ∧ _
    have hpj := hp j
    have fin : ∀ v : Int32, Gd f A u (itr f j i) v → ∃ s', f_X0_follow_110 c (nI (itr f j i)) (nI n) e (nI j) (nI (itr f j i)) v m1 = some (Sum.inl s') ∧ s'.1 = nI (itr f (j + 1) i) ∧ s'.2.1 = nI (j + 1) ∧ Bk f A u i (hI m 121) (j + 1) (hI s'.2.2 121) ∧ Fr (fun k _ => k = 121) m s'.2.2 := by
      intro v hg
      unfold f_X0_follow_110
      rw [bI_n _ 121 _ (show itr f j i < 20736 by omega) (by omega), bind_s, aI_n _ 120 (show itr f j i < 20736 by omega) (by omega), bind_s, nmI_e, bind_s, nI_1]
      refine ⟨_, rfl, ?_, rfl, ?_, i4.tI _ rfl⟩
      · show hI m1 120 (itr f j i) = nI (f (itr f j i))
        rw [i4.I 120 _ (by omega), hN _ hpj]
      · show Bk f A u i (hI m 121) (j + 1) (hI (tI m1 121 (itr f j i) v) 121)
        rw [hI_upT]
        exact i3.nxt hg
    unfold f_X0_follow_82
    rw [if_neg (nI_ge hj (by omega))]
    rcases hv with ⟨k, rfl, k2, k3⟩ | ⟨h1, h2⟩
    · rw [if_neg (nI_pos (by omega)), nI_add, pk_sub (by omega)]
      refine fin _ ?_
      rw [show k + n - j = k + (n - j) by omega]
      exact k3 j hj
    · rw [if_pos h1]
      exact fin _ (h2 (-3) (by decide) (by decide) j hj)
  · rintro ⟨z1, z2, m1⟩ ⟨i1, i2, i3, i4⟩
    dsimp only at i1 i2 i3 i4
    subst i1 i2
    show ∃ e', f_X0_follow_82 c (nI (itr f n i)) (nI n) e (nI n) m1 = some (Sum.inr e') ∧ _
    unfold f_X0_follow_82
    rw [if_pos (nI_le (Nat.le_refl _) (by omega))]
    exact ⟨_, rfl, i3, i4⟩
theorem x_follow {f : Nat → Nat} {A i : Nat} (hA : A ≤ 20736) (hf : ∀ x, x < A → f x < A) (hN : ∀ x, x < A → hI m 120 x = nI (f x)) (hT : InvT f A (hI m 121)) (hi : i < A) : ∃ m', F_X0_follow c (nI i) m = some m' ∧ InvT f A (hI m' 121) ∧ (∀ x, x < A → ¬ hI m 121 x = -1 → ¬ hI m' 121 x = -1) ∧ ¬ hI m' 121 i = -1 ∧ Fr (fun k _ => k = 121) m m' := by
  unfold F_X0_follow
  obtain ⟨⟨y1, y2, m1⟩, e1, n, q1, q2, q3, q4, q5, q6⟩ := x_way1 (c := c) (x1 := nI i) hA hf hN hi
  dsimp only at q1 q2 q3 q4 q5 q6
  subst q1 q2
  rw [e1, bind_s]
  have hpn := itr_lt hf hi n
  have fin : ∀ m2 : M2, Fr (fun k _ => k = 121) m m2 → Vw f (hI m1 121) (hI m2 121) (itr f n i) → ¬ hI m2 121 (itr f n i) = -1 → ∃ m', f_X0_follow_69 c (nI i) (nI (itr f n i)) (nI n) m2 = some m' ∧ InvT f A (hI m' 121) ∧ (∀ x, x < A → ¬ hI m 121 x = -1 → ¬ hI m' 121 x = -1) ∧ ¬ hI m' 121 i = -1 ∧ Fr (fun k _ => k = 121) m m' := by
    intro m2 f2 hV he
    have hv := q4.val (V := hI m2 121) (by decide) (by omega) hT hV hpn he
    obtain ⟨m3, e3, b3, f3⟩ := x_way2 (c := c) (m := m2) hA hf (fun x hx => by rw [f2.I _ _ (by omega)]; exact hN x hx) hi q3 hv
    obtain ⟨r1, r2, r3⟩ := q4.fin (by omega) hT hV he b3
    unfold f_X0_follow_69
    rw [aI_n _ 121 (show itr f n i < 20736 by omega) (by omega), bind_s, show (0 : Int32) = nI 0 from rfl]
    rw [show (nI i, nI 0, m2) = (nI i, (0 : Int32), m2) from rfl, e3, bind_s]
    exact ⟨m3, rfl, r1, r2, r3, f2.tr f3⟩
  dsimp only
  unfold f_X0_follow_52
  rw [aI_n _ 121 (show itr f n i < 20736 by omega) (by omega), bind_s]
  by_cases h : hI m1 121 (itr f n i) = -1
  · have hfix : f (itr f n i) = itr f n i := by
      rcases q5 with z | z
      · exact absurd h z
      · exact z
    rw [if_pos h, bI_n _ 121 _ (show itr f n i < 20736 by omega) (by omega), bind_s]
    refine fin _ (q6.tI _ rfl) ?_ ?_
    · intro x
      rw [hI_upT]
      by_cases e : x = itr f n i
      · right; exact ⟨e, by rw [e, upT_eq], hfix⟩
      · left; rw [upT_ne _ _ e]
    · rw [hI_upT, upT_eq]; decide
  · rw [if_neg h]
    exact fin m1 q6 (fun x => Or.inl rfl) h
/-! prove, behind the making of its rows: as the class's method goes -/
def f_prove_42 (c : Nat) (x1 : Int32) (x2 : Int32) (x3 : Int32) (x4 : Int32) (m : M2) : Option ((Int32 × M2) ⊕ (M2)) :=
  if x2 ≤ x4 then some (Sum.inr m) else (F_X0_addBench c x1 x4 x3 m).bind fun c2 => (nmI (x4 + (1 : Int32))).bind fun v4 => some (Sum.inl (v4, c2))
def g_prove_42 (c : Nat) (x1 : Int32) (x2 : Int32) (x3 : Int32) (s : Int32 × M2) : Option ((Int32 × M2) ⊕ (M2)) := f_prove_42 c x1 x2 x3 s.1 s.2
def f_prove_158 (c : Nat) (x4 : Int32) (x5 : Int32) (m : M2) : Option ((Int32 × M2) ⊕ (M2)) :=
  (nmI (x5 + (1 : Int32))).bind fun v1 => some (Sum.inl (v1, m))
def f_prove_120 (c : Nat) (x4 : Int32) (x5 : Int32) (m : M2) : Option ((Int32 × M2) ⊕ (M2)) :=
  (aI m 121 20736 x5).bind fun v1 => if v1 < 0 then f_prove_158 c x4 x5 m else (qI m 38 3 ((hI m 38 3) + (1 : Int32))).bind fun m4 => (aI m4 121 20736 x5).bind fun v6 => (qI m4 38 4 (mxI (hI m4 38 4) v6)).bind fun m8 => f_prove_158 c x4 x5 m8
def f_prove_96 (c : Nat) (x4 : Int32) (x5 : Int32) (m : M2) : Option ((Int32 × M2) ⊕ (M2)) :=
  if x4 ≤ x5 then some (Sum.inr m) else (aI m 121 20736 x5).bind fun v2 => if v2 = (-1 : Int32) then (F_X0_follow c x5 m).bind fun c5 => f_prove_120 c x4 x5 c5 else f_prove_120 c x4 x5 m
def g_prove_96 (c : Nat) (x4 : Int32) (s : Int32 × M2) : Option ((Int32 × M2) ⊕ (M2)) := f_prove_96 c x4 s.1 s.2
def f_prove_32 (c : Nat) (x1 : Int32) (x2 : Int32) (x3 : Int32) (m : M2) : Option M2 :=
  (bI m 120 20736 (0 : Int32) (0 : Int32)).bind fun m1 => (loop (g_prove_42 c x1 x2 x3) ((0 : Int32), m1)).bind fun e3 => (F_X0_howMany c x2 e3).bind fun c5 => (nmI (mnI c5.1 (20736 : Int32))).bind fun v7 => (F_J7_fill_53178 121 20736 (-1 : Int32) c5.2).bind fun c9 => (qI c9 38 3 (0 : Int32)).bind fun m11 => (qI m11 38 4 (0 : Int32)).bind fun m13 => (loop (g_prove_96 c v7) ((0 : Int32), m13)).bind fun e15 => some e15
abbrev SPv : Nat → Nat → Prop := fun k j => k = 24 ∨ k = 25 ∨ k = 120 ∨ k = 121 ∨ (k = 38 ∧ (j = 3 ∨ j = 4))
theorem x_prove {d : TD} {D : Int32} {q k : Nat} (hX : XT m c d) (hV : VT d) (hq : q < tdL d) (hD : Dr (tdP d) D) (hk1 : 1 ≤ k) (hk : k ≤ 4) (hA : tdP d ^ k ≤ 20736) : ∃ m', f_prove_32 c (nI q) (nI k) D m = some m' ∧ hI m' 38 3 = nI (cnS (cnx (Wq d D q) (tdP d) k) (tdP d ^ k) (tdP d ^ k)) ∧ hI m' 38 4 = nI (mxS (cnx (Wq d D q) (tdP d) k) (tdP d ^ k) (tdP d ^ k)) ∧ Fr SPv m m' := by
  have hP := hV.p
  have hc := hX.1.2.2.2.2.2.2
  unfold f_prove_32
  rw [show (0 : Int32) = nI 0 from rfl, bI_n _ 120 _ (show 0 < 20736 by omega) (by omega), bind_s]
  have k1 : ∃ e, loop (g_prove_42 c (nI q) (nI k) D) (nI 0, tI m 120 0 (nI 0)) = some e ∧ (∀ i, i < tdP d ^ k → hI e 120 i = nI (cnx (Wq d D q) (tdP d) k i)) ∧ Fr SEv m e := by
    refine loop_to k (fun j z => z.1 = nI j ∧ (∀ i, i < tdP d ^ j → hI z.2 120 i = nI (cnx (Wq d D q) (tdP d) j i)) ∧ Fr SEv m z.2) _ (by omega) ?_ ?_ ⟨rfl, fun i hi => ?_, Fr.rf.tI _ (by omega)⟩
    · rintro j ⟨x, m1⟩ hj ⟨i1, i2, i3⟩
      dsimp only at i1 i2 i3
      subst i1
      show ∃ s', f_prove_42 c (nI q) (nI k) D (nI j) m1 = some (Sum.inl s') ∧ _
      have hX1 : XT m1 c d := hX.fr i3 (fun k j z1 z2 z3 => by unfold tx at hc; omega)
      obtain ⟨m2, e2, g2, f2⟩ := x_addBench hX1 hV hq hD (show j < 4 by omega) (Nat.le_trans (pow_le2 (by omega) (by omega)) hA) i2
      unfold f_prove_42
      rw [if_neg (nI_ge hj (by omega)), e2, bind_s, nmI_e, bind_s, nI_1]
      exact ⟨_, rfl, rfl, g2, i3.tr f2⟩
    · rintro ⟨x, m1⟩ ⟨i1, i2, i3⟩
      dsimp only at i1 i2 i3
      subst i1
      show ∃ e, f_prove_42 c (nI q) (nI k) D (nI k) m1 = some (Sum.inr e) ∧ _
      unfold f_prove_42
      rw [if_pos (nI_le (Nat.le_refl _) (by omega))]
      exact ⟨_, rfl, i2, i3⟩
    · rw [Nat.pow_zero] at hi
      show hI (tI m 120 0 (nI 0)) 120 i = nI 0
      rw [hI_tI, if_pos ⟨rfl, by omega⟩]
  obtain ⟨m1, e1, g1, f1⟩ := k1
  have hX1 : XT m1 c d := hX.fr f1 (fun k j z1 z2 z3 => by unfold tx at hc; omega)
  rw [e1, bind_s, x_howMany hX1 hk, bind_s]
  dsimp only
  rw [show (20736 : Int32) = nI 20736 from rfl, mnI_n (by omega) (by omega), Nat.min_eq_left hA, nmI_e, bind_s]
  obtain ⟨m2, e2, g2, f2⟩ := x_fill (m := m1) 121 20736 (-1) (by omega)
  rw [e2, bind_s, qI_e, bind_s, qI_e, bind_s]
  obtain ⟨A, eA⟩ : ∃ A, A = tdP d ^ k := ⟨_, rfl⟩
  rw [← eA] at hA g1 ⊢
  obtain ⟨f, ef⟩ : ∃ f, f = cnx (Wq d D q) (tdP d) k := ⟨_, rfl⟩
  have hf : ∀ x, x < A → f x < A := fun x _ => by rw [ef, eA]; exact cnx_lt (Wq_lc _ _ _) (fun t b hb ht => Wq_lt hV hq t b hb ht) (by omega) _
  rw [← ef] at g1 ⊢
  have key : ∃ e, loop (g_prove_96 c (nI A)) (nI 0, tI (tI m2 38 3 (nI 0)) 38 4 (nI 0)) = some e ∧ hI e 38 3 = nI (cnS f A A) ∧ hI e 38 4 = nI (mxS f A A) ∧ Fr (fun k j => k = 121 ∨ (k = 38 ∧ (j = 3 ∨ j = 4))) m2 e := by
    refine loop_to A (fun i z => z.1 = nI i ∧ hI z.2 38 3 = nI (cnS f A i) ∧ hI z.2 38 4 = nI (mxS f A i) ∧ InvT f A (hI z.2 121) ∧ Fr (fun k j => k = 121 ∨ (k = 38 ∧ (j = 3 ∨ j = 4))) m2 z.2) _ (by omega) ?_ ?_ ⟨rfl, rfl, rfl, fun x hx => Or.inl ?_, (Fr.rf.tI _ (by omega)).tI _ (by omega)⟩
    · rintro i ⟨x, m3⟩ hi ⟨i1, i2, i3, i4, i5⟩
      dsimp only at i1 i2 i3 i4 i5
      subst i1
      show ∃ s', f_prove_96 c (nI A) (nI i) m3 = some (Sum.inl s') ∧ _
      have hN3 : ∀ x, x < A → hI m3 120 x = nI (f x) := fun x hx => by rw [i5.I _ _ (by omega), f2.I _ _ (by omega)]; exact g1 x hx
      have fin : ∀ m4 : M2, Fr (fun k _ => k = 121) m3 m4 → InvT f A (hI m4 121) → ¬ hI m4 121 i = -1 → ∃ s', f_prove_120 c (nI A) (nI i) m4 = some (Sum.inl s') ∧ s'.1 = nI (i + 1) ∧ hI s'.2 38 3 = nI (cnS f A (i + 1)) ∧ hI s'.2 38 4 = nI (mxS f A (i + 1)) ∧ InvT f A (hI s'.2 121) ∧ Fr (fun k j => k = 121 ∨ (k = 38 ∧ (j = 3 ∨ j = 4))) m2 s'.2 := by
        intro m4 f4 hI4 hne
        have hg : Gd f A (un (hI m4 121) A) i (hI m4 121 i) := by
          rcases hI4 i hi with z | z
          · exact absurd z hne
          · exact z
        have ff4 : Fr (fun k j => k = 121 ∨ (k = 38 ∧ (j = 3 ∨ j = 4))) m2 m4 := i5.tr (f4.mono (fun k j z => by omega))
        have c1 := cnS_le f A i
        have c2 := mxS_le f A i
        unfold f_prove_120
        rw [aI_n _ 121 (show i < 20736 by omega) (by omega), bind_s]
        rcases hg.ds with ⟨d1, d2⟩ | ⟨d1, d2⟩
        · rw [d2, if_neg (nI_pos (by omega)), qI_e, bind_s, aI_n _ 121 (show i < 20736 by omega) (by omega), bind_s, hI_tI m4 38 3 _ 121 i, if_neg (by omega), d2, qI_e, bind_s, hI_tI m4 38 3 _ 38 4, if_neg (by omega), f4.I 38 4 (by omega), f4.I 38 3 (by omega), i2, i3, mxI_n (by omega) (by omega), nI_1]
          unfold f_prove_158
          rw [nmI_e, bind_s, nI_1]
          refine ⟨_, rfl, rfl, ?_, ?_, ?_, (ff4.tI _ (by omega)).tI _ (by omega)⟩
          · show hI (tI (tI m4 38 3 _) 38 4 _) 38 3 = nI (cnS f A i + if dsv f A i ≤ A then 1 else 0)
            rw [hI_tI, if_neg (by omega), hI_tI, if_pos ⟨rfl, rfl⟩, if_pos d1]
          · show hI (tI (tI m4 38 3 _) 38 4 _) 38 4 = nI (if dsv f A i ≤ A then max (mxS f A i) (dsv f A i) else mxS f A i)
            rw [hI_tI, if_pos ⟨rfl, rfl⟩, if_pos d1]
          · show InvT f A (hI m4 121)
            exact hI4
        · rw [if_pos d2]
          unfold f_prove_158
          rw [nmI_e, bind_s, nI_1]
          refine ⟨_, rfl, rfl, ?_, ?_, hI4, ff4⟩
          · show hI m4 38 3 = nI (cnS f A i + if dsv f A i ≤ A then 1 else 0)
            rw [if_neg (by omega), f4.I 38 3 (by omega), i2]; rfl
          · show hI m4 38 4 = nI (if dsv f A i ≤ A then max (mxS f A i) (dsv f A i) else mxS f A i)
            rw [if_neg (by omega), f4.I 38 4 (by omega), i3]
      unfold f_prove_96
      rw [if_neg (nI_ge hi (by omega)), aI_n _ 121 (show i < 20736 by omega) (by omega), bind_s]
      by_cases h : hI m3 121 i = -1
      · obtain ⟨m4, e4, r1, r2, r3, f4⟩ := x_follow (c := c) (m := m3) hA hf hN3 i4 hi
        rw [if_pos h, e4, bind_s]
        exact fin m4 f4 r1 r3
      · rw [if_neg h]
        exact fin m3 Fr.rf i4 h
    · rintro ⟨x, m3⟩ ⟨i1, i2, i3, i4, i5⟩
      dsimp only at i1 i2 i3 i4 i5
      subst i1
      show ∃ e, f_prove_96 c (nI A) (nI A) m3 = some (Sum.inr e) ∧ _
      unfold f_prove_96
      rw [if_pos (nI_le (Nat.le_refl _) (by omega))]
      exact ⟨_, rfl, i2, i3, i5⟩
    · show hI (tI (tI m2 38 3 (nI 0)) 38 4 (nI 0)) 121 x = -1
      rw [hI_tI, if_neg (by omega), hI_tI, if_neg (by omega)]
      exact g2 x (by omega)
  obtain ⟨m3, e3, r1, r2, f3⟩ := key
  rw [e3, bind_s]
  exact ⟨m3, rfl, r1, r2, ((f1.mono (fun k j z => by omega)).tr (f2.mono (fun k j z => by omega))).tr (f3.mono (fun k j z => by omega))⟩
end KN
