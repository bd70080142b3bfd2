/-! ===== the reference reads literals ===== -/
section KX
variable {m : M2} {By : Nat → Nat} {n sd : Nat}
abbrev S56 : Nat → Nat → Prop := fun k j => k = 56 ∧ (j = 11 ∨ j = 13 ∨ j = 14)
abbrev SLt (sd k0 : Nat) : Nat → Nat → Prop := fun k j => SXm sd k j ∨ (k = 56 ∧ j = 41) ∨ ((83 ≤ k ∧ k ≤ 88) ∧ 150 * sd + k0 ≤ j ∧ j < 150 * sd + 150)
theorem mf_must {w : Int32} {f t : Nat} (h : MFt m By n f t) : F_X12_must w m = some m := by
  unfold F_X12_must f_X12_must_20
  rw [mf_is h, bind_s]
  dsimp only
  rw [if_pos rfl, mf_fail h, bind_s]
theorem m_must {i w : Nat} (h : MBs m By n i) (hw : 2 ≤ w) (hw2 : w < 34) : (tk By n i = w → i < 400 → ∃ m', F_X12_must (nI (mkd w)) m = some m' ∧ MBs m' By n (i + 1) ∧ Fr S56 m m') ∧ (tk By n i = w → ¬ i < 400 → ∃ m', F_X12_must (nI (mkd w)) m = some m' ∧ MFt m' By n 2 i ∧ Fr S56 m m') ∧ (¬ tk By n i = w → ∃ m', F_X12_must (nI (mkd w)) m = some m' ∧ MFt m' By n 1 i ∧ Fr S56 m m') := by
  unfold F_X12_must f_X12_must_20
  rw [m_is h hw2, bind_s]
  dsimp only
  refine ⟨fun h1 h4 => ?_, fun h1 h4 => ?_, fun h1 => ?_⟩
  · obtain ⟨m', e1, b1, f1⟩ := (m_goesOn h (by omega)).1 h4
    rw [decide_eq_true h1, if_neg (show ¬ bI1 true = 0 by decide), e1, bind_s]
    exact ⟨m', rfl, b1, f1.mono (fun k j z => by omega)⟩
  · obtain ⟨m', e1, b1, f1⟩ := (m_goesOn h (by omega)).2 h4
    rw [decide_eq_true h1, if_neg (show ¬ bI1 true = 0 by decide), e1, bind_s]
    exact ⟨m', rfl, b1, f1.mono (fun k j z => by omega)⟩
  · obtain ⟨m', e1, b1, f1⟩ := m_fail h (f := 1) (by omega)
    rw [decide_eq_false h1, if_pos (show bI1 false = 0 from rfl), lit_1, e1, bind_s]
    exact ⟨m', rfl, b1, f1.mono (fun k j z => by omega)⟩
theorem Seg.pre {C X L : List Op} {a : Nat} (h : Seg C a L) (hl : a + L.length ≤ C.length) : Seg (C ++ X) a L := fun j hj => by
  rw [List.getElem?_append_left (by omega)]
  exact h j hj
theorem GC.pre {C X : List Op} : ∀ a L, GC C a L → GC (C ++ X) a L := fun _ _ h => ⟨h.1.pre h.2, by rw [List.length_append]; have := h.2; omega⟩
theorem GC.at {C L X : List Op} : GC (C ++ L ++ X) C.length L := GC.pre _ _ ⟨fun j hj => by rw [List.getElem?_append_right (by omega), Nat.add_sub_cancel_left], by rw [List.length_append]; omega⟩
theorem GC.gs {C : List Op} (hC : CdM m sd C) (hl : C.length ≤ 420) : ∀ a L, GC C a L → GS m sd a L := fun a L h => ⟨fun j o ho => by
  have := lt_of_get ho
  have e := h.1 j this
  rw [ho] at e
  rw [Nat.add_assoc]
  exact hC.2 (a + j) o e, by have := h.2; omega⟩
theorem LtAt.mono {G G' : Nat → List Op → Prop} {m' : M2} {k : Nat} {l : Lit} (h : LtAt G m sd k l) (hG : ∀ a L, G a L → G' a L) (hI : ∀ q, 83 ≤ q → q ≤ 88 → hI m' q (150 * sd + k) = hI m q (150 * sd + k)) : LtAt G' m' sd k l := by
  obtain ⟨a, g1, g2, h3, c83, c84, c85, c86, c87, c88⟩ := h
  exact ⟨a, hG _ _ g1, hG _ _ g2, h3, (hI _ (by omega) (by omega)).trans c83, (hI _ (by omega) (by omega)).trans c84, (hI _ (by omega) (by omega)).trans c85, (hI _ (by omega) (by omega)).trans c86, (hI _ (by omega) (by omega)).trans c87, (hI _ (by omega) (by omega)).trans c88⟩
theorem BrK.mono {G G' : Nat → List Op → Prop} {m' : M2} {K K' b : Nat} {br : Br} (h : BrK G K m sd b br) (hK : K ≤ K') (hG : ∀ a L, G a L → G' a L) (h8 : ∀ q j, 83 ≤ q → q ≤ 88 → 150 * sd ≤ j → j < 150 * sd + K → hI m' q j = hI m q j) (h7 : ∀ q, 70 ≤ q → q ≤ 73 → hI m' q (54 * sd + b) = hI m q (54 * sd + b)) : BrK G' K' m' sd b br := by
  obtain ⟨x, a, h1, h2, h3, h4, c70, c71, c72, c73⟩ := h
  exact ⟨x, a, fun j l hj => (h1 j l hj).mono hG (fun q a1 a2 => h8 q _ a1 a2 (by omega) (by have := lt_of_get hj; omega)), by omega, hG _ _ h3, h4, (h7 _ (by omega) (by omega)).trans c70, (h7 _ (by omega) (by omega)).trans c71, (h7 _ (by omega) (by omega)).trans c72, (h7 _ (by omega) (by omega)).trans c73⟩
theorem LwK.mono {G G' : Nat → List Op → Prop} {m' : M2} {K K' B B' q : Nat} {w : List Br × List Op} (h : LwK G K B m sd q w) (hK : K ≤ K') (hB : B ≤ B') (hG : ∀ a L, G a L → G' a L) (h8 : ∀ q j, 83 ≤ q → q ≤ 88 → 150 * sd ≤ j → j < 150 * sd + K → hI m' q j = hI m q j) (h7 : ∀ q j, 70 ≤ q → q ≤ 73 → 54 * sd ≤ j → j < 54 * sd + B → hI m' q j = hI m q j) (h6 : ∀ p, p = 68 ∨ p = 69 → hI m' p (6 * sd + q) = hI m p (6 * sd + q)) : LwK G' K' B' m' sd q w := by
  obtain ⟨x, h1, h2, h3, h4, h5⟩ := h
  refine ⟨x, by omega, h2, (h6 _ (by omega)).trans h3, (h6 _ (by omega)).trans h4, fun j b hj => (h5 j b hj).mono hK hG h8 (fun p a1 a2 => h7 p _ a1 a2 (by omega) ?_)⟩
  have := lt_of_get hj
  rw [List.length_append, List.length_singleton] at this
  omega
theorem zb_b (b : Bool) : zb (bI1 b) = some (bI1 b) := by cases b <;> rfl
theorem mf_lit {x1 x2 x3 x4 : Int32} {f t : Nat} (h : MFt m By n f t) : f_X12_literal_88 x1 x2 x3 x4 m = some m := by
  unfold f_X12_literal_88 f_X12_literal_100
  rw [mf_fail h, bind_s, if_neg h.nl]
  split <;> rfl
theorem mf_expr {f t : Nat} (h : MFt m By n f t) : ∃ m', F_X12_expression m = some m' ∧ MFt m' By n f t ∧ Fr (fun k j => k = 56 ∧ j = 54) m m' := by
  unfold F_X12_expression
  rw [qI_e, bind_s, nmI_e, bind_s]
  have f1 : Fr (fun k j => k = 56 ∧ j = 54) m (tI m 56 54 0) := Fr.rf.tI _ (by omega)
  have h1 := h.fr f1 (fun k j z => by omega)
  generalize tI m 56 54 0 = m1 at f1 h1 ⊢
  have key : ∃ e, loop (g_X12_expression_12 (hI m1 56 12)) ((1 : Int32), m1) = some e ∧ e = Sum.inr m1 := by
    refine loop_to 0 (fun _ z => z = ((1 : Int32), m1)) _ (by omega) (fun k s hk => by omega) ?_ rfl
    rintro z rfl
    show ∃ e, f_X12_expression_12 (hI m1 56 12) 1 m1 = some (Sum.inr e) ∧ _
    unfold f_X12_expression_12
    rw [if_neg (by decide), if_neg h1.ne]
    exact ⟨_, rfl, rfl⟩
  obtain ⟨e, e1, rfl⟩ := key
  rw [e1, bind_s]
  exact ⟨m1, rfl, h1, f1⟩
theorem mo_k {k : Nat} (h : k < 34) : (11 ≤ mkd k ∧ mkd k ≤ 14) ↔ (11 ≤ k ∧ k ≤ 14) := by
  have : ∀ k, k < 34 → ((11 ≤ mkd k ∧ mkd k ≤ 14) ↔ (11 ≤ k ∧ k ≤ 14)) := by decide +kernel
  exact this k h
theorem mo_k2 {k : Nat} (h : 11 ≤ k ∧ k ≤ 14) : mkd k = k := by
  rcases (show k = 11 ∨ k = 12 ∨ k = 13 ∨ k = 14 by omega) with rfl | rfl | rfl | rfl <;> rfl
theorem m_literal {i k : Nat} {C : List Op} {o : Bool} (hsd : sd < 2) (hi : 1 ≤ i) (hB : MBs m By n i) (hC : CdM m sd C) (h12 : hI m 56 12 = 0) (hl : C.length ≤ i) (h41 : hI m 56 41 = nI (150 * sd + k)) (hk : k < 150) : (∀ j r, pRl (tk By n) (vI By n) i = .inl (j, r) → ∃ m', F_X12_literal (bI1 o) m = some m' ∧ MBs m' By n j ∧ CdM m' sd (C ++ (rA r ++ rB r)) ∧ (C ++ (rA r ++ rB r)).length ≤ j ∧ hI m' 56 12 = 0 ∧ hI m' 56 41 = nI (150 * sd + k + 1) ∧ LtAt (GC (C ++ (rA r ++ rB r))) m' sd k (o, r) ∧ Fr (SLt sd k) m m') ∧ (∀ f t, pRl (tk By n) (vI By n) i = .inr (f, t) → ∃ m', F_X12_literal (bI1 o) m = some m' ∧ MFt m' By n f t ∧ Fr (SLt sd k) m m') := by
  have hte := te_le By n
  have hKV : ∀ i, tk By n i = 3 → vI By n i < 10000 := fun i hi => vI_lt hi
  unfold F_X12_literal
  have key : ∃ z, loop (g_X12_literal_2 (bI1 o)) ((0 : Int32), m) = some z ∧ Fr S56 m z.2 ∧ ((∃ j b, pNo (tk By n) 400 i false = .inl (j, b) ∧ z.1 = bI1 b ∧ MBs z.2 By n j) ∨ (∃ f t, pNo (tk By n) 400 i false = .inr (f, t) ∧ MFt z.2 By n f t)) := by
    generalize hpz : pNo (tk By n) 400 i false = PZ
    refine loop_ex 400 (fun k z => Fr S56 m z.2 ∧ ((∃ b, PZ = pNo (tk By n) (400 - k) (i + k) b ∧ z.1 = bI1 b ∧ MBs z.2 By n (i + k)) ∨ (∃ f t, PZ = .inr (f, t) ∧ MFt z.2 By n f t))) _ (by omega) ?_ ?_ ⟨Fr.rf, Or.inl ⟨false, hpz.symm, rfl, hB⟩⟩
    · rintro k ⟨z1, m1⟩ hk ⟨i2, i3⟩
      dsimp only at i2 i3
      show (∃ s', f_X12_literal_2 (bI1 o) z1 m1 = some (Sum.inl s') ∧ _) ∨ ∃ z, f_X12_literal_2 (bI1 o) z1 m1 = some (Sum.inr z) ∧ _
      unfold f_X12_literal_2
      rcases i3 with ⟨b, ep, rfl, r1⟩ | ⟨f, t, ep, r1⟩
      · have hkj := tk_lt (By := By) (n := n) (i + k)
        obtain ⟨q, hq⟩ : ∃ q, 400 - k = q + 1 := ⟨399 - k, by omega⟩
        rw [hq] at ep
        unfold pNo at ep
        rw [show (31 : Int32) = nI (mkd 26) from rfl, m_is r1 (by omega), bind_s]
        dsimp only
        by_cases k26 : tk By n (i + k) = 26
        · left
          rw [if_pos k26] at ep
          rw [decide_eq_true k26, if_neg (show ¬ bI1 true = 0 by decide)]
          obtain ⟨t1, t2⟩ := m_goesOn r1 (by omega)
          have go : ∃ s', f_X12_literal_20 (bI1 o) (bI1 (!b)) m1 = some (Sum.inl s') ∧ (Fr S56 m s'.2 ∧ ((∃ b, PZ = pNo (tk By n) (400 - (k + 1)) (i + (k + 1)) b ∧ s'.1 = bI1 b ∧ MBs s'.2 By n (i + (k + 1))) ∨ (∃ f t, PZ = .inr (f, t) ∧ MFt s'.2 By n f t))) := by
            unfold f_X12_literal_20
            by_cases h4 : i + k < 400
            · rw [if_pos h4] at ep
              obtain ⟨m2, e2, r2, f2⟩ := t1 h4
              rw [e2, bind_s]
              exact ⟨_, rfl, i2.tr (f2.mono (fun k j z => by omega)), Or.inl ⟨!b, by rw [ep, show 400 - (k + 1) = q by omega]; rfl, rfl, r2⟩⟩
            · rw [if_neg h4] at ep
              obtain ⟨m2, e2, r2, f2⟩ := t2 h4
              rw [e2, bind_s]
              exact ⟨_, rfl, i2.tr (f2.mono (fun k j z => by omega)), Or.inr ⟨2, i + k, ep, r2⟩⟩
          cases b with
          | false => rw [if_pos (show bI1 false = 0 from rfl)]; exact go
          | true => rw [if_neg (show ¬ bI1 true = 0 by decide)]; exact go
        · right
          rw [if_neg k26] at ep
          rw [decide_eq_false k26, if_pos (show bI1 false = 0 from rfl)]
          exact ⟨_, rfl, i2, Or.inl ⟨i + k, b, ep, rfl, r1⟩⟩
      · right
        rw [mf_is r1, bind_s]
        dsimp only
        rw [if_pos rfl]
        exact ⟨_, rfl, i2, Or.inr ⟨f, t, ep, r1⟩⟩
    · rintro ⟨z1, m1⟩ ⟨i2, i3⟩
      dsimp only at i2 i3
      show ∃ z, f_X12_literal_2 (bI1 o) z1 m1 = some (Sum.inr z) ∧ _
      unfold f_X12_literal_2
      rcases i3 with ⟨b, ep, rfl, r1⟩ | ⟨f, t, ep, r1⟩
      · have := r1.2.2.1
        omega
      · rw [mf_is r1, bind_s]
        dsimp only
        rw [if_pos rfl]
        exact ⟨_, rfl, i2, Or.inr ⟨f, t, ep, r1⟩⟩
  obtain ⟨⟨z1, m1⟩, e1, ff1, r⟩ := key
  rw [e1, bind_s]
  dsimp only at ff1 r ⊢
  have hC1 := hC.fr ff1 (fun k j z => by omega)
  unfold pRl
  rw [nmI_e, bind_s]
  rcases r with ⟨j, b, ep, rfl, r1⟩ | ⟨f, t, ep, r1⟩
  · rw [ep]
    dsimp only
    have hnb := pNo_i ep
    have o2 := m_expr hsd r1 hC1 (by rw [ff1.I _ _ (by omega)]; exact h12) (by omega)
    cases h2 : pX (tk By n) (vI By n) 24 0 0 j with
    | inr x =>
      obtain ⟨m2, e2, r2, f2⟩ := o2.2 x.1 x.2 h2
      rw [e2, bind_s, if_pos r2.gt]
      unfold f_X12_literal_72
      rw [mf_lit r2]
      refine ⟨fun j' r' z => (by cases z), fun f' t' z => ?_⟩
      cases z
      exact ⟨m2, rfl, r2, (ff1.mono (fun k j z => by omega)).tr (f2.mono (fun k j z => Or.inl z))⟩
    | inl y =>
      obtain ⟨m2, e2, r2, c2, z2, f2⟩ := o2.1 y.1 y.2 h2
      have ff2 : Fr (SLt sd k) m m2 := (ff1.mono (fun k j z => by omega)).tr (f2.mono (fun k j z => Or.inl z))
      have hky := tk_lt (By := By) (n := n) y.1
      have hyt := r2.2.2.1
      have g1 := pX_good hKV 24 0 0 j y.1 y.2 (by omega) (by omega) h2
      have hmk := mkd_lt _ hky
      have hmk2 := mo_k hky
      dsimp only
      rw [e2, bind_s, if_neg r2.ngt, r2.2.1, aI_n _ 59 (show y.1 < 403 by omega) (by omega), bind_s, r2.kd]
      by_cases hk4 : 11 ≤ tk By n y.1 ∧ tk By n y.1 ≤ 14
      · have hm := hmk2.mpr hk4
        rw [if_pos hk4, if_neg (show ¬ nI (mkd (tk By n y.1)) < 11 from fun z => absurd (nI_le hm.1 (by omega)) (lt_nle z)), bind_s, if_pos (show nI (mkd (tk By n y.1)) ≤ 14 from nI_le (b := 14) hm.2 (by omega)), bind_s, mo_k2 hk4, show (11 : Int32) = nI 11 from rfl, pk_sub hk4.1]
        unfold f_X12_literal_88
        rw [if_pos (show (0 : Int32) ≤ nI (tk By n y.1 - 11) from nI_le (a := 0) (by omega) (by omega))]
        unfold f_X12_literal_100
        rw [if_pos r2.le]
        obtain ⟨t1, t2⟩ := m_goesOn r2 (by omega)
        by_cases h4 : y.1 < 400
        · obtain ⟨m3, e3, r3, f3⟩ := t1 h4
          have ff3 : Fr (SLt sd k) m m3 := ff2.tr (f3.mono (fun k j z => by omega))
          have c3 := c2.fr f3 (fun k j z => by omega)
          have ly := g1.2.2.1
          rw [if_pos h4, e3, bind_s, nmI_e, bind_s]
          have o4 := m_expr hsd r3 c3 (by rw [f3.I _ _ (by omega)]; exact z2) (by rw [List.length_append]; omega)
          cases h3 : pX (tk By n) (vI By n) 24 0 0 (y.1 + 1) with
          | inr x =>
            obtain ⟨m4, e4, r4, f4⟩ := o4.2 x.1 x.2 h3
            rw [e4, bind_s, if_neg r4.nl]
            refine ⟨fun j' r' z => (by cases z), fun f' t' z => ?_⟩
            cases z
            exact ⟨m4, rfl, r4, ff3.tr (f4.mono (fun k j z => Or.inl z))⟩
          | inl w =>
            obtain ⟨m4, e4, r4, c4, z4, f4⟩ := o4.1 w.1 w.2 h3
            have g2 := pX_good hKV 24 0 0 (y.1 + 1) w.1 w.2 (by omega) (by omega) h3
            have lw := g2.2.2.1
            have ff4 : Fr (SLt sd k) m m4 := ff3.tr (f4.mono (fun k j z => Or.inl z))
            have q41 : hI m4 56 41 = nI (150 * sd + k) := by rw [f4.I _ _ (by omega), f3.I _ _ (by omega), f2.I _ _ (by omega), ff1.I _ _ (by omega)]; exact h41
            have hix : 150 * sd + k < 300 := by omega
            have v3 : hI m1 56 48 = nI (420 * sd + C.length) := hC1.1
            have v4 : hI m3 56 48 = nI (420 * sd + (C.length + y.2.length)) := by rw [c3.1, List.length_append]
            have v5 : hI m4 56 48 = nI (420 * sd + (C.length + y.2.length) + w.2.length) := by rw [c4.1, List.length_append, List.length_append]; exact congrArg nI (by omega)
            rw [e4, bind_s, if_pos r4.le, q41, bI_n _ 83 _ hix (by omega), bind_s, zb_b, bind_s]
            have I1 : ∀ (mm : M2) (a b : Nat) (x : Int32), ¬ a = 56 → hI (tI mm a b x) 56 41 = hI mm 56 41 := fun mm a b x ha => by rw [hI_tI, if_neg (fun z => ha z.1.symm)]
            have I2 : ∀ (mm : M2) (a b : Nat) (x : Int32), ¬ a = 56 → hI (tI mm a b x) 56 48 = hI mm 56 48 := fun mm a b x ha => by rw [hI_tI, if_neg (fun z => ha z.1.symm)]
            rw [I1 _ _ _ _ (by omega), q41, bI_n _ 84 _ hix (by omega), bind_s, zb_b, bind_s, I1 _ _ _ _ (by omega), I1 _ _ _ _ (by omega), q41, bI_n _ 85 _ hix (by omega), bind_s]
            rw [I1 _ _ _ _ (by omega), I1 _ _ _ _ (by omega), I1 _ _ _ _ (by omega), q41, bI_n _ 86 _ hix (by omega), bind_s]
            rw [I1 _ _ _ _ (by omega), I1 _ _ _ _ (by omega), I1 _ _ _ _ (by omega), I1 _ _ _ _ (by omega), q41, bI_n _ 87 _ hix (by omega), bind_s]
            rw [I1 _ _ _ _ (by omega), I1 _ _ _ _ (by omega), I1 _ _ _ _ (by omega), I1 _ _ _ _ (by omega), I1 _ _ _ _ (by omega), q41, I2 _ _ _ _ (by omega), I2 _ _ _ _ (by omega), I2 _ _ _ _ (by omega), I2 _ _ _ _ (by omega), I2 _ _ _ _ (by omega), bI_n _ 88 _ hix (by omega), bind_s]
            rw [I1 _ _ _ _ (by omega), I1 _ _ _ _ (by omega), I1 _ _ _ _ (by omega), I1 _ _ _ _ (by omega), I1 _ _ _ _ (by omega), I1 _ _ _ _ (by omega), q41, nI_1, qI_e, bind_s, v3, v4, v5]
            have f5 : Fr (fun a b => (a = 56 ∧ b = 41) ∨ ((83 ≤ a ∧ a ≤ 88) ∧ b = 150 * sd + k)) m4 (tI (tI (tI (tI (tI (tI (tI m4 83 (150 * sd + k) (nI (tk By n y.1 - 11))) 84 (150 * sd + k) (bI1 b)) 85 (150 * sd + k) (bI1 o)) 86 (150 * sd + k) (nI (420 * sd + C.length))) 87 (150 * sd + k) (nI (420 * sd + (C.length + y.2.length)))) 88 (150 * sd + k) (nI (420 * sd + (C.length + y.2.length) + w.2.length))) 56 41 (nI (150 * sd + k + 1))) :=
              ((((((Fr.rf.tI _ (by omega)).tI _ (by omega)).tI _ (by omega)).tI _ (by omega)).tI _ (by omega)).tI _ (by omega)).tI _ (by omega)
            refine ⟨fun j' r' z => ?_, fun f' t' z => (by cases z)⟩
            cases z
            have ec : C ++ y.2 ++ w.2 = C ++ (y.2 ++ w.2) := List.append_assoc ..
            refine ⟨_, rfl, r4.fr f5 (fun k j z => by omega), ?_, ?_, by rw [f5.I _ _ (by omega)]; exact z4, by rw [hI_tI, if_pos ⟨rfl, rfl⟩], ⟨C.length, ?_, ?_, ⟨hk4, ⟨_, _, _, _, g1⟩, ⟨_, _, _, _, g2⟩⟩, ?_, ?_, ?_, ?_, ?_, ?_⟩, ff4.tr (f5.mono (fun k j z => by omega))⟩
            · show CdM _ sd (C ++ (y.2 ++ w.2))
              rw [← ec]
              exact c4.fr f5 (fun k j z => by omega)
            · show (C ++ (y.2 ++ w.2)).length ≤ w.1
              rw [← ec, List.length_append, List.length_append]
              omega
            · show GC (C ++ (y.2 ++ w.2)) C.length y.2
              rw [← ec]
              exact GC.at
            · show GC (C ++ (y.2 ++ w.2)) (C.length + y.2.length) w.2
              rw [← ec, ← List.length_append]
              have := GC.at (C := C ++ y.2) (L := w.2) (X := [])
              rw [List.append_nil] at this
              exact this
            · simp only [hI_tI]
              rw [if_neg (by omega), if_neg (by omega), if_neg (by omega), if_neg (by omega), if_neg (by omega), if_neg (by omega), if_pos ⟨trivial, trivial⟩]
              rfl
            · simp only [hI_tI]
              rw [if_neg (by omega), if_neg (by omega), if_neg (by omega), if_neg (by omega), if_neg (by omega), if_pos ⟨trivial, trivial⟩]
              rfl
            · simp only [hI_tI]
              rw [if_neg (by omega), if_neg (by omega), if_neg (by omega), if_neg (by omega), if_pos ⟨trivial, trivial⟩]
            · simp only [hI_tI]
              rw [if_neg (by omega), if_neg (by omega), if_neg (by omega), if_pos ⟨trivial, trivial⟩]
            · simp only [hI_tI]
              rw [if_neg (by omega), if_neg (by omega), if_pos ⟨trivial, trivial⟩]
              rfl
            · simp only [hI_tI]
              rw [if_neg (by omega), if_pos ⟨trivial, trivial⟩]
              rfl
        · obtain ⟨m3, e3, r3, f3⟩ := t2 h4
          rw [if_neg h4, e3, bind_s, nmI_e, bind_s]
          have o4 := mf_expr r3
          obtain ⟨m4, e4, r4, f4⟩ := o4
          rw [e4, bind_s, if_neg r4.nl]
          refine ⟨fun j' r' z => (by cases z), fun f' t' z => ?_⟩
          cases z
          exact ⟨m4, rfl, r4, (ff2.tr (f3.mono (fun k j z => by omega))).tr (f4.mono (fun k j z => by omega))⟩
      · rw [if_neg hk4]
        obtain ⟨m3, e3, r3, f3⟩ := m_fail r2 (f := 1) (by omega)
        have e72 : f_X12_literal_72 (bI1 o) (bI1 b) (hI m1 56 48) m2 = some m3 := by
          unfold f_X12_literal_72 f_X12_literal_88 f_X12_literal_100
          rw [if_neg (by decide), lit_1, e3, bind_s, if_neg r3.nl]
        have main : ∃ m', (if nI (mkd (tk By n y.1)) < 11 then f_X12_literal_72 (bI1 o) (bI1 b) (hI m1 56 48) m2 else ((some (nI (mkd (tk By n y.1)))).bind fun v11 => if v11 ≤ (14 : Int32) then ((some (nI (mkd (tk By n y.1)))).bind fun v14 => f_X12_literal_88 (bI1 o) (bI1 b) (hI m1 56 48) (v14 - (11 : Int32)) m2) else f_X12_literal_72 (bI1 o) (bI1 b) (hI m1 56 48) m2)) = some m' ∧ MFt m' By n 1 y.1 ∧ Fr (SLt sd k) m m' := by
          refine ⟨m3, ?_, r3, ff2.tr (f3.mono (fun k j z => by omega))⟩
          by_cases q : mkd (tk By n y.1) < 11
          · rw [if_pos (show nI (mkd (tk By n y.1)) < 11 from nI_lt (b := 11) q (by omega))]
            exact e72
          · rw [if_neg (show ¬ nI (mkd (tk By n y.1)) < 11 from fun z => absurd (nI_le (show 11 ≤ mkd (tk By n y.1) by omega) (by omega)) (lt_nle z)), bind_s, if_neg (show ¬ nI (mkd (tk By n y.1)) ≤ 14 from nI_ge (a := 14) (by omega) (by omega))]
            exact e72
        refine ⟨fun j' r' z => (by cases z), fun f' t' z => ?_⟩
        cases z
        exact main
  · rw [ep]
    obtain ⟨m2, e2, r2, f2⟩ := mf_expr r1
    rw [e2, bind_s, if_pos r2.gt]
    unfold f_X12_literal_72
    rw [mf_lit r2]
    refine ⟨fun j' r' z => (by cases z), fun f' t' z => ?_⟩
    cases z
    exact ⟨m2, rfl, r2, (ff1.mono (fun k j z => by omega)).tr (f2.mono (fun k j z => by omega))⟩
end KX
