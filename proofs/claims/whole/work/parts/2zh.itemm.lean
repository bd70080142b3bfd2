/-! ===== the reference's names, slips, INTs ===== -/
theorem tp_s {By : Nat → Nat} {n t : Nat} (h : t < te By n) : tp By n t < tp By n (t + 1) := by
  have h2 := te_b h
  have hp := tk_p (By := By) (n := n) (t := t) (by omega)
  have hl := lexN_b (By := By) hp
  have := (skp_b (By := By) (n := n) (i := tp By n t + lexN By n (tp By n t)) hl.2).1
  show tp By n t < skp By n (tp By n t + lexN By n (tp By n t))
  omega
theorem tp_mono {By : Nat → Nat} {n t : Nat} : ∀ {u : Nat}, t < u → u ≤ te By n → tp By n t < tp By n u
  | 0, h, _ => absurd h (Nat.not_lt_zero _)
  | u + 1, h, hu => by
    have := tp_s (By := By) (n := n) (t := u) (by omega)
    by_cases q : t = u
    · rw [q]; exact this
    · have := tp_mono (By := By) (n := n) (t := t) (u := u) (by omega) (by omega)
      omega
theorem v_same {By : Nat → Nat} {n t u : Nat} : v27 By n t = v27 By n u ↔ v5 By n t = v5 By n u := (vB_same (fun j hj => ltr_ok hj) (fun j hj => ltr_ok hj)).symm
theorem v27_lt {By : Nat → Nat} {n t : Nat} (hk : tk By n t = 2) : v27 By n t < 2 ^ 40 := by
  have h8 := (v5_lt hk).2
  have := vB_lt (B := 27) (f := ltr By (tp By n t)) (k := rl isLt By n (tp By n t)) (fun j hj => (ltr_ok hj).2)
  unfold v27
  have h2 : (27 : Nat) ^ rl isLt By n (tp By n t) ≤ 27 ^ 8 := Nat.pow_le_pow_right (by omega) h8
  have h3 : (27 : Nat) ^ 8 < 2 ^ 40 := by decide
  omega
section KI
variable {m : M2} {By : Nat → Nat} {n sd : Nat}
def MW (m : M2) (By : Nat → Nat) (n i : Nat) (W : Option (Nat × Nat)) : Prop := match W with
  | none => hI m 56 15 = 0
  | some w => hI m 56 15 = nI w.1 ∧ (0 < w.1 ∧ w.1 < 7) ∧ hI m 56 16 = nI (tp By n w.2) ∧ w.2 < i
theorem MW.fr {S : Nat → Nat → Prop} {m' : M2} {i i' : Nat} {W : Option (Nat × Nat)} (h : MW m By n i W) (hf : Fr S m m') (hs : ∀ k j, k = 56 ∧ (j = 15 ∨ j = 16) → ¬ S k j) (hi : i ≤ i') : MW m' By n i' W := by
  cases W with
  | none => exact (hf.I _ _ (hs _ _ (by omega))).trans h
  | some w => exact ⟨(hf.I _ _ (hs _ _ (by omega))).trans h.1, h.2.1, (hf.I _ _ (hs _ _ (by omega))).trans h.2.2.1, by have := h.2.2.2; omega⟩
/-- the slip at the token t; i is behind it -/
theorem m_wrong {i t k i0 : Nat} {W : Option (Nat × Nat)} (hF : hI m 56 13 = 0) (hTk : TkM m By n (te By n + 1)) (ht : t ≤ te By n) (hn : n ≤ 2000) (hti : t < i) (hW : MW m By n i0 W) (h0 : ∀ w, W = some w → w.2 < t ∨ (w.2 = t ∧ w.1 ≤ k)) (hk : 0 < k ∧ k < 7) : ∃ m', F_X12_wrong (nI k) (nI t) m = some m' ∧ MW m' By n i (slp W true k t) ∧ Fr (fun k j => k = 56 ∧ (j = 15 ∨ j = 16)) m m' := by
  have hte := te_le By n
  have hpt := te_p (By := By) (n := n) ht
  unfold F_X12_wrong f_X12_wrong_45 f_X12_wrong_46
  rw [aI_n _ 60 (show t < 403 by omega) (by omega), bind_s, (hTk t (by omega)).2.1, if_neg (by rw [hF]; decide)]
  cases W with
  | none =>
    rw [if_pos (show hI m 56 15 = 0 from hW), qI_e, bind_s, qI_e, bind_s]
    refine ⟨_, rfl, ⟨?_, hk, ?_, hti⟩, (Fr.rf.tI _ (by omega)).tI _ (by omega)⟩
    · show hI (tI (tI m 56 15 (nI k)) 56 16 _) 56 15 = nI k
      rw [hI_tI, if_neg (by omega), hI_tI, if_pos ⟨rfl, rfl⟩]
    · show hI (tI (tI m 56 15 (nI k)) 56 16 _) 56 16 = nI (tp By n t)
      rw [hI_tI, if_pos ⟨rfl, rfl⟩]
  | some w =>
    obtain ⟨w1, w2, w3, w4⟩ := hW
    rw [if_neg (by rw [w1]; exact nI_ne0 w2.1 (by omega)), w3, w1]
    have hres : MW m By n i (slp (some w) true k t) := ⟨w1, w2, w3, by rcases h0 w rfl with h | h <;> omega⟩
    rcases h0 w rfl with h | ⟨h, h'⟩
    · have := tp_mono (By := By) (n := n) h ht
      rw [if_pos (nI_lt this (by omega))]
      exact ⟨m, rfl, hres, Fr.rf⟩
    · rw [h, if_neg (nI_nlt (Nat.le_refl _) (by omega)), if_pos rfl, if_neg (nI_nlt h' (by omega))]
      exact ⟨m, rfl, hres, Fr.rf⟩
abbrev S5W : Nat → Nat → Prop := fun k j => k = 56 ∧ (j = 11 ∨ j = 13 ∨ j = 14 ∨ j = 15 ∨ j = 16)
theorem mf_bounded {x y : Int32} {f t : Nat} (h : MFt m By n f t) : F_X12_bounded x y m = some (x, m) := by
  unfold F_X12_bounded f_X12_bounded_15
  rw [if_pos h.gt, mf_fail h, bind_s]
theorem m_bounded {i a b : Nat} {W : Option (Nat × Nat)} (hB : MBs m By n i) (hn : n ≤ 2000) (hW : MW m By n i W) (ha : a < 2 ^ 30) (hb : b < 2 ^ 30) : (∃ m', F_X12_bounded (nI a) (nI b) m = some (nI (vI By n i), m') ∧ MBs m' By n (i + 1) ∧ MW m' By n (i + 1) (slp W (decide (vI By n i < a ∨ b < vI By n i)) 5 i) ∧ Fr S5W m m' ∧ tk By n i = 3 ∧ i < 400) ∨ (∃ m' f x, F_X12_bounded (nI a) (nI b) m = some (x, m') ∧ MFt m' By n f i ∧ Fr S5W m m' ∧ ∀ ws, sqk (tk By n) (3 :: ws) i = .inr (f, i)) := by
  have hte := te_le By n
  have hit := hB.2.2.1
  unfold F_X12_bounded
  rw [if_neg hB.ngt, show (2 : Int32) = nI (mkd 3) from rfl, m_is hB (by omega), bind_s]
  dsimp only
  by_cases k3 : tk By n i = 3
  · have hv := vI_lt k3
    rw [decide_eq_true k3, if_neg (show ¬ bI1 true = 0 by decide), hB.2.1, aI_n _ 61 (show i < 403 by omega) (by omega), bind_s, (hB.2.2.2 i (by omega)).2.2.1 k3]
    have go : ∀ m1 : M2, MBs m1 By n i → (∀ m', Fr (fun k j => k = 56 ∧ (j = 11 ∨ j = 13 ∨ j = 14)) m1 m' → MW m' By n (i + 1) (slp W (decide (vI By n i < a ∨ b < vI By n i)) 5 i)) → Fr S5W m m1 → (∃ m', f_X12_bounded_51 (nI (vI By n i)) m1 = some (nI (vI By n i), m') ∧ MBs m' By n (i + 1) ∧ MW m' By n (i + 1) (slp W (decide (vI By n i < a ∨ b < vI By n i)) 5 i) ∧ Fr S5W m m' ∧ tk By n i = 3 ∧ i < 400) ∨ (∃ m' f x, f_X12_bounded_51 (nI (vI By n i)) m1 = some (x, m') ∧ MFt m' By n f i ∧ Fr S5W m m' ∧ ∀ ws, sqk (tk By n) (3 :: ws) i = .inr (f, i)) := by
      intro m1 b1 w1 f1
      unfold f_X12_bounded_51
      obtain ⟨g1, g2⟩ := m_goesOn b1 (by omega)
      by_cases h4 : i < 400
      · obtain ⟨m2, e2, b2, f2⟩ := g1 h4
        rw [e2, bind_s]
        exact Or.inl ⟨m2, rfl, b2, w1 m2 (f2.mono (fun k j z => by omega)), f1.tr (f2.mono (fun k j z => by omega)), k3, h4⟩
      · obtain ⟨m2, e2, b2, f2⟩ := g2 h4
        rw [e2, bind_s]
        refine Or.inr ⟨m2, 2, _, rfl, b2, f1.tr (f2.mono (fun k j z => by omega)), fun ws => ?_⟩
        show (if tk By n i = 3 then (if i < 400 then sqk (tk By n) ws (i + 1) else .inr (2, i)) else .inr (1, i)) = _
        rw [if_pos k3, if_neg h4]
    have bad : (vI By n i < a ∨ b < vI By n i) → ∃ m1, F_X12_wrong (5 : Int32) (hI m 56 11) m = some m1 ∧ MBs m1 By n i ∧ (∀ m', Fr (fun k j => k = 56 ∧ (j = 11 ∨ j = 13 ∨ j = 14)) m1 m' → MW m' By n (i + 1) (slp W (decide (vI By n i < a ∨ b < vI By n i)) 5 i)) ∧ Fr S5W m m1 := by
      intro hbad
      obtain ⟨m1, e1, w1, f1⟩ := m_wrong (k := 5) (t := i) (i := i + 1) hB.1 hB.2.2.2 hit hn (by omega) hW (fun w hw => by rw [hw] at hW; exact Or.inl hW.2.2.2) (by omega)
      rw [hB.2.1, show (5 : Int32) = nI 5 from rfl, e1]
      refine ⟨m1, rfl, hB.fr f1 (fun k j z => by omega), fun m' f' => ?_, f1.mono (fun k j z => by omega)⟩
      rw [decide_eq_true hbad]
      exact w1.fr f' (fun k j z => by omega) (Nat.le_refl _)
    by_cases c1 : vI By n i < a
    · rw [if_pos (nI_lt c1 (by omega))]
      unfold f_X12_bounded_42
      obtain ⟨m1, e1, b1, w1, f1⟩ := bad (Or.inl c1)
      rw [e1, bind_s]
      exact go m1 b1 w1 f1
    · rw [if_neg (nI_nlt (by omega) (by omega))]
      by_cases c2 : vI By n i ≤ b
      · rw [if_pos (nI_le c2 (by omega))]
        refine go m hB (fun m' f' => ?_) Fr.rf
        rw [decide_eq_false (by omega), slp_f]
        exact hW.fr f' (fun k j z => by omega) (by omega)
      · rw [if_neg (nI_ge (by omega) (by omega))]
        unfold f_X12_bounded_42
        obtain ⟨m1, e1, b1, w1, f1⟩ := bad (Or.inr (by omega))
        rw [e1, bind_s]
        exact go m1 b1 w1 f1
  · right
    rw [decide_eq_false k3, if_pos (show bI1 false = 0 from rfl)]
    unfold f_X12_bounded_15
    obtain ⟨m', e1, b1, f1⟩ := m_fail hB (f := 1) (by omega)
    rw [lit_1, e1, bind_s]
    refine ⟨m', 1, _, rfl, b1, f1.mono (fun k j z => by omega), fun ws => ?_⟩
    show (if tk By n i = 3 then (if i < 400 then sqk (tk By n) ws (i + 1) else .inr (2, i)) else .inr (1, i)) = _
    rw [if_neg k3]
def MU2 (m : M2) (us : List Nat) : Prop := hI m 56 51 = nI us.length ∧ ∀ k t, us[k]? = some t → hI m 91 k = nI t
theorem MU2.fr {S : Nat → Nat → Prop} {m' : M2} {us : List Nat} (h : MU2 m us) (hf : Fr S m m') (hs : ∀ k j, (k = 56 ∧ j = 51) ∨ k = 91 → ¬ S k j) : MU2 m' us := ⟨(hf.I _ _ (hs _ _ (by omega))).trans h.1, fun k t ht => (hf.I _ _ (hs _ _ (by omega))).trans (h.2 k t ht)⟩
abbrev S5P : Nat → Nat → Prop := fun k j => (k = 56 ∧ (j = 11 ∨ j = 13 ∨ j = 14 ∨ j = 15 ∨ j = 16 ∨ j = 51)) ∨ k = 91
theorem mf_part {f t : Nat} (h : MFt m By n f t) : F_X12_part m = some (0, m) := by
  unfold F_X12_part
  rw [nmI_e, bind_s, mf_bounded h, bind_s]
  dsimp only
  rw [if_neg h.nl]
theorem m_part {i : Nat} {W : Option (Nat × Nat)} {us : List Nat} (hB : MBs m By n i) (hn : n ≤ 2000) (hW : MW m By n i W) (hU : MU2 m us) (hl : us.length < 140) : (∃ m', F_X12_part m = some (nI (vI By n i), m') ∧ MBs m' By n (i + 1) ∧ MW m' By n (i + 1) W ∧ MU2 m' (us ++ [i]) ∧ Fr S5P m m' ∧ tk By n i = 3 ∧ i < 400) ∨ (∃ m' f x, F_X12_part m = some (x, m') ∧ MFt m' By n f i ∧ Fr S5P m m' ∧ ∀ ws, sqk (tk By n) (3 :: ws) i = .inr (f, i)) := by
  unfold F_X12_part
  rw [nmI_e, bind_s, show (0 : Int32) = nI 0 from rfl, show (9999 : Int32) = nI 9999 from rfl]
  rcases m_bounded (a := 0) (b := 9999) hB hn hW (by omega) (by omega) with ⟨m1, e1, b1, w1, f1, k1, h1⟩ | ⟨m1, f, x, e1, r1, f1, q1⟩
  · left
    have hv := vI_lt k1
    rw [decide_eq_false (by omega), slp_f] at w1
    have U1 := hU.fr f1 (fun k j z => by omega)
    rw [e1, bind_s]
    dsimp only
    rw [show nI 0 = (0 : Int32) from rfl, if_pos b1.le, U1.1, hB.2.1, bI_n _ 91 _ hl (by omega), bind_s, hI_tI, if_neg (by omega), U1.1, nI_1, qI_e, bind_s]
    have f2 : Fr (fun k j => (k = 91 ∧ j = us.length) ∨ (k = 56 ∧ j = 51)) m1 (tI (tI m1 91 us.length (nI i)) 56 51 (nI (us.length + 1))) := (Fr.rf.tI _ (by omega)).tI _ (by omega)
    refine ⟨_, rfl, b1.fr f2 (fun k j z => by omega), w1.fr f2 (fun k j z => by omega) (Nat.le_refl _), ⟨?_, fun k t ht => ?_⟩, (f1.mono (fun k j z => by omega)).tr (f2.mono (fun k j z => by omega)), k1, h1⟩
    · rw [hI_tI, if_pos ⟨rfl, rfl⟩, List.length_append, List.length_singleton]
    · by_cases q : k < us.length
      · rw [List.getElem?_append_left q] at ht
        rw [f2.I _ _ (by omega)]
        exact U1.2 k t ht
      · have hk := lt_of_get ht
        rw [List.length_append, List.length_singleton] at hk
        have ek : k = us.length := by omega
        subst ek
        rw [List.getElem?_append_right (Nat.le_refl _), Nat.sub_self] at ht
        cases ht
        rw [hI_tI, if_neg (by omega), hI_tI, if_pos ⟨rfl, rfl⟩]
  · right
    rw [e1, bind_s]
    dsimp only
    rw [show nI 0 = (0 : Int32) from rfl, if_neg r1.nl]
    exact ⟨m1, f, _, rfl, r1, f1.mono (fun k j z => by omega), q1⟩
/-! names -/
def MNm (m : M2) (By : Nat → Nat) (n : Nat) (ns : List (Nat × Int32)) : Prop := hI m 56 20 = nI ns.length ∧ ∀ k p, ns[k]? = some p → hJ m 64 k = lN (v27 By n p.1) ∧ hI m 65 k = p.2 ∧ tk By n p.1 = 2
theorem MNm.fr {S : Nat → Nat → Prop} {m' : M2} {ns : List (Nat × Int32)} (h : MNm m By n ns) (hf : Fr S m m') (hs : ∀ k j, (k = 56 ∧ j = 20) ∨ k = 64 ∨ k = 65 → ¬ S k j) : MNm m' By n ns := ⟨(hf.I _ _ (hs _ _ (by omega))).trans h.1, fun k p hp => ⟨(hf.J _ _ (hs _ _ (by omega))).trans (h.2 k p hp).1, (hf.I _ _ (hs _ _ (by omega))).trans (h.2 k p hp).2.1, (h.2 k p hp).2.2⟩⟩
theorem mf_named {f t : Nat} (h : MFt m By n f t) : ∃ x, F_X12_named m = some (x, m) := by
  unfold F_X12_named f_X12_named_55
  rw [nmI_e, bind_s, mf_must h, bind_s]
  have key : ∃ z, loop (g_X12_named_12 (hI m 56 11)) ((0 : Int32), m) = some z ∧ z = m := by
    refine loop_to 0 (fun _ z => z = ((0 : Int32), m)) _ (by omega) (fun k s hk => by omega) ?_ rfl
    rintro z rfl
    show ∃ z, f_X12_named_12 (hI m 56 11) 0 m = some (Sum.inr z) ∧ _
    unfold f_X12_named_12
    rw [if_neg h.ne]
    split
    · exact ⟨_, rfl, rfl⟩
    · exact ⟨_, rfl, rfl⟩
  obtain ⟨z, e1, rfl⟩ := key
  rw [e1, bind_s]
  exact ⟨_, rfl⟩
theorem m_named {i : Nat} {W : Option (Nat × Nat)} {ns : List (Nat × Int32)} (hB : MBs m By n i) (hn : n ≤ 2000) (hW : MW m By n i W) (hN : MNm m By n ns) (hl : ns.length ≤ 20) : (∃ m', F_X12_named m = some (nI i, m') ∧ MBs m' By n (i + 1) ∧ MW m' By n (i + 1) (slp W (twc (v5 By n) i ns) 3 i) ∧ Fr S5W m m' ∧ tk By n i = 2 ∧ i < 400) ∨ (∃ m' f x, F_X12_named m = some (x, m') ∧ MFt m' By n f i ∧ Fr S5W m m' ∧ ∀ ws, sqk (tk By n) (2 :: ws) i = .inr (f, i)) := by
  have hte := te_le By n
  have hit := hB.2.2.1
  unfold F_X12_named f_X12_named_55
  rw [nmI_e, bind_s, hB.2.1, show (1 : Int32) = nI (mkd 2) from rfl]
  obtain ⟨u1, u2, u3⟩ := m_must hB (w := 2) (by omega) (by omega)
  have bad : ∀ (f : Nat) (m1 : M2), MFt m1 By n f i → F_X12_must (nI (mkd 2)) m = some m1 → Fr S56 m m1 → (∀ ws, sqk (tk By n) (2 :: ws) i = .inr (f, i)) → ∃ m' f x, ((F_X12_must (nI (mkd 2)) m).bind fun c3 => (loop (g_X12_named_12 (nI i)) ((0 : Int32), c3)).bind fun e5 => some (nI i, e5)) = some (x, m') ∧ MFt m' By n f i ∧ Fr S5W m m' ∧ ∀ ws, sqk (tk By n) (2 :: ws) i = .inr (f, i) := by
    intro f m1 r1 e1 f1 q1
    have key : ∃ z, loop (g_X12_named_12 (nI i)) ((0 : Int32), m1) = some z ∧ z = m1 := by
      refine loop_to 0 (fun _ z => z = ((0 : Int32), m1)) _ (by omega) (fun k s hk => by omega) ?_ rfl
      rintro z rfl
      show ∃ z, f_X12_named_12 (nI i) 0 m1 = some (Sum.inr z) ∧ _
      unfold f_X12_named_12
      rw [if_neg r1.ne]
      split
      · exact ⟨_, rfl, rfl⟩
      · exact ⟨_, rfl, rfl⟩
    obtain ⟨z, e2, rfl⟩ := key
    rw [e1, bind_s, e2, bind_s]
    exact ⟨z, f, _, rfl, r1, f1.mono (fun k j z => by omega), q1⟩
  by_cases k2 : tk By n i = 2
  · by_cases h4 : i < 400
    · left
      obtain ⟨m1, e1, b1, f1⟩ := u1 k2 h4
      rw [e1, bind_s]
      have hv := v27_lt k2
      have N1 := hN.fr f1 (fun k j z => by omega)
      have key : ∃ z, loop (g_X12_named_12 (nI i)) ((0 : Int32), m1) = some z ∧ MW z By n (i + 1) (slp W (twc (v5 By n) i ns) 3 i) ∧ Fr (fun k j => k = 56 ∧ (j = 15 ∨ j = 16)) m1 z := by
        refine loop_to ns.length (fun k z => z.1 = nI k ∧ MW z.2 By n (i + 1) (slp W (twc (v5 By n) i (ns.take k)) 3 i) ∧ Fr (fun k j => k = 56 ∧ (j = 15 ∨ j = 16)) m1 z.2) _ (by omega) ?_ ?_ ⟨rfl, by show MW m1 By n (i + 1) (slp W false 3 i); rw [slp_f]; exact hW.fr f1 (fun k j z => by omega) (by omega), Fr.rf⟩
        · rintro k ⟨z1, m2⟩ hk1 ⟨i1, i2, i3⟩
          dsimp only at i1 i2 i3
          subst i1
          show ∃ s', f_X12_named_12 (nI i) (nI k) m2 = some (Sum.inl s') ∧ _
          have B2 := b1.fr i3 (fun k j z => by omega)
          have N2 := N1.fr i3 (fun k j z => by omega)
          obtain ⟨p, hp⟩ : ∃ p, ns[k]? = some p := ⟨ns[k], List.getElem?_eq_getElem hk1⟩
          have hpv := v27_lt (N2.2 k p hp).2.2
          unfold f_X12_named_12 f_X12_named_49
          rw [N2.1, if_neg (nI_ge hk1 (by omega)), if_pos B2.1, aJ_n _ 64 (show k < 20 by omega) (by omega), bind_s, aJ_n _ 62 (show i < 403 by omega) (by omega), bind_s, (N2.2 k p hp).1, (B2.2.2.2 i (by omega)).2.2.2 k2]
          have et : twc (v5 By n) i (ns.take (k + 1)) = (twc (v5 By n) i (ns.take k) || decide (v5 By n p.1 = v5 By n i)) := any_take hp
          rw [et]
          by_cases q : v5 By n p.1 = v5 By n i
          · rw [if_pos ((lg_cmp_eq _ _).mpr (by rw [v_same.mpr q]))]
            obtain ⟨m3, e3, w3, f3⟩ := m_wrong (k := 3) (t := i) (i := i + 1) B2.1 B2.2.2.2 hit hn (by omega) i2 (fun w hw => by
              cases hW' : W with
              | some w' =>
                rw [hW'] at hW hw
                cases hw
                exact Or.inl hW.2.2.2
              | none =>
                rw [hW'] at hw
                cases hh : twc (v5 By n) i (ns.take k) with
                | true => rw [hh] at hw; cases hw; exact Or.inr ⟨rfl, Nat.le_refl _⟩
                | false => rw [hh] at hw; cases hw) (by omega)
            rw [show (3 : Int32) = nI 3 from rfl, e3, bind_s, nmI_e, bind_s, nI_1]
            refine ⟨_, rfl, rfl, ?_, i3.tr f3⟩
            rw [decide_eq_true q, Bool.or_true]
            cases hW' : W with
            | some w => rw [hW'] at w3; exact w3
            | none =>
              rw [hW'] at w3
              cases hh : twc (v5 By n) i (ns.take k) with
              | true => rw [hh] at w3; exact w3
              | false => rw [hh] at w3; exact w3
          · rw [if_neg (fun z => q (v_same.mp ((lN_eq60 (by omega) (by omega)).mp ((lg_cmp_eq _ _).mp z)))), nmI_e, bind_s, nI_1]
            refine ⟨_, rfl, rfl, ?_, i3⟩
            rw [decide_eq_false q, Bool.or_false]
            exact i2
        · rintro ⟨z1, m2⟩ ⟨i1, i2, i3⟩
          dsimp only at i1 i2 i3
          subst i1
          show ∃ z, f_X12_named_12 (nI i) (nI ns.length) m2 = some (Sum.inr z) ∧ _
          have N2 := N1.fr i3 (fun k j z => by omega)
          unfold f_X12_named_12
          rw [N2.1, if_pos (nI_le (Nat.le_refl _) (by omega))]
          rw [List.take_length] at i2
          exact ⟨_, rfl, i2, i3⟩
      obtain ⟨z, e2, w2, f2⟩ := key
      rw [e2, bind_s]
      exact ⟨z, rfl, b1.fr f2 (fun k j z => by omega), w2, (f1.mono (fun k j z => by omega)).tr (f2.mono (fun k j z => by omega)), k2, h4⟩
    · right
      obtain ⟨m1, e1, r1, f1⟩ := u2 k2 h4
      refine bad 2 m1 r1 e1 f1 (fun ws => ?_)
      show (if tk By n i = 2 then (if i < 400 then sqk (tk By n) ws (i + 1) else .inr (2, i)) else .inr (1, i)) = _
      rw [if_pos k2, if_neg h4]
  · right
    obtain ⟨m1, e1, r1, f1⟩ := u3 k2
    refine bad 1 m1 r1 e1 f1 (fun ws => ?_)
    show (if tk By n i = 2 then (if i < 400 then sqk (tk By n) ws (i + 1) else .inr (2, i)) else .inr (1, i)) = _
    rw [if_neg k2]
theorem m_notes {t : Nat} {a : Int32} {ns : List (Nat × Int32)} (hN : MNm m By n ns) (hl : ns.length < 20) (hTk : TkM m By n (te By n + 1)) (ht : t ≤ te By n) (hk : tk By n t = 2) : ∃ m', F_X12_notes (nI t) a m = some m' ∧ MNm m' By n (ns ++ [(t, a)]) ∧ Fr (fun k j => (k = 56 ∧ j = 20) ∨ k = 64 ∨ k = 65) m m' := by
  have hte := te_le By n
  unfold F_X12_notes
  have g1 : hI (tJ m 64 ns.length (lN (v27 By n t))) 56 20 = nI ns.length := hN.1
  rw [aJ_n _ 62 (show t < 403 by omega) (by omega), bind_s, (hTk t (by omega)).2.2.2 hk, hN.1, bJ_n _ 64 _ hl (by omega), bind_s, g1, bI_n _ 65 _ hl (by omega), bind_s, hI_tI, if_neg (by omega), g1, nI_1, qI_e, bind_s]
  have f2 : Fr (fun k j => (k = 56 ∧ j = 20) ∨ (k = 64 ∧ j = ns.length) ∨ (k = 65 ∧ j = ns.length)) m (tI (tI (tJ m 64 ns.length (lN (v27 By n t))) 65 ns.length a) 56 20 (nI (ns.length + 1))) := ((Fr.rf.tJ _ (by omega)).tI _ (by omega)).tI _ (by omega)
  refine ⟨_, rfl, ⟨?_, fun k p hp => ?_⟩, f2.mono (fun k j z => by omega)⟩
  · rw [hI_tI, if_pos ⟨rfl, rfl⟩, List.length_append, List.length_singleton]
  · by_cases q : k < ns.length
    · rw [List.getElem?_append_left q] at hp
      have := hN.2 k p hp
      exact ⟨(f2.J _ _ (by omega)).trans this.1, (f2.I _ _ (by omega)).trans this.2.1, this.2.2⟩
    · have hk2 := lt_of_get hp
      rw [List.length_append, List.length_singleton] at hk2
      have ek : k = ns.length := by omega
      subst ek
      rw [List.getElem?_append_right (Nat.le_refl _), Nat.sub_self] at hp
      cases hp
      refine ⟨?_, ?_, hk⟩
      · rw [hJ_tI, hJ_tI, hJ_tJ, if_pos ⟨rfl, rfl⟩]
      · rw [hI_tI, if_neg (by omega), hI_tI, if_pos ⟨rfl, rfl⟩]
end KI
