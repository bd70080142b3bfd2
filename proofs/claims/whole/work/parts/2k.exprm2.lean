/-! ===== the reference reads expressions: brackets, units ===== -/
section KK2
variable {m : M2} {By : Nat → Nat} {n sd : Nat}
def MBs (m : M2) (By : Nat → Nat) (n i : Nat) : Prop := hI m 56 13 = 0 ∧ hI m 56 11 = nI i ∧ i ≤ te By n ∧ TkM m By n (te By n + 1)
def MFt (m : M2) (By : Nat → Nat) (n f t : Nat) : Prop := hI m 56 13 = nI f ∧ (0 < f ∧ f < 7) ∧ hI m 56 14 = nI (tp By n t) ∧ (∃ i, i ≤ te By n ∧ hI m 56 11 = nI i) ∧ TkM m By n (te By n + 1)
def MSt (m : M2) (By : Nat → Nat) (n sd i : Nat) (W : List Nat) (C : List Op) (o : Nat) : Prop := MBs m By n i ∧ hI m 56 12 = nI o ∧ WtM m W ∧ CdM m sd C ∧ o ≤ 6 ∧ Sh o W ∧ C.length + W.length ≤ i
abbrev SXm (sd : Nat) : Nat → Nat → Prop := fun k j => (k = 56 ∧ (j = 11 ∨ j = 12 ∨ j = 13 ∨ j = 14 ∨ j = 48 ∨ j = 54)) ∨ ((k = 89 ∨ k = 90) ∧ 420 * sd ≤ j ∧ j < 420 * sd + 420) ∨ k = 92
theorem MBs.fr {S : Nat → Nat → Prop} {m' : M2} {i : Nat} (h : MBs m By n i) (hf : Fr S m m') (hs : ∀ k j, (59 ≤ k ∧ k ≤ 62) ∨ (k = 56 ∧ (j = 11 ∨ j = 13)) → ¬ S k j) : MBs m' By n i := ⟨(hf.I _ _ (hs _ _ (by omega))).trans h.1, (hf.I _ _ (hs _ _ (by omega))).trans h.2.1, h.2.2.1, h.2.2.2.fr hf (fun k j z => hs k j (by omega))⟩
theorem MFt.fr {S : Nat → Nat → Prop} {m' : M2} {f t : Nat} (h : MFt m By n f t) (hf : Fr S m m') (hs : ∀ k j, (59 ≤ k ∧ k ≤ 62) ∨ (k = 56 ∧ (j = 11 ∨ j = 13 ∨ j = 14)) → ¬ S k j) : MFt m' By n f t := by
  obtain ⟨i, i1, i2⟩ := h.2.2.2.1
  exact ⟨(hf.I _ _ (hs _ _ (by omega))).trans h.1, h.2.1, (hf.I _ _ (hs _ _ (by omega))).trans h.2.2.1, ⟨i, i1, (hf.I _ _ (hs _ _ (by omega))).trans i2⟩, h.2.2.2.2.fr hf (fun k j z => hs k j (by omega))⟩
theorem MFt.ne {f t : Nat} (h : MFt m By n f t) : ¬ hI m 56 13 = 0 := by rw [h.1]; exact nI_ne0 h.2.1.1 (by have := h.2.1.2; omega)
theorem MFt.nl {f t : Nat} (h : MFt m By n f t) : ¬ hI m 56 13 ≤ 0 := by rw [h.1]; exact nI_nle h.2.1.1 (by have := h.2.1.2; omega)
theorem MFt.gt {f t : Nat} (h : MFt m By n f t) : 0 < hI m 56 13 := by rw [h.1]; exact nI_lt (a := 0) h.2.1.1 (by have := h.2.1.2; omega)
theorem MBs.le {i : Nat} (h : MBs m By n i) : hI m 56 13 ≤ 0 := by rw [h.1]; decide
theorem MBs.ngt {i : Nat} (h : MBs m By n i) : ¬ 0 < hI m 56 13 := by rw [h.1]; decide
theorem MBs.kd {i : Nat} (h : MBs m By n i) : hI m 59 i = nI (mkd (tk By n i)) := (h.2.2.2 i (by have := h.2.2.1; omega)).1
theorem mf_is {w : Int32} {f t : Nat} (h : MFt m By n f t) : F_X12_is w m = some (0, m) := by
  unfold F_X12_is
  rw [if_neg h.ne]
  rfl
theorem tk_lt (i : Nat) : tk By n i < 34 := lexK_lt By n _
theorem mkd_eq {a b : Nat} (ha : a < 34) (hb : b < 34) : nI (mkd a) = nI (mkd b) ↔ a = b := by
  have h1 := mkd_lt a ha
  have h2 := mkd_lt b hb
  rw [nI_eq (by omega) (by omega)]
  exact ⟨fun z => mkd_inj a ha b hb z, fun z => by rw [z]⟩
theorem m_is {i w : Nat} (h : MBs m By n i) (hw : w < 34) : F_X12_is (nI (mkd w)) m = some (bI1 (decide (tk By n i = w)), m) := by
  have hte := te_le By n
  have hi := h.2.2.1
  unfold F_X12_is
  rw [if_pos h.1, h.2.1, aI_n _ 59 (show i < 403 by omega) (by omega), bind_s, h.kd]
  by_cases q : tk By n i = w
  · rw [if_pos (by rw [q]), decide_eq_true q]; rfl
  · rw [if_neg (fun z => q ((mkd_eq (tk_lt i) hw).mp z)), decide_eq_false q]; rfl
theorem m_fail {i f : Nat} (h : MBs m By n i) (hf : 0 < f ∧ f < 7) : ∃ m', F_X12_fail (nI f) m = some m' ∧ MFt m' By n f i ∧ Fr (fun k j => k = 56 ∧ (j = 13 ∨ j = 14)) m m' := by
  have hte := te_le By n
  have hi := h.2.2.1
  unfold F_X12_fail
  rw [if_pos h.le, qI_e, bind_s, hI_tI, if_neg (by omega), h.2.1, aI_n _ 60 (show i < 403 by omega) (by omega), bind_s, hI_tI, if_neg (by omega), (h.2.2.2 i (by omega)).2.1, qI_e, bind_s]
  have f1 : Fr (fun k j => k = 56 ∧ (j = 13 ∨ j = 14)) m (tI (tI m 56 13 (nI f)) 56 14 (nI (tp By n i))) := (Fr.rf.tI _ (by omega)).tI _ (by omega)
  refine ⟨_, rfl, ⟨?_, hf, ?_, ⟨i, hi, ?_⟩, h.2.2.2.fr f1 (fun k j z => by omega)⟩, f1⟩
  · rw [hI_tI, if_neg (by omega), hI_tI, if_pos ⟨rfl, rfl⟩]
  · rw [hI_tI, if_pos ⟨rfl, rfl⟩]
  · rw [f1.I _ _ (by omega)]; exact h.2.1
theorem mf_fail {w : Int32} {f t : Nat} (h : MFt m By n f t) : F_X12_fail w m = some m := if_neg h.nl
theorem m_goesOn {i : Nat} (h : MBs m By n i) (h2 : 2 ≤ tk By n i) : (i < 400 → ∃ m', F_X12_goesOn m = some m' ∧ MBs m' By n (i + 1) ∧ Fr (fun k j => k = 56 ∧ j = 11) m m') ∧ (¬ i < 400 → ∃ m', F_X12_goesOn m = some m' ∧ MFt m' By n 2 i ∧ Fr (fun k j => k = 56 ∧ (j = 13 ∨ j = 14)) m m') := by
  have hte := te_le By n
  have hi := h.2.2.1
  unfold F_X12_goesOn
  refine ⟨fun h4 => ?_, fun h4 => ?_⟩
  · have hnx := te_nx hi h4 h2
    rw [h.2.1, if_neg (show ¬ nI i = 400 from eq_nI (d := 400) (by omega) (by omega) (by omega)), nI_1, qI_e, bind_s]
    have f1 : Fr (fun k j => k = 56 ∧ j = 11) m (tI m 56 11 (nI (i + 1))) := Fr.rf.tI _ (by omega)
    exact ⟨_, rfl, ⟨by rw [f1.I _ _ (by omega)]; exact h.1, by rw [hI_tI, if_pos ⟨rfl, rfl⟩], hnx, h.2.2.2.fr f1 (fun k j z => by omega)⟩, f1⟩
  · have e4 : i = 400 := by omega
    obtain ⟨m1, e1, r1, f1⟩ := m_fail h (f := 2) (by omega)
    rw [h.2.1, if_pos (by rw [e4]; rfl), lit_2, e1, bind_s]
    exact ⟨m1, rfl, r1, f1⟩
theorem Sg.ok {s : List Nat} (h : Sg s) : Wok s := by
  intro w hw
  right
  rcases h with rfl | ⟨a, ha, rfl⟩ | ⟨a, ha, rfl⟩ | ⟨a, b, ha, hb, rfl⟩
  · cases hw
  · rw [List.mem_singleton] at hw; omega
  · rw [List.mem_singleton] at hw; omega
  · rw [List.mem_cons, List.mem_singleton] at hw; omega
theorem Sh.ok : ∀ {o : Nat} {W : List Nat}, Sh o W → Wok W
  | 0, W, h => Sg.ok h
  | o + 1, W, ⟨s, w, W', h1, h2, h3, e⟩ => by
    intro x hx
    rw [e, List.mem_append, List.mem_cons] at hx
    rcases hx with hx | hx | hx
    · exact h1.ok x hx
    · rw [hx]; exact Or.inl h2
    · exact Sh.ok h3 x hx
def OF (K V : Nat → Nat) (c0 : Cf) (m m' : M2) (By : Nat → Nat) (n sd : Nat) : Prop := ∃ f t, MFt m' By n f t ∧ Rch K V c0 (.inr (.inr (f, t))) ∧ Fr (SXm sd) m m'
def OO (K V : Nat → Nat) (c0 : Cf) (m m' : M2) (By : Nat → Nat) (n sd i0 : Nat) : Prop := ∃ i W C o, i0 ≤ i ∧ MSt m' By n sd i W C o ∧ Rch K V c0 (cO i W C o) ∧ Fr (SXm sd) m m'
def OU (K V : Nat → Nat) (c0 : Cf) (m m' : M2) (By : Nat → Nat) (n sd i0 : Nat) : Prop := ∃ i W C o, i0 ≤ i ∧ MSt m' By n sd i W C o ∧ Rch K V c0 (cU i W C o) ∧ Fr (SXm sd) m m'
def mu1 (z : M2) : Nat := if hI z 56 13 = 0 then 402 - (hI z 56 11).toNatClampNeg else 0
theorem mu1_o {i : Nat} (h : MBs m By n i) : mu1 m = 402 - i := by
  have hte := te_le By n
  have := h.2.2.1
  unfold mu1
  rw [if_pos h.1, h.2.1, nI_clamp (by omega)]
theorem mu1_f {f t : Nat} (h : MFt m By n f t) : mu1 m = 0 := by
  unfold mu1
  rw [if_neg h.ne]
variable {c0 : Cf} {m0 : M2}
theorem m_opens {i0 : Nat} (hsd : sd < 2) (h : OO (tk By n) (vI By n) c0 m0 m By n sd i0) : ∃ m', F_X12_opensMany m = some m' ∧ ((∃ i W C o, i0 ≤ i ∧ MSt m' By n sd i W C o ∧ Rch (tk By n) (vI By n) c0 (cO i W C o) ∧ Fr (SXm sd) m0 m' ∧ ¬ tk By n i = 15 ∧ ¬ tk By n i = 27) ∨ OF (tk By n) (vI By n) c0 m0 m' By n sd) := by
  have hte := te_le By n
  have M6 : mkd 15 = 6 := by decide
  have M36 : mkd 27 = 36 := by decide
  unfold F_X12_opensMany
  have key : ∃ e, loop g_X12_opensMany_0 m = some e ∧ ∃ m', (e = Sum.inl m' ∨ e = Sum.inr m') ∧ ((∃ i W C o, i0 ≤ i ∧ MSt m' By n sd i W C o ∧ Rch (tk By n) (vI By n) c0 (cO i W C o) ∧ Fr (SXm sd) m0 m' ∧ ¬ tk By n i = 15 ∧ ¬ tk By n i = 27) ∨ OF (tk By n) (vI By n) c0 m0 m' By n sd) := by
    refine loop_wf (fun z => OO (tk By n) (vI By n) c0 m0 z By n sd i0 ∨ OF (tk By n) (vI By n) c0 m0 z By n sd) mu1 _ ?_ (Or.inl h) (by unfold mu1; split <;> omega)
    rintro m1 (⟨i, W, C, o, hi0, hS, hR, hF⟩ | ⟨f, t, hT, hR, hF⟩)
    · obtain ⟨hB, h12, hW, hC, ho, hSh, hlen⟩ := hS
      have hi := hB.2.2.1
      have hWl := hSh.len
      show (∃ s', f_X12_opensMany_0 m1 = some (Sum.inl s') ∧ _) ∨ ∃ e, f_X12_opensMany_0 m1 = some (Sum.inr e) ∧ _
      unfold f_X12_opensMany_0
      rw [mu1_o hB, show (6 : Int32) = nI (mkd 15) from rfl, show (36 : Int32) = nI (mkd 27) from rfl, m_is hB (by omega), bind_s]
      dsimp only
      -- a wall w pushed at token i1, stack and open known
      have psh : ∀ (w i1 : Nat) (m2 : M2), wll w = true → MBs m2 By n i1 → i ≤ i1 → i1 ≤ i + 1 → hI m2 56 12 = nI o → WtM m2 W → CdM m2 sd C → Fr (SXm sd) m0 m2 → tk By n i1 = 15 → (o = 6 → Rch (tk By n) (vI By n) c0 (.inr (.inr (2, i1)))) → (¬ o = 6 → i1 < 400 → Rch (tk By n) (vI By n) c0 (cO (i1 + 1) (w :: W) C (o + 1))) → (¬ o = 6 → ¬ i1 < 400 → Rch (tk By n) (vI By n) c0 (.inr (.inr (2, i1)))) → (∃ s', f_X12_opensMany_52 (nI (mkd w)) m2 = some (Sum.inl s') ∧ (OO (tk By n) (vI By n) c0 m0 s' By n sd i0 ∨ OF (tk By n) (vI By n) c0 m0 s' By n sd) ∧ mu1 s' < 402 - i) ∨ ∃ e, f_X12_opensMany_52 (nI (mkd w)) m2 = some (Sum.inr e) ∧ ∃ m', (e = Sum.inl m' ∨ e = Sum.inr m') ∧ ((∃ i W C o, i0 ≤ i ∧ MSt m' By n sd i W C o ∧ Rch (tk By n) (vI By n) c0 (cO i W C o) ∧ Fr (SXm sd) m0 m' ∧ ¬ tk By n i = 15 ∧ ¬ tk By n i = 27) ∨ OF (tk By n) (vI By n) c0 m0 m' By n sd) := by
        intro w i1 m2 hwl hB2 hi1 hi2 h122 hW2 hC2 hF2 hk r1 r2 r3
        have hi1' := hB2.2.2.1
        unfold f_X12_opensMany_52
        rw [h122]
        by_cases o6 : o = 6
        · right
          obtain ⟨m3, e3, t3, f3⟩ := m_fail hB2 (f := 2) (by omega)
          rw [if_pos (by rw [o6]; rfl), lit_2, e3, bind_s]
          unfold f_X12_opensMany_66
          rw [if_neg t3.nl]
          exact ⟨_, rfl, m3, Or.inl rfl, Or.inr ⟨2, i1, t3, r1 o6, hF2.tr (f3.mono (fun k j z => by omega))⟩⟩
        · left
          rw [if_neg (show ¬ nI o = 6 from eq_nI (d := 6) (by omega) (by omega) o6)]
          unfold f_X12_opensMany_66
          rw [if_pos hB2.le, h122, nI_1, qI_e, bind_s]
          have f3 : Fr (fun k j => k = 56 ∧ j = 12) m2 (tI m2 56 12 (nI (o + 1))) := Fr.rf.tI _ (by omega)
          have hB3 := hB2.fr f3 (fun k j z => by omega)
          have h123 : hI (tI m2 56 12 (nI (o + 1))) 56 12 = nI (o + 1) := by rw [hI_tI, if_pos ⟨rfl, rfl⟩]
          have hW3 := hW2.fr f3 (fun k j z => by omega)
          have hC3 := hC2.fr f3 (fun k j z => by omega)
          have hF3 : Fr (SXm sd) m0 (tI m2 56 12 (nI (o + 1))) := hF2.tr (f3.mono (fun k j z => by omega))
          generalize tI m2 56 12 (nI (o + 1)) = m3 at hB3 h123 hW3 hC3 hF3 ⊢
          obtain ⟨g1, g2⟩ := m_goesOn hB3 (by omega)
          by_cases h4 : i1 < 400
          · obtain ⟨m4, e4, b4, f4⟩ := g1 h4
            obtain ⟨m5, e5, w5, f5⟩ := m_push (w := w) (hW3.fr f4 (fun k j z => by omega)) (by omega)
            rw [e4, bind_s, e5, bind_s]
            have hB5 := b4.fr f5 (fun k j z => by omega)
            refine ⟨_, rfl, Or.inl ⟨i1 + 1, w :: W, C, o + 1, by omega, ⟨hB5, ?_, w5, (hC3.fr f4 (fun k j z => by omega)).fr f5 (fun k j z => by omega), by omega, ⟨[], w, W, Or.inl rfl, hwl, hSh, rfl⟩, by rw [List.length_cons]; omega⟩, r2 o6 h4, (hF3.tr (f4.mono (fun k j z => by omega))).tr (f5.mono (fun k j z => by omega))⟩, ?_⟩
            · rw [f5.I _ _ (by omega), f4.I _ _ (by omega)]; exact h123
            · rw [mu1_o hB5]; omega
          · obtain ⟨m4, e4, t4, f4⟩ := g2 h4
            obtain ⟨m5, e5, w5, f5⟩ := m_push (w := w) (hW3.fr f4 (fun k j z => by omega)) (by omega)
            rw [e4, bind_s, e5, bind_s]
            have t5 := t4.fr f5 (fun k j z => by omega)
            refine ⟨_, rfl, Or.inr ⟨2, i1, t5, r3 o6 h4, (hF3.tr (f4.mono (fun k j z => by omega))).tr (f5.mono (fun k j z => by omega))⟩, ?_⟩
            rw [mu1_f t5]; omega
      have st : Rch (tk By n) (vI By n) c0 (mOp (tk By n) (vI By n) i W C o) := hR.tr (Rch.st rfl)
      unfold mOp at st
      by_cases k15 : tk By n i = 15
      · rw [decide_eq_true k15, b1_1 rfl, if_neg (by decide)]
        unfold f_X12_opensMany_18
        rw [hB.2.1, aI_n _ 59 (show i < 403 by omega) (by omega), bind_s, hB.kd, k15, if_neg (by decide)]
        rw [if_neg (by omega), if_pos k15] at st
        refine psh 15 i m1 rfl hB (Nat.le_refl _) (by omega) h12 hW hC hF k15 (fun z => ?_) (fun z z2 => ?_) (fun z z2 => ?_)
        · rw [if_pos z] at st; exact st
        · rw [if_neg z, if_pos z2] at st; exact st
        · rw [if_neg z, if_neg z2] at st; exact st
      · rw [decide_eq_false k15, b1_f rfl, if_pos rfl, m_is hB (by omega), bind_s]
        dsimp only
        by_cases k27 : tk By n i = 27
        · rw [decide_eq_true k27, b1_1 rfl, if_neg (by decide)]
          unfold f_X12_opensMany_18
          rw [hB.2.1, aI_n _ 59 (show i < 403 by omega) (by omega), bind_s, hB.kd, k27, show (36 : Int32) = nI (mkd 27) from rfl, if_pos rfl]
          rw [if_pos k27] at st
          obtain ⟨g1, g2⟩ := m_goesOn hB (by omega)
          by_cases h4 : i < 400
          · obtain ⟨m2, e2, b2, f2⟩ := g1 h4
            rw [if_pos h4] at st
            rw [e2, bind_s, show (6 : Int32) = nI (mkd 15) from rfl, m_is b2 (by omega), bind_s]
            dsimp only
            have hF2 : Fr (SXm sd) m0 m2 := hF.tr (f2.mono (fun k j z => by omega))
            by_cases k15b : tk By n (i + 1) = 15
            · rw [decide_eq_true k15b, b1_1 rfl, if_neg (by decide)]
              rw [if_pos k15b] at st
              refine psh 27 (i + 1) m2 rfl b2 (by omega) (by omega) (by rw [f2.I _ _ (by omega)]; exact h12) (hW.fr f2 (fun k j z => by omega)) (hC.fr f2 (fun k j z => by omega)) hF2 k15b (fun z => ?_) (fun z z2 => ?_) (fun z z2 => ?_)
              · rw [if_pos z] at st; exact st
              · rw [if_neg z, if_pos z2] at st; exact st
              · rw [if_neg z, if_neg z2] at st; exact st
            · rw [decide_eq_false k15b, b1_f rfl, if_pos rfl]
              rw [if_neg k15b] at st
              right
              obtain ⟨m3, e3, t3, f3⟩ := m_fail b2 (f := 1) (by omega)
              rw [lit_1, e3, bind_s]
              unfold f_X12_opensMany_52
              rw [mf_fail t3, bind_s]
              unfold f_X12_opensMany_66
              rw [if_neg t3.nl]
              have : (if hI m3 56 12 = 6 then (some (Sum.inr (Sum.inl m3)) : Option (M2 ⊕ (M2 ⊕ M2))) else some (Sum.inr (Sum.inl m3))) = some (Sum.inr (Sum.inl m3)) := by split <;> rfl
              rw [this]
              exact ⟨_, rfl, m3, Or.inl rfl, Or.inr ⟨1, i + 1, t3, st, hF2.tr (f3.mono (fun k j z => by omega))⟩⟩
          · right
            obtain ⟨m2, e2, t2, f2⟩ := g2 h4
            rw [if_neg h4] at st
            rw [e2, bind_s, mf_is t2, bind_s]
            dsimp only
            rw [if_pos rfl, mf_fail t2, bind_s]
            unfold f_X12_opensMany_52
            rw [mf_fail t2, bind_s]
            unfold f_X12_opensMany_66
            rw [if_neg t2.nl]
            have : (if hI m2 56 12 = 6 then (some (Sum.inr (Sum.inl m2)) : Option (M2 ⊕ (M2 ⊕ M2))) else some (Sum.inr (Sum.inl m2))) = some (Sum.inr (Sum.inl m2)) := by split <;> rfl
            rw [this]
            exact ⟨_, rfl, m2, Or.inl rfl, Or.inr ⟨2, i, t2, st, hF.tr (f2.mono (fun k j z => by omega))⟩⟩
        · rw [decide_eq_false k27, b1_f rfl, if_pos rfl]
          right
          exact ⟨_, rfl, m1, Or.inr rfl, Or.inl ⟨i, W, C, o, hi0, ⟨hB, h12, hW, hC, ho, hSh, hlen⟩, hR, hF, k15, k27⟩⟩
    · right
      show ∃ e, f_X12_opensMany_0 m1 = some (Sum.inr e) ∧ _
      unfold f_X12_opensMany_0
      rw [mf_is hT, bind_s]
      dsimp only
      rw [if_pos rfl, mf_is hT, bind_s]
      dsimp only
      rw [if_pos rfl]
      exact ⟨_, rfl, m1, Or.inr rfl, Or.inr ⟨f, t, hT, hR, hF⟩⟩
  obtain ⟨e, e1, m', r, q⟩ := key
  rw [e1, bind_s]
  rcases r with rfl | rfl
  · exact ⟨m', rfl, q⟩
  · exact ⟨m', rfl, q⟩
end KK2
