/-! ===== the reference reads expressions: the answer ===== -/
section KM2
variable {m : M2} {By : Nat → Nat} {n sd : Nat} {c0 : Cf} {m0 : M2}
theorem mu_l {a b t : Nat} (h1 : a + 1 ≤ b) (h2 : a ≤ t) (h3 : t ≤ 400) : 402 - b < 402 - a ∧ 402 - (b + 1) < 402 - a ∧ 0 < 402 - a := by omega
theorem mf_unit {f t : Nat} (h : MFt m By n f t) : F_X12_unit m = some m := if_neg h.nl
theorem mf_opens {f t : Nat} (h : MFt m By n f t) : F_X12_opensMany m = some m := by
  unfold F_X12_opensMany
  have key : ∃ e, loop g_X12_opensMany_0 m = some e ∧ e = Sum.inr m := by
    refine loop_to 0 (fun _ z => z = m) _ (by omega) (fun k s hk => by omega) ?_ rfl
    rintro z rfl
    show ∃ e, f_X12_opensMany_0 z = some (Sum.inr e) ∧ _
    unfold f_X12_opensMany_0
    rw [mf_is h, bind_s]
    dsimp only
    rw [if_pos rfl, mf_is h, bind_s]
    dsimp only
    rw [if_pos rfl]
    exact ⟨_, rfl, rfl⟩
  obtain ⟨e, e1, rfl⟩ := key
  rw [e1, bind_s]
  rfl
theorem mf_closes {f t : Nat} {x : Int32} (h : MFt m By n f t) : F_X12_closesMany x m = some (0, m) := by
  unfold F_X12_closesMany
  have key : ∃ e, loop (g_X12_closesMany_0 x) m = some e ∧ e = Sum.inr (Sum.inr m) := by
    refine loop_to 0 (fun _ z => z = m) _ (by omega) (fun k s hk => by omega) ?_ rfl
    rintro z rfl
    show ∃ e, f_X12_closesMany_0 x z = some (Sum.inr e) ∧ _
    unfold f_X12_closesMany_0
    rw [if_neg h.ne]
    exact ⟨_, rfl, rfl⟩
  obtain ⟨e, e1, rfl⟩ := key
  rw [e1, bind_s]
  rfl
theorem Sh.push {o w : Nat} {W : List Nat} {C : List Op} (h : Sh o W) (hw : 7 ≤ w ∧ w ≤ 10) : Sh o (w :: (co (decide (9 ≤ w)) W C).1) ∧ (co (decide (9 ≤ w)) W C).2.length + (co (decide (9 ≤ w)) W C).1.length = C.length + W.length := by
  have split1 : ∃ s R, Sg s ∧ tO0 R ∧ W = s ++ R ∧ ∀ s2, Sg s2 → Sh o (s2 ++ R) := by
    cases o with
    | zero => exact ⟨W, [], h, Or.inl rfl, (List.append_nil _).symm, fun s2 h2 => by rw [List.append_nil]; exact h2⟩
    | succ o =>
      obtain ⟨s, w', W', h1, h2, h3, e⟩ := h
      exact ⟨s, w' :: W', h1, Or.inr ⟨w', W', rfl, h2⟩, e, fun s2 hs2 => ⟨s2, w', W', hs2, h2, h3, rfl⟩⟩
  obtain ⟨s, R, hs, hR, e, hsh⟩ := split1
  by_cases h9 : 9 ≤ w
  · rw [decide_eq_true h9, e]
    obtain ⟨s2, h2, e1, e2⟩ := hs.ct hR C
    rw [e1]
    refine ⟨?_, e2⟩
    rcases h2 with rfl | ⟨b, hb, rfl⟩
    · exact hsh [w] (Or.inr (Or.inl ⟨w, by omega, rfl⟩))
    · exact hsh [w, b] (Or.inr (Or.inr (Or.inr ⟨w, b, by omega, hb, rfl⟩)))
  · rw [decide_eq_false h9, e, hs.cf hR C]
    refine ⟨hsh [w] (Or.inr (Or.inr (Or.inl ⟨w, by omega, rfl⟩))), ?_⟩
    show (C ++ s.map (fun w => (w, 0))).length + R.length = C.length + (s ++ R).length
    rw [List.length_append, List.length_append, List.length_map]
    omega
theorem m_expr {i : Nat} {C : List Op} (hsd : sd < 2) (hB : MBs m By n i) (hC : CdM m sd C) (h12 : hI m 56 12 = 0) (hl : C.length ≤ i) : (∀ j L, pX (tk By n) (vI By n) 24 0 0 i = .inl (j, L) → ∃ m', F_X12_expression m = some m' ∧ MBs m' By n j ∧ CdM m' sd (C ++ L) ∧ hI m' 56 12 = 0 ∧ Fr (SXm sd) m m') ∧ (∀ f t, pX (tk By n) (vI By n) 24 0 0 i = .inr (f, t) → ∃ m', F_X12_expression m = some m' ∧ MFt m' By n f t ∧ Fr (SXm sd) m m') := by
  have hte := te_le By n
  have hKV : ∀ i, tk By n i = 3 → vI By n i < 10000 := fun i hi => vI_lt hi
  have sh := shunt (K := tk By n) (V := vI By n) hKV i C
  have key : ∃ m', F_X12_expression m = some m' ∧ Fr (SXm sd) m m' ∧ ((∃ j C', Rch (tk By n) (vI By n) (cO i [] C 0) (.inr (.inl (j, C'))) ∧ MBs m' By n j ∧ CdM m' sd C' ∧ hI m' 56 12 = 0) ∨ (∃ f t, Rch (tk By n) (vI By n) (cO i [] C 0) (.inr (.inr (f, t))) ∧ MFt m' By n f t)) := by
    unfold F_X12_expression
    rw [qI_e, bind_s]
    have f1 : Fr (fun k j => k = 56 ∧ j = 54) m (tI m 56 54 0) := Fr.rf.tI _ (by omega)
    have hB1 := hB.fr f1 (fun k j z => by omega)
    have hC1 := hC.fr f1 (fun k j z => by omega)
    have h121 : hI (tI m 56 54 0) 56 12 = 0 := by rw [f1.I _ _ (by omega)]; exact h12
    have hW1 : WtM (tI m 56 54 0) [] := ⟨by rw [hI_tI, if_pos ⟨rfl, rfl⟩]; rfl, trivial⟩
    have hF1 : Fr (SXm sd) m (tI m 56 54 0) := f1.mono (fun k j z => by omega)
    generalize tI m 56 54 0 = m1 at hB1 hC1 h121 hW1 hF1 ⊢
    rw [h121, nmI_e, bind_s]
    have lp : ∃ e, loop (g_X12_expression_12 0) ((1 : Int32), m1) = some e ∧ ((∃ m' q W C2 o, e = Sum.inl m' ∧ MSt m' By n sd q W C2 o ∧ Rch (tk By n) (vI By n) (cO i [] C 0) (cU q W C2 o) ∧ Fr (SXm sd) m m' ∧ ¬ (0 < o ∧ tk By n q = 6) ∧ ¬ (0 < o ∧ tk By n q = 16) ∧ ¬ (7 ≤ tk By n q ∧ tk By n q ≤ 10)) ∨ (∃ m', e = Sum.inr m' ∧ OF (tk By n) (vI By n) (cO i [] C 0) m m' By n sd)) := by
      refine loop_wf (fun z => z.1 = 1 ∧ (OO (tk By n) (vI By n) (cO i [] C 0) m z.2 By n sd 0 ∨ OF (tk By n) (vI By n) (cO i [] C 0) m z.2 By n sd)) (fun z => mu1 z.2) _ ?_ (s := ((1 : Int32), m1)) ⟨rfl, Or.inl ⟨i, [], C, 0, by omega, ⟨hB1, h121, hW1, hC1, by omega, Or.inl rfl, hl⟩, Rch.rf _, hF1⟩⟩ (by show mu1 m1 < _; unfold mu1; split <;> omega)
      rintro ⟨x, m2⟩ ⟨rfl, r⟩
      dsimp only at r
      show (∃ s', f_X12_expression_12 0 1 m2 = some (Sum.inl s') ∧ _) ∨ ∃ e, f_X12_expression_12 0 1 m2 = some (Sum.inr e) ∧ _
      unfold f_X12_expression_12
      rw [if_neg (by decide)]
      rcases r with ⟨i2, W2, C2, o2, _, hS2, hR2, hF2⟩ | ⟨f, t, hT, hR, hF⟩
      · rw [if_pos hS2.1.1]
        have hmu : mu1 m2 = 402 - i2 := mu1_o hS2.1
        have hi2 := hS2.1.2.2.1
        have flt : ∀ m', OF (tk By n) (vI By n) (cO i [] C 0) m m' By n sd → (some (Sum.inl ((1 : Int32), m')) : Option ((Int32 × M2) ⊕ (M2 ⊕ M2))) = some (Sum.inl (1, m')) ∧ ((1 : Int32) = 1 ∧ (OO (tk By n) (vI By n) (cO i [] C 0) m m' By n sd 0 ∨ OF (tk By n) (vI By n) (cO i [] C 0) m m' By n sd)) ∧ mu1 m' < mu1 m2 := by
          intro m' hm
          refine ⟨rfl, ⟨rfl, Or.inr hm⟩, ?_⟩
          obtain ⟨f, t, h1, _⟩ := hm
          rw [mu1_f h1, hmu]
          omega
        obtain ⟨m3, e3, r3⟩ := m_opens hsd ⟨i2, W2, C2, o2, Nat.le_refl _, hS2, hR2, hF2⟩
        rw [e3, bind_s]
        have u4 : ∃ m4, F_X12_unit m3 = some m4 ∧ (OU (tk By n) (vI By n) (cO i [] C 0) m m4 By n sd (i2 + 1) ∨ OF (tk By n) (vI By n) (cO i [] C 0) m m4 By n sd) := by
          rcases r3 with ⟨i3, W3, C3, o3, a1, a2, a3, a4, a5, a6⟩ | r3
          · exact m_unit hsd a1 a2 a3 a4 a5 a6
          · obtain ⟨f, t, h1, h2⟩ := r3
            exact ⟨m3, mf_unit h1, Or.inr ⟨f, t, h1, h2⟩⟩
        obtain ⟨m4, e4, r4⟩ := u4
        rw [e4, bind_s]
        rcases r4 with r4 | ⟨f, t, h1, h2⟩
        · obtain ⟨m5, v, e5, r5⟩ := m_closes hsd r4
          rw [e5, bind_s]
          dsimp only
          rcases r5 with ⟨rfl, i5, W5, C5, o5, a1, hS5, hR5, hF5, k6, k16⟩ | ⟨rfl, i5, W5, C5, o5, a1, hS5, hR5, hF5⟩ | ⟨f, t, h1, h2⟩
          · obtain ⟨hB5, h125, hW5, hC5, ho5, hSh5, hlen5⟩ := hS5
            have hi5 := hB5.2.2.1
            have hWl5 := hSh5.len
            have M : mkd 7 = 8 ∧ mkd 8 = 9 ∧ mkd 9 = 10 ∧ mkd 10 = 15 := by decide
            rw [if_neg hB5.ngt, if_pos rfl, show (8 : Int32) = nI (mkd 7) from rfl, m_is hB5 (by omega), bind_s]
            dsimp only
            rw [show (9 : Int32) = nI (mkd 8) from rfl, m_is hB5 (by omega), bind_s]
            dsimp only
            rw [show (10 : Int32) = nI (mkd 9) from rfl, m_is hB5 (by omega), bind_s]
            dsimp only
            rw [show (15 : Int32) = nI (mkd 10) from rfl, m_is hB5 (by omega), bind_s]
            dsimp only
            by_cases kop : 7 ≤ tk By n i5 ∧ tk By n i5 ≤ 10
            · left
              have go : ∀ s : Bool, s = decide (9 ≤ tk By n i5) → ∃ s', f_X12_expression_140 0 1 (bI1 s) m5 = some (Sum.inl s') ∧ (s'.1 = 1 ∧ (OO (tk By n) (vI By n) (cO i [] C 0) m s'.2 By n sd 0 ∨ OF (tk By n) (vI By n) (cO i [] C 0) m s'.2 By n sd)) ∧ mu1 s'.2 < mu1 m2 := by
                rintro s rfl
                have st : Rch (tk By n) (vI By n) (cO i [] C 0) (mUn (tk By n) i5 W5 C5 o5) := hR5.tr (Rch.st rfl)
                rw [mUn_op kop] at st
                obtain ⟨sp1, sp2⟩ := hSh5.push (C := C5) kop
                obtain ⟨m6, e6, w6, c6, f6⟩ := m_comesOut (s := decide (9 ≤ tk By n i5)) hsd hW5 hC5 hSh5.ok (by omega) (by omega)
                have hB6 := hB5.fr f6 (fun k j z => by omega)
                have hpl := sp1.len
                rw [List.length_cons] at hpl
                obtain ⟨m7, e7, w7, f7⟩ := m_push (w := tk By n i5) w6 (by omega)
                have hB7 := hB6.fr f7 (fun k j z => by omega)
                have hF7 : Fr (SXm sd) m m7 := (hF5.tr (f6.mono (fun k j z => by omega))).tr (f7.mono (fun k j z => by omega))
                unfold f_X12_expression_140
                rw [e6, bind_s, hB6.2.1, aI_n _ 59 (show i5 < 403 by omega) (by omega), bind_s, hB6.kd, e7, bind_s]
                obtain ⟨g1, g2⟩ := m_goesOn hB7 (by omega)
                by_cases h4 : i5 < 400
                · obtain ⟨m8, e8, b8, f8⟩ := g1 h4
                  rw [if_pos h4] at st
                  rw [e8, bind_s]
                  refine ⟨_, rfl, ⟨rfl, Or.inl ⟨i5 + 1, _, _, o5, by omega, ⟨b8, ?_, w7.fr f8 (fun k j z => by omega), (c6.fr f7 (fun k j z => by omega)).fr f8 (fun k j z => by omega), ho5, sp1, by rw [List.length_cons]; omega⟩, st, hF7.tr (f8.mono (fun k j z => by omega))⟩⟩, ?_⟩
                  · rw [f8.I _ _ (by omega), f7.I _ _ (by omega), f6.I _ _ (by omega)]; exact h125
                  · show mu1 m8 < mu1 m2
                    rw [mu1_o b8, hmu]; exact (mu_l a1 hi2 hte).2.1
                · obtain ⟨m8, e8, t8, f8⟩ := g2 h4
                  rw [if_neg h4] at st
                  rw [e8, bind_s]
                  refine ⟨_, rfl, ⟨rfl, Or.inr ⟨2, i5, t8, st, hF7.tr (f8.mono (fun k j z => by omega))⟩⟩, ?_⟩
                  show mu1 m8 < mu1 m2
                  rw [mu1_f t8, hmu]; exact (mu_l a1 hi2 hte).2.2
              have p87 : ∃ s', f_X12_expression_87 0 m5 = some (Sum.inl s') ∧ (s'.1 = 1 ∧ (OO (tk By n) (vI By n) (cO i [] C 0) m s'.2 By n sd 0 ∨ OF (tk By n) (vI By n) (cO i [] C 0) m s'.2 By n sd)) ∧ mu1 s'.2 < mu1 m2 := by
                unfold f_X12_expression_87 f_X12_expression_92 f_X12_expression_135
                rw [if_neg (by decide), show (10 : Int32) = nI (mkd 9) from rfl, m_is hB5 (by omega), bind_s]
                dsimp only
                rw [show (15 : Int32) = nI (mkd 10) from rfl, m_is hB5 (by omega), bind_s]
                dsimp only
                by_cases k9 : tk By n i5 = 9
                · rw [decide_eq_true k9, if_neg (show ¬ bI1 true = 0 by decide)]
                  exact go true (decide_eq_true (by omega)).symm
                · rw [decide_eq_false k9, if_pos (show bI1 false = 0 from rfl)]
                  by_cases k10 : tk By n i5 = 10
                  · rw [decide_eq_true k10, if_neg (show ¬ bI1 true = 0 by decide)]
                    exact go true (decide_eq_true (by omega)).symm
                  · rw [decide_eq_false k10, if_pos (show bI1 false = 0 from rfl)]
                    exact go false (decide_eq_false (by omega)).symm
              by_cases k7 : tk By n i5 = 7
              · rw [decide_eq_true k7, if_neg (show ¬ bI1 true = 0 by decide)]; exact p87
              rw [decide_eq_false k7, if_pos (show bI1 false = 0 from rfl)]
              by_cases k8 : tk By n i5 = 8
              · rw [decide_eq_true k8, if_neg (show ¬ bI1 true = 0 by decide)]; exact p87
              rw [decide_eq_false k8, if_pos (show bI1 false = 0 from rfl)]
              by_cases k9 : tk By n i5 = 9
              · rw [decide_eq_true k9, if_neg (show ¬ bI1 true = 0 by decide)]; exact p87
              rw [decide_eq_false k9, if_pos (show bI1 false = 0 from rfl), decide_eq_true (show tk By n i5 = 10 by omega), if_neg (show ¬ bI1 true = 0 by decide)]
              exact p87
            · right
              rw [decide_eq_false (show ¬ tk By n i5 = 7 by omega), if_pos (show bI1 false = 0 from rfl), decide_eq_false (show ¬ tk By n i5 = 8 by omega), if_pos (show bI1 false = 0 from rfl), decide_eq_false (show ¬ tk By n i5 = 9 by omega), if_pos (show bI1 false = 0 from rfl), decide_eq_false (show ¬ tk By n i5 = 10 by omega), if_pos (show bI1 false = 0 from rfl)]
              unfold f_X12_expression_92
              rw [if_pos rfl]
              exact ⟨_, rfl, Or.inl ⟨m5, i5, W5, C5, o5, rfl, ⟨hB5, h125, hW5, hC5, ho5, hSh5, hlen5⟩, hR5, hF5, k6, k16, kop⟩⟩
          · left
            rw [if_neg hS5.1.ngt, if_neg (by decide)]
            refine ⟨_, rfl, ⟨rfl, Or.inl ⟨i5, W5, C5, o5, by omega, hS5, hR5, hF5⟩⟩, ?_⟩
            show mu1 m5 < mu1 m2
            rw [mu1_o hS5.1, hmu]; exact (mu_l (Nat.le_of_succ_le a1) hi2 hte).1
          · left
            rw [if_pos h1.gt]
            exact ⟨_, flt m5 ⟨f, t, h1, h2⟩⟩
        · left
          rw [mf_closes h1, bind_s]
          dsimp only
          rw [if_pos h1.gt]
          exact ⟨_, flt m4 ⟨f, t, h1, h2⟩⟩
      · right
        rw [if_neg hT.ne]
        exact ⟨_, rfl, Or.inr ⟨m2, rfl, f, t, hT, hR, hF⟩⟩
    obtain ⟨e, e1, r⟩ := lp
    rw [e1, bind_s]
    rcases r with ⟨m2, i2, W2, C2, o2, rfl, hS2, hR2, hF2, k6, k16, kop⟩ | ⟨m2, rfl, f, t, hT, hR, hF⟩
    · obtain ⟨hB2, h122, hW2, hC2, ho2, hSh2, hlen2⟩ := hS2
      have hi2 := hB2.2.2.1
      have hWl2 := hSh2.len
      have st : Rch (tk By n) (vI By n) (cO i [] C 0) (mUn (tk By n) i2 W2 C2 o2) := hR2.tr (Rch.st rfl)
      unfold mUn at st
      rw [if_neg k6, if_neg k16, if_neg kop] at st
      dsimp only [Sum.elim]
      rw [h122]
      unfold f_X12_expression_110
      have bs : ∀ r : Option M2, (r.bind fun c => some c) = r := fun r => by cases r <;> rfl
      by_cases o0 : o2 = 0
      · rw [if_neg (by omega)] at st
        obtain ⟨m3, e3, w3, c3, f3⟩ := m_comesOut (s := false) hsd hW2 hC2 hSh2.ok (by omega) (by omega)
        rw [if_pos (by rw [o0]; decide), bs, show (0 : Int32) = bI1 false from rfl, e3]
        refine ⟨m3, rfl, hF2.tr (f3.mono (fun k j z => by omega)), Or.inl ⟨i2, _, st, hB2.fr f3 (fun k j z => by omega), c3, ?_⟩⟩
        rw [f3.I _ _ (by omega), h122, o0]; rfl
      · rw [if_pos (by omega)] at st
        obtain ⟨m3, e3, t3, f3⟩ := m_fail hB2 (f := 1) (by omega)
        obtain ⟨m4, e4, w4, c4, f4⟩ := m_comesOut (s := false) hsd (hW2.fr f3 (fun k j z => by omega)) (hC2.fr f3 (fun k j z => by omega)) hSh2.ok (by omega) (by omega)
        rw [if_neg (nI_nle (by omega) (by omega)), lit_1, e3, bind_s, bs, show (0 : Int32) = bI1 false from rfl, e4]
        exact ⟨m4, rfl, (hF2.tr (f3.mono (fun k j z => by omega))).tr (f4.mono (fun k j z => by omega)), Or.inr ⟨1, i2, st, t3.fr f4 (fun k j z => by omega)⟩⟩
    · exact ⟨m2, rfl, hF, Or.inr ⟨f, t, hR, hT⟩⟩
  obtain ⟨m', e1, hF, r⟩ := key
  refine ⟨fun j L h => ?_, fun f t h => ?_⟩
  · have s1 := sh.1 j L h
    rcases r with ⟨j2, C2, a1, a2, a3, a4⟩ | ⟨f, t, a1, a2⟩
    · have := a1.one s1
      cases this
      exact ⟨m', e1, a2, a3, a4, hF⟩
    · have := a1.one s1
      cases this
  · have s1 := sh.2 (f, t) h
    rcases r with ⟨j2, C2, a1, a2, a3, a4⟩ | ⟨f2, t2, a1, a2⟩
    · have := a1.one s1
      cases this
    · have := a1.one s1
      cases this
      exact ⟨m', e1, a2, hF⟩
end KM2
