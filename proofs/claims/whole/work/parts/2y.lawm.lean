/-! ===== the reference reads conditions and branches ===== -/
section KY
variable {m : M2} {By : Nat → Nat} {n sd : Nat}
abbrev SBr (sd k0 b0 : Nat) : Nat → Nat → Prop := fun k j => SLt sd k0 k j ∨ (k = 56 ∧ j = 27) ∨ ((70 ≤ k ∧ k ≤ 73) ∧ 54 * sd + b0 ≤ j ∧ j < 54 * sd + 54)
theorem pRl_3 {K V : Nat → Nat} (hV : ∀ i, K i = 3 → V i < 10000) {i j : Nat} {r : Rel} (h : pRl K V i = .inl (j, r)) : i + 2 ≤ j ∧ j ≤ 400 := ⟨(pRl_good hV h).2.1, (pRl_good hV h).2.2.1⟩
theorem m_cond {i k0 : Nat} {C : List Op} (hsd : sd < 2) (hB : MBs m By n i) (h21 : tk By n i = 21) (h4 : i < 400) (hC : CdM m sd C) (h12 : hI m 56 12 = 0) (hl : C.length ≤ i) (h41 : hI m 56 41 = nI (150 * sd + k0)) (hk : 3 * k0 ≤ i) : (∀ j ls, pCn (tk By n) (vI By n) 401 (i + 1) true [] = .inl (j, ls) → ∃ m' C2, F_X12_condition m = some m' ∧ MBs m' By n j ∧ CdM m' sd (C ++ C2) ∧ (C ++ C2).length ≤ j ∧ hI m' 56 12 = 0 ∧ hI m' 56 41 = nI (150 * sd + (k0 + ls.length)) ∧ 3 * (k0 + ls.length) ≤ j ∧ (∀ q l, ls[q]? = some l → LtAt (GC (C ++ C2)) m' sd (k0 + q) l) ∧ ¬ ls = [] ∧ i < j ∧ Fr (SLt sd k0) m m') ∧ (∀ f t, pCn (tk By n) (vI By n) 401 (i + 1) true [] = .inr (f, t) → ∃ m', F_X12_condition m = some m' ∧ MFt m' By n f t ∧ Fr (SLt sd k0) m m') := by
  have hte := te_le By n
  have hKV : ∀ i, tk By n i = 3 → vI By n i < 10000 := fun i hi => vI_lt hi
  unfold F_X12_condition f_X12_condition_61
  obtain ⟨m1, e1, r1, f1⟩ := (m_goesOn hB (by omega)).1 h4
  rw [e1, bind_s]
  have ff1 : Fr (SLt sd k0) m m1 := f1.mono (fun k j z => by omega)
  have c1 := hC.fr f1 (fun k j z => by omega)
  generalize hpz : pCn (tk By n) (vI By n) 401 (i + 1) true [] = PZ
  have key : ∃ z, loop g_X12_condition_8 ((1 : Int32), (1 : Int32), m1) = some z ∧ Fr (SLt sd k0) m z ∧ ((∃ j ls C2, PZ = .inl (j, ls) ∧ MBs z By n j ∧ CdM z sd (C ++ C2) ∧ (C ++ C2).length ≤ j ∧ hI z 56 12 = 0 ∧ hI z 56 41 = nI (150 * sd + (k0 + ls.length)) ∧ 3 * (k0 + ls.length) ≤ j ∧ (∀ q l, ls[q]? = some l → LtAt (GC (C ++ C2)) z sd (k0 + q) l) ∧ ¬ ls = [] ∧ i < j) ∨ (∃ f t, PZ = .inr (f, t) ∧ MFt z By n f t)) := by
    refine loop_wf (fun z => Fr (SLt sd k0) m z.2.2 ∧ ((z.2.1 = 1 ∧ ∃ o f j ls C2, z.1 = bI1 o ∧ PZ = pCn (tk By n) (vI By n) (f + 1) j o ls ∧ f + 1 + ls.length = 401 ∧ MBs z.2.2 By n j ∧ CdM z.2.2 sd (C ++ C2) ∧ (C ++ C2).length ≤ j ∧ hI z.2.2 56 12 = 0 ∧ hI z.2.2 56 41 = nI (150 * sd + (k0 + ls.length)) ∧ 3 * (k0 + ls.length) + 1 ≤ j ∧ (∀ q l, ls[q]? = some l → LtAt (GC (C ++ C2)) z.2.2 sd (k0 + q) l) ∧ i < j) ∨ (z.2.1 = 0 ∧ ∃ j ls C2, PZ = .inl (j, ls) ∧ MBs z.2.2 By n j ∧ CdM z.2.2 sd (C ++ C2) ∧ (C ++ C2).length ≤ j ∧ hI z.2.2 56 12 = 0 ∧ hI z.2.2 56 41 = nI (150 * sd + (k0 + ls.length)) ∧ 3 * (k0 + ls.length) ≤ j ∧ (∀ q l, ls[q]? = some l → LtAt (GC (C ++ C2)) z.2.2 sd (k0 + q) l) ∧ ¬ ls = [] ∧ i < j) ∨ (∃ f t, PZ = .inr (f, t) ∧ MFt z.2.2 By n f t))) (fun z => if z.2.1 = 0 then 0 else mu1 z.2.2 + 1) _ ?_ (s := ((1 : Int32), (1 : Int32), m1)) ⟨ff1, Or.inl ⟨rfl, true, 400, i + 1, [], [], rfl, hpz.symm, rfl, r1, by rw [List.append_nil]; exact c1, by rw [List.append_nil]; omega, by rw [f1.I _ _ (by omega)]; exact h12, by rw [f1.I _ _ (by omega)]; exact h41, by show 3 * (k0 + 0) + 1 ≤ i + 1; omega, fun q l hq => (by cases hq), by omega⟩⟩ (by
      show (if (1 : Int32) = 0 then 0 else mu1 m1 + 1) < _
      rw [if_neg (by decide)]
      unfold mu1
      split <;> omega)
    rintro ⟨z1, z2, m2⟩ ⟨i1, i2⟩
    dsimp only at i1 i2
    show (∃ s', f_X12_condition_8 z1 z2 m2 = some (Sum.inl s') ∧ _) ∨ ∃ z, f_X12_condition_8 z1 z2 m2 = some (Sum.inr z) ∧ _
    unfold f_X12_condition_8
    rcases i2 with ⟨rfl, o, f, j, ls, C2, rfl, ep, hf, bB, rC', rl', r12, r41, r3, rL, hij⟩ | ⟨rfl, j, ls, C2, ep, bB, rC', rl', r12, r41, r3, rL, rn, hij⟩ | ⟨f, t, ep, rF⟩
    · left
      have hjt := bB.2.2.1
      have hmu : mu1 m2 = 402 - j := mu1_o bB
      rw [if_neg (by decide), if_pos bB.1]
      obtain ⟨l1, l2⟩ := m_literal (o := o) hsd (show 1 ≤ j by omega) bB rC' r12 rl' r41 (by omega)
      rw [pCn_s] at ep
      -- a fault in it
      have bad : ∀ (f t : Nat) (m9 : M2) (y1 y2 : Int32), PZ = .inr (f, t) → MFt m9 By n f t → Fr (SLt sd k0) m m9 → ∃ s', (some (Sum.inl (y1, y2, m9)) : Option ((Int32 × Int32 × M2) ⊕ M2)) = some (Sum.inl s') ∧ (Fr (SLt sd k0) m s'.2.2 ∧ ((s'.2.1 = 1 ∧ ∃ o f j ls C2, s'.1 = bI1 o ∧ PZ = pCn (tk By n) (vI By n) (f + 1) j o ls ∧ f + 1 + ls.length = 401 ∧ MBs s'.2.2 By n j ∧ CdM s'.2.2 sd (C ++ C2) ∧ (C ++ C2).length ≤ j ∧ hI s'.2.2 56 12 = 0 ∧ hI s'.2.2 56 41 = nI (150 * sd + (k0 + ls.length)) ∧ 3 * (k0 + ls.length) + 1 ≤ j ∧ (∀ q l, ls[q]? = some l → LtAt (GC (C ++ C2)) s'.2.2 sd (k0 + q) l) ∧ i < j) ∨ (s'.2.1 = 0 ∧ ∃ j ls C2, PZ = .inl (j, ls) ∧ MBs s'.2.2 By n j ∧ CdM s'.2.2 sd (C ++ C2) ∧ (C ++ C2).length ≤ j ∧ hI s'.2.2 56 12 = 0 ∧ hI s'.2.2 56 41 = nI (150 * sd + (k0 + ls.length)) ∧ 3 * (k0 + ls.length) ≤ j ∧ (∀ q l, ls[q]? = some l → LtAt (GC (C ++ C2)) s'.2.2 sd (k0 + q) l) ∧ ¬ ls = [] ∧ i < j) ∨ (∃ f t, PZ = .inr (f, t) ∧ MFt s'.2.2 By n f t))) ∧ (if s'.2.1 = 0 then 0 else mu1 s'.2.2 + 1) < (if (1 : Int32) = 0 then 0 else mu1 m2 + 1) := by
        intro f t m9 y1 y2 h1 h2 h3
        refine ⟨_, rfl, ⟨h3, Or.inr (Or.inr ⟨f, t, h1, h2⟩)⟩, ?_⟩
        show (if y2 = 0 then 0 else mu1 m9 + 1) < _
        rw [mu1_f h2, if_neg (show ¬ (1 : Int32) = 0 by decide), hmu]
        split <;> omega
      cases hr : pRl (tk By n) (vI By n) j with
      | inr x =>
        rw [hr] at ep
        obtain ⟨m3, e3, r3', f3⟩ := l2 x.1 x.2 hr
        rw [e3, bind_s, mf_is r3', bind_s]
        dsimp only
        rw [if_pos rfl, mf_is r3', bind_s]
        dsimp only
        rw [if_pos rfl]
        unfold f_X12_condition_49
        rw [if_pos rfl]
        exact bad x.1 x.2 m3 0 0 ep r3' (i1.tr (f3.mono (fun k j z => by omega)))
      | inl z =>
        rw [hr] at ep
        dsimp only at ep
        unfold pCt at ep
        obtain ⟨m3, e3, b3, c3, n3, o3, q3, t3, f3⟩ := l1 z.1 z.2 hr
        have hz := pRl_3 hKV hr
        have hzt := b3.2.2.1
        have ff3 : Fr (SLt sd k0) m m3 := i1.tr (f3.mono (fun k j z => by omega))
        have eC : C ++ C2 ++ (rA z.2 ++ rB z.2) = C ++ (C2 ++ (rA z.2 ++ rB z.2)) := List.append_assoc ..
        have ll : (ls ++ [(o, z.2)]).length = ls.length + 1 := by rw [List.length_append, List.length_singleton]
        have L3 : ∀ m4 : M2, Fr S56 m3 m4 → ∀ q l, (ls ++ [(o, z.2)])[q]? = some l → LtAt (GC (C ++ (C2 ++ (rA z.2 ++ rB z.2)))) m4 sd (k0 + q) l := by
          intro m4 f4 q l hq
          rw [← eC]
          by_cases hql : q < ls.length
          · rw [List.getElem?_append_left hql] at hq
            exact (rL q l hq).mono GC.pre (fun p a1 a2 => by rw [f4.I _ _ (by omega), f3.I _ _ (by omega)])
          · have hq2 := lt_of_get hq
            rw [ll] at hq2
            have eq : q = ls.length := by omega
            subst eq
            rw [List.getElem?_append_right (Nat.le_refl _), Nat.sub_self] at hq
            cases hq
            exact t3.mono (fun _ _ h => h) (fun p a1 a2 => by rw [f4.I _ _ (by omega)])
        rw [e3, bind_s, show (29 : Int32) = nI (mkd 24) from rfl, m_is b3 (by omega), bind_s]
        dsimp only
        rw [show (30 : Int32) = nI (mkd 25) from rfl, m_is b3 (by omega), bind_s]
        dsimp only
        -- and, or
        have more : tk By n z.1 = 24 ∨ tk By n z.1 = 25 → ∃ s', f_X12_condition_44 (bI1 (decide (tk By n z.1 = 24))) m3 = some (Sum.inl s') ∧ (Fr (SLt sd k0) m s'.2.2 ∧ ((s'.2.1 = 1 ∧ ∃ o f j ls C2, s'.1 = bI1 o ∧ PZ = pCn (tk By n) (vI By n) (f + 1) j o ls ∧ f + 1 + ls.length = 401 ∧ MBs s'.2.2 By n j ∧ CdM s'.2.2 sd (C ++ C2) ∧ (C ++ C2).length ≤ j ∧ hI s'.2.2 56 12 = 0 ∧ hI s'.2.2 56 41 = nI (150 * sd + (k0 + ls.length)) ∧ 3 * (k0 + ls.length) + 1 ≤ j ∧ (∀ q l, ls[q]? = some l → LtAt (GC (C ++ C2)) s'.2.2 sd (k0 + q) l) ∧ i < j) ∨ (s'.2.1 = 0 ∧ ∃ j ls C2, PZ = .inl (j, ls) ∧ MBs s'.2.2 By n j ∧ CdM s'.2.2 sd (C ++ C2) ∧ (C ++ C2).length ≤ j ∧ hI s'.2.2 56 12 = 0 ∧ hI s'.2.2 56 41 = nI (150 * sd + (k0 + ls.length)) ∧ 3 * (k0 + ls.length) ≤ j ∧ (∀ q l, ls[q]? = some l → LtAt (GC (C ++ C2)) s'.2.2 sd (k0 + q) l) ∧ ¬ ls = [] ∧ i < j) ∨ (∃ f t, PZ = .inr (f, t) ∧ MFt s'.2.2 By n f t))) ∧ (if s'.2.1 = 0 then 0 else mu1 s'.2.2 + 1) < (if (1 : Int32) = 0 then 0 else mu1 m2 + 1) := by
          intro hk2
          rw [if_pos hk2] at ep
          unfold f_X12_condition_44 f_X12_condition_49
          rw [if_neg (by decide)]
          obtain ⟨g1, g2⟩ := m_goesOn b3 (by omega)
          by_cases hz4 : z.1 < 400
          · rw [if_pos hz4] at ep
            obtain ⟨m4, e4, b4, f4⟩ := g1 hz4
            rw [e4, bind_s]
            obtain ⟨f', hf'⟩ : ∃ f', f = f' + 1 := ⟨f - 1, by omega⟩
            rw [hf'] at ep
            refine ⟨_, rfl, ⟨ff3.tr (f4.mono (fun k j z => by omega)), Or.inl ⟨rfl, decide (tk By n z.1 = 24), f', z.1 + 1, ls ++ [(o, z.2)], C2 ++ (rA z.2 ++ rB z.2), rfl, ep, by omega, b4, ?_, ?_, ?_, ?_, ?_, L3 m4 (f4.mono (fun k j z => by omega)), by omega⟩⟩, ?_⟩
            · rw [← eC]; exact c3.fr f4 (fun k j z => by omega)
            · rw [← eC]; omega
            · rw [f4.I _ _ (by omega)]; exact o3
            · rw [f4.I _ _ (by omega), q3, ll]; rfl
            · rw [ll]; omega
            · show (if (1 : Int32) = 0 then 0 else mu1 m4 + 1) < (if (1 : Int32) = 0 then 0 else mu1 m2 + 1)
              rw [if_neg (by decide), if_neg (by decide), mu1_o b4, hmu]
              omega
          · rw [if_neg hz4] at ep
            obtain ⟨m4, e4, b4, f4⟩ := g2 hz4
            rw [e4, bind_s]
            exact bad 2 z.1 m4 _ 1 ep b4 (ff3.tr (f4.mono (fun k j z => by omega)))
        by_cases k24 : tk By n z.1 = 24
        · have := more (Or.inl k24)
          rw [decide_eq_true k24] at this
          rw [decide_eq_true k24, if_neg (show ¬ bI1 true = 0 by decide)]
          exact this
        · rw [decide_eq_false k24, if_pos (show bI1 false = 0 from rfl)]
          by_cases k25 : tk By n z.1 = 25
          · have := more (Or.inr k25)
            rw [decide_eq_false k24] at this
            rw [decide_eq_true k25, if_neg (show ¬ bI1 true = 0 by decide)]
            exact this
          · rw [if_neg (by omega)] at ep
            rw [decide_eq_false k25, if_pos (show bI1 false = 0 from rfl)]
            unfold f_X12_condition_49
            rw [if_pos rfl]
            refine ⟨_, rfl, ⟨ff3, Or.inr (Or.inl ⟨rfl, z.1, ls ++ [(o, z.2)], C2 ++ (rA z.2 ++ rB z.2), ep, b3, by rw [← eC]; exact c3, by rw [← eC]; exact n3, o3, by rw [q3, ll]; rfl, by rw [ll]; omega, L3 m3 Fr.rf, fun z => (by
              have := congrArg List.length z
              rw [ll] at this
              cases this), by omega⟩)⟩, ?_⟩
            show (if (0 : Int32) = 0 then 0 else mu1 m3 + 1) < (if (1 : Int32) = 0 then 0 else mu1 m2 + 1)
            rw [if_pos rfl, if_neg (by decide)]
            omega
    · right
      rw [if_pos rfl]
      exact ⟨_, rfl, i1, Or.inl ⟨j, ls, C2, ep, bB, rC', rl', r12, r41, r3, rL, rn, hij⟩⟩
    · right
      rw [if_neg rF.ne]
      have : (if z2 = 0 then some (Sum.inr m2) else (some (Sum.inr m2) : Option ((Int32 × Int32 × M2) ⊕ M2))) = some (Sum.inr m2) := by split <;> rfl
      rw [this]
      exact ⟨_, rfl, i1, Or.inr ⟨f, t, ep, rF⟩⟩
  obtain ⟨z, e2, f2, q⟩ := key
  rw [e2, bind_s]
  rcases q with ⟨j, ls, C2, ep, q⟩ | ⟨f, t, ep, q⟩
  · refine ⟨fun j' ls' y => ?_, fun f' t' y => (by rw [ep] at y; cases y)⟩
    rw [ep] at y
    cases y
    exact ⟨z, C2, rfl, q.1, q.2.1, q.2.2.1, q.2.2.2.1, q.2.2.2.2.1, q.2.2.2.2.2.1, q.2.2.2.2.2.2.1, q.2.2.2.2.2.2.2.1, q.2.2.2.2.2.2.2.2, f2⟩
  · refine ⟨fun j' ls' y => (by rw [ep] at y; cases y), fun f' t' y => ?_⟩
    rw [ep] at y
    cases y
    exact ⟨z, rfl, q, f2⟩
theorem m_term24 {b0 : Nat} (hsd : sd < 2) (hb : b0 < 54) (h27 : hI m 56 27 = nI (54 * sd + b0)) : ∃ m', f_X12_term_24 m = some m' ∧ hI m' 73 (54 * sd + b0) = hI m 56 48 ∧ hI m' 56 27 = nI (54 * sd + b0 + 1) ∧ Fr (fun k j => (k = 56 ∧ j = 27) ∨ (k = 73 ∧ j = 54 * sd + b0)) m m' := by
  unfold f_X12_term_24
  rw [h27, bI_n _ 73 _ (show 54 * sd + b0 < 108 by omega) (by omega), bind_s, hI_tI, if_neg (by omega), h27, nI_1, qI_e, bind_s]
  refine ⟨_, rfl, ?_, ?_, (Fr.rf.tI _ (by omega)).tI _ (by omega)⟩
  · rw [hI_tI, if_neg (by omega), hI_tI, if_pos ⟨rfl, rfl⟩]
  · rw [hI_tI, if_pos ⟨rfl, rfl⟩]
theorem mf_term {b0 f t : Nat} (hsd : sd < 2) (hb : b0 < 54) (h27 : hI m 56 27 = nI (54 * sd + b0)) (h : MFt m By n f t) : ∃ m', F_X12_term m = some m' ∧ MFt m' By n f t ∧ hI m' 56 27 = nI (54 * sd + b0 + 1) ∧ Fr (fun k j => (k = 56 ∧ j = 27) ∨ ((k = 72 ∨ k = 73) ∧ j = 54 * sd + b0)) m m' := by
  unfold F_X12_term
  rw [h27, bI_n _ 72 _ (show 54 * sd + b0 < 108 by omega) (by omega), bind_s]
  have f1 : Fr (fun k j => k = 72 ∧ j = 54 * sd + b0) m (tI m 72 (54 * sd + b0) (hI m 56 48)) := Fr.rf.tI _ (by omega)
  have h1 := h.fr f1 (fun k j z => by omega)
  have g27 : hI (tI m 72 (54 * sd + b0) (hI m 56 48)) 56 27 = nI (54 * sd + b0) := by rw [f1.I _ _ (by omega)]; exact h27
  rw [if_neg h1.ne]
  obtain ⟨m2, e2, _, a2, f2⟩ := m_term24 hsd hb g27
  rw [e2]
  exact ⟨m2, rfl, h1.fr f2 (fun k j z => by omega), a2, (f1.mono (fun k j z => by omega)).tr (f2.mono (fun k j z => by omega))⟩
theorem m_term {i b0 : Nat} {C : List Op} (hsd : sd < 2) (hb : b0 < 54) (h27 : hI m 56 27 = nI (54 * sd + b0)) (hB : MBs m By n i) (hC : CdM m sd C) (h12 : hI m 56 12 = 0) (hl : C.length ≤ i) : (∀ j L, pX (tk By n) (vI By n) 24 0 0 i = .inl (j, L) → ∃ m', F_X12_term m = some m' ∧ MBs m' By n j ∧ CdM m' sd (C ++ L) ∧ hI m' 56 12 = 0 ∧ hI m' 56 27 = nI (54 * sd + b0 + 1) ∧ hI m' 72 (54 * sd + b0) = nI (420 * sd + C.length) ∧ hI m' 73 (54 * sd + b0) = nI (420 * sd + C.length + L.length) ∧ Fr (fun k j => SXm sd k j ∨ (k = 56 ∧ j = 27) ∨ ((k = 72 ∨ k = 73) ∧ j = 54 * sd + b0)) m m') ∧ (∀ f t, pX (tk By n) (vI By n) 24 0 0 i = .inr (f, t) → ∃ m', F_X12_term m = some m' ∧ MFt m' By n f t ∧ hI m' 56 27 = nI (54 * sd + b0 + 1) ∧ Fr (fun k j => SXm sd k j ∨ (k = 56 ∧ j = 27) ∨ ((k = 72 ∨ k = 73) ∧ j = 54 * sd + b0)) m m') := by
  unfold F_X12_term
  rw [h27, bI_n _ 72 _ (show 54 * sd + b0 < 108 by omega) (by omega), bind_s, hC.1]
  have f1 : Fr (fun k j => k = 72 ∧ j = 54 * sd + b0) m (tI m 72 (54 * sd + b0) (nI (420 * sd + C.length))) := Fr.rf.tI _ (by omega)
  have a1 : hI (tI m 72 (54 * sd + b0) (nI (420 * sd + C.length))) 72 (54 * sd + b0) = nI (420 * sd + C.length) := by rw [hI_tI, if_pos ⟨rfl, rfl⟩]
  generalize tI m 72 (54 * sd + b0) (nI (420 * sd + C.length)) = m1 at f1 a1 ⊢
  have hB1 := hB.fr f1 (fun k j z => by omega)
  have hC1 := hC.fr f1 (fun k j z => by omega)
  rw [if_pos hB1.1]
  obtain ⟨o1, o2⟩ := m_expr hsd hB1 hC1 (by rw [f1.I _ _ (by omega)]; exact h12) hl
  refine ⟨fun j L h => ?_, fun f t h => ?_⟩
  · obtain ⟨m2, e2, b2, c2, z2, f2⟩ := o1 j L h
    obtain ⟨m3, e3, a3, d3, f3⟩ := m_term24 (m := m2) hsd hb (by rw [f2.I _ _ (by omega), f1.I _ _ (by omega)]; exact h27)
    rw [e2, bind_s, e3]
    refine ⟨m3, rfl, b2.fr f3 (fun k j z => by omega), c2.fr f3 (fun k j z => by omega), by rw [f3.I _ _ (by omega)]; exact z2, d3, by rw [f3.I _ _ (by omega), f2.I _ _ (by omega)]; exact a1, ?_, ((f1.mono (fun k j z => by omega)).tr (f2.mono (fun k j z => Or.inl z))).tr (f3.mono (fun k j z => by omega))⟩
    rw [a3, c2.1, List.length_append, Nat.add_assoc]
  · obtain ⟨m2, e2, b2, f2⟩ := o2 f t h
    obtain ⟨m3, e3, a3, d3, f3⟩ := m_term24 (m := m2) hsd hb (by rw [f2.I _ _ (by omega), f1.I _ _ (by omega)]; exact h27)
    rw [e2, bind_s, e3]
    exact ⟨m3, rfl, b2.fr f3 (fun k j z => by omega), d3, ((f1.mono (fun k j z => by omega)).tr (f2.mono (fun k j z => Or.inl z))).tr (f3.mono (fun k j z => by omega))⟩
end KY
