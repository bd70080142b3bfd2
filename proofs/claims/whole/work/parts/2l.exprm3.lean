/-! ===== the reference reads expressions: the whole ===== -/
section KL2
variable {m : M2} {By : Nat → Nat} {n sd : Nat} {c0 : Cf} {m0 : M2}
def vrI (x : Int32) : Int32 := if x = 26 then 3 else if x = 27 then 5 else if x = 28 then -1 else if x = 29 then -1 else if x = 30 then -1 else if x = 31 then -1 else if x = 32 then 0 else if x = 33 then 1 else if x = 34 then 2 else if x = 35 then 4 else -1
theorem vr_m (x : Int32) : F_X12_variableOf x m = some (vrI x, m) := by
  unfold F_X12_variableOf vrI
  repeat' split
  all_goals rfl
theorem vr_k : ∀ k, k < 34 → vrI (nI (mkd k)) = if 28 ≤ k ∧ k ≤ 33 then nI (k - 28) else -1 := by decide +kernel
theorem m_unit {i0 : Nat} (hsd : sd < 2) {i o : Nat} {W : List Nat} {C : List Op} (hi0 : i0 ≤ i) (hS : MSt m By n sd i W C o) (hR : Rch (tk By n) (vI By n) c0 (cO i W C o)) (hF : Fr (SXm sd) m0 m) (k15 : ¬ tk By n i = 15) (k27 : ¬ tk By n i = 27) : ∃ m', F_X12_unit m = some m' ∧ (OU (tk By n) (vI By n) c0 m0 m' By n sd (i0 + 1) ∨ OF (tk By n) (vI By n) c0 m0 m' By n sd) := by
  have hte := te_le By n
  obtain ⟨hB, h12, hW, hC, ho, hSh, hlen⟩ := hS
  have hi := hB.2.2.1
  have hWl := hSh.len
  have st : Rch (tk By n) (vI By n) c0 (mOp (tk By n) (vI By n) i W C o) := hR.tr (Rch.st rfl)
  unfold mOp at st
  rw [if_neg k27, if_neg k15] at st
  have go : ∀ (op : Op) (m1 : M2), CdM m1 sd (C ++ [op]) → Fr (SEc sd) m m1 → 2 ≤ tk By n i → (i < 400 → Rch (tk By n) (vI By n) c0 (cU (i + 1) W (C ++ [op]) o)) → (¬ i < 400 → Rch (tk By n) (vI By n) c0 (.inr (.inr (2, i)))) → ∃ m', F_X12_goesOn m1 = some m' ∧ (OU (tk By n) (vI By n) c0 m0 m' By n sd (i0 + 1) ∨ OF (tk By n) (vI By n) c0 m0 m' By n sd) := by
    intro op m1 hC1 f1 hk r1 r2
    have hB1 := hB.fr f1 (fun k j z => by omega)
    have hF1 : Fr (SXm sd) m0 m1 := hF.tr (f1.mono (fun k j z => by omega))
    obtain ⟨g1, g2⟩ := m_goesOn hB1 hk
    by_cases h4 : i < 400
    · obtain ⟨m2, e2, b2, f2⟩ := g1 h4
      refine ⟨m2, e2, Or.inl ⟨i + 1, W, C ++ [op], o, by omega, ⟨b2, ?_, (hW.fr f1 (fun k j z => by omega)).fr f2 (fun k j z => by omega), hC1.fr f2 (fun k j z => by omega), ho, hSh, by rw [List.length_append, List.length_singleton]; omega⟩, r1 h4, hF1.tr (f2.mono (fun k j z => by omega))⟩⟩
      rw [f2.I _ _ (by omega), f1.I _ _ (by omega)]; exact h12
    · obtain ⟨m2, e2, t2, f2⟩ := g2 h4
      exact ⟨m2, e2, Or.inr ⟨2, i, t2, r2 h4, hF1.tr (f2.mono (fun k j z => by omega))⟩⟩
  unfold F_X12_unit
  rw [if_pos hB.le, show (2 : Int32) = nI (mkd 3) from rfl, m_is hB (by omega), bind_s]
  dsimp only
  have bs : ∀ r : Option M2, (r.bind fun c => some c) = r := fun r => by cases r <;> rfl
  by_cases k3 : tk By n i = 3
  · rw [decide_eq_true k3, b1_1 rfl, if_neg (by decide), hB.2.1, aI_n _ 61 (show i < 403 by omega) (by omega), bind_s, (hB.2.2.2 i (by omega)).2.2.1 k3]
    obtain ⟨m1, e1, c1, f1⟩ := m_emit (o := (3, vI By n i)) hsd hC (by omega)
    rw [show (0 : Int32) = nI (mo1 (3, vI By n i)) from rfl, show nI (vI By n i) = nI (mo2 (3, vI By n i)) from rfl, e1, bind_s, bs]
    rw [if_pos k3] at st
    exact go _ m1 c1 f1 (by omega) (fun z => by rw [if_pos z] at st; exact st) (fun z => by rw [if_neg z] at st; exact st)
  · rw [decide_eq_false k3, b1_f rfl, if_pos rfl, hB.2.1, aI_n _ 59 (show i < 403 by omega) (by omega), bind_s, hB.kd, vr_m, bind_s]
    dsimp only
    rw [vr_k _ (tk_lt i)]
    rw [if_neg k3] at st
    by_cases kv : 28 ≤ tk By n i ∧ tk By n i ≤ 33
    · rw [if_pos kv, if_pos (nI_0le (by omega))]
      rw [if_pos kv] at st
      unfold f_X12_unit_57
      obtain ⟨m1, e1, c1, f1⟩ := m_emit (o := (tk By n i, 0)) hsd hC (by omega)
      have a1 : mo1 (tk By n i, 0) = 1 := by unfold mo1; rw [if_neg (show ¬ tk By n i = 3 from k3), if_pos (show 28 ≤ tk By n i from kv.1)]
      have a2 : mo2 (tk By n i, 0) = tk By n i - 28 := by unfold mo2; rw [if_neg (show ¬ tk By n i = 3 from k3), if_pos (show 28 ≤ tk By n i from kv.1)]
      rw [a1, a2] at e1
      rw [if_pos hB.le, lit_1, e1, bind_s, bs]
      exact go _ m1 c1 f1 (by omega) (fun z => by rw [if_pos z] at st; exact st) (fun z => by rw [if_neg z] at st; exact st)
    · rw [if_neg kv, if_neg (by decide)]
      rw [if_neg kv] at st
      obtain ⟨m1, e1, t1, f1⟩ := m_fail hB (f := 1) (by omega)
      rw [lit_1, e1, bind_s]
      unfold f_X12_unit_57
      rw [if_neg t1.nl]
      exact ⟨m1, rfl, Or.inr ⟨1, i, t1, st, hF.tr (f1.mono (fun k j z => by omega))⟩⟩
theorem Sh.wall {o : Nat} {W : List Nat} (h : Sh (o + 1) W) (C : List Op) : ∃ w W' C', co false W C = (w :: W', C') ∧ wll w = true ∧ Sh o W' ∧ C'.length + W'.length + 1 = C.length + W.length := by
  obtain ⟨s, w, W', h1, h2, h3, rfl⟩ := h
  refine ⟨w, W', _, h1.cf (Or.inr ⟨w, W', rfl, h2⟩) C, h2, h3, ?_⟩
  rw [List.length_append, List.length_append, List.length_map, List.length_cons]
  omega
theorem m_closes {i0 : Nat} (hsd : sd < 2) (h : OU (tk By n) (vI By n) c0 m0 m By n sd i0) : ∃ m' v, F_X12_closesMany 0 m = some (v, m') ∧ ((v = 0 ∧ ∃ i W C o, i0 ≤ i ∧ MSt m' By n sd i W C o ∧ Rch (tk By n) (vI By n) c0 (cU i W C o) ∧ Fr (SXm sd) m0 m' ∧ ¬ (0 < o ∧ tk By n i = 6) ∧ ¬ (0 < o ∧ tk By n i = 16)) ∨ (v = 1 ∧ OO (tk By n) (vI By n) c0 m0 m' By n sd (i0 + 1)) ∨ OF (tk By n) (vI By n) c0 m0 m' By n sd) := by
  have hte := te_le By n
  unfold F_X12_closesMany
  have key : ∃ e, loop (g_X12_closesMany_0 0) m = some e ∧ ((∃ w i W C o m', e = Sum.inl (nI (mkd w), m') ∧ i0 ≤ i ∧ MBs m' By n i ∧ hI m' 56 12 = nI (o + 1) ∧ WtM m' (w :: W) ∧ CdM m' sd C ∧ o + 1 ≤ 6 ∧ wll w = true ∧ Sh o W ∧ C.length + W.length + 1 ≤ i ∧ tk By n i = 6 ∧ Fr (SXm sd) m0 m' ∧ (¬ w = 27 → Rch (tk By n) (vI By n) c0 (.inr (.inr (1, i)))) ∧ (w = 27 → i < 400 → Rch (tk By n) (vI By n) c0 (cO (i + 1) (6 :: W) C (o + 1))) ∧ (w = 27 → ¬ i < 400 → Rch (tk By n) (vI By n) c0 (.inr (.inr (2, i))))) ∨ (∃ m', e = Sum.inr (Sum.inl m') ∧ OF (tk By n) (vI By n) c0 m0 m' By n sd) ∨ (∃ m', e = Sum.inr (Sum.inr m') ∧ ((∃ i W C o, i0 ≤ i ∧ MSt m' By n sd i W C o ∧ Rch (tk By n) (vI By n) c0 (cU i W C o) ∧ Fr (SXm sd) m0 m' ∧ ¬ (0 < o ∧ tk By n i = 6) ∧ ¬ (0 < o ∧ tk By n i = 16)) ∨ OF (tk By n) (vI By n) c0 m0 m' By n sd))) := by
    refine loop_wf (fun z => OU (tk By n) (vI By n) c0 m0 z By n sd i0 ∨ OF (tk By n) (vI By n) c0 m0 z By n sd) mu1 _ ?_ (Or.inl h) (by unfold mu1; split <;> omega)
    rintro m1 (⟨i, W, C, o, hi0, hS, hR, hF⟩ | ⟨f, t, hT, hR, hF⟩)
    · have hS' := hS
      obtain ⟨hB, h12, hW, hC, ho, hSh, hlen⟩ := hS
      have hi := hB.2.2.1
      have hWl := hSh.len
      show (∃ s', f_X12_closesMany_0 0 m1 = some (Sum.inl s') ∧ _) ∨ ∃ e, f_X12_closesMany_0 0 m1 = some (Sum.inr e) ∧ _
      unfold f_X12_closesMany_0
      rw [mu1_o hB, if_pos hB.1, h12]
      by_cases o0 : o = 0
      · right
        rw [if_pos (by rw [o0]; decide)]
        exact ⟨_, rfl, Or.inr (Or.inr ⟨m1, rfl, Or.inl ⟨i, W, C, o, hi0, hS', hR, hF, by omega, by omega⟩⟩)⟩
      · obtain ⟨p, hp⟩ : ∃ p, o = p + 1 := ⟨o - 1, by omega⟩
        rw [if_neg (nI_nle (by omega) (by omega)), show (7 : Int32) = nI (mkd 16) from rfl, show (16 : Int32) = nI (mkd 6) from rfl, m_is hB (by omega), bind_s]
        dsimp only
        rw [hp] at hSh
        obtain ⟨w, W', C', hco, hwl, hSh', hlen'⟩ := hSh.wall C
        have hWl' := hSh'.len
        have st : Rch (tk By n) (vI By n) c0 (mUn (tk By n) i W C o) := hR.tr (Rch.st rfl)
        rw [mUn_w hco] at st
        have hw34 : w < 34 := by have := of_decide_eq_true hwl; omega
        obtain ⟨m2, e2, w2, c2, f2⟩ := m_comesOut (s := false) hsd hW hC hSh.ok (by omega) (by omega)
        rw [hco] at w2 c2
        dsimp only at w2 c2
        have hB2 := hB.fr f2 (fun k j z => by omega)
        have hF2 : Fr (SXm sd) m0 m2 := hF.tr (f2.mono (fun k j z => by omega))
        have hl2 : hI m2 56 54 = nI (W'.length + 1) := w2.1
        have body : tk By n i = 16 ∨ tk By n i = 6 → f_X12_closesMany_33 0 m1 = if bI1 (decide (tk By n i = 6)) = 0 then (if nI (mkd w) = (36 : Int32) then (F_X12_fail (1 : Int32) m2).bind fun c9 => f_X12_closesMany_109 0 (nI (mkd w)) c9 else f_X12_closesMany_109 0 (nI (mkd w)) m2) else some (Sum.inr (Sum.inl (nI (mkd w), m2))) := by
          intro _
          unfold f_X12_closesMany_33
          rw [show (0 : Int32) = bI1 false from rfl, e2, bind_s, hl2, nI_m1s (by omega), show W'.length + 1 - 1 = W'.length from rfl, aI_n _ 92 (show W'.length < 64 by omega) (by omega), bind_s, w2.2.1, show (16 : Int32) = nI (mkd 6) from rfl, m_is hB2 (by omega), bind_s]
        by_cases k16 : tk By n i = 16
        · rw [decide_eq_true k16, b1_1 rfl, if_neg (by decide), body (Or.inl k16), decide_eq_false (show ¬ tk By n i = 6 by omega), if_pos (show bI1 false = 0 from rfl), show (36 : Int32) = nI (mkd 27) from rfl]
          rw [if_neg (by omega), if_pos (by omega)] at st
          by_cases w27 : w = 27
          · right
            rw [if_pos w27] at st
            obtain ⟨m3, e3, t3, f3⟩ := m_fail hB2 (f := 1) (by omega)
            rw [if_pos (by rw [w27]), lit_1, e3, bind_s]
            unfold f_X12_closesMany_109
            rw [if_neg t3.nl]
            exact ⟨_, rfl, Or.inr (Or.inl ⟨m3, rfl, 1, i, t3, st, hF2.tr (f3.mono (fun k j z => by omega))⟩)⟩
          · left
            rw [if_neg w27] at st
            rw [if_neg (fun z => w27 ((mkd_eq hw34 (by omega)).mp z))]
            unfold f_X12_closesMany_109
            rw [if_pos hB2.le, show (16 : Int32) = nI (mkd 6) from rfl]
            have fin : ∀ (C2 : List Op) (m3 : M2), CdM m3 sd C2 → Fr (SEc sd) m2 m3 → C2.length + W'.length ≤ i → (i < 400 → Rch (tk By n) (vI By n) c0 (cU (i + 1) W' C2 p)) → (¬ i < 400 → Rch (tk By n) (vI By n) c0 (.inr (.inr (2, i)))) → ∃ s', f_X12_closesMany_131 0 m3 = some (Sum.inl s') ∧ (OU (tk By n) (vI By n) c0 m0 s' By n sd i0 ∨ OF (tk By n) (vI By n) c0 m0 s' By n sd) ∧ mu1 s' < 402 - i := by
              intro C2 m3 c3 f3 hl3 r1 r2
              unfold f_X12_closesMany_131
              have hl3' : hI m3 56 54 = nI (W'.length + 1) := by rw [f3.I _ _ (by omega)]; exact hl2
              rw [hl3', nI_m1s (by omega), show W'.length + 1 - 1 = W'.length from rfl, qI_e, bind_s, hI_tI, if_neg (by omega), f3.I 56 12 (by omega), f2.I 56 12 (by omega), h12, hp, nI_m1s (by omega), show p + 1 - 1 = p from rfl, qI_e, bind_s]
              have f4 : Fr (fun k j => k = 56 ∧ (j = 12 ∨ j = 54)) m3 (tI (tI m3 56 54 (nI W'.length)) 56 12 (nI p)) := (Fr.rf.tI _ (by omega)).tI _ (by omega)
              have hW4 : WtM (tI (tI m3 56 54 (nI W'.length)) 56 12 (nI p)) W' := ⟨by rw [hI_tI, if_neg (by omega), hI_tI, if_pos ⟨rfl, rfl⟩], (w2.2.2.fr f3 (fun j hj => by omega)).fr f4 (fun j hj => by omega)⟩
              have h124 : hI (tI (tI m3 56 54 (nI W'.length)) 56 12 (nI p)) 56 12 = nI p := by rw [hI_tI, if_pos ⟨rfl, rfl⟩]
              have hB4 := (hB2.fr f3 (fun k j z => by omega)).fr f4 (fun k j z => by omega)
              have c4 := c3.fr f4 (fun k j z => by omega)
              have hF4 : Fr (SXm sd) m0 (tI (tI m3 56 54 (nI W'.length)) 56 12 (nI p)) := (hF2.tr (f3.mono (fun k j z => by omega))).tr (f4.mono (fun k j z => by omega))
              generalize tI (tI m3 56 54 (nI W'.length)) 56 12 (nI p) = m4 at hW4 h124 hB4 c4 hF4 ⊢
              obtain ⟨g1, g2⟩ := m_goesOn hB4 (by omega)
              by_cases h4 : i < 400
              · obtain ⟨m5, e5, b5, f5⟩ := g1 h4
                rw [e5, bind_s]
                refine ⟨_, rfl, Or.inl ⟨i + 1, W', C2, p, by omega, ⟨b5, by rw [f5.I _ _ (by omega)]; exact h124, hW4.fr f5 (fun k j z => by omega), c4.fr f5 (fun k j z => by omega), by omega, hSh', by omega⟩, r1 h4, hF4.tr (f5.mono (fun k j z => by omega))⟩, ?_⟩
                rw [mu1_o b5]; omega
              · obtain ⟨m5, e5, t5, f5⟩ := g2 h4
                rw [e5, bind_s]
                refine ⟨_, rfl, Or.inr ⟨2, i, t5, r2 h4, hF4.tr (f5.mono (fun k j z => by omega))⟩, ?_⟩
                rw [mu1_f t5]; omega
            by_cases w6 : w = 6
            · rw [if_pos w6] at st
              obtain ⟨m3, e3, c3, f3⟩ := m_emit (o := (27, 0)) hsd c2 (by omega)
              rw [if_pos (by rw [w6]), show (6 : Int32) = nI (mo1 (27, 0)) from rfl, show F_X12_emit (nI (mo1 (27, 0))) 0 m2 = F_X12_emit (nI (mo1 (27, 0))) (nI (mo2 (27, 0))) m2 from rfl, e3, bind_s]
              refine fin _ m3 c3 f3 (by rw [List.length_append, List.length_singleton]; omega) (fun z => ?_) (fun z => ?_)
              · rw [if_pos z, hp] at st; exact st
              · rw [if_neg z] at st; exact st
            · rw [if_neg w6] at st
              rw [if_neg (fun z => w6 ((mkd_eq hw34 (by omega)).mp z))]
              refine fin _ m2 c2 Fr.rf (by omega) (fun z => ?_) (fun z => ?_)
              · rw [if_pos z, hp] at st; exact st
              · rw [if_neg z] at st; exact st
        · rw [decide_eq_false k16, b1_f rfl, if_pos rfl, m_is hB (by omega), bind_s]
          dsimp only
          right
          by_cases k6 : tk By n i = 6
          · rw [decide_eq_true k6, b1_1 rfl, if_neg (by decide), body (Or.inr k6), decide_eq_true k6, if_neg (show ¬ bI1 true = 0 by decide)]
            rw [if_pos (by omega)] at st
            refine ⟨_, rfl, Or.inl ⟨w, i, W', C', p, m2, rfl, hi0, hB2, by rw [f2.I _ _ (by omega), h12, hp], w2, c2, by omega, hwl, hSh', by omega, k6, hF2, fun z => ?_, fun z z2 => ?_, fun z z2 => ?_⟩⟩
            · rw [if_neg z] at st; exact st
            · rw [if_pos z, if_pos z2, hp] at st; exact st
            · rw [if_pos z, if_neg z2] at st; exact st
          · rw [decide_eq_false k6, b1_f rfl, if_pos rfl]
            exact ⟨_, rfl, Or.inr (Or.inr ⟨m1, rfl, Or.inl ⟨i, W, C, o, hi0, hS', hR, hF, fun z => k6 z.2, fun z => k16 z.2⟩⟩)⟩
    · right
      show ∃ e, f_X12_closesMany_0 0 m1 = some (Sum.inr e) ∧ _
      unfold f_X12_closesMany_0
      rw [if_neg hT.ne]
      exact ⟨_, rfl, Or.inr (Or.inr ⟨m1, rfl, Or.inr ⟨f, t, hT, hR, hF⟩⟩)⟩
  obtain ⟨e, e1, r⟩ := key
  rw [e1, bind_s]
  rcases r with ⟨w, i, W, C, o, m1, rfl, hi0, hB, h12, hW, hC, ho, hwl, hSh, hlen, k6, hF, r1, r2, r3⟩ | ⟨m1, rfl, r⟩ | ⟨m1, rfl, r⟩
  · have hi := hB.2.2.1
    have hWl := hSh.len
    have hw34 : w < 34 := by have := of_decide_eq_true hwl; omega
    dsimp only [Sum.elim]
    rw [show (36 : Int32) = nI (mkd 27) from rfl]
    by_cases w27 : w = 27
    · rw [if_pos (by rw [w27])]
      unfold f_X12_closesMany_70
      have hl : hI m1 56 54 = nI (W.length + 1) := hW.1
      rw [if_pos hB.le, hl, nI_m1s (by omega), show W.length + 1 - 1 = W.length from rfl, bI_n _ 92 _ (show W.length < 64 by omega) (by omega), bind_s]
      have f2 : Fr (fun k j => k = 92 ∧ j = W.length) m1 (tI m1 92 W.length 16) := Fr.rf.tI _ (by omega)
      have hW2 : WtM (tI m1 92 W.length 16) (6 :: W) := ⟨by rw [f2.I _ _ (by omega)]; exact hl, by rw [hI_tI, if_pos ⟨rfl, rfl⟩]; rfl, hW.2.2.fr f2 (fun j hj => by omega)⟩
      have hB2 := hB.fr f2 (fun k j z => by omega)
      have h122 : hI (tI m1 92 W.length 16) 56 12 = nI (o + 1) := by rw [f2.I _ _ (by omega)]; exact h12
      have hC2 := hC.fr f2 (fun k j z => by omega)
      have hF2 : Fr (SXm sd) m0 (tI m1 92 W.length 16) := hF.tr (f2.mono (fun k j z => by omega))
      generalize tI m1 92 W.length 16 = m2 at hW2 hB2 h122 hC2 hF2 ⊢
      obtain ⟨g1, g2⟩ := m_goesOn hB2 (by omega)
      by_cases h4 : i < 400
      · obtain ⟨m3, e3, b3, f3⟩ := g1 h4
        rw [e3, bind_s]
        exact ⟨m3, 1, rfl, Or.inr (Or.inl ⟨rfl, i + 1, 6 :: W, C, o + 1, by omega, ⟨b3, by rw [f3.I _ _ (by omega)]; exact h122, hW2.fr f3 (fun k j z => by omega), hC2.fr f3 (fun k j z => by omega), ho, ⟨[], 6, W, Or.inl rfl, rfl, hSh, rfl⟩, by rw [List.length_cons]; omega⟩, r2 w27 h4, hF2.tr (f3.mono (fun k j z => by omega))⟩)⟩
      · obtain ⟨m3, e3, t3, f3⟩ := g2 h4
        rw [e3, bind_s]
        exact ⟨m3, 1, rfl, Or.inr (Or.inr ⟨2, i, t3, r3 w27 h4, hF2.tr (f3.mono (fun k j z => by omega))⟩)⟩
    · obtain ⟨m2, e2, t2, f2⟩ := m_fail hB (f := 1) (by omega)
      rw [if_neg (fun z => w27 ((mkd_eq hw34 (by omega)).mp z)), lit_1, e2, bind_s]
      unfold f_X12_closesMany_70
      rw [if_neg t2.nl]
      exact ⟨m2, 0, rfl, Or.inr (Or.inr ⟨1, i, t2, r1 w27, hF.tr (f2.mono (fun k j z => by omega))⟩)⟩
  · exact ⟨m1, 0, rfl, Or.inr (Or.inr r)⟩
  · rcases r with r | r
    · exact ⟨m1, 0, rfl, Or.inl ⟨rfl, r⟩⟩
    · exact ⟨m1, 0, rfl, Or.inr (Or.inr r)⟩
end KL2
