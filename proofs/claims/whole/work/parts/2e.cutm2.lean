/-! ===== the reference's tokens ===== -/
section KE2
variable {m : M2} {By : Nat → Nat} {n : Nat}
theorem m_sign {c d T : Nat} {x1 : Int32} (hc : c < 256) (hd : d < 256) (hT : hI m 56 10 = nI T) (h : T < 403) : ∃ m', F_X12_sign x1 (nI c) (nI d) m = some (nI (if sg2 c d = 0 then 1 else 2), m') ∧ hI m' 59 T = nI (mkd (sgK c d)) ∧ hI m' 60 T = x1 ∧ hI m' 56 10 = nI (T + 1) ∧ Fr (fun k j => (59 ≤ k ∧ k ≤ 62 ∧ j = T) ∨ (k = 56 ∧ j = 10)) m m' := by
  have t1 : ∀ k, k < 40 → ∃ m', f_X12_sign_186 x1 0 (nI k) m = some (nI 1, m') ∧ hI m' 59 T = nI k ∧ hI m' 60 T = x1 ∧ hI m' 56 10 = nI (T + 1) ∧ Fr (fun k j => (59 ≤ k ∧ k ≤ 62 ∧ j = T) ∨ (k = 56 ∧ j = 10)) m m' := by
    intro k hk
    unfold f_X12_sign_186
    obtain ⟨m1, e1, a1, a2, a3, a4, a5, f1⟩ := m_token (k := nI k) (p := x1) (v := 0) (nm := 0) hT h
    rw [e1, bind_s]
    exact ⟨m1, rfl, a1, a2, a5, f1⟩
  have t2 : ∀ k, 0 < k → k < 40 → ∃ m', f_X12_sign_44 x1 (nI c) (nI k) m = some (nI 2, m') ∧ hI m' 59 T = nI k ∧ hI m' 60 T = x1 ∧ hI m' 56 10 = nI (T + 1) ∧ Fr (fun k j => (59 ≤ k ∧ k ≤ 62 ∧ j = T) ∨ (k = 56 ∧ j = 10)) m m' := by
    intro k h0 hk
    unfold f_X12_sign_44
    rw [if_neg (nI_nle h0 (by omega))]
    unfold f_X12_sign_186
    obtain ⟨m1, e1, a1, a2, a3, a4, a5, f1⟩ := m_token (k := nI k) (p := x1) (v := 0) (nm := 0) hT h
    rw [e1, bind_s, if_neg (nI_nle h0 (by omega))]
    exact ⟨m1, rfl, a1, a2, a5, f1⟩
  have tab : ∃ k, k < 40 ∧ k = mkd (sgT c) ∧ f_X12_sign_44 x1 (nI c) 0 m = f_X12_sign_186 x1 0 (nI k) m := by
    unfold f_X12_sign_44
    have E : ∀ d : Nat, d < 256 → (nI c = nI d ↔ c = d) := fun d hd => nI_eq (by omega) (by omega)
    rw [if_pos (by decide), show (40 : Int32) = nI 40 from rfl, show (41 : Int32) = nI 41 from rfl, show (42 : Int32) = nI 42 from rfl, show (43 : Int32) = nI 43 from rfl, show (44 : Int32) = nI 44 from rfl, show (45 : Int32) = nI 45 from rfl, show (47 : Int32) = nI 47 from rfl, show (59 : Int32) = nI 59 from rfl, show (60 : Int32) = nI 60 from rfl, show (61 : Int32) = nI 61 from rfl]
    simp only [E 40 (by omega), E 41 (by omega), E 42 (by omega), E 43 (by omega), E 44 (by omega), E 45 (by omega), E 47 (by omega), E 59 (by omega), E 60 (by omega), E 61 (by omega)]
    by_cases q1 : c = 59
    · subst q1; exact ⟨4, by omega, rfl, rfl⟩
    by_cases q2 : c = 40
    · subst q2; exact ⟨6, by omega, rfl, rfl⟩
    by_cases q3 : c = 41
    · subst q3; exact ⟨7, by omega, rfl, rfl⟩
    by_cases q4 : c = 43
    · subst q4; exact ⟨8, by omega, rfl, rfl⟩
    by_cases q5 : c = 45
    · subst q5; exact ⟨9, by omega, rfl, rfl⟩
    by_cases q6 : c = 42
    · subst q6; exact ⟨10, by omega, rfl, rfl⟩
    by_cases q7 : c = 60
    · subst q7; exact ⟨13, by omega, rfl, rfl⟩
    by_cases q8 : c = 47
    · subst q8; exact ⟨15, by omega, rfl, rfl⟩
    by_cases q9 : c = 44
    · subst q9; exact ⟨16, by omega, rfl, rfl⟩
    by_cases q10 : c = 61
    · subst q10; exact ⟨5, by omega, rfl, rfl⟩
    refine ⟨3, by omega, ?_, ?_⟩
    · unfold sgT
      rw [if_neg q1, if_neg q10, if_neg q9, if_neg q4, if_neg q5, if_neg q6, if_neg q8, if_neg q7, if_neg q2, if_neg q3]
      rfl
    · rw [if_neg q1, if_neg q2, if_neg q3, if_neg q4, if_neg q5, if_neg q6, if_neg q7, if_neg q8, if_neg q9, if_neg q10]
      rfl
  have fin0 : sg2 c d = 0 → ∃ m', f_X12_sign_44 x1 (nI c) 0 m = some (nI (if sg2 c d = 0 then 1 else 2), m') ∧ hI m' 59 T = nI (mkd (sgK c d)) ∧ hI m' 60 T = x1 ∧ hI m' 56 10 = nI (T + 1) ∧ Fr (fun k j => (59 ≤ k ∧ k ≤ 62 ∧ j = T) ∨ (k = 56 ∧ j = 10)) m m' := by
    intro z
    obtain ⟨k, k1, k2, k3⟩ := tab
    unfold sgK
    rw [if_pos z, if_pos z, k3, ← k2]
    exact t1 k k1
  have fin2 : ∀ k, 0 < k → k < 15 → mkd k = k → sg2 c d = k → ∃ m', f_X12_sign_44 x1 (nI c) (nI k) m = some (nI (if sg2 c d = 0 then 1 else 2), m') ∧ hI m' 59 T = nI (mkd (sgK c d)) ∧ hI m' 60 T = x1 ∧ hI m' 56 10 = nI (T + 1) ∧ Fr (fun k j => (59 ≤ k ∧ k ≤ 62 ∧ j = T) ∨ (k = 56 ∧ j = 10)) m m' := by
    intro k h0 hk hm z
    unfold sgK
    rw [z, if_neg (by omega), if_neg (by omega), hm]
    exact t2 k h0 (by omega)
  unfold F_X12_sign
  by_cases q : d = 61
  · rw [if_pos (by rw [q]; rfl)]
    by_cases q1 : c = 61
    · rw [if_pos (by rw [q1]; rfl)]
      exact fin2 11 (by omega) (by omega) rfl (by unfold sg2; rw [if_pos q, if_pos q1])
    · rw [if_neg (show ¬ nI c = 61 from eq_nI (d := 61) (by omega) (by omega) q1)]
      by_cases q2 : c = 33
      · rw [if_pos (by rw [q2]; rfl)]
        exact fin2 12 (by omega) (by omega) rfl (by unfold sg2; rw [if_pos q, if_neg q1, if_pos q2])
      · rw [if_neg (show ¬ nI c = 33 from eq_nI (d := 33) (by omega) (by omega) q2)]
        by_cases q3 : c = 60
        · rw [if_pos (by rw [q3]; rfl)]
          exact fin2 14 (by omega) (by omega) rfl (by unfold sg2; rw [if_pos q, if_neg q1, if_neg q2, if_pos q3])
        · rw [if_neg (show ¬ nI c = 60 from eq_nI (d := 60) (by omega) (by omega) q3)]
          exact fin0 (by unfold sg2; rw [if_pos q, if_neg q1, if_neg q2, if_neg q3])
  · rw [if_neg (show ¬ nI d = 61 from eq_nI (d := 61) (by omega) (by omega) q)]
    exact fin0 (by unfold sg2; rw [if_neg q])
/-- the reference's tokens stand as they must -/
def TkM (m : M2) (By : Nat → Nat) (n T : Nat) : Prop := ∀ t, t < T → hI m 59 t = nI (mkd (tk By n t)) ∧ hI m 60 t = nI (tp By n t) ∧ (tk By n t = 3 → hI m 61 t = nI (vI By n t)) ∧ (tk By n t = 2 → hJ m 62 t = lN (v27 By n t))
abbrev SCm : Nat → Nat → Prop := fun k j => (59 ≤ k ∧ k ≤ 62) ∨ (k = 56 ∧ j = 10)
theorem TkM.nx {m' : M2} {T : Nat} (h : TkM m By n T) (hf : Fr (fun k j => (59 ≤ k ∧ k ≤ 62 ∧ j = T) ∨ (k = 56 ∧ j = 10)) m m') (h1 : hI m' 59 T = nI (mkd (tk By n T))) (h2 : hI m' 60 T = nI (tp By n T)) (h3 : tk By n T = 3 → hI m' 61 T = nI (vI By n T)) (h4 : tk By n T = 2 → hJ m' 62 T = lN (v27 By n T)) : TkM m' By n (T + 1) := by
  intro t ht
  by_cases e : t = T
  · subst e
    exact ⟨h1, h2, h3, h4⟩
  · rw [hf.I _ _ (by omega), hf.I _ _ (by omega), hf.I _ _ (by omega), hf.J _ _ (by omega)]
    exact h t (by omega)
theorem m_cut (h : BM m By n) : ∃ m', F_X12_cut m = some m' ∧ TkM m' By n (te By n + 1) ∧ Fr SCm m m' := by
  have hn := h.2.1
  have hte := te_le By n
  unfold F_X12_cut
  rw [qI_e, bind_s]
  have f0 : Fr SCm m (tI m 56 10 0) := Fr.rf.tI _ (by omega)
  have a0 : hI (tI m 56 10 0) 56 10 = nI 0 := by rw [hI_tI, if_pos ⟨rfl, rfl⟩]; rfl
  generalize tI m 56 10 0 = m0 at f0 a0 ⊢
  have key : ∃ e, loop g_X12_cut_7 ((0 : Int32), m0) = some e ∧ ∃ m' T, hI m' 56 10 = nI T ∧ T ≤ 401 ∧ TkM m' By n T ∧ Fr SCm m m' ∧ ((e = Sum.inl m' ∧ tp By n T = n) ∨ (e = Sum.inr m' ∧ T = 401)) := by
    refine loop_wf (fun z => ∃ i T, i ≤ n ∧ z.1 = nI i ∧ hI z.2 56 10 = nI T ∧ T ≤ 401 ∧ skp By n i = tp By n T ∧ TkM z.2 By n T ∧ Fr SCm m z.2) (fun z => n - z.1.toNatClampNeg) _ ?_ (s := ((0 : Int32), m0)) ⟨0, 0, by omega, rfl, a0, by omega, rfl, fun t ht => by omega, f0⟩ (by omega)
    rintro ⟨x, m1⟩ ⟨i, T, hi, i1, i2, hT, i3, i4, i5⟩
    dsimp only at i1 i2 i4 i5
    subst i1
    show (∃ s', f_X12_cut_7 (nI i) m1 = some (Sum.inl s') ∧ _) ∨ ∃ e, f_X12_cut_7 (nI i) m1 = some (Sum.inr e) ∧ _
    have h1 := h.fr i5 (fun k j z => by omega)
    unfold f_X12_cut_7
    rw [show (400 : Int32) = nI 400 from rfl, i2]
    by_cases hT4 : 400 < T
    · right
      rw [if_pos (nI_lt hT4 (by omega))]
      exact ⟨_, rfl, m1, T, i2, hT, i4, i5, Or.inr ⟨rfl, by omega⟩⟩
    rw [if_neg (fun z => absurd (nI_le (show T ≤ 400 by omega) (by omega)) (lt_nle z)), m_byte h1 (by omega), bind_s]
    dsimp only
    rw [h1.1]
    by_cases q : i < n
    · left
      have hc := h.2.2.2.1 i
      have adv : ∀ k m2, 1 ≤ k → i + k ≤ n → (∃ i' T', i' ≤ n ∧ nI (i + k) = nI i' ∧ hI m2 56 10 = nI T' ∧ T' ≤ 401 ∧ skp By n i' = tp By n T' ∧ TkM m2 By n T' ∧ Fr SCm m m2) → ∃ s', f_X12_cut_291 (nI (i + k)) m2 = some (Sum.inl s') ∧ (∃ i' T', i' ≤ n ∧ s'.1 = nI i' ∧ hI s'.2 56 10 = nI T' ∧ T' ≤ 401 ∧ skp By n i' = tp By n T' ∧ TkM s'.2 By n T' ∧ Fr SCm m s'.2) ∧ n - s'.1.toNatClampNeg < n - (nI i).toNatClampNeg := by
        intro k m2 h1 h2 h3
        refine ⟨_, rfl, h3, ?_⟩
        show n - (nI (i + k)).toNatClampNeg < n - (nI i).toNatClampNeg
        rw [nI_clamp (by omega), nI_clamp (by omega)]
        omega
      rw [if_pos (nI_lt q (by omega)), nx_t q, show (9 : Int32) = nI 9 from rfl, show (10 : Int32) = nI 10 from rfl, show (13 : Int32) = nI 13 from rfl, show (32 : Int32) = nI 32 from rfl]
      by_cases hb : isBl (By i) = true
      · have blank : ∃ s', f_X12_cut_67 (nI i) m1 = some (Sum.inl s') ∧ (∃ i' T', i' ≤ n ∧ s'.1 = nI i' ∧ hI s'.2 56 10 = nI T' ∧ T' ≤ 401 ∧ skp By n i' = tp By n T' ∧ TkM s'.2 By n T' ∧ Fr SCm m s'.2) ∧ n - s'.1.toNatClampNeg < n - (nI i).toNatClampNeg := by
          unfold f_X12_cut_67
          rw [nmI_e, bind_s, nI_1]
          exact adv 1 m1 (by omega) (by omega) ⟨i + 1, T, by omega, rfl, i2, hT, by rw [← skp_1 q hb]; exact i3, i4, i5⟩
        have := of_decide_eq_true hb
        by_cases b1 : By i = 9
        · rw [if_pos (by rw [b1])]; exact blank
        rw [if_neg (eq_nI (by omega) (by omega) b1)]
        by_cases b2 : By i = 10
        · rw [if_pos (by rw [b2])]; exact blank
        rw [if_neg (eq_nI (by omega) (by omega) b2)]
        by_cases b3 : By i = 13
        · rw [if_pos (by rw [b3])]; exact blank
        rw [if_neg (eq_nI (by omega) (by omega) b3), if_pos (by rw [show By i = 32 by omega])]
        exact blank
      · have hb' : isBl (By i) = false := Bool.eq_false_iff.mpr hb
        have hnb := of_decide_eq_false hb'
        rw [skp_0 q hb'] at i3
        rw [if_neg (eq_nI (by omega) (by omega) (by omega)), if_neg (eq_nI (by omega) (by omega) (by omega)), if_neg (eq_nI (by omega) (by omega) (by omega)), if_neg (eq_nI (by omega) (by omega) (by omega)), m_isLt hc, bind_s]
        dsimp only
        have hln := lexN_b (By := By) q
        have etk : tk By n T = lexK By n i := by unfold tk; rw [← i3]
        have nxt : ∀ k m2, k = lexN By n i → hI m2 56 10 = nI (T + 1) → TkM m2 By n (T + 1) → Fr SCm m m2 → ∃ s', f_X12_cut_291 (nI (i + k)) m2 = some (Sum.inl s') ∧ (∃ i' T', i' ≤ n ∧ s'.1 = nI i' ∧ hI s'.2 56 10 = nI T' ∧ T' ≤ 401 ∧ skp By n i' = tp By n T' ∧ TkM s'.2 By n T' ∧ Fr SCm m s'.2) ∧ n - s'.1.toNatClampNeg < n - (nI i).toNatClampNeg := by
          rintro k m2 rfl a b c
          exact adv _ m2 hln.1 hln.2 ⟨_, T + 1, hln.2, rfl, a, by omega, by show _ = skp By n (tp By n T + lexN By n (tp By n T)); rw [← i3], b, c⟩
        by_cases q1 : isLt (By i) = true
        · have eK : lexK By n i = (if 8 < rl isLt By n i then 1 else kN (vB 32 (ltr By i) (rl isLt By n i))) := by unfold lexK; rw [if_neg (show ¬ n ≤ i by omega), if_pos q1]
          have eN : lexN By n i = rl isLt By n i := by unfold lexN; rw [if_pos q1]
          have hkn := kN_lt (vB 32 (ltr By i) (rl isLt By n i))
          rw [b1_1 q1, if_neg (by decide), m_letters h1 q, bind_s]
          dsimp only
          rw [lit_8]
          have put : ∀ kd : Nat, kd = mkd (lexK By n i) → ∃ s', f_X12_cut_179 (nI i) (nI (rl isLt By n i)) (lN (vB 27 (ltr By i) (min (rl isLt By n i) 8))) (nI kd) m1 = some (Sum.inl s') ∧ (∃ i' T', i' ≤ n ∧ s'.1 = nI i' ∧ hI s'.2 56 10 = nI T' ∧ T' ≤ 401 ∧ skp By n i' = tp By n T' ∧ TkM s'.2 By n T' ∧ Fr SCm m s'.2) ∧ n - s'.1.toNatClampNeg < n - (nI i).toNatClampNeg := by
            intro kd hkd
            unfold f_X12_cut_179
            obtain ⟨m2, e2, a1, a2, a3, a4, a5, f2⟩ := m_token (m := m1) (k := nI kd) (p := nI i) (v := 0) (nm := lN (vB 27 (ltr By i) (min (rl isLt By n i) 8))) i2 (by omega)
            rw [e2, bind_s, nI_add, nmI_e, bind_s]
            refine nxt _ m2 eN.symm a5 (i4.nx f2 (by rw [etk, ← hkd]; exact a1) (by rw [← i3]; exact a2) (fun z => ?_) (fun z => ?_)) (i5.tr (f2.mono (fun k j z => by omega)))
            · exfalso
              rw [etk, eK] at z
              by_cases h8 : 8 < rl isLt By n i
              · rw [if_pos h8] at z; omega
              · rw [if_neg h8] at z
                unfold kN at z
                split at z <;> omega
            · rw [etk, eK] at z
              by_cases h8 : 8 < rl isLt By n i
              · rw [if_pos h8] at z; omega
              · rw [a4, show min (rl isLt By n i) 8 = rl isLt By n i by omega]
                unfold v27
                rw [← i3]
          by_cases h8 : rl isLt By n i ≤ 8
          · rw [if_pos (nI_le h8 (by omega))]
            unfold f_X12_cut_135
            rw [lit_7]
            by_cases h7 : 7 < rl isLt By n i
            · rw [if_pos (nI_lt h7 (by omega))]
              refine put 1 ?_
              rw [eK, if_neg (by omega), kN_n (fun w hw z => by
                have a := (vB_inj (fun j hj => by have := (kw_ok w hw).2.2 j (by have := (kw_ok w hw).2.1; omega); omega) (fun j hj => by have := ltr_ok (By := By) (n := n) (i := i) (j := j) hj; omega) z).1
                have := (kw_ok w hw).2.1
                omega)]
              rfl
            · rw [if_neg (fun z => absurd (nI_le (show rl isLt By n i ≤ 7 by omega) (by omega)) (lt_nle z)), show min (rl isLt By n i) 8 = rl isLt By n i by omega, m_keys h1 (by omega), bind_s]
              rw [show min (rl isLt By n i) 8 = rl isLt By n i by omega] at put
              refine put _ ?_
              rw [eK, if_neg (by omega)]
          · rw [if_neg (nI_ge (by omega) (by omega))]
            unfold f_X12_cut_135
            rw [lit_7, if_pos (nI_lt (by omega) (by omega))]
            refine put 3 ?_
            rw [eK, if_pos (by omega)]
            rfl
        · rw [b1_f (Bool.eq_false_iff.mpr q1), if_pos rfl, m_isDi hc, bind_s]
          dsimp only
          by_cases q2 : isDi (By i) = true
          · have eK : lexK By n i = (if 4 < rl isDi By n i then 1 else 3) := by unfold lexK; rw [if_neg (show ¬ n ≤ i by omega), if_neg q1, if_pos q2]
            have eN : lexN By n i = rl isDi By n i := by unfold lexN; rw [if_neg q1, if_pos q2]
            rw [b1_1 q2, if_neg (by decide), m_digs h1 q, bind_s]
            dsimp only
            rw [lit_4]
            have put : ∀ kd : Nat, kd = mkd (lexK By n i) → ∃ s', f_X12_cut_261 (nI i) (nI (rl isDi By n i)) (nI (vB 10 (dgr By i) (min (rl isDi By n i) 4))) (nI kd) m1 = some (Sum.inl s') ∧ (∃ i' T', i' ≤ n ∧ s'.1 = nI i' ∧ hI s'.2 56 10 = nI T' ∧ T' ≤ 401 ∧ skp By n i' = tp By n T' ∧ TkM s'.2 By n T' ∧ Fr SCm m s'.2) ∧ n - s'.1.toNatClampNeg < n - (nI i).toNatClampNeg := by
              intro kd hkd
              unfold f_X12_cut_261
              obtain ⟨m2, e2, a1, a2, a3, a4, a5, f2⟩ := m_token (m := m1) (k := nI kd) (p := nI i) (v := nI (vB 10 (dgr By i) (min (rl isDi By n i) 4))) (nm := 0) i2 (by omega)
              rw [e2, bind_s, nI_add, nmI_e, bind_s]
              refine nxt _ m2 eN.symm a5 (i4.nx f2 (by rw [etk, ← hkd]; exact a1) (by rw [← i3]; exact a2) (fun z => ?_) (fun z => ?_)) (i5.tr (f2.mono (fun k j z => by omega)))
              · rw [etk, eK] at z
                by_cases h8 : 4 < rl isDi By n i
                · rw [if_pos h8] at z; omega
                · rw [a3, show min (rl isDi By n i) 4 = rl isDi By n i by omega]
                  unfold vI
                  rw [← i3]
              · exfalso
                rw [etk, eK] at z
                split at z <;> omega
            by_cases h8 : rl isDi By n i ≤ 4
            · rw [if_pos (nI_le h8 (by omega))]
              refine put 2 ?_
              rw [eK, if_neg (by omega)]
              rfl
            · rw [if_neg (nI_ge (by omega) (by omega))]
              refine put 3 ?_
              rw [eK, if_pos (by omega)]
              rfl
          · have eK : lexK By n i = sgK (By i) (nxB By n (i + 1)) := by unfold lexK; rw [if_neg (show ¬ n ≤ i by omega), if_neg q1, if_neg q2]
            have eN : lexN By n i = (if sg2 (By i) (nxB By n (i + 1)) = 0 then 1 else 2) := by unfold lexN; rw [if_neg q1, if_neg q2]
            have hk := sgK_lt (By i) (nxB By n (i + 1))
            rw [b1_f (Bool.eq_false_iff.mpr q2), if_pos rfl, nI_1, m_byte h1 (by omega), bind_s]
            dsimp only
            obtain ⟨m2, e2, a1, a2, a5, f2⟩ := m_sign (m := m1) (x1 := nI i) hc (nxB_lt h1 (i + 1)) i2 (by omega)
            rw [e2, bind_s]
            dsimp only
            rw [nI_add, nmI_e, bind_s]
            exact nxt _ m2 eN.symm a5 (i4.nx f2 (by rw [etk, eK]; exact a1) (by rw [← i3]; exact a2) (fun z => by rw [etk, eK] at z; omega) (fun z => by rw [etk, eK] at z; omega)) (i5.tr (f2.mono (fun k j z => by omega)))
    · right
      have ei : i = n := by omega
      rw [if_neg (fun z => absurd (nI_le (show n ≤ i by omega) (by omega)) (lt_nle z))]
      refine ⟨_, rfl, m1, T, i2, hT, i4, i5, Or.inl ⟨rfl, ?_⟩⟩
      rw [← i3, ei]
      exact skp_n
  obtain ⟨e, e1, m1, T, a1, a2, a3, a4, r⟩ := key
  rw [e1, bind_s]
  rcases r with ⟨rfl, r⟩ | ⟨rfl, r⟩
  · have h1 := h.fr a4 (fun k j z => by omega)
    have ek : tk By n T = 0 := by
      unfold tk lexK
      rw [r, if_pos (Nat.le_refl _)]
    obtain ⟨m2, e2, b1, b2, b3, b4, b5, f2⟩ := m_token (m := m1) (k := 0) (p := nI n) (v := 0) (nm := 0) a1 (by omega)
    have hT2 : TkM m2 By n (T + 1) := a3.nx f2 (by rw [ek]; exact b1) (by rw [r]; exact b2) (fun z => by omega) (fun z => by omega)
    have hle : te By n ≤ T := by
      apply Classical.byContradiction
      intro z
      have := te_b (By := By) (n := n) (t := T) (by omega)
      omega
    dsimp only [Sum.elim]
    rw [h1.1, e2, bind_s]
    exact ⟨m2, rfl, fun t ht => hT2 t (by omega), a4.tr (f2.mono (fun k j z => by omega))⟩
  · exact ⟨m1, rfl, fun t ht => a3 t (by omega), a4⟩
end KE2
