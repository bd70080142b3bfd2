/-! ===== the reference reads a whole text ===== -/
section KM3
variable {m : M2} {By : Nat → Nat} {n sd : Nat}
theorem m_room {i w q a : Nat} (h : MBs m By n i) (hw : 2 ≤ w) (hk : tk By n i = w) (hq : q ≤ a) (ha : a < 20) : (q = a → ∃ m', F_X12_roomFor (nI q) (nI a) m = some m' ∧ MFt m' By n 2 i ∧ Fr S56 m m') ∧ (¬ q = a → (∃ m', F_X12_roomFor (nI q) (nI a) m = some m' ∧ MBs m' By n (i + 1) ∧ Fr S56 m m' ∧ i < 400) ∨ (∃ m', F_X12_roomFor (nI q) (nI a) m = some m' ∧ MFt m' By n 2 i ∧ Fr S56 m m' ∧ ∀ ws, sqk (tk By n) (w :: ws) i = .inr (2, i))) := by
  unfold F_X12_roomFor f_X12_roomFor_10 f_X12_roomFor_21
  refine ⟨fun e => ?_, fun e => ?_⟩
  · obtain ⟨m', e1, r1, f1⟩ := m_fail h (f := 2) (by omega)
    rw [if_pos (by rw [e]), lit_2, e1, bind_s, if_neg r1.ne]
    exact ⟨m', rfl, r1, f1.mono (fun k j z => by omega)⟩
  · rw [if_neg (eq_nI (by omega) (by omega) e), if_pos h.1]
    rcases m_go h hw hk with ⟨m1, e1, B1, f1, h1⟩ | ⟨m1, e1, r1, f1, q1⟩
    · rw [e1, bind_s]
      exact Or.inl ⟨m1, rfl, B1, f1, h1⟩
    · rw [e1, bind_s]
      exact Or.inr ⟨m1, rfl, r1, f1, q1⟩
theorem b245 (r : Option M2) : (r.bind fun c => f_X12_tell_245 c) = r := by cases r <;> rfl
theorem m_tell {i : Nat} {s : IS} (hsd : sd < 2) (hn : n ≤ 2000) (hM : MI m sd By n i s) (hT : TB s) (hA : AV (tk By n) (vI By n) (v5 By n) s) : IM m sd By n (F_X12_tell m) (pItem (tk By n) (vI By n) (v5 By n) i s) := by
  have hM0 := hM
  obtain ⟨C, k1, b1, hB, h19, hK, _, hG, _⟩ := hM
  obtain ⟨t1, t2, t3, t4⟩ := hT
  have hkl := tk_lt (By := By) (n := n) i
  have hit := hB.2.2.1
  have hte := te_le By n
  have E : ∀ d, d < 34 → ¬ tk By n i = d → ¬ nI (mkd (tk By n i)) = nI (mkd d) := fun d hd z y => z ((mkd_eq (by omega) (by omega)).mp y)
  unfold F_X12_tell pItem
  rw [hB.2.1, aI_n _ 59 (show i < 403 by omega) (by omega), bind_s, hB.kd]
  have fl : ∀ f, 0 < f → f < 7 → IM m sd By n (F_X12_fail (nI f) m) (.inr (f, i)) := by
    intro f h1 h2
    obtain ⟨m', e1, r1, f1⟩ := m_fail hB (f := f) ⟨h1, h2⟩
    exact IM.no e1 r1 (f1.mono (fun k j z => SRm.s (by omega)))
  have n20 : ¬ tk By n i = 17 → ¬ nI (mkd (tk By n i)) = 20 := E 17 (by omega)
  have n21 : ¬ tk By n i = 18 → ¬ nI (mkd (tk By n i)) = 21 := E 18 (by omega)
  have n22 : ¬ tk By n i = 21 → ¬ nI (mkd (tk By n i)) = 22 := E 21 (by omega)
  have n23 : ¬ tk By n i = 22 → ¬ nI (mkd (tk By n i)) = 23 := E 22 (by omega)
  have n24 : ¬ tk By n i = 23 → ¬ nI (mkd (tk By n i)) = 24 := E 23 (by omega)
  have n25 : ¬ tk By n i = 19 → ¬ nI (mkd (tk By n i)) = 25 := E 19 (by omega)
  have n26 : ¬ tk By n i = 31 → ¬ nI (mkd (tk By n i)) = 26 := E 31 (by omega)
  have n27 : ¬ tk By n i = 33 → ¬ nI (mkd (tk By n i)) = 27 := E 33 (by omega)
  have n28 : ¬ tk By n i = 20 → ¬ nI (mkd (tk By n i)) = 28 := E 20 (by omega)
  by_cases k17 : tk By n i = 17
  · rw [if_pos (show nI (mkd (tk By n i)) = 20 by rw [k17]; rfl), if_pos k17]
    exact m_parts hsd hn hM0 k17
  rw [if_neg (n20 k17), if_neg k17]
  by_cases k18 : tk By n i = 18
  · rw [if_pos (show nI (mkd (tk By n i)) = 21 by rw [k18]; rfl), if_pos k18, h19, aI_n _ 67 hsd (by omega), bind_s, hK.2.2.2.2.1]
    obtain ⟨o1, o2⟩ := m_room (a := 6) hB (by omega) k18 t1 (by omega)
    by_cases h6 : (ttL s).length = 6
    · obtain ⟨m1, e1, r1, f1⟩ := o1 h6
      rw [if_pos (show 6 ≤ (ttL s).length by omega), lit_6, e1, bind_s, if_neg r1.ne]
      exact IM.no rfl r1 (f1.mono (fun k j z => SRm.s z))
    · rw [if_neg (show ¬ 6 ≤ (ttL s).length by omega), lit_6]
      rcases o2 h6 with ⟨m1, e1, B1, f1, h4⟩ | ⟨m1, e1, r1, f1, q1⟩
      · rw [e1, bind_s, if_pos B1.1, b245]
        exact m_law hsd hn hM0 (by omega) (by omega) k18 h4 B1 f1
      · rw [e1, bind_s, if_neg r1.ne]
        unfold pLaw
        rw [q1]
        exact IM.no rfl r1 (f1.mono (fun k j z => SRm.s z))
  rw [if_neg (n21 k18), if_neg k18]
  by_cases k19 : tk By n i = 19
  · rw [if_neg (n22 (by omega)), if_neg (n23 (by omega)), if_neg (n24 (by omega)), if_pos (show nI (mkd (tk By n i)) = 25 by rw [k19]; rfl), if_pos k19, h19, aI_n _ 74 hsd (by omega), bind_s, hG.1.1]
    obtain ⟨o1, o2⟩ := m_room (a := 12) hB (by omega) k19 t2 (by omega)
    by_cases h6 : (ttM s).length = 12
    · obtain ⟨m1, e1, r1, f1⟩ := o1 h6
      rw [if_pos (show 12 ≤ (ttM s).length by omega), lit_12, e1, bind_s, if_neg r1.ne]
      exact IM.no rfl r1 (f1.mono (fun k j z => SRm.s z))
    · rw [if_neg (show ¬ 12 ≤ (ttM s).length by omega), lit_12]
      rcases o2 h6 with ⟨m1, e1, B1, f1, h4⟩ | ⟨m1, e1, r1, f1, q1⟩
      · rw [e1, bind_s, if_pos B1.1, b245, sqk_y k19 h4]
        exact m_man hsd hn hM0 hA (by omega) (by omega) t1 h4 B1 f1
      · rw [e1, bind_s, if_neg r1.ne, q1]
        exact IM.no rfl r1 (f1.mono (fun k j z => SRm.s z))
  rw [if_neg k19]
  by_cases k31 : tk By n i = 31
  · rw [if_neg (n22 (by omega)), if_neg (n23 (by omega)), if_neg (n24 (by omega)), if_neg (n25 k19), if_pos (show nI (mkd (tk By n i)) = 26 by rw [k31]; rfl), if_pos k31]
    exact m_drum hsd hn hM0 k31
  rw [if_neg k31]
  by_cases k33 : tk By n i = 33
  · rw [if_neg (n22 (by omega)), if_neg (n23 (by omega)), if_neg (n24 (by omega)), if_neg (n25 k19), if_neg (n26 k31), if_pos (show nI (mkd (tk By n i)) = 27 by rw [k33]; rfl), if_pos k33]
    exact m_song hsd hn hM0 k33
  rw [if_neg k33]
  by_cases k20 : tk By n i = 20
  · rw [if_neg (n22 (by omega)), if_neg (n23 (by omega)), if_neg (n24 (by omega)), if_neg (n25 k19), if_neg (n26 k31), if_neg (n27 k33), if_pos (show nI (mkd (tk By n i)) = 28 by rw [k20]; rfl), if_pos k20, h19, aI_n _ 80 hsd (by omega), bind_s, hG.1.2.2.2.2.1]
    obtain ⟨o1, o2⟩ := m_room (a := 4) hB (by omega) k20 t3 (by omega)
    by_cases h6 : (ttF s).length = 4
    · obtain ⟨m1, e1, r1, f1⟩ := o1 h6
      rw [if_pos (show 4 ≤ (ttF s).length by omega), lit_4, e1, bind_s, if_neg r1.ne]
      exact IM.no rfl r1 (f1.mono (fun k j z => SRm.s z))
    · rw [if_neg (show ¬ 4 ≤ (ttF s).length by omega), lit_4]
      rcases o2 h6 with ⟨m1, e1, B1, f1, h4⟩ | ⟨m1, e1, r1, f1, q1⟩
      · rw [e1, bind_s, if_pos B1.1, b245, sqk_y k20 h4]
        exact m_fogT (m0 := m) hsd hn hM0 k20 (by omega) h4 B1 f1
      · rw [e1, bind_s, if_neg r1.ne, q1]
        exact IM.no rfl r1 (f1.mono (fun k j z => SRm.s z))
  rw [if_neg k20, if_neg (n25 k19), if_neg (n26 k31), if_neg (n27 k33), if_neg (n28 k20)]
  simp only [ite_self]
  rw [b245, lit_1]
  exact fl 1 (by omega) (by omega)
theorem m_text (hsd : sd < 2) (hn : n ≤ 2000) (hM : MI m sd By n 0 is0) : ∃ z, loop g_X12_read_191 m = some z ∧ Fr (SRm sd) m z ∧ ((∃ i s, pT (tk By n) (vI By n) (v5 By n) 401 0 is0 = .inl (i, s) ∧ MI z sd By n i s ∧ TB s) ∨ (∃ f t, pT (tk By n) (vI By n) (v5 By n) 401 0 is0 = .inr (f, t) ∧ MFt z By n f t)) := by
  have hte := te_le By n
  have hKV : ∀ i, tk By n i = 3 → vI By n i < 10000 := fun i hi => vI_lt hi
  generalize hpz : pT (tk By n) (vI By n) (v5 By n) 401 0 is0 = PZ
  refine loop_wf (fun z => Fr (SRm sd) m z ∧ ((∃ f i s, PZ = pT (tk By n) (vI By n) (v5 By n) f i s ∧ MI z sd By n i s ∧ TB s ∧ AV (tk By n) (vI By n) (v5 By n) s ∧ 401 ≤ f + i) ∨ (∃ f t, PZ = .inr (f, t) ∧ MFt z By n f t))) (fun z => mu1 z) _ ?_ (s := m) ⟨Fr.rf, Or.inl ⟨401, 0, is0, hpz.symm, hM, ⟨by decide, by decide, by decide, rfl⟩, AV0 _ _ _, Nat.le_refl _⟩⟩ (by unfold mu1; split <;> omega)
  rintro m1 ⟨i1, i2⟩
  show (∃ s', f_X12_read_191 m1 = some (Sum.inl s') ∧ _) ∨ ∃ z, f_X12_read_191 m1 = some (Sum.inr z) ∧ _
  unfold f_X12_read_191
  rcases i2 with ⟨f, i, s, ep, hI1, hT1, hA1, hf⟩ | ⟨f, t, ep, r1⟩
  · have hI2 := hI1
    obtain ⟨C, k1, b1, hB, _⟩ := hI1
    have hit := hB.2.2.1
    rw [if_pos hB.1, show (0 : Int32) = nI (mkd 0) from rfl, m_is hB (by omega), bind_s]
    dsimp only
    obtain ⟨q, hq⟩ : ∃ q, f = q + 1 := ⟨f - 1, by omega⟩
    subst hq
    have ep' : PZ = if tk By n i = 0 then .inl (i, s) else match pItem (tk By n) (vI By n) (v5 By n) i s with
      | .inr e => .inr e
      | .inl z => pT (tk By n) (vI By n) (v5 By n) q z.1 z.2 := ep
    by_cases h0 : tk By n i = 0
    · right
      rw [if_pos h0] at ep'
      rw [decide_eq_true h0, if_neg (show ¬ bI1 true = nI (mkd 0) by decide)]
      exact ⟨_, rfl, i1, Or.inl ⟨i, s, ep', hI2, hT1⟩⟩
    · left
      rw [if_neg h0] at ep'
      rw [decide_eq_false h0, if_pos (show bI1 false = nI (mkd 0) from rfl)]
      have hr := m_tell hsd hn hI2 hT1 hA1
      have hmu : mu1 m1 = 402 - i := mu1_o hB
      cases hp : pItem (tk By n) (vI By n) (v5 By n) i s with
      | inr x =>
        rw [hp] at ep' hr
        obtain ⟨m2, e2, r2, f2⟩ := hr.2 x.1 x.2 rfl
        rw [e2, bind_s]
        refine ⟨_, rfl, ⟨i1.tr f2, Or.inr ⟨x.1, x.2, ep', r2⟩⟩, ?_⟩
        rw [mu1_f r2, hmu]
        omega
      | inl z =>
        rw [hp] at ep' hr
        obtain ⟨m2, e2, r2, f2⟩ := hr.1 z.1 z.2 rfl
        have ht := pItem_TB hKV hp hT1
        rw [e2, bind_s]
        have hzi := ht.2
        refine ⟨_, rfl, ⟨i1.tr f2, Or.inl ⟨q, z.1, z.2, ep', r2, ht.1, pItem_AV hp hA1, by omega⟩⟩, ?_⟩
        obtain ⟨_, _, _, hB2, _⟩ := r2
        rw [mu1_o hB2, hmu]
        omega
  · right
    rw [if_neg r1.ne]
    exact ⟨_, rfl, i1, Or.inr ⟨f, t, ep, r1⟩⟩
/-! the bytes -/
theorem byt8 (x : Int32) : byt x.toInt8.toInt32 = byt x := by
  unfold byt
  rw [Int8.toBitVec_toInt32, Int32.toBitVec_toInt8, BitVec.signExtend_eq_setWidth_of_le x.toBitVec (show 8 ≤ 32 by omega), BitVec.toNat_signExtend, BitVec.toNat_setWidth, BitVec.toNat_setWidth]
  have h1 : x.toBitVec.toNat % 2 ^ 8 % 2 ^ 32 = x.toBitVec.toNat % 2 ^ 8 := Nat.mod_eq_of_lt (by omega)
  rw [h1]
  split
  · omega
  · omega
theorem m_copy {n : Nat} {Y : Nat → Int32} (hn : n ≤ 2000) (h4 : hI m 56 4 = nI n) (hY : ∀ i, hI m 57 i = Y i) : ∃ m', loop g_X12_read_10 ((0 : Int32), m) = some m' ∧ (∀ i, i < n → hI m' 58 i &&& (255 : Int32) = nI (byt (Y i))) ∧ Fr (fun k _ => k = 58) m m' := by
  refine loop_to n (fun k z => z.1 = nI k ∧ (∀ i, i < k → hI z.2 58 i &&& (255 : Int32) = nI (byt (Y i))) ∧ Fr (fun k _ => k = 58) m z.2) _ (by omega) ?_ ?_ ⟨rfl, fun i hi => by omega, Fr.rf⟩
  · rintro k ⟨z1, m1⟩ hk ⟨i1, i2, i3⟩
    dsimp only at i1 i2 i3
    subst i1
    show ∃ s', f_X12_read_10 (nI k) m1 = some (Sum.inl s') ∧ _
    unfold f_X12_read_10
    rw [show hI m1 56 4 = nI n from (i3.I _ _ (by omega)).trans h4, if_neg (nI_ge hk (by omega)), aI_n _ 57 (show k < 2000 by omega) (by omega), bind_s, show hI m1 57 k = Y k from (i3.I _ _ (by omega)).trans (hY k), bB_n _ 58 _ (show k < 2000 by omega) (by omega), bind_s, nmI_e, bind_s, nI_1]
    refine ⟨_, rfl, rfl, fun i hi => ?_, i3.tI _ rfl⟩
    show hI (tI m1 58 k (Y k).toInt8.toInt32) 58 i &&& (255 : Int32) = _
    rw [hI_tI]
    by_cases q : i = k
    · rw [if_pos ⟨rfl, q⟩, q, byt_ok, byt8]
    · rw [if_neg (fun z => q z.2)]
      exact i2 i (by omega)
  · rintro ⟨z1, m1⟩ ⟨i1, i2, i3⟩
    dsimp only at i1 i2 i3
    subst i1
    show ∃ z, f_X12_read_10 (nI n) m1 = some (Sum.inr z) ∧ _
    unfold f_X12_read_10
    rw [show hI m1 56 4 = nI n from (i3.I _ _ (by omega)).trans h4, if_pos (nI_le (Nat.le_refl _) (by omega))]
    exact ⟨_, rfl, i2, i3⟩
theorem lvs_dis {l k j : Nat} (hl : l < 2) (h : lvs l k j) : ¬ (lvs (1 - l) k j ∧ ¬ k = 56) := by
  rintro ⟨h2, h3⟩
  unfold lvs at h h2
  rcases (show l = 0 ∨ l = 1 by omega) with rfl | rfl
  · rcases h with h | h | h | h | h | h | h | h <;> omega
  · rcases h with h | h | h | h | h | h | h | h <;> omega
end KM3
