/-! ===== the class cuts the tape ===== -/
section KB
variable {m : M2} {By : Nat → Nat} {n : Nat}
def BX (m : M2) (By : Nat → Nat) (n : Nat) : Prop := hI m 18 5 = nI n ∧ n ≤ 2000 ∧ (∀ i, i < n → hI m 1 i &&& (255 : Int32) = nI (By i)) ∧ (∀ i, By i < 256) ∧ ∀ w, w < 17 → hJ m 19 w = lN (W5 w)
theorem BX.fr {S : Nat → Nat → Prop} {m' : M2} (h : BX m By n) (hf : Fr S m m') (hs : ∀ k j, k = 1 ∨ k = 19 ∨ (k = 18 ∧ j = 5) → ¬ S k j) : BX m' By n := ⟨(hf.I _ _ (hs _ _ (by omega))).trans h.1, h.2.1, fun i hi => by rw [hf.I _ _ (hs _ _ (by omega))]; exact h.2.2.1 i hi, h.2.2.2.1, fun w hw => (hf.J _ _ (hs _ _ (by omega))).trans (h.2.2.2.2 w hw)⟩
theorem x_byte (h : BX m By n) {i : Nat} (hi : i < n) : F_X8_byteAt (nI i) m = some (nI (By i), m) := by
  have := h.2.1
  unfold F_X8_byteAt
  rw [h.1, if_neg (nI_ge hi (by omega)), aI_n _ 1 (show i < 2000 by omega) (by omega), bind_s, h.2.2.1 i hi]
  rfl
theorem x_byte0 (h : BX m By n) {i : Nat} (hi : n ≤ i) (h2 : i < 2 ^ 31) : F_X8_byteAt (nI i) m = some (-1, m) := by
  have := h.2.1
  unfold F_X8_byteAt
  rw [h.1, if_pos (nI_le hi h2)]
  rfl
theorem eq_nI {c d : Nat} (hc : c < 2 ^ 31) (hd : d < 2 ^ 31) (h : ¬ c = d) : ¬ nI c = nI d := fun z => h ((nI_eq hc hd).mp z)
theorem x_isBl {c : Nat} (hc : c < 256) : F_X8_isBlank (nI c) m = some (bI1 (isBl c), m) := by
  unfold F_X8_isBlank
  by_cases h1 : c = 9
  · subst h1; rfl
  by_cases h2 : c = 10
  · subst h2; rfl
  by_cases h3 : c = 13
  · subst h3; rfl
  by_cases h4 : c = 32
  · subst h4; rfl
  rw [show (9 : Int32) = nI 9 from rfl, show (10 : Int32) = nI 10 from rfl, show (13 : Int32) = nI 13 from rfl, show (32 : Int32) = nI 32 from rfl, if_neg (eq_nI (by omega) (by omega) h1), if_neg (eq_nI (by omega) (by omega) h2), if_neg (eq_nI (by omega) (by omega) h3), if_neg (eq_nI (by omega) (by omega) h4)]
  have : isBl c = false := decide_eq_false (by omega)
  rw [this]
  rfl
theorem x_isLt {c : Nat} (hc : c < 256) : F_X8_isLetter (nI c) m = some (bI1 (isLt c), m) := by
  unfold F_X8_isLetter
  rw [show (97 : Int32) = nI 97 from rfl, show (122 : Int32) = nI 122 from rfl]
  by_cases h1 : c < 97
  · rw [if_pos (nI_lt h1 (by omega)), show isLt c = false from decide_eq_false (by omega)]; rfl
  · rw [if_neg (fun z => absurd (nI_le (show 97 ≤ c by omega) (by omega)) (lt_nle z))]
    by_cases h2 : 122 < c
    · rw [if_pos (nI_lt h2 (by omega)), show isLt c = false from decide_eq_false (by omega)]; rfl
    · rw [if_neg (fun z => absurd (nI_le (show c ≤ 122 by omega) (by omega)) (lt_nle z)), show isLt c = true from decide_eq_true (by omega)]; rfl
theorem x_isDi {c : Nat} (hc : c < 256) : F_X8_isDigit (nI c) m = some (bI1 (isDi c), m) := by
  unfold F_X8_isDigit
  rw [show (48 : Int32) = nI 48 from rfl, show (57 : Int32) = nI 57 from rfl]
  by_cases h1 : c < 48
  · rw [if_pos (nI_lt h1 (by omega)), show isDi c = false from decide_eq_false (by omega)]; rfl
  · rw [if_neg (fun z => absurd (nI_le (show 48 ≤ c by omega) (by omega)) (lt_nle z))]
    by_cases h2 : 57 < c
    · rw [if_pos (nI_lt h2 (by omega)), show isDi c = false from decide_eq_false (by omega)]; rfl
    · rw [if_neg (fun z => absurd (nI_le (show c ≤ 57 by omega) (by omega)) (lt_nle z)), show isDi c = true from decide_eq_true (by omega)]; rfl
theorem b1_1 {b : Bool} (h : b = true) : bI1 b = 1 := by rw [h]; rfl
theorem b1_f {b : Bool} (h : b = false) : bI1 b = 0 := by rw [h]; rfl
abbrev SA : Nat → Nat → Prop := fun k j => k = 18 ∧ (j = 6 ∨ j = 7)
theorem x_skip (h : BX m By n) {i : Nat} (hi : i ≤ n) (ha : hI m 18 6 = nI i) : ∃ m', F_X8_skipBlanks m = some m' ∧ hI m' 18 6 = nI (skp By n i) ∧ Fr SA m m' := by
  have hn := h.2.1
  have rle := rl_le (p := isBl) (By := By) (n := n) (i := i)
  unfold F_X8_skipBlanks
  have key : ∃ e, loop g_X8_skipBlanks_0 m = some e ∧ hI e 18 6 = nI (skp By n i) ∧ Fr SA m e := by
    refine loop_to (rl isBl By n i) (fun k z => hI z 18 6 = nI (i + k) ∧ Fr SA m z) _ (by omega) ?_ ?_ ⟨ha, Fr.rf⟩
    · rintro k m1 hk ⟨i1, i2⟩
      show ∃ s', f_X8_skipBlanks_0 m1 = some (Sum.inl s') ∧ _
      have h1 := h.fr i2 (fun k j z => by omega)
      unfold f_X8_skipBlanks_0
      rw [h1.1, i1, if_neg (nI_ge (by omega) (by omega)), x_byte h1 (by omega), bind_s, x_isBl (h.2.2.2.1 _), bind_s]
      dsimp only
      rw [b1_1 (rl_t hk), if_neg (by decide), qI_e, bind_s]
      refine ⟨_, rfl, ?_, i2.tI _ (by omega)⟩
      rw [hI_tI, if_pos ⟨rfl, rfl⟩, i1]
      exact nI_1 (i + k)
    · rintro m1 ⟨i1, i2⟩
      show ∃ e, f_X8_skipBlanks_0 m1 = some (Sum.inr e) ∧ _
      have h1 := h.fr i2 (fun k j z => by omega)
      unfold f_X8_skipBlanks_0
      by_cases q : i + rl isBl By n i < n
      · rw [h1.1, i1, if_neg (nI_ge (by omega) (by omega)), x_byte h1 (by omega), bind_s, x_isBl (h.2.2.2.1 _), bind_s]
        dsimp only
        rw [b1_f (rl_f q), if_pos rfl]
        exact ⟨_, rfl, i1, i2⟩
      · rw [h1.1, i1, if_pos (nI_le (by omega) (by omega))]
        exact ⟨_, rfl, i1, i2⟩
  obtain ⟨m', e1, e2, e3⟩ := key
  rw [e1, bind_s]
  exact ⟨m', rfl, e2, e3⟩
theorem shl5 {a : Nat} (h : a < 2 ^ 58) : lN a <<< ((5 : Int32).toInt64 &&& 63) = lN (32 * a) := by
  refine lN_ext (by omega) ?_
  rw [Int64.toBitVec_shiftLeft, show ((5 : Int32).toInt64 &&& 63).toBitVec.smod 64 = 5#64 by decide, BitVec.shiftLeft_eq', BitVec.toNat_shiftLeft, lN_tn (by omega), show (5#64).toNat = 5 from rfl, Nat.shiftLeft_eq]
  omega
theorem x_withL {a c : Nat} (h : a < 2 ^ 58) (h1 : 97 ≤ c) (h2 : c ≤ 122) : F_X8_withLetter (lN a) (nI c) m = some (lN (32 * a + (c - 96)), m) := by
  unfold F_X8_withLetter
  have e : (nI c - (97 : Int32)) + (1 : Int32) = nI (c - 96) := by
    rw [show (97 : Int32) = nI 97 from rfl, pk_sub h1, nI_1, show c - 97 + 1 = c - 96 by omega]
  rw [e, shl5 h, nI_l (by omega), lN_or (by omega) (by omega), show 32 * a ||| (c - 96) = 32 * a + (c - 96) from (Nat.two_pow_add_eq_or_of_lt (i := 5) (by omega) a).symm]
theorem v5_8 {i k : Nat} (hk : k ≤ 8) (h : k ≤ rl isLt By n i) : vB 32 (ltr By i) k < 2 ^ 40 := by
  have a := vB_lt (B := 32) (f := ltr By i) (k := k) (fun j hj => by have := ltr_ok (By := By) (n := n) (i := i) (j := j) (by omega); omega)
  have b : (32 : Nat) ^ k ≤ 32 ^ 8 := Nat.pow_le_pow_right (by omega) hk
  omega
theorem x_word (h : BX m By n) {i : Nat} (hi : i < n) (ha : hI m 18 6 = nI i) (hv : hJ m 18 7 = 0) : ∃ m', F_X8_nextWord m = some (nI (if 8 < rl isLt By n i then 1 else kN (vB 32 (ltr By i) (rl isLt By n i))), m') ∧ hI m' 18 6 = nI (i + rl isLt By n i) ∧ (rl isLt By n i ≤ 8 → hJ m' 18 7 = lN (vB 32 (ltr By i) (rl isLt By n i))) ∧ Fr SA m m' := by
  have hn := h.2.1
  have rle := rl_le (p := isLt) (By := By) (n := n) (i := i)
  unfold F_X8_nextWord
  rw [ha, nmI_e, bind_s]
  have key : ∃ e, loop (g_X8_nextWord_5 (nI i)) m = some e ∧ hI e 18 6 = nI (i + rl isLt By n i) ∧ (rl isLt By n i ≤ 8 → hJ e 18 7 = lN (vB 32 (ltr By i) (rl isLt By n i))) ∧ Fr SA m e := by
    refine loop_to (rl isLt By n i) (fun k z => hI z 18 6 = nI (i + k) ∧ (k ≤ 8 → hJ z 18 7 = lN (vB 32 (ltr By i) k)) ∧ Fr SA m z) _ (by omega) ?_ ?_ ⟨ha, fun _ => hv, Fr.rf⟩
    · rintro k m1 hk ⟨i1, i2, i3⟩
      show ∃ s', f_X8_nextWord_5 (nI i) m1 = some (Sum.inl s') ∧ _
      have h1 := h.fr i3 (fun k j z => by omega)
      have hl := of_decide_eq_true (rl_t hk)
      unfold f_X8_nextWord_5
      rw [h1.1, i1, if_neg (nI_ge (by omega) (by omega)), x_byte h1 (by omega), bind_s, x_isLt (h.2.2.2.1 _), bind_s]
      dsimp only
      rw [b1_1 (rl_t hk), if_neg (by decide), i1, x_byte h1 (by omega), bind_s]
      dsimp only
      obtain ⟨v, ev, hv2⟩ : ∃ v, F_X8_withLetter (hJ m1 18 7) (nI (By (i + k))) m1 = some (v, m1) ∧ (k + 1 ≤ 8 → v = lN (vB 32 (ltr By i) (k + 1))) := by
        by_cases h8 : k ≤ 8
        · have := v5_8 (By := By) (n := n) (i := i) h8 (by omega)
          rw [i2 h8, x_withL (by omega) hl.1 hl.2]
          exact ⟨_, rfl, fun _ => rfl⟩
        · exact ⟨_, rfl, fun z => by omega⟩
      rw [ev, bind_s]
      dsimp only
      rw [qJ_e, bind_s, qI_e, bind_s, hI_tJ]
      refine ⟨_, rfl, ?_, fun z => ?_, (i3.tJ _ (by omega)).tI _ (by omega)⟩
      · rw [hI_tI, if_pos ⟨rfl, rfl⟩, i1]
        exact nI_1 (i + k)
      · rw [hJ_tI, hJ_tJ, if_pos ⟨rfl, rfl⟩]
        exact hv2 z
    · rintro m1 ⟨i1, i2, i3⟩
      show ∃ e, f_X8_nextWord_5 (nI i) m1 = some (Sum.inr e) ∧ _
      have h1 := h.fr i3 (fun k j z => by omega)
      unfold f_X8_nextWord_5
      by_cases q : i + rl isLt By n i < n
      · rw [h1.1, i1, if_neg (nI_ge (by omega) (by omega)), x_byte h1 (by omega), bind_s, x_isLt (h.2.2.2.1 _), bind_s]
        dsimp only
        rw [b1_f (rl_f q), if_pos rfl]
        exact ⟨_, rfl, i1, i2, i3⟩
      · rw [h1.1, i1, if_pos (nI_le (by omega) (by omega))]
        exact ⟨_, rfl, i1, i2, i3⟩
  obtain ⟨m1, e1, a1, a2, f1⟩ := key
  rw [e1, bind_s]
  have h1 := h.fr f1 (fun k j z => by omega)
  unfold f_X8_nextWord_62
  rw [a1, pk_sub (by omega), show i + rl isLt By n i - i = rl isLt By n i by omega, lit_8]
  by_cases h8 : rl isLt By n i ≤ 8
  · rw [if_pos (nI_le h8 (by omega)), if_neg (by omega)]
    have a3 := a2 h8
    have hb := v5_8 (By := By) (n := n) (i := i) h8 (Nat.le_refl _)
    obtain ⟨v, hv⟩ : ∃ v, v = vB 32 (ltr By i) (rl isLt By n i) := ⟨_, rfl⟩
    rw [← hv] at a3 hb ⊢
    have k2 : ∃ e, loop g_X8_nextWord_77 ((0 : Int32), m1) = some e ∧ ((∃ w, w < 17 ∧ W5 w = v ∧ e = Sum.inl (nI w, m1)) ∨ ((∀ w, w < 17 → ¬ W5 w = v) ∧ e = Sum.inr m1)) := by
      have w64 : ∀ w, w < 17 → W5 w < 2 ^ 40 := by decide +kernel
      refine loop_ex 17 (fun w z => z = (nI w, m1) ∧ ∀ j, j < w → ¬ W5 j = v) _ (by omega) ?_ ?_ ⟨rfl, fun j hj => by omega⟩
      · rintro w z hw ⟨rfl, i2⟩
        show (∃ s', f_X8_nextWord_77 (nI w) m1 = some (Sum.inl s') ∧ _) ∨ ∃ e, f_X8_nextWord_77 (nI w) m1 = some (Sum.inr e) ∧ _
        have := w64 w hw
        unfold f_X8_nextWord_77
        rw [lit_17, if_neg (nI_ge hw (by omega)), aJ_n _ 19 hw (by omega), bind_s, h1.2.2.2.2 w hw, a3]
        by_cases q : W5 w = v
        · right
          rw [if_pos ((lg_cmp_eq _ _).mpr (by rw [q]))]
          exact ⟨_, rfl, Or.inl ⟨w, hw, q, rfl⟩⟩
        · left
          rw [if_neg (fun z => q (by
            have := (lg_cmp_eq _ _).mp z
            have : (lN (W5 w)).toBitVec.toNat = (lN v).toBitVec.toNat := by rw [this]
            rwa [lN_tn (by omega), lN_tn (by omega)] at this)), nmI_e, bind_s, nI_1]
          exact ⟨_, rfl, rfl, fun j hj => by
            by_cases e : j = w
            · rw [e]; exact q
            · exact i2 j (by omega)⟩
      · rintro z ⟨rfl, i2⟩
        show ∃ e, f_X8_nextWord_77 (nI 17) m1 = some (Sum.inr e) ∧ _
        unfold f_X8_nextWord_77
        rw [lit_17, if_pos (nI_le (Nat.le_refl _) (by omega))]
        exact ⟨_, rfl, Or.inr ⟨i2, rfl⟩⟩
    obtain ⟨e, e2, r⟩ := k2
    rw [e2, bind_s]
    rcases r with ⟨w, hw, q, rfl⟩ | ⟨q, rfl⟩
    · refine ⟨m1, ?_, a1, fun _ => a3, f1⟩
      rw [kN_w hw q, ← nI_add]
      rfl
    · refine ⟨m1, ?_, a1, fun _ => a3, f1⟩
      rw [kN_n q]
      rfl
  · rw [if_neg (nI_ge (by omega) (by omega)), if_pos (by omega)]
    exact ⟨m1, rfl, a1, a2, f1⟩
theorem vB_10 {i k : Nat} (hk : k ≤ 4) (h : k ≤ rl isDi By n i) : vB 10 (dgr By i) k < 10000 := by
  have a := vB_lt (B := 10) (f := dgr By i) (k := k) (fun j hj => dgr_ok (By := By) (n := n) (i := i) (j := j) (by omega))
  have b : (10 : Nat) ^ k ≤ 10 ^ 4 := Nat.pow_le_pow_right (by omega) hk
  omega
theorem x_int (h : BX m By n) {i : Nat} (hi : i < n) (ha : hI m 18 6 = nI i) (hv : hJ m 18 7 = 0) : ∃ m', F_X8_nextInt m = some (nI (if 4 < rl isDi By n i then 1 else 3), m') ∧ hI m' 18 6 = nI (i + rl isDi By n i) ∧ hJ m' 18 7 = lN (vB 10 (dgr By i) (rl isDi By n i)) ∧ Fr SA m m' := by
  have hn := h.2.1
  have rle := rl_le (p := isDi) (By := By) (n := n) (i := i)
  unfold F_X8_nextInt
  rw [ha, nmI_e, bind_s]
  have key : ∃ e, loop (g_X8_nextInt_5 (nI i)) m = some e ∧ hI e 18 6 = nI (i + rl isDi By n i) ∧ hJ e 18 7 = lN (vB 10 (dgr By i) (rl isDi By n i)) ∧ Fr SA m e := by
    refine loop_to (rl isDi By n i) (fun k z => hI z 18 6 = nI (i + k) ∧ hJ z 18 7 = lN (vB 10 (dgr By i) k) ∧ Fr SA m z) _ (by omega) ?_ ?_ ⟨ha, hv, Fr.rf⟩
    · rintro k m1 hk ⟨i1, i2, i3⟩
      show ∃ s', f_X8_nextInt_5 (nI i) m1 = some (Sum.inl s') ∧ _
      have h1 := h.fr i3 (fun k j z => by omega)
      have hl := of_decide_eq_true (rl_t hk)
      unfold f_X8_nextInt_5
      rw [h1.1, i1, if_neg (nI_ge (by omega) (by omega)), x_byte h1 (by omega), bind_s, x_isDi (h.2.2.2.1 _), bind_s]
      dsimp only
      rw [b1_1 (rl_t hk), if_neg (by decide), i1, x_byte h1 (by omega), bind_s]
      dsimp only
      rw [i2, show (48 : Int32) = nI 48 from rfl, pk_sub hl.1, nI_l (by omega), show (10 : Int64) = lN 10 from rfl, lN_mul, lN_add, qJ_e, bind_s, qI_e, bind_s, hI_tJ]
      refine ⟨_, rfl, ?_, ?_, (i3.tJ _ (by omega)).tI _ (by omega)⟩
      · rw [hI_tI, if_pos ⟨rfl, rfl⟩, i1]
        exact nI_1 (i + k)
      · rw [hJ_tI, hJ_tJ, if_pos ⟨rfl, rfl⟩]
        show lN (vB 10 (dgr By i) k * 10 + (By (i + k) - 48)) = lN (10 * vB 10 (dgr By i) k + dgr By i k)
        rw [Nat.mul_comm]
        rfl
    · rintro m1 ⟨i1, i2, i3⟩
      show ∃ e, f_X8_nextInt_5 (nI i) m1 = some (Sum.inr e) ∧ _
      have h1 := h.fr i3 (fun k j z => by omega)
      unfold f_X8_nextInt_5
      by_cases q : i + rl isDi By n i < n
      · rw [h1.1, i1, if_neg (nI_ge (by omega) (by omega)), x_byte h1 (by omega), bind_s, x_isDi (h.2.2.2.1 _), bind_s]
        dsimp only
        rw [b1_f (rl_f q), if_pos rfl]
        exact ⟨_, rfl, i1, i2, i3⟩
      · rw [h1.1, i1, if_pos (nI_le (by omega) (by omega))]
        exact ⟨_, rfl, i1, i2, i3⟩
  obtain ⟨m1, e1, a1, a2, f1⟩ := key
  rw [e1, bind_s]
  unfold f_X8_nextInt_68
  rw [a1, pk_sub (by omega), show i + rl isDi By n i - i = rl isDi By n i by omega, lit_4]
  by_cases h8 : rl isDi By n i ≤ 4
  · rw [if_pos (nI_le h8 (by omega)), if_neg (by omega)]
    exact ⟨m1, rfl, a1, a2, f1⟩
  · rw [if_neg (nI_ge (by omega) (by omega)), if_pos (by omega)]
    exact ⟨m1, rfl, a1, a2, f1⟩
theorem x_sign (h : BX m By n) {i : Nat} (hi : i < n) (ha : hI m 18 6 = nI i) : ∃ m', F_X8_nextSign (nI (By i)) m = some (nI (sgK (By i) (nxB By n (i + 1))), m') ∧ hI m' 18 6 = nI (i + if sg2 (By i) (nxB By n (i + 1)) = 0 then 1 else 2) ∧ Fr SA m m' := by
  have hn := h.2.1
  have hc := h.2.2.2.1 i
  generalize hcc : By i = c at hc
  unfold F_X8_nextSign
  rw [qI_e, bind_s, hI_tI, if_pos ⟨rfl, rfl⟩, ha, nI_1]
  have f1 : Fr SA m (tI m 18 6 (nI (i + 1))) := Fr.rf.tI _ (by omega)
  have a1 : hI (tI m 18 6 (nI (i + 1))) 18 6 = nI (i + 1) := by rw [hI_tI, if_pos ⟨rfl, rfl⟩]
  generalize tI m 18 6 (nI (i + 1)) = m1 at f1 a1 ⊢
  have h1 := h.fr f1 (fun k j z => by omega)
  obtain ⟨x, ex, hx⟩ : ∃ x, F_X8_byteAt (nI (i + 1)) m1 = some (x, m1) ∧ (x = 61 ↔ nxB By n (i + 1) = 61) := by
    unfold nxB
    by_cases q : i + 1 < n
    · have := h.2.2.2.1 (i + 1)
      rw [if_pos q]
      exact ⟨_, x_byte h1 q, nI_eq (b := 61) (by omega) (by omega)⟩
    · rw [if_neg q]
      exact ⟨_, x_byte0 h1 (by omega) (by omega), by decide⟩
  rw [ex, bind_s]
  dsimp only
  have tab : f_X8_nextSign_74 (nI c) m1 = some (nI (sgT c), m1) := by
    unfold f_X8_nextSign_74 sgT
    have E : ∀ d : Nat, d < 256 → (nI c = nI d ↔ c = d) := fun d hd => nI_eq (by omega) (by omega)
    rw [show (40 : Int32) = nI 40 from rfl, show (41 : Int32) = nI 41 from rfl, show (42 : Int32) = nI 42 from rfl, show (43 : Int32) = nI 43 from rfl, show (44 : Int32) = nI 44 from rfl, show (45 : Int32) = nI 45 from rfl, show (46 : Int32) = nI 46 from rfl, show (47 : Int32) = nI 47 from rfl, show (48 : Int32) = nI 48 from rfl, show (49 : Int32) = nI 49 from rfl, show (50 : Int32) = nI 50 from rfl, show (51 : Int32) = nI 51 from rfl, show (52 : Int32) = nI 52 from rfl, show (53 : Int32) = nI 53 from rfl, show (54 : Int32) = nI 54 from rfl, show (55 : Int32) = nI 55 from rfl, show (56 : Int32) = nI 56 from rfl, show (57 : Int32) = nI 57 from rfl, show (58 : Int32) = nI 58 from rfl, show (59 : Int32) = nI 59 from rfl, show (60 : Int32) = nI 60 from rfl, show (61 : Int32) = nI 61 from rfl]
    simp only [E 40 (by omega), E 41 (by omega), E 42 (by omega), E 43 (by omega), E 44 (by omega), E 45 (by omega), E 46 (by omega), E 47 (by omega), E 48 (by omega), E 49 (by omega), E 50 (by omega), E 51 (by omega), E 52 (by omega), E 53 (by omega), E 54 (by omega), E 55 (by omega), E 56 (by omega), E 57 (by omega), E 58 (by omega), E 59 (by omega), E 60 (by omega), E 61 (by omega)]
    by_cases q : 40 ≤ c ∧ c ≤ 61
    · obtain ⟨d, rfl⟩ : ∃ d, c = 40 + d := ⟨c - 40, by omega⟩
      have : d < 22 := by omega
      clear E hcc
      match d, this with
      | 0, _ => rfl
      | 1, _ => rfl
      | 2, _ => rfl
      | 3, _ => rfl
      | 4, _ => rfl
      | 5, _ => rfl
      | 6, _ => rfl
      | 7, _ => rfl
      | 8, _ => rfl
      | 9, _ => rfl
      | 10, _ => rfl
      | 11, _ => rfl
      | 12, _ => rfl
      | 13, _ => rfl
      | 14, _ => rfl
      | 15, _ => rfl
      | 16, _ => rfl
      | 17, _ => rfl
      | 18, _ => rfl
      | 19, _ => rfl
      | 20, _ => rfl
      | 21, _ => rfl
      | d + 22, h => omega
    · repeat rw [if_neg (by omega)]
      rfl
  have two : ∀ k, k = 11 ∧ c = 61 ∨ k = 12 ∧ c = 33 ∨ k = 14 ∧ c = 60 → f_X8_nextSign_41 (nI c) m1 = some (nI k, tI m1 18 6 (nI (i + 2))) := by
    intro k hk
    unfold f_X8_nextSign_41
    rw [qI_e, bind_s, a1, nI_1]
    rcases hk with ⟨rfl, rfl⟩ | ⟨rfl, rfl⟩ | ⟨rfl, rfl⟩ <;> rfl
  have fin2 : ∀ k, ¬ k = 0 → sg2 c (nxB By n (i + 1)) = k → (k = 11 ∧ c = 61 ∨ k = 12 ∧ c = 33 ∨ k = 14 ∧ c = 60) → ∃ m', f_X8_nextSign_41 (nI c) m1 = some (nI (sgK c (nxB By n (i + 1))), m') ∧ hI m' 18 6 = nI (i + if sg2 c (nxB By n (i + 1)) = 0 then 1 else 2) ∧ Fr SA m m' := by
    intro k h0 hs hk
    unfold sgK
    rw [hs, if_neg h0, if_neg h0, two k hk]
    exact ⟨_, rfl, by rw [hI_tI, if_pos ⟨rfl, rfl⟩], f1.tI _ (by omega)⟩
  have fin1 : sg2 c (nxB By n (i + 1)) = 0 → ∃ m', f_X8_nextSign_74 (nI c) m1 = some (nI (sgK c (nxB By n (i + 1))), m') ∧ hI m' 18 6 = nI (i + if sg2 c (nxB By n (i + 1)) = 0 then 1 else 2) ∧ Fr SA m m' := by
    intro hs
    unfold sgK
    rw [hs, if_pos rfl, if_pos rfl, tab]
    exact ⟨_, rfl, a1, f1⟩
  by_cases q : nxB By n (i + 1) = 61
  · rw [if_pos (hx.mpr q)]
    by_cases q1 : c = 61
    · rw [if_pos (by rw [q1]; rfl)]
      exact fin2 11 (by omega) (by unfold sg2; rw [if_pos q, if_pos q1]) (by omega)
    · rw [if_neg (show ¬ nI c = 61 from eq_nI (d := 61) (by omega) (by omega) q1)]
      by_cases q2 : c = 33
      · rw [if_pos (by rw [q2]; rfl)]
        exact fin2 12 (by omega) (by unfold sg2; rw [if_pos q, if_neg q1, if_pos q2]) (by omega)
      · rw [if_neg (show ¬ nI c = 33 from eq_nI (d := 33) (by omega) (by omega) q2)]
        by_cases q3 : c = 60
        · rw [if_pos (by rw [q3]; rfl)]
          exact fin2 14 (by omega) (by unfold sg2; rw [if_pos q, if_neg q1, if_neg q2, if_pos q3]) (by omega)
        · rw [if_neg (show ¬ nI c = 60 from eq_nI (d := 60) (by omega) (by omega) q3)]
          exact fin1 (by unfold sg2; rw [if_pos q, if_neg q1, if_neg q2, if_neg q3])
  · rw [if_neg (fun z => q (hx.mp z))]
    exact fin1 (by unfold sg2; rw [if_neg q])
end KB
