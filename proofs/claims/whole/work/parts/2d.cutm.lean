/-! ===== the reference cuts the tape ===== -/
section KD
variable {m : M2} {By : Nat → Nat} {n : Nat}
def BM (m : M2) (By : Nat → Nat) (n : Nat) : Prop := hI m 56 4 = nI n ∧ n ≤ 2000 ∧ (∀ i, i < n → hI m 58 i &&& (255 : Int32) = nI (By i)) ∧ (∀ i, By i < 256) ∧ ∀ w, w < 17 → hJ m 63 (mkd (17 + w) - 20) = lN (W27 w)
theorem BM.fr {S : Nat → Nat → Prop} {m' : M2} (h : BM m By n) (hf : Fr S m m') (hs : ∀ k j, k = 58 ∨ k = 63 ∨ (k = 56 ∧ j = 4) → ¬ S k j) : BM m' By n := ⟨(hf.I _ _ (hs _ _ (by omega))).trans h.1, h.2.1, fun i hi => by rw [hf.I _ _ (hs _ _ (by omega))]; exact h.2.2.1 i hi, h.2.2.2.1, fun w hw => (hf.J _ _ (hs _ _ (by omega))).trans (h.2.2.2.2 w hw)⟩
theorem m_byte (h : BM m By n) {i : Nat} (hi : i < 2 ^ 31) : F_X12_byteAt (nI i) m = some (nI (nxB By n i), m) := by
  have := h.2.1
  unfold F_X12_byteAt nxB
  by_cases q : i < n
  · rw [h.1, if_neg (nI_ge q (by omega)), aI_n _ 58 (show i < 2000 by omega) (by omega), bind_s, h.2.2.1 i q, if_pos q]
    rfl
  · rw [h.1, if_pos (nI_le (by omega) hi), if_neg q]
    rfl
theorem nxB_lt (h : BM m By n) (i : Nat) : nxB By n i < 256 := by
  unfold nxB
  have := h.2.2.2.1 i
  split <;> omega
theorem m_isLt {c : Nat} (hc : c < 256) : F_X12_isLetter (nI c) m = some (bI1 (isLt c), m) := by
  unfold F_X12_isLetter
  rw [show (97 : Int32) = nI 97 from rfl, show (122 : Int32) = nI 122 from rfl]
  by_cases h1 : c < 97
  · rw [if_pos (nI_lt h1 (by omega)), show isLt c = false from decide_eq_false (by omega)]; rfl
  · rw [if_neg (fun z => absurd (nI_le (show 97 ≤ c by omega) (by omega)) (lt_nle z))]
    by_cases h2 : 122 < c
    · rw [if_pos (nI_lt h2 (by omega)), show isLt c = false from decide_eq_false (by omega)]; rfl
    · rw [if_neg (fun z => absurd (nI_le (show c ≤ 122 by omega) (by omega)) (lt_nle z)), show isLt c = true from decide_eq_true (by omega)]; rfl
theorem m_isDi {c : Nat} (hc : c < 256) : F_X12_isDigit (nI c) m = some (bI1 (isDi c), m) := by
  unfold F_X12_isDigit
  rw [show (48 : Int32) = nI 48 from rfl, show (57 : Int32) = nI 57 from rfl]
  by_cases h1 : c < 48
  · rw [if_pos (nI_lt h1 (by omega)), show isDi c = false from decide_eq_false (by omega)]; rfl
  · rw [if_neg (fun z => absurd (nI_le (show 48 ≤ c by omega) (by omega)) (lt_nle z))]
    by_cases h2 : 57 < c
    · rw [if_pos (nI_lt h2 (by omega)), show isDi c = false from decide_eq_false (by omega)]; rfl
    · rw [if_neg (fun z => absurd (nI_le (show c ≤ 57 by omega) (by omega)) (lt_nle z)), show isDi c = true from decide_eq_true (by omega)]; rfl
theorem m_token {T : Nat} {k p v : Int32} {nm : Int64} (hT : hI m 56 10 = nI T) (h : T < 403) : ∃ m', F_X12_token k p v nm m = some m' ∧ hI m' 59 T = k ∧ hI m' 60 T = p ∧ hI m' 61 T = v ∧ hJ m' 62 T = nm ∧ hI m' 56 10 = nI (T + 1) ∧ Fr (fun k j => (59 ≤ k ∧ k ≤ 62 ∧ j = T) ∨ (k = 56 ∧ j = 10)) m m' := by
  unfold F_X12_token
  rw [hT, bI_n _ 59 _ h (by omega), bind_s, hI_tI, if_neg (by omega), hT, bI_n _ 60 _ h (by omega), bind_s, hI_tI, if_neg (by omega), hI_tI, if_neg (by omega), hT, bI_n _ 61 _ h (by omega), bind_s, hI_tI, if_neg (by omega), hI_tI, if_neg (by omega), hI_tI, if_neg (by omega), hT, bJ_n _ 62 _ h (by omega), bind_s, hI_tJ, hI_tI, if_neg (by omega), hI_tI, if_neg (by omega), hI_tI, if_neg (by omega), hT, nI_1, qI_e, bind_s]
  refine ⟨_, rfl, ?_, ?_, ?_, ?_, ?_, ((((Fr.rf.tI _ (by omega)).tI _ (by omega)).tI _ (by omega)).tJ _ (by omega)).tI _ (by omega)⟩
  · rw [hI_tI, if_neg (by omega), hI_tJ, hI_tI, if_neg (by omega), hI_tI, if_neg (by omega), hI_tI, if_pos ⟨rfl, rfl⟩]
  · rw [hI_tI, if_neg (by omega), hI_tJ, hI_tI, if_neg (by omega), hI_tI, if_pos ⟨rfl, rfl⟩]
  · rw [hI_tI, if_neg (by omega), hI_tJ, hI_tI, if_pos ⟨rfl, rfl⟩]
  · rw [hJ_tI, hJ_tJ, if_pos ⟨rfl, rfl⟩]
  · rw [hI_tI, if_pos ⟨rfl, rfl⟩]
theorem nx_t {i : Nat} (h : i < n) : nxB By n i = By i := if_pos h
theorem nx_f {i : Nat} (h : n ≤ i) : nxB By n i = 0 := if_neg (by omega)
theorem m_letters (h : BM m By n) {i : Nat} (hi : i < n) : loop (g_X12_cut_85 (nI i)) ((0 : Int32), (0 : Int64), m) = some (nI (rl isLt By n i), lN (vB 27 (ltr By i) (min (rl isLt By n i) 8)), m) := by
  have hn := h.2.1
  have rle := rl_le (p := isLt) (By := By) (n := n) (i := i)
  have key : ∃ e, loop (g_X12_cut_85 (nI i)) ((0 : Int32), (0 : Int64), m) = some e ∧ e = (nI (rl isLt By n i), lN (vB 27 (ltr By i) (min (rl isLt By n i) 8)), m) := by
    refine loop_to (rl isLt By n i) (fun k z => z = (nI k, lN (vB 27 (ltr By i) (min k 8)), m)) _ (by omega) ?_ ?_ rfl
    · rintro k z hk rfl
      show ∃ s', f_X12_cut_85 (nI i) (nI k) (lN (vB 27 (ltr By i) (min k 8))) m = some (Sum.inl s') ∧ _
      have hl := of_decide_eq_true (rl_t hk)
      unfold f_X12_cut_85
      rw [nI_add, m_byte h (by omega), bind_s]
      dsimp only
      rw [m_isLt (nxB_lt h _), bind_s]
      dsimp only
      rw [nx_t (show i + k < n by omega), b1_1 (rl_t hk), if_neg (by decide), lit_8]
      by_cases h8 : 8 ≤ k
      · rw [if_pos (nI_le h8 (by omega))]
        unfold f_X12_cut_118
        rw [nmI_e, bind_s, nI_1]
        exact ⟨_, rfl, by rw [show min (k + 1) 8 = min k 8 by omega]⟩
      · rw [if_neg (nI_ge (by omega) (by omega)), m_byte h (by omega), bind_s]
        dsimp only
        rw [nx_t (show i + k < n by omega)]
        unfold F_X12_appends
        rw [if_neg (nI_ne0 (by omega) (by omega)), show (97 : Int32) = nI 97 from rfl, pk_sub hl.1, nI_1, nI_l (by omega), show (27 : Int64) = lN 27 from rfl, lN_mul, lN_add]
        unfold f_X12_appends_21
        rw [bind_s]
        unfold f_X12_cut_118
        rw [nmI_e, bind_s, nI_1]
        refine ⟨_, rfl, ?_⟩
        rw [show min (k + 1) 8 = k + 1 by omega, show min k 8 = k by omega]
        show _ = (nI (k + 1), lN (27 * vB 27 (ltr By i) k + (By (i + k) - 96)), m)
        rw [show By (i + k) - 97 + 1 = By (i + k) - 96 by omega]
    · rintro z rfl
      show ∃ e, f_X12_cut_85 (nI i) (nI (rl isLt By n i)) (lN (vB 27 (ltr By i) (min (rl isLt By n i) 8))) m = some (Sum.inr e) ∧ _
      unfold f_X12_cut_85
      rw [nI_add, m_byte h (by omega), bind_s]
      dsimp only
      rw [m_isLt (nxB_lt h _), bind_s]
      dsimp only
      have : isLt (nxB By n (i + rl isLt By n i)) = false := by
        by_cases q : i + rl isLt By n i < n
        · rw [nx_t q]; exact rl_f q
        · rw [nx_f (by omega)]; rfl
      rw [b1_f this, if_pos rfl]
      exact ⟨_, rfl, rfl⟩
  obtain ⟨e, e1, rfl⟩ := key
  exact e1
theorem m_digs (h : BM m By n) {i : Nat} (hi : i < n) : loop (g_X12_cut_208 (nI i)) ((0 : Int32), (0 : Int32), m) = some (nI (rl isDi By n i), nI (vB 10 (dgr By i) (min (rl isDi By n i) 4)), m) := by
  have hn := h.2.1
  have rle := rl_le (p := isDi) (By := By) (n := n) (i := i)
  have key : ∃ e, loop (g_X12_cut_208 (nI i)) ((0 : Int32), (0 : Int32), m) = some e ∧ e = (nI (rl isDi By n i), nI (vB 10 (dgr By i) (min (rl isDi By n i) 4)), m) := by
    refine loop_to (rl isDi By n i) (fun k z => z = (nI k, nI (vB 10 (dgr By i) (min k 4)), m)) _ (by omega) ?_ ?_ rfl
    · rintro k z hk rfl
      show ∃ s', f_X12_cut_208 (nI i) (nI k) (nI (vB 10 (dgr By i) (min k 4))) m = some (Sum.inl s') ∧ _
      have hl := of_decide_eq_true (rl_t hk)
      unfold f_X12_cut_208
      rw [nI_add, m_byte h (by omega), bind_s]
      dsimp only
      rw [m_isDi (nxB_lt h _), bind_s]
      dsimp only
      rw [nx_t (show i + k < n by omega), b1_1 (rl_t hk), if_neg (by decide), lit_4]
      by_cases h8 : 4 ≤ k
      · rw [if_pos (nI_le h8 (by omega))]
        unfold f_X12_cut_244
        rw [nmI_e, bind_s, nI_1]
        exact ⟨_, rfl, by rw [show min (k + 1) 4 = min k 4 by omega]⟩
      · rw [if_neg (nI_ge (by omega) (by omega)), m_byte h (by omega), bind_s]
        dsimp only
        rw [nx_t (show i + k < n by omega), show (10 : Int32) = nI 10 from rfl, pk_mul, nI_add, show (48 : Int32) = nI 48 from rfl, pk_sub (by omega), nmI_e, bind_s]
        unfold f_X12_cut_244
        rw [nmI_e, bind_s, nI_1]
        refine ⟨_, rfl, ?_⟩
        rw [show min (k + 1) 4 = k + 1 by omega, show min k 4 = k by omega]
        show _ = (nI (k + 1), nI (10 * vB 10 (dgr By i) k + (By (i + k) - 48)), m)
        rw [show 10 * vB 10 (dgr By i) k + By (i + k) - 48 = 10 * vB 10 (dgr By i) k + (By (i + k) - 48) by omega]
    · rintro z rfl
      show ∃ e, f_X12_cut_208 (nI i) (nI (rl isDi By n i)) (nI (vB 10 (dgr By i) (min (rl isDi By n i) 4))) m = some (Sum.inr e) ∧ _
      unfold f_X12_cut_208
      rw [nI_add, m_byte h (by omega), bind_s]
      dsimp only
      rw [m_isDi (nxB_lt h _), bind_s]
      dsimp only
      have : isDi (nxB By n (i + rl isDi By n i)) = false := by
        by_cases q : i + rl isDi By n i < n
        · rw [nx_t q]; exact rl_f q
        · rw [nx_f (by omega)]; rfl
      rw [b1_f this, if_pos rfl]
      exact ⟨_, rfl, rfl⟩
  obtain ⟨e, e1, rfl⟩ := key
  exact e1
theorem W27_lt : ∀ w, w < 17 → W27 w < 2 ^ 40 := by decide +kernel
theorem m_keys (h : BM m By n) {i : Nat} {x3 : Int32} (h7 : rl isLt By n i ≤ 7) : loop (g_X12_cut_146 (nI i) x3 (lN (vB 27 (ltr By i) (rl isLt By n i)))) ((1 : Int32), (0 : Int32), m) = some (nI (mkd (kN (vB 32 (ltr By i) (rl isLt By n i)))), m) := by
  have hr : ∀ j, j < rl isLt By n i → 0 < ltr By i j ∧ ltr By i j < 27 := fun j hj => ltr_ok hj
  have same : ∀ w, w < 17 → (W5 w = vB 32 (ltr By i) (rl isLt By n i) ↔ W27 w = vB 27 (ltr By i) (rl isLt By n i)) := fun w hw => vB_same (fun j hj => (kw_ok w hw).2.2 j (by have := (kw_ok w hw).2.1; omega)) hr
  have vlt : vB 27 (ltr By i) (rl isLt By n i) < 2 ^ 40 := by
    have a := vB_lt (B := 27) (f := ltr By i) (k := rl isLt By n i) (fun j hj => (hr j hj).2)
    have b : (27 : Nat) ^ rl isLt By n i ≤ 27 ^ 7 := Nat.pow_le_pow_right (by omega) h7
    omega
  generalize vB 27 (ltr By i) (rl isLt By n i) = u at same vlt ⊢
  generalize vB 32 (ltr By i) (rl isLt By n i) = v at same ⊢
  have cell : ∀ k, k < 17 → ∃ w, w < 17 ∧ mkd (17 + w) = 20 + k ∧ hJ m 63 k = lN (W27 w) := by
    intro k hk
    obtain ⟨w, hw, e⟩ := mkd_s k hk
    refine ⟨w, hw, e, ?_⟩
    have := h.2.2.2.2 w hw
    rw [e, show 20 + k - 20 = k by omega] at this
    exact this
  have cmp : ∀ a, a < 2 ^ 40 → (lg_cmp (lN a) (lN u) = 0 ↔ a = u) := by
    intro a ha
    rw [lg_cmp_eq]
    constructor
    · intro z
      have : (lN a).toBitVec.toNat = (lN u).toBitVec.toNat := by rw [z]
      rwa [lN_tn (by omega), lN_tn (by omega)] at this
    · intro z; rw [z]
  by_cases hw : ∃ w, w < 17 ∧ W5 w = v
  · obtain ⟨w, hw, e⟩ := hw
    rw [kN_w hw e]
    have hm := mkd_w w hw
    obtain ⟨x, hx⟩ : ∃ x, mkd (17 + w) = 20 + x := ⟨mkd (17 + w) - 20, by omega⟩
    rw [hx]
    have hx17 : x < 17 := by omega
    have key : ∃ z, loop (g_X12_cut_146 (nI i) x3 (lN u)) ((1 : Int32), (0 : Int32), m) = some z ∧ z = (nI (20 + x), m) := by
      refine loop_to 17 (fun k z => z = (if k ≤ x then (1 : Int32) else nI (20 + x), nI k, m)) _ (by omega) ?_ ?_ (by rw [if_pos (by omega)]; rfl)
      · rintro k z hk rfl
        show ∃ s', f_X12_cut_146 (nI i) x3 (lN u) (if k ≤ x then (1 : Int32) else nI (20 + x)) (nI k) m = some (Sum.inl s') ∧ _
        obtain ⟨w2, hw2, e2, e3⟩ := cell k hk
        unfold f_X12_cut_146
        rw [lit_17, if_neg (nI_ge hk (by omega)), aJ_n _ 63 hk (by omega), bind_s, e3]
        by_cases q : W27 w2 = u
        · have : w2 = w := W5_inj _ hw2 _ hw (by rw [e, (same w2 hw2).mpr q])
          subst this
          have : k = x := by omega
          subst this
          rw [if_pos ((cmp _ (W27_lt _ hw2)).mpr q), show (20 : Int32) = nI 20 from rfl, nI_add, nmI_e, bind_s]
          unfold f_X12_cut_173
          rw [nmI_e, bind_s, nI_1]
          exact ⟨_, rfl, by rw [if_neg (by omega)]⟩
        · have : ¬ k = x := by
            intro z
            apply q
            have e4 : mkd (17 + w2) = mkd (17 + w) := by omega
            have := mkd_inj _ (by omega) _ (by omega) e4
            rw [show w2 = w by omega]
            exact (same w hw).mp e
          rw [if_neg (fun z => q ((cmp _ (W27_lt _ hw2)).mp z))]
          unfold f_X12_cut_173
          rw [nmI_e, bind_s, nI_1]
          refine ⟨_, rfl, ?_⟩
          by_cases q2 : k ≤ x
          · rw [if_pos q2, if_pos (by omega)]
          · rw [if_neg q2, if_neg (by omega)]
      · rintro z rfl
        show ∃ e, f_X12_cut_146 (nI i) x3 (lN u) (if 17 ≤ x then (1 : Int32) else nI (20 + x)) (nI 17) m = some (Sum.inr e) ∧ _
        unfold f_X12_cut_146
        rw [lit_17, if_pos (nI_le (Nat.le_refl _) (by omega)), if_neg (by omega)]
        exact ⟨_, rfl, rfl⟩
    obtain ⟨z, e1, rfl⟩ := key
    exact e1
  · have hno : ∀ w, w < 17 → ¬ W5 w = v := fun w h1 h2 => hw ⟨w, h1, h2⟩
    rw [kN_n hno]
    have key : ∃ z, loop (g_X12_cut_146 (nI i) x3 (lN u)) ((1 : Int32), (0 : Int32), m) = some z ∧ z = (1, m) := by
      refine loop_to 17 (fun k z => z = ((1 : Int32), nI k, m)) _ (by omega) ?_ ?_ rfl
      · rintro k z hk rfl
        show ∃ s', f_X12_cut_146 (nI i) x3 (lN u) 1 (nI k) m = some (Sum.inl s') ∧ _
        obtain ⟨w2, hw2, e2, e3⟩ := cell k hk
        unfold f_X12_cut_146
        rw [lit_17, if_neg (nI_ge hk (by omega)), aJ_n _ 63 hk (by omega), bind_s, e3, if_neg (fun z => hno w2 hw2 ((same w2 hw2).mpr ((cmp _ (W27_lt _ hw2)).mp z)))]
        unfold f_X12_cut_173
        rw [nmI_e, bind_s, nI_1]
        exact ⟨_, rfl, rfl⟩
      · rintro z rfl
        show ∃ e, f_X12_cut_146 (nI i) x3 (lN u) 1 (nI 17) m = some (Sum.inr e) ∧ _
        unfold f_X12_cut_146
        rw [lit_17, if_pos (nI_le (Nat.le_refl _) (by omega))]
        exact ⟨_, rfl, rfl⟩
    obtain ⟨z, e1, rfl⟩ := key
    exact e1
end KD
