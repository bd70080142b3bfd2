/-! ===== clashes ===== -/
/-- the gap ahead, without its sign -/
def gab (P : Nat) (t : Nat → Nat) (b : Nat) : Nat := (gp P (nI (t b)) (nI (t (b - 1)))).natAbs
/-- the bits of the benches below k that clash -/
def clb (P : Nat) (t : Nat → Nat) : Nat → Int32
  | 0 => 0
  | k + 1 => if 0 < k ∧ (P + 2) / 3 ≤ gab P t k then clb P t k ||| ((1 : Int32) <<< (nI k &&& 31)) else clb P t k
theorem clb_y {P : Nat} {t : Nat → Nat} {k : Nat} (h : 0 < k ∧ (P + 2) / 3 ≤ gab P t k) : clb P t (k + 1) = clb P t k ||| ((1 : Int32) <<< (nI k &&& 31)) := if_pos h
theorem clb_n {P : Nat} {t : Nat → Nat} {k : Nat} (h : ¬ (0 < k ∧ (P + 2) / 3 ≤ gab P t k)) : clb P t (k + 1) = clb P t k := if_neg h
theorem abI_iI {g : Int} (h1 : -2 ^ 30 < g) (h2 : g < 2 ^ 30) : abI (iI g) = nI g.natAbs := by
  unfold abI
  have hg : (iI g).toInt = g := iI_toInt (by omega) (by omega)
  apply Int32.toInt_inj.mp
  rw [nI_toInt (by omega)]
  by_cases h : 0 ≤ iI g
  · rw [if_pos h, hg]
    rw [Int32.le_iff_toInt_le, hg, show (0 : Int32).toInt = 0 from rfl] at h
    omega
  · rw [if_neg h, Int32.toInt_sub, hg, show (0 : Int32).toInt = 0 from rfl]
    rw [Int32.le_iff_toInt_le, hg, show (0 : Int32).toInt = 0 from rfl] at h
    rw [Int.bmod_eq_of_le (by omega) (by omega)]
    omega
theorem ab_m {g : Int} (h1 : -2 ^ 30 < g) (h2 : g < 2 ^ 30) : (0 ≤ iI g → iI g = nI g.natAbs) ∧ (¬ 0 ≤ iI g → - iI g = nI g.natAbs) := by
  have hg : (iI g).toInt = g := iI_toInt (by omega) (by omega)
  refine ⟨fun h => ?_, fun h => ?_⟩
  · apply Int32.toInt_inj.mp
    rw [nI_toInt (by omega), hg]
    rw [Int32.le_iff_toInt_le, hg, show (0 : Int32).toInt = 0 from rfl] at h
    omega
  · apply Int32.toInt_inj.mp
    rw [nI_toInt (by omega), Int32.toInt_neg, hg]
    rw [Int32.le_iff_toInt_le, hg, show (0 : Int32).toInt = 0 from rfl] at h
    rw [Int.bmod_eq_of_le (by omega) (by omega)]
    omega
theorem third {P : Nat} (hP : P ≤ 24) : dvI (nI P + 2) 3 = some (nI ((P + 2) / 3)) := by
  rw [lit_2, lit_3, nI_add, dvI_of (nI_nz (by omega) (by omega)), pk_div (by omega) (by omega) (by omega)]
theorem p60n {u : Nat → Nat} {n : Nat} (hn : n ≤ 12) (hu : ∀ b, b < n → u b < 32) : pk u n < 2 ^ 60 := by
  have h := pk_lt32 hu
  have : 32 ^ n ≤ 32 ^ 12 := Nat.pow_le_pow_right (by omega) (by omega)
  omega
theorem x_gapAhead {m : M2} {c P n : Nat} {t : Nat → Nat} (hp : hI m c 0 = nI P) (hP : 3 ≤ P ∧ P ≤ 24) (hn : n ≤ 12) (ht : ∀ b, b < n → t b < 32) {b : Nat} (h0 : 0 < b) (hb : b < n) : F_X5_gapAhead c (lN (pk t n)) (nI b) m = some (iI (gp P (nI (t b)) (nI (t (b - 1)))), m) := by
  unfold F_X5_gapAhead
  rw [x_timeAt (p60n hn ht) (by omega), bind_s]
  dsimp only
  rw [lit_1, pk_sub (by omega), x_timeAt (p60n hn ht) (by omega), bind_s]
  dsimp only
  rw [x_gap hp (by omega) (by omega), bind_s, pk_dig ht hb, pk_dig ht (by omega)]
theorem gab_le {P : Nat} (t : Nat → Nat) (b : Nat) (hP : 0 < P) : 2 * gab P t b ≤ P := by
  have := gp_bounds (nI (t b)) (nI (t (b - 1))) hP
  unfold gab
  omega
theorem x_clash {m : M2} {c P n nl lag : Nat} {song : Int32} {t : Nat → Nat} (hT : TxC m c P n nl lag song) (ht : ∀ b, b < n → t b < 32) : F_X5_clashBits c (lN (pk t n)) m = some (clb P t n, m) := by
  obtain ⟨⟨h1, h2, h3, h4, h5⟩, hP, hn, hnl, hlag, hso, hc⟩ := hT
  unfold F_X5_clashBits
  rw [h1, third hP.2, bind_s]
  have key : ∃ e, loop (g_X5_clashBits_18 c (lN (pk t n)) (nI ((P + 2) / 3))) ((0 : Int32), (1 : Int32), m) = some e ∧ e = (clb P t n, m) := by
    refine loop_to (n - 1) (fun k s => s = (clb P t (k + 1), nI (k + 1), m)) _ (by omega) ?_ ?_ rfl
    · rintro k s hk rfl
      show ∃ s', f_X5_clashBits_18 c (lN (pk t n)) (nI ((P + 2) / 3)) (clb P t (k + 1)) (nI (k + 1)) m = some (Sum.inl s') ∧ _
      unfold f_X5_clashBits_18
      have hg := gp_bounds (P := P) (nI (t (k + 1))) (nI (t k)) (by omega)
      have hgl := gab_le (P := P) t (k + 1) (by omega)
      rw [h2, if_neg (nI_ge (show k + 1 < n by omega) (by omega)), x_gapAhead h1 hP hn ht (by omega) (by omega), bind_s]
      dsimp only
      rw [abI_iI (by simp only [Nat.add_sub_cancel]; omega) (by simp only [Nat.add_sub_cancel]; omega)]
      show ∃ s', (if nI (gab P t (k + 1)) < nI ((P + 2) / 3) then _ else _) = _ ∧ _
      by_cases hq : gab P t (k + 1) < (P + 2) / 3
      · rw [if_pos (nI_lt hq (by omega))]
        refine ⟨_, rfl, ?_⟩
        rw [clb_n (k := k + 1) (by omega), nI_1]
      · rw [if_neg (nI_nlt (by omega) (by omega)), nmI_e, bind_s]
        refine ⟨_, rfl, ?_⟩
        rw [clb_y (k := k + 1) ⟨by omega, by omega⟩, nI_1]
    · rintro s rfl
      show ∃ e, f_X5_clashBits_18 c (lN (pk t n)) (nI ((P + 2) / 3)) _ _ m = some (Sum.inr e) ∧ _
      unfold f_X5_clashBits_18
      rw [h2, if_pos (nI_le (show n ≤ n - 1 + 1 by omega) (by omega))]
      refine ⟨_, rfl, ?_⟩
      cases n with
      | zero => rfl
      | succ n => rfl
  obtain ⟨e, e1, rfl⟩ := key
  rw [e1, bind_s]
theorem m_clash {m : M2} {l P n k nl lag : Nat} {song drum : Int32} {laws : Nat → Int32} {t : Nat → Nat} (hT : TxM m l P n nl song) (hP : 3 ≤ P ∧ P ≤ 24) (hR : RwM m k lag drum laws t) (hk : k ≤ 12) : F_X12_clashesNow m = some (clb P t k, m) := by
  obtain ⟨t1, t2, t3, t4, t5, t6⟩ := hT
  obtain ⟨r1, r2, r3, r4, r5⟩ := hR
  unfold F_X12_clashesNow
  have key : ∃ e, loop g_X12_clashesNow_4 ((0 : Int32), (1 : Int32), m) = some e ∧ e = (clb P t k, m) := by
    refine loop_to (k - 1) (fun j s => s = (clb P t (j + 1), nI (j + 1), m)) _ (by omega) ?_ ?_ rfl
    · rintro j s hj rfl
      show ∃ s', f_X12_clashesNow_4 (clb P t (j + 1)) (nI (j + 1)) m = some (Sum.inl s') ∧ _
      unfold f_X12_clashesNow_4
      have hg := gp_bounds (P := P) (nI (t (j + 1))) (nI (t j)) (by omega)
      have hgl := gab_le (P := P) t (j + 1) (by omega)
      rw [r1, if_neg (nI_ge (show j + 1 < k by omega) (by omega)), aI_n _ 97 (show j + 1 < 12 by omega) (by omega), bind_s, lit_1, pk_sub (by omega), Nat.add_sub_cancel, aI_n _ 97 (show j < 12 by omega) (by omega), bind_s, r4 (j + 1) (by omega), r4 j (by omega), m_gap t1 t2 t3 (by omega) (by omega), bind_s]
      dsimp only
      have fin : f_X12_clashesNow_38 (clb P t (j + 1)) (nI (j + 1)) (nI (gab P t (j + 1))) m = some (Sum.inl (clb P t (j + 1 + 1), nI (j + 1 + 1), m)) := by
        unfold f_X12_clashesNow_38
        rw [m_all t1 t2 t3, bind_s]
        dsimp only
        rw [third hP.2, bind_s]
        by_cases hq : gab P t (j + 1) < (P + 2) / 3
        · rw [if_pos (nI_lt hq (by omega)), clb_n (k := j + 1) (by omega), ← nI_1 (j + 1)]
          rfl
        · rw [if_neg (nI_nlt (by omega) (by omega)), nmI_e, bind_s, clb_y (k := j + 1) ⟨by omega, by omega⟩, ← nI_1 (j + 1)]
          rfl
      obtain ⟨q1, q2⟩ := ab_m (g := gp P (nI (t (j + 1))) (nI (t j))) (by omega) (by omega)
      by_cases hz : 0 ≤ iI (gp P (nI (t (j + 1))) (nI (t j)))
      · rw [if_pos hz, q1 hz]
        exact ⟨_, fin, rfl⟩
      · rw [if_neg hz, nmI_e, bind_s, q2 hz]
        exact ⟨_, fin, rfl⟩
    · rintro s rfl
      show ∃ e, f_X12_clashesNow_4 _ _ m = some (Sum.inr e) ∧ _
      unfold f_X12_clashesNow_4
      rw [r1, if_pos (nI_le (show k ≤ k - 1 + 1 by omega) (by omega))]
      refine ⟨_, rfl, ?_⟩
      cases k with
      | zero => rfl
      | succ k => rfl
  obtain ⟨e, e1, rfl⟩ := key
  rw [e1, bind_s]
