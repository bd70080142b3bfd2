/-! ===== the smallest methods ===== -/
section SM
variable {m : M2} {P l : Nat}
theorem m_menNow {n : Int32} (hl : hI m 56 18 = nI l) (h2 : l < 2) (hn : hI m 74 l = n) : F_X12_menNow m = some (n, m) := by
  unfold F_X12_menNow
  rw [hl, aI_n m 74 h2 (by decide), hn]
  rfl
theorem m_all {n : Int32} (hl : hI m 56 18 = nI l) (h2 : l < 2) (hn : hI m 66 l = n) : F_X12_all m = some (n, m) := by
  unfold F_X12_all
  rw [hl, aI_n m 66 h2 (by decide), hn]
  rfl
theorem m_in (x a b : Int32) : F_X12_in x a b m = some (if a ≤ x ∧ x ≤ b then 1 else 0, m) := by
  unfold F_X12_in
  by_cases h1 : x < a
  · have : ¬ a ≤ x := by rw [Int32.le_iff_toInt_le]; rw [Int32.lt_iff_toInt_lt] at h1; omega
    rw [if_pos h1, if_neg (fun z => this z.1)]
    rfl
  · rw [if_neg h1]
    have h1' : a ≤ x := by rw [Int32.le_iff_toInt_le]; rw [Int32.lt_iff_toInt_lt] at h1; omega
    by_cases h2 : b < x
    · have : ¬ x ≤ b := by rw [Int32.le_iff_toInt_le]; rw [Int32.lt_iff_toInt_lt] at h2; omega
      rw [if_pos h2, if_neg (fun z => this z.2)]
      rfl
    · have h2' : x ≤ b := by rw [Int32.le_iff_toInt_le]; rw [Int32.lt_iff_toInt_lt] at h2; omega
      rw [if_neg h2, if_pos ⟨h1', h2'⟩]
      rfl
theorem nI_nz {P : Nat} (h0 : 0 < P) (hP : P < 2 ^ 30) : ¬ nI P = 0 := nI_ne0 h0 (by omega)
theorem m_rest (hl : hI m 56 18 = nI l) (h2 : l < 2) (hp : hI m 66 l = nI P) (h0 : 0 < P) (hP : P < 2 ^ 30) (x : Int32) : F_X12_rest x m = some (nI (rst P x), m) := by
  unfold F_X12_rest
  rw [m_all hl h2 hp, bind_s, rmI_of (nI_nz h0 hP), bind_s]
  by_cases h : 0 ≤ x - x / nI P * nI P
  · rw [if_pos h, rst_a h0 hP h]
    rfl
  · rw [if_neg h, m_all hl h2 hp, bind_s, rst_b h0 hP h]
    rfl
theorem x_rest {c : Nat} (hp : hI m c 0 = nI P) (h0 : 0 < P) (hP : P < 2 ^ 30) (x : Int32) : F_X5_rest c x m = some (nI (rst P x), m) := by
  unfold F_X5_rest
  rw [hp, rmI_of (nI_nz h0 hP), bind_s]
  by_cases h : 0 ≤ x - x / nI P * nI P
  · rw [if_pos h, rst_a h0 hP h]
    rfl
  · rw [if_neg h, rst_b h0 hP h]
    rfl
theorem gp_v {P r : Nat} {a b : Int32} (hP : P < 2 ^ 29) (hr : r = rst P (a - b)) (h0 : 0 < P) : (if (nI 2 * nI r) ≤ nI P then nI r else nI r - nI P) = iI (gp P a b) := by
  have hlt := rst_lt (a - b) h0
  rw [← hr] at hlt
  unfold gp
  rw [← hr, pk_mul]
  by_cases h : 2 * r ≤ P
  · rw [if_pos ((nI_leI (by omega) (by omega)).mpr h), if_neg (by omega), iI_nat]
  · rw [if_neg (fun z => h ((nI_leI (by omega) (by omega)).mp z)), if_pos (by omega)]
    apply Int32.toInt_inj.mp
    rw [pk_sub_toInt (by omega) (by omega), iI_toInt (by omega) (by omega)]
theorem m_gap (hl : hI m 56 18 = nI l) (h2 : l < 2) (hp : hI m 66 l = nI P) (h0 : 0 < P) (hP : P < 2 ^ 29) (a b : Int32) : F_X12_gap a b m = some (iI (gp P a b), m) := by
  unfold F_X12_gap
  rw [m_rest hl h2 hp h0 (by omega), bind_s, m_all hl h2 hp, bind_s, ← gp_v hP rfl h0]
  rw [lit_2]
  dsimp only
  split
  · rfl
  · rw [m_all hl h2 hp, bind_s]
    rfl
theorem x_gap {c : Nat} (hp : hI m c 0 = nI P) (h0 : 0 < P) (hP : P < 2 ^ 29) (a b : Int32) : F_X5_gap c a b m = some (iI (gp P a b), m) := by
  unfold F_X5_gap
  rw [hp, rmI_of (nI_nz h0 (by omega)), bind_s, ← gp_v hP rfl h0]
  have key : ∀ v, v = nI (rst P (a - b)) → f_X5_gap_26 c v m = some ((if (nI 2 * nI (rst P (a - b))) ≤ nI P then nI (rst P (a - b)) else nI (rst P (a - b)) - nI P), m) := by
    intro v hv
    unfold f_X5_gap_26
    rw [hp, hv, lit_2]
    split <;> rfl
  by_cases h : 0 ≤ (a - b) - (a - b) / nI P * nI P
  · rw [if_pos h]
    exact key _ (rst_a h0 (by omega) h)
  · rw [if_neg h, nmI_e, bind_s]
    exact key _ (rst_b h0 (by omega) h)
end SM
