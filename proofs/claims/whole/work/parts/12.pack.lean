/-! ===== TIMES in one long: five bits a bench ===== -/
def pk (t : Nat → Nat) : Nat → Nat
  | 0 => 0
  | n + 1 => pk t n + t n * 32 ^ n
theorem pk_lt32 {t : Nat → Nat} : ∀ {n : Nat}, (∀ b, b < n → t b < 32) → pk t n < 32 ^ n
  | 0, _ => by simp [pk]
  | n + 1, h => by
    have h1 := pk_lt32 (n := n) (fun b hb => h b (by omega))
    have h2 : t n * 32 ^ n ≤ 31 * 32 ^ n := Nat.mul_le_mul_right _ (by have := h n (by omega); omega)
    simp only [pk, Nat.pow_succ]
    omega
theorem pk_congr {t u : Nat → Nat} : ∀ {n : Nat}, (∀ b, b < n → t b = u b) → pk t n = pk u n
  | 0, _ => rfl
  | n + 1, h => by
    simp only [pk]
    rw [pk_congr (n := n) (fun b hb => h b (by omega)), h n (by omega)]
theorem pk_dig {t : Nat → Nat} {b : Nat} : ∀ {n : Nat}, (∀ b, b < n → t b < 32) → b < n → pk t n / 32 ^ b % 32 = t b
  | 0, _, hb => by omega
  | n + 1, h, hb => by
    have h1 := pk_lt32 (n := n) (fun b hb => h b (by omega))
    simp only [pk]
    by_cases e : b = n
    · subst e
      rw [Nat.add_mul_div_right _ _ (Nat.pow_pos (by omega)), Nat.div_eq_of_lt h1, Nat.zero_add]
      exact Nat.mod_eq_of_lt (h b (by omega))
    · have e1 : 32 ^ n = 32 ^ b * (32 * 32 ^ (n - b - 1)) := by
        rw [← Nat.pow_succ', ← Nat.pow_add]
        congr 1
        omega
      rw [e1, show t n * (32 ^ b * (32 * 32 ^ (n - b - 1))) = (t n * (32 * 32 ^ (n - b - 1))) * 32 ^ b by rw [Nat.mul_assoc, Nat.mul_comm (32 ^ b)], Nat.add_mul_div_right _ _ (Nat.pow_pos (by omega)), show t n * (32 * 32 ^ (n - b - 1)) = 32 * (t n * 32 ^ (n - b - 1)) by rw [← Nat.mul_assoc, Nat.mul_comm (t n), Nat.mul_assoc], Nat.add_mul_mod_self_left]
      exact pk_dig (n := n) (fun b hb => h b (by omega)) (by omega)
theorem pk_inj {t u : Nat → Nat} {n : Nat} (ht : ∀ b, b < n → t b < 32) (hu : ∀ b, b < n → u b < 32) (h : pk t n = pk u n) : ∀ b, b < n → t b = u b := by
  intro b hb
  rw [← pk_dig ht hb, ← pk_dig hu hb, h]
/-- digit b told anew -/
def sd (τ b v : Nat) : Nat := τ - τ / 32 ^ b % 32 * 32 ^ b + v * 32 ^ b
theorem sd_pk {t : Nat → Nat} {b v : Nat} : ∀ {n : Nat}, (∀ b, b < n → t b < 32) → b < n → sd (pk t n) b v = pk (fun i => if i = b then v else t i) n := by
  intro n h hb
  unfold sd
  rw [pk_dig h hb]
  have key : ∀ k, k ≤ n → (b < k → t b * 32 ^ b ≤ pk t k ∧ pk t k - t b * 32 ^ b + v * 32 ^ b = pk (fun i => if i = b then v else t i) k) ∧ (k ≤ b → pk (fun i => if i = b then v else t i) k = pk t k) := by
    intro k
    induction k with
    | zero => intro _; exact ⟨fun h => by omega, fun _ => rfl⟩
    | succ k ih =>
      intro hk
      obtain ⟨i1, i2⟩ := ih (by omega)
      refine ⟨fun hbk => ?_, fun hbk => ?_⟩
      · simp only [pk]
        by_cases e : b = k
        · subst e
          rw [if_pos rfl, i2 (Nat.le_refl _)]
          omega
        · obtain ⟨j1, j2⟩ := i1 (by omega)
          rw [if_neg (fun z => e z.symm), ← j2]
          omega
      · simp only [pk]
        rw [i2 (by omega), if_neg (by omega)]
  exact ((key n (Nat.le_refl n)).1 hb).2
theorem sd_top {t : Nat → Nat} {n v : Nat} (h : ∀ b, b < n → t b < 32) : sd (pk t n) n v = pk t n + v * 32 ^ n := by
  unfold sd
  rw [Nat.div_eq_of_lt (pk_lt32 h)]
  omega
theorem sd_bits {τ s v : Nat} (hs : s ≤ 55) (hτ : τ < 2 ^ 60) (hv : v < 32) : ((τ &&& (2 ^ 64 - 1 ^^^ 31 <<< s)) ||| v <<< s) = τ - τ / 2 ^ s % 32 * 2 ^ s + v * 2 ^ s := by
  have hd : τ = 2 ^ s * (2 ^ 5 * (τ / 2 ^ s / 2 ^ 5) + τ / 2 ^ s % 2 ^ 5) + τ % 2 ^ s := by
    rw [Nat.div_add_mod, Nat.div_add_mod]
  have hlo : τ % 2 ^ s < 2 ^ s := Nat.mod_lt _ (Nat.pow_pos (by omega))
  have hdg : τ / 2 ^ s % 2 ^ 5 < 2 ^ 5 := Nat.mod_lt _ (by omega)
  generalize τ / 2 ^ s / 2 ^ 5 = hi at hd
  have e32 : τ / 2 ^ s % 32 = τ / 2 ^ s % 2 ^ 5 := rfl
  rw [e32]
  generalize τ / 2 ^ s % 2 ^ 5 = dg at hd hdg ⊢
  generalize τ % 2 ^ s = lo at hd hlo
  have e1 : τ - dg * 2 ^ s + v * 2 ^ s = 2 ^ s * (2 ^ 5 * hi + v) + lo := by
    rw [hd, Nat.mul_add, Nat.mul_add, Nat.mul_comm (2 ^ s) dg, Nat.mul_comm (2 ^ s) v]
    omega
  rw [e1]
  apply Nat.eq_of_testBit_eq
  intro j
  rw [Nat.testBit_or, Nat.testBit_and, Nat.testBit_xor, Nat.testBit_shiftLeft, Nat.testBit_shiftLeft, Nat.testBit_two_pow_sub_one, Nat.testBit_two_pow_mul_add _ hlo]
  have hv5 : v < 2 ^ 5 := hv
  have ht : τ.testBit j = if j < s then lo.testBit j else (2 ^ 5 * hi + dg).testBit (j - s) := by
    rw [hd, Nat.testBit_two_pow_mul_add _ hlo]
  rw [ht, Nat.testBit_two_pow_mul_add _ hdg, Nat.testBit_two_pow_mul_add _ hv5]
  have h31 : ∀ i, (31 : Nat).testBit i = decide (i < 5) := fun i => Nat.testBit_two_pow_sub_one 5 i
  rw [h31]
  by_cases c1 : j < s
  · have c2 : ¬ s ≤ j := by omega
    have c3 : j < 64 := by omega
    simp [c1, c2, c3]
  · have c2 : s ≤ j := by omega
    by_cases c4 : j - s < 5
    · have c3 : j < 64 := by omega
      simp [c1, c2, c3, c4]
    · by_cases c3 : j < 64
      · have hvb : v.testBit (j - s) = false := Nat.testBit_lt_two_pow (Nat.lt_of_lt_of_le hv5 (Nat.pow_le_pow_right (by omega) (by omega)))
        simp [c1, c2, c3, c4, hvb]
      · have hvb : v.testBit (j - s) = false := Nat.testBit_lt_two_pow (Nat.lt_of_lt_of_le hv5 (Nat.pow_le_pow_right (by omega) (by omega)))
        have hhi : hi.testBit (j - s - 5) = false := by
          have : τ.testBit j = false := Nat.testBit_lt_two_pow (Nat.lt_of_lt_of_le hτ (Nat.pow_le_pow_right (by omega) (by omega)))
          rw [ht, if_neg c1, Nat.testBit_two_pow_mul_add _ hdg, if_neg c4] at this
          exact this
        simp [c1, c2, c3, c4, hvb, hhi]
theorem lN_tn {n : Nat} (h : n < 2 ^ 64) : (lN n).toBitVec.toNat = n := by
  show (BitVec.ofNat 64 n).toNat = n
  rw [BitVec.toNat_ofNat, Nat.mod_eq_of_lt h]
theorem lN_ext {x : Int64} {n : Nat} (h : n < 2 ^ 64) (hx : x.toBitVec.toNat = n) : x = lN n := by
  apply Int64.toBitVec_inj.mp
  apply BitVec.eq_of_toNat_eq
  rw [hx, lN_tn h]
theorem lN_and {a b : Nat} (ha : a < 2 ^ 64) (hb : b < 2 ^ 64) : lN a &&& lN b = lN (a &&& b) :=
  lN_ext (Nat.lt_of_le_of_lt Nat.and_le_left ha) (by rw [Int64.toBitVec_and, BitVec.toNat_and, lN_tn ha, lN_tn hb])
theorem lN_or {a b : Nat} (ha : a < 2 ^ 64) (hb : b < 2 ^ 64) : lN a ||| lN b = lN (a ||| b) :=
  lN_ext (Nat.or_lt_two_pow ha hb) (by rw [Int64.toBitVec_or, BitVec.toNat_or, lN_tn ha, lN_tn hb])
theorem mask_b : ∀ b : Nat, b < 12 → ((31 : Int64) <<< ((nI (5 * b)).toInt64 &&& 63)) ^^^ (-1 : Int64) = lN (2 ^ 64 - 1 ^^^ 31 <<< (5 * b)) := by decide +kernel
theorem shl_b : ∀ b : Nat, b < 12 → ∀ v : Nat, v < 32 → (nI v &&& 31).toInt64 <<< ((nI (5 * b)).toInt64 &&& 63) = lN (v <<< (5 * b)) := by decide +kernel
theorem shr_b : ∀ b : Nat, b < 12 → ((nI (5 * b)).toInt64.toUInt64 &&& Int64.toUInt64 63) = UInt64.ofNat (5 * b) ∧ (UInt64.ofNat (5 * b)).toBitVec.toNat % 64 = 5 * b := by decide +kernel
theorem p32 (b : Nat) : 32 ^ b = 2 ^ (5 * b) := by rw [Nat.pow_mul]
theorem x_withTime {m : M2} {τ b v : Nat} (hτ : τ < 2 ^ 60) (hb : b < 12) (hv : v < 32) : F_X11_withTime (lN τ) (nI b) (nI v) m = some (lN (sd τ b v), m) := by
  unfold F_X11_withTime
  rw [nmI_e, bind_s, lit_5, pk_mul, mask_b b hb, lit_31, ← lit_31, shl_b b hb v hv]
  have h1 : (2 ^ 64 - 1 ^^^ 31 <<< (5 * b)) < 2 ^ 64 := Nat.xor_lt_two_pow (by omega) (by
    rw [Nat.shiftLeft_eq]
    exact Nat.lt_of_lt_of_le (Nat.mul_lt_mul_of_pos_right (show 31 < 2 ^ 5 by omega) (Nat.pow_pos (by omega))) (by rw [← Nat.pow_add]; exact Nat.pow_le_pow_right (by omega) (by omega)))
  have h2 : v <<< (5 * b) < 2 ^ 64 := by
    rw [Nat.shiftLeft_eq]
    exact Nat.lt_of_lt_of_le (Nat.mul_lt_mul_of_pos_right (show v < 2 ^ 5 by omega) (Nat.pow_pos (by omega))) (by rw [← Nat.pow_add]; exact Nat.pow_le_pow_right (by omega) (by omega))
  rw [lN_and (by omega) h1, lN_or (Nat.lt_of_le_of_lt Nat.and_le_left (by omega)) h2, sd_bits (by omega) hτ hv]
  unfold sd
  rw [p32]
theorem x_timeAt {m : M2} {τ b : Nat} (hτ : τ < 2 ^ 60) (hb : b < 12) : F_X11_timeAt (lN τ) (nI b) m = some (nI (τ / 32 ^ b % 32), m) := by
  unfold F_X11_timeAt
  obtain ⟨e1, e2⟩ := shr_b b hb
  rw [lit_5, pk_mul, e1]
  have h1 : ((lN τ).toUInt64 >>> UInt64.ofNat (5 * b)).toInt64 = lN (τ / 2 ^ (5 * b)) := by
    apply lN_ext (Nat.lt_of_le_of_lt (Nat.div_le_self _ _) (by omega))
    show ((lN τ).toUInt64 >>> UInt64.ofNat (5 * b)).toBitVec.toNat = _
    rw [UInt64.toBitVec_shiftRight]
    show ((lN τ).toBitVec >>> ((UInt64.ofNat (5 * b)).toBitVec % 64)).toNat = _
    rw [BitVec.ushiftRight_eq', BitVec.toNat_ushiftRight, lN_tn (by omega), BitVec.toNat_umod]
    rw [show (64 : BitVec 64).toNat = 64 from rfl, e2, Nat.shiftRight_eq_div_pow]
  rw [h1, lN_i, lit_31, pk_and _ 5 rfl, p32]
  congr 3
  show (BitVec.ofNat 32 (τ / 2 ^ (5 * b))).toNat % 2 ^ 5 = _
  rw [BitVec.toNat_ofNat]
  omega
