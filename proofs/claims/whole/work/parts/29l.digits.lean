/-! ===== rows by number ===== -/
theorem rmI_n {a d : Nat} (ha : a < 2 ^ 31) (h0 : 0 < d) (hd : d < 2 ^ 30) : rmI (nI a) (nI d) = some (nI (a % d)) := by
  rw [rmI_of (nI_nz h0 hd), pk_rem ha h0 (by omega)]
theorem dvI_n {a d : Nat} (ha : a < 2 ^ 31) (h0 : 0 < d) (hd : d < 2 ^ 30) : dvI (nI a) (nI d) = some (nI (a / d)) := by
  rw [dvI_of (nI_nz h0 hd), pk_div ha h0 (by omega)]
def dgt (P j b : Nat) : Nat := j / P ^ b % P
def mN (P : Nat) : (Nat → Nat) → Nat → Nat
  | _, 0 => 0
  | t, k + 1 => t 0 + P * mN P (fun b => t (b + 1)) k
theorem dgt_lt {P : Nat} (h : 0 < P) (j b : Nat) : dgt P j b < P := Nat.mod_lt _ h
theorem dgt_div (P j b : Nat) : dgt P (j / P) b = dgt P j (b + 1) := by
  unfold dgt
  rw [Nat.div_div_eq_div_mul, Nat.pow_succ, Nat.mul_comm]
theorem mN_cg {P : Nat} : ∀ {k : Nat} {t u : Nat → Nat}, (∀ b, b < k → t b = u b) → mN P t k = mN P u k
  | 0, _, _, _ => rfl
  | k + 1, t, u, h => by
    show t 0 + P * mN P (fun b => t (b + 1)) k = u 0 + P * mN P (fun b => u (b + 1)) k
    rw [h 0 (by omega), mN_cg (fun b hb => h (b + 1) (by omega))]
theorem mN_lt {P : Nat} : ∀ {k : Nat} {t : Nat → Nat}, (∀ b, b < k → t b < P) → mN P t k < P ^ k
  | 0, _, _ => Nat.one_pos
  | k + 1, t, h => by
    show t 0 + P * mN P (fun b => t (b + 1)) k < P ^ (k + 1)
    have h1 := h 0 (by omega)
    have h2 := mN_lt (P := P) (k := k) (t := fun b => t (b + 1)) (fun b hb => h (b + 1) (by omega))
    have h3 : P * (mN P (fun b => t (b + 1)) k + 1) ≤ P * P ^ k := Nat.mul_le_mul_left _ h2
    rw [Nat.mul_add, Nat.mul_one] at h3
    rw [Nat.pow_succ, Nat.mul_comm (P ^ k)]
    omega
theorem mN_dgt {P : Nat} : ∀ {k : Nat} {t : Nat → Nat}, (∀ b, b < k → t b < P) → ∀ {b : Nat}, b < k → dgt P (mN P t k) b = t b
  | 0, _, _, b, hb => by omega
  | k + 1, t, h, b, hb => by
    have h1 := h 0 (by omega)
    cases b with
    | zero =>
      show (t 0 + P * mN P (fun b => t (b + 1)) k) / P ^ 0 % P = t 0
      rw [Nat.pow_zero, Nat.div_one, Nat.add_mul_mod_self_left, Nat.mod_eq_of_lt h1]
    | succ b =>
      rw [← dgt_div]
      have e : mN P t (k + 1) / P = mN P (fun b => t (b + 1)) k := by
        show (t 0 + P * mN P (fun b => t (b + 1)) k) / P = _
        rw [Nat.add_mul_div_left _ _ (by omega), Nat.div_eq_of_lt h1, Nat.zero_add]
      rw [e, mN_dgt (fun b hb => h (b + 1) (by omega)) (by omega)]
theorem dgt_mN (P : Nat) : ∀ (k j : Nat), mN P (dgt P j) k = j % P ^ k
  | 0, j => by rw [Nat.pow_zero, Nat.mod_one]; rfl
  | k + 1, j => by
    show dgt P j 0 + P * mN P (fun b => dgt P j (b + 1)) k = _
    have e : mN P (fun b => dgt P j (b + 1)) k = (j / P) % P ^ k := by
      rw [← dgt_mN P k]
      exact mN_cg (fun b _ => (dgt_div P j b).symm)
    rw [e, Nat.pow_succ, Nat.mul_comm (P ^ k), Nat.mod_mul]
    unfold dgt
    rw [Nat.pow_zero, Nat.div_one]
def rvN (P k j : Nat) : Nat := mN P (fun b => dgt P j (k - 1 - b)) k
theorem rvN_lt {P : Nat} (h : 0 < P) (k j : Nat) : rvN P k j < P ^ k := mN_lt (fun b _ => dgt_lt h _ _)
theorem rvN_dgt {P : Nat} (h : 0 < P) {k j b : Nat} (hb : b < k) : dgt P (rvN P k j) b = dgt P j (k - 1 - b) := mN_dgt (fun b _ => dgt_lt h _ _) hb
theorem rvN_rv {P : Nat} (h : 0 < P) {k j : Nat} (hj : j < P ^ k) : rvN P k (rvN P k j) = j := by
  have e : rvN P k (rvN P k j) = mN P (dgt P j) k := mN_cg (fun b hb => by
    rw [rvN_dgt h (by omega)]
    congr 1
    omega)
  rw [e, dgt_mN, Nat.mod_eq_of_lt hj]
/-- a row's next, by the class's numbers -/
def cnx (W : (Nat → Nat) → Nat → Nat) (P : Nat) : Nat → Nat → Nat
  | 0, _ => 0
  | k + 1, i => cnx W P k (i / P) * P + W (fun b => dgt P i (k - b)) k
/-- .. and by the reference's -/
def mnx (W : (Nat → Nat) → Nat → Nat) (P k j : Nat) : Nat := mN P (W (dgt P j)) k
def Wlc (W : (Nat → Nat) → Nat → Nat) : Prop := ∀ t u b, t b = u b → t (b - 1) = u (b - 1) → t (b - 2) = u (b - 2) → W t b = W u b
theorem cnx_eq {W : (Nat → Nat) → Nat → Nat} (hW : Wlc W) (P : Nat) : ∀ k i, cnx W P k i = mN P (fun b => W (fun b' => dgt P i (k - 1 - b')) (k - 1 - b)) k
  | 0, _ => rfl
  | k + 1, i => by
    show cnx W P k (i / P) * P + W (fun b => dgt P i (k - b)) k = W (fun b' => dgt P i (k + 1 - 1 - b')) (k + 1 - 1 - 0) + P * mN P (fun b => W (fun b' => dgt P i (k + 1 - 1 - b')) (k + 1 - 1 - (b + 1))) k
    rw [cnx_eq hW P k, Nat.mul_comm, Nat.add_comm]
    have e : ∀ b', b' < k → dgt P (i / P) (k - 1 - b') = dgt P i (k + 1 - 1 - b') := fun b' hb => by
      rw [dgt_div]
      congr 1
      omega
    congr 2
    refine mN_cg (fun b hb => ?_)
    rw [show k + 1 - 1 - (b + 1) = k - 1 - b by omega]
    exact hW _ _ _ (e _ (by omega)) (e _ (by omega)) (e _ (by omega))
theorem cnx_lt {W : (Nat → Nat) → Nat → Nat} (hW : Wlc W) {P k : Nat} (hP : ∀ t b, b < k → (∀ b', b' < k → t b' < P) → W t b < P) (h0 : 0 < P) (i : Nat) : cnx W P k i < P ^ k := by
  rw [cnx_eq hW]
  exact mN_lt (fun b hb => hP _ _ (by omega) (fun b' _ => dgt_lt h0 _ _))
theorem nx_rev {W : (Nat → Nat) → Nat → Nat} (hW : Wlc W) {P k : Nat} (hP : ∀ t b, b < k → (∀ b', b' < k → t b' < P) → W t b < P) (h0 : 0 < P) (i : Nat) : mnx W P k (rvN P k i) = rvN P k (cnx W P k i) := by
  unfold mnx
  rw [cnx_eq hW]
  show _ = mN P (fun b => dgt P (mN P (fun b => W (fun b' => dgt P i (k - 1 - b')) (k - 1 - b)) k) (k - 1 - b)) k
  refine mN_cg (fun b hb => ?_)
  rw [mN_dgt (fun b hb => hP _ _ (by omega) (fun b' _ => dgt_lt h0 _ _)) (by omega), show k - 1 - (k - 1 - b) = b by omega]
  exact hW _ _ _ (rvN_dgt h0 (by omega)) (rvN_dgt h0 (by omega)) (rvN_dgt h0 (by omega))
/-- the strokes of men that all have one law -/
def Wq (d : TD) (D : Int32) (q : Nat) : (Nat → Nat) → Nat → Nat := fun t b => sstp d (fun _ => nI q) D 0 t b
theorem Wq_lc (d : TD) (D : Int32) (q : Nat) : Wlc (Wq d D q) := by
  intro t u b h1 h2 h3
  unfold Wq sstp stp
  have e : lk (tdP d) (tdG d) (tdS d) D 0 t b = lk (tdP d) (tdG d) (tdS d) D 0 u b := by
    funext i
    unfold lk hrd
    rw [h1, h2, h3]
  rw [e, h1]
theorem Wq_lt {d : TD} (hV : VT d) {D : Int32} {q : Nat} (hq : q < tdL d) {k : Nat} (t : Nat → Nat) (b : Nat) (hb : b < k) (ht : ∀ b', b' < k → t b' < tdP d) : Wq d D q t b < tdP d := stp_lt (n := k) hV.e (fun b _ => Or.inr ⟨q, hq, rfl⟩) hV.l ht b hb
