/-! ===== the tape cut: what both make of it ===== -/
def byt (y : Int32) : Nat := y.toBitVec.toNat % 256
theorem byt_lt (y : Int32) : byt y < 256 := Nat.mod_lt _ (by omega)
theorem byt_ok (y : Int32) : y &&& (255 : Int32) = nI (byt y) := by
  apply Int32.toBitVec_inj.mp
  apply BitVec.eq_of_toNat_eq
  rw [Int32.toBitVec_and, BitVec.toNat_and, show (255 : Int32).toBitVec.toNat = 2 ^ 8 - 1 from rfl, Nat.and_two_pow_sub_one_eq_mod]
  show _ = (Int32.ofNat (byt y)).toBitVec.toNat
  rw [Int32.toBitVec_ofNat', BitVec.toNat_ofNat, Nat.mod_eq_of_lt (a := byt y) (by have := byt_lt y; omega)]
  rfl
def isBl (c : Nat) : Bool := decide (c = 9 ∨ c = 10 ∨ c = 13 ∨ c = 32)
def isLt (c : Nat) : Bool := decide (97 ≤ c ∧ c ≤ 122)
def isDi (c : Nat) : Bool := decide (48 ≤ c ∧ c ≤ 57)
theorem fd_le (p : Nat → Bool) : ∀ k, fd p k ≤ k
  | 0 => Nat.le_refl _
  | k + 1 => by
    have := fd_le p k
    unfold fd
    split
    · omega
    · split <;> omega
theorem fd_f {p : Nat → Bool} : ∀ {k j : Nat}, j < fd p k → p j = false
  | 0, j, h => by unfold fd at h; omega
  | k + 1, j, h => by
    have h1 := fd_le p k
    unfold fd at h
    by_cases q : fd p k < k
    · rw [if_pos q] at h
      exact fd_f h
    · rw [if_neg q] at h
      by_cases hp : p k = true
      · rw [hp, if_pos rfl] at h
        exact fd_f (k := k) (by omega)
      · by_cases e : j = k
        · rw [e]; exact Bool.eq_false_iff.mpr hp
        · have : j < k + 1 := by
            have : (if p k = true then k else k + 1) ≤ k + 1 := by split <;> omega
            omega
          exact fd_f (k := k) (by omega)
theorem fd_t {p : Nat → Bool} : ∀ {k : Nat}, fd p k < k → p (fd p k) = true
  | 0, h => by omega
  | k + 1, h => by
    have h1 := fd_le p k
    unfold fd at h ⊢
    by_cases q : fd p k < k
    · rw [if_pos q]
      exact fd_t q
    · rw [if_neg q] at h ⊢
      by_cases hp : p k = true
      · rw [if_pos hp]; exact hp
      · rw [if_neg hp] at h
        omega
theorem fd_at {p : Nat → Bool} {k N : Nat} (h1 : ∀ j, j < k → p j = false) (h2 : p k = true) (hN : k < N) : fd p N = k := by
  have a := fd_le p N
  by_cases q : fd p N < k
  · have := fd_t (p := p) (k := N) (by omega)
    rw [h1 _ q] at this
    cases this
  · by_cases q2 : k < fd p N
    · have := fd_f q2
      rw [h2] at this
      cases this
    · omega
/-- how many signs from i on are of a kind -/
def rl (p : Nat → Bool) (By : Nat → Nat) (n i : Nat) : Nat := fd (fun k => !(p (By (i + k)))) (n - i)
theorem rl_le {p : Nat → Bool} {By : Nat → Nat} {n i : Nat} : rl p By n i ≤ n - i := fd_le _ _
theorem rl_t {p : Nat → Bool} {By : Nat → Nat} {n i k : Nat} (h : k < rl p By n i) : p (By (i + k)) = true := by
  have := fd_f h
  simpa using this
theorem rl_f {p : Nat → Bool} {By : Nat → Nat} {n i : Nat} (h : i + rl p By n i < n) : p (By (i + rl p By n i)) = false := by
  have : (!(p (By (i + rl p By n i)))) = true := fd_t (p := fun k => !(p (By (i + k)))) (k := n - i) (show rl p By n i < n - i by omega)
  simpa using this
theorem rl_0 {p : Nat → Bool} {By : Nat → Nat} {n i : Nat} (hi : i < n) (h : p (By i) = false) : rl p By n i = 0 := fd_at (fun j hj => by omega) (by rw [Nat.add_zero, h]; rfl) (by omega)
theorem rl_s {p : Nat → Bool} {By : Nat → Nat} {n i : Nat} (hi : i < n) (h : p (By i) = true) : rl p By n i = rl p By n (i + 1) + 1 := by
  have a := rl_le (p := p) (By := By) (n := n) (i := i + 1)
  by_cases q : i + 1 + rl p By n (i + 1) < n
  · refine fd_at (fun j hj => ?_) ?_ (by omega)
    · cases j with
      | zero => rw [Nat.add_zero, h]; rfl
      | succ j =>
        have := rl_t (p := p) (By := By) (n := n) (i := i + 1) (k := j) (by omega)
        rw [show i + (j + 1) = i + 1 + j by omega, this]; rfl
    · have := rl_f q
      rw [show i + (rl p By n (i + 1) + 1) = i + 1 + rl p By n (i + 1) by omega, this]; rfl
  · have e : rl p By n (i + 1) = n - (i + 1) := by omega
    have : fd (fun k => !(p (By (i + k)))) (n - i) = n - i := fd_all (fun j hj => by
      cases j with
      | zero => rw [Nat.add_zero, h]; rfl
      | succ j =>
        have := rl_t (p := p) (By := By) (n := n) (i := i + 1) (k := j) (by omega)
        rw [show i + (j + 1) = i + 1 + j by omega, this]; rfl)
    unfold rl at e ⊢
    omega
/-- strings as numbers -/
def vB (B : Nat) (f : Nat → Nat) : Nat → Nat
  | 0 => 0
  | k + 1 => B * vB B f k + f k
theorem vB_lt {B : Nat} {f : Nat → Nat} : ∀ {k : Nat}, (∀ j, j < k → f j < B) → vB B f k < B ^ k
  | 0, _ => Nat.one_pos
  | k + 1, h => by
    have h1 := h k (by omega)
    have h2 := vB_lt (B := B) (f := f) (k := k) (fun j hj => h j (by omega))
    have h3 : B * (vB B f k + 1) ≤ B * B ^ k := Nat.mul_le_mul_left _ h2
    rw [Nat.mul_add, Nat.mul_one] at h3
    show B * vB B f k + f k < B ^ (k + 1)
    rw [Nat.pow_succ, Nat.mul_comm (B ^ k)]
    omega
theorem vB_cg {B : Nat} {f g : Nat → Nat} : ∀ {k : Nat}, (∀ j, j < k → f j = g j) → vB B f k = vB B g k
  | 0, _ => rfl
  | k + 1, h => by
    show B * vB B f k + f k = B * vB B g k + g k
    rw [vB_cg (fun j hj => h j (by omega)), h k (by omega)]
theorem vB_inj {B : Nat} {f g : Nat → Nat} : ∀ {k k' : Nat}, (∀ j, j < k → 0 < f j ∧ f j < B) → (∀ j, j < k' → 0 < g j ∧ g j < B) → vB B f k = vB B g k' → k = k' ∧ ∀ j, j < k → f j = g j
  | 0, 0, _, _, _ => ⟨rfl, fun j hj => by omega⟩
  | 0, k' + 1, _, h2, e => by
    have := h2 k' (by omega)
    have e' : (0 : Nat) = B * vB B g k' + g k' := e
    omega
  | k + 1, 0, h1, _, e => by
    have := h1 k (by omega)
    have e' : B * vB B f k + f k = 0 := e
    omega
  | k + 1, k' + 1, h1, h2, e => by
    have a := h1 k (by omega)
    have b := h2 k' (by omega)
    have e' : B * vB B f k + f k = B * vB B g k' + g k' := e
    have e1 : f k = g k' := by
      have := congrArg (· % B) e'
      simp only [Nat.mul_add_mod] at this
      rwa [Nat.mod_eq_of_lt a.2, Nat.mod_eq_of_lt b.2] at this
    have e2 : vB B f k = vB B g k' := by
      rw [e1] at e'
      exact Nat.eq_of_mul_eq_mul_left (show 0 < B by omega) (by omega)
    obtain ⟨r1, r2⟩ := vB_inj (fun j hj => h1 j (by omega)) (fun j hj => h2 j (by omega)) e2
    refine ⟨by omega, fun j hj => ?_⟩
    by_cases q : j = k
    · subst q
      rw [e1, r1]
    · exact r2 j (by omega)
/-- two strings of letters are the same in both counts -/
theorem vB_same {f g : Nat → Nat} {k k' : Nat} (h1 : ∀ j, j < k → 0 < f j ∧ f j < 27) (h2 : ∀ j, j < k' → 0 < g j ∧ g j < 27) : vB 32 f k = vB 32 g k' ↔ vB 27 f k = vB 27 g k' := by
  constructor
  · intro e
    obtain ⟨r1, r2⟩ := vB_inj (fun j hj => ⟨(h1 j hj).1, by have := (h1 j hj).2; omega⟩) (fun j hj => ⟨(h2 j hj).1, by have := (h2 j hj).2; omega⟩) e
    rw [← r1]
    exact vB_cg r2
  · intro e
    obtain ⟨r1, r2⟩ := vB_inj h1 h2 e
    rw [← r1]
    exact vB_cg r2
/-- the words, in the class's order: letter by letter -/
def kwL : List (List Nat) := [[16, 1, 18, 20, 19], [12, 1, 23], [13, 1, 14], [6, 15, 7], [9, 6], [20, 8, 5, 14], [5, 12, 19, 5], [15, 18], [1, 14, 4], [14, 15, 20], [7, 1, 16], [15, 23, 14], [1, 8, 5, 1, 4], [20, 23, 15], [4, 18, 21, 13], [2, 5, 14, 3, 8], [19, 15, 14, 7]]
def kwf (w j : Nat) : Nat := (kwL.getD w []).getD j 1
def kwn (w : Nat) : Nat := (kwL.getD w []).length
def W5 (w : Nat) : Nat := vB 32 (kwf w) (kwn w)
def W27 (w : Nat) : Nat := vB 27 (kwf w) (kwn w)
/-- where the reference has the class's word -/
def mkl : List Nat := [0, 3, 1, 2, 4, 5, 16, 8, 9, 10, 15, 11, 12, 13, 14, 6, 7, 20, 21, 25, 28, 22, 23, 24, 29, 30, 31, 36, 32, 33, 34, 26, 35, 27]
def mkd (k : Nat) : Nat := mkl.getD k 3
theorem kw_ok : ∀ w, w < 17 → 1 ≤ kwn w ∧ kwn w ≤ 5 ∧ ∀ j, j < 8 → 0 < kwf w j ∧ kwf w j < 27 := by decide +kernel
theorem W5_inj : ∀ w, w < 17 → ∀ w', w' < 17 → W5 w = W5 w' → w = w' := by decide +kernel
theorem mkd_inj : ∀ k, k < 34 → ∀ k', k' < 34 → mkd k = mkd k' → k = k' := by decide +kernel
theorem mkd_w : ∀ w, w < 17 → 20 ≤ mkd (17 + w) ∧ mkd (17 + w) < 37 := by decide +kernel
theorem mkd_lt : ∀ k, k < 34 → mkd k < 37 := by decide +kernel
theorem mkd_s : ∀ x, x < 17 → ∃ w, w < 17 ∧ mkd (17 + w) = 20 + x := by decide +kernel
/-- a name's kind -/
def kN (v : Nat) : Nat := if fd (fun w => decide (W5 w = v)) 17 < 17 then 17 + fd (fun w => decide (W5 w = v)) 17 else 2
theorem kN_lt (v : Nat) : kN v < 34 ∧ 2 ≤ kN v := by unfold kN; split <;> omega
theorem kN_w {v w : Nat} (hw : w < 17) (h : W5 w = v) : kN v = 17 + w := by
  have e : fd (fun w => decide (W5 w = v)) 17 = w := fd_at (fun j hj => decide_eq_false (fun z => by have := W5_inj j (by omega) w hw (by rw [z, h]); omega)) (decide_eq_true h) hw
  unfold kN
  rw [e, if_pos hw]
theorem kN_n {v : Nat} (h : ∀ w, w < 17 → ¬ W5 w = v) : kN v = 2 := by
  have e : fd (fun w => decide (W5 w = v)) 17 = 17 := fd_all (fun j hj => decide_eq_false (h j hj))
  unfold kN
  rw [e, if_neg (by omega)]
def sgT (c : Nat) : Nat := if c = 59 then 4 else if c = 61 then 5 else if c = 44 then 6 else if c = 43 then 7 else if c = 45 then 8 else if c = 42 then 9 else if c = 47 then 10 else if c = 60 then 13 else if c = 40 then 15 else if c = 41 then 16 else 1
def sg2 (c d : Nat) : Nat := if d = 61 then (if c = 61 then 11 else if c = 33 then 12 else if c = 60 then 14 else 0) else 0
def sgK (c d : Nat) : Nat := if sg2 c d = 0 then sgT c else sg2 c d
def nxB (By : Nat → Nat) (n i : Nat) : Nat := if i < n then By i else 0
def ltr (By : Nat → Nat) (i : Nat) : Nat → Nat := fun j => By (i + j) - 96
def dgr (By : Nat → Nat) (i : Nat) : Nat → Nat := fun j => By (i + j) - 48
def lexK (By : Nat → Nat) (n i : Nat) : Nat := if n ≤ i then 0 else if isLt (By i) = true then (if 8 < rl isLt By n i then 1 else kN (vB 32 (ltr By i) (rl isLt By n i))) else if isDi (By i) = true then (if 4 < rl isDi By n i then 1 else 3) else sgK (By i) (nxB By n (i + 1))
def lexN (By : Nat → Nat) (n i : Nat) : Nat := if isLt (By i) = true then rl isLt By n i else if isDi (By i) = true then rl isDi By n i else if sg2 (By i) (nxB By n (i + 1)) = 0 then 1 else 2
def skp (By : Nat → Nat) (n i : Nat) : Nat := i + rl isBl By n i
def tp (By : Nat → Nat) (n : Nat) : Nat → Nat
  | 0 => skp By n 0
  | t + 1 => skp By n (tp By n t + lexN By n (tp By n t))
def tk (By : Nat → Nat) (n t : Nat) : Nat := lexK By n (tp By n t)
def vI (By : Nat → Nat) (n t : Nat) : Nat := vB 10 (dgr By (tp By n t)) (rl isDi By n (tp By n t))
def v5 (By : Nat → Nat) (n t : Nat) : Nat := vB 32 (ltr By (tp By n t)) (rl isLt By n (tp By n t))
def v27 (By : Nat → Nat) (n t : Nat) : Nat := vB 27 (ltr By (tp By n t)) (rl isLt By n (tp By n t))
theorem sgK_lt (c d : Nat) : sgK c d < 17 ∧ 0 < sgK c d ∧ ¬ sgK c d = 2 ∧ ¬ sgK c d = 3 := by
  unfold sgK sg2 sgT
  repeat' split
  all_goals omega
theorem lexK_lt (By : Nat → Nat) (n i : Nat) : lexK By n i < 34 := by
  unfold lexK
  have := sgK_lt (By i) (nxB By n (i + 1))
  have := kN_lt (vB 32 (ltr By i) (rl isLt By n i))
  repeat' split
  all_goals omega
theorem lexN_b {By : Nat → Nat} {n i : Nat} (hi : i < n) : 1 ≤ lexN By n i ∧ i + lexN By n i ≤ n := by
  unfold lexN
  have a := rl_le (p := isLt) (By := By) (n := n) (i := i)
  have b := rl_le (p := isDi) (By := By) (n := n) (i := i)
  split
  · next h =>
    have := rl_s (n := n) hi h
    omega
  · split
    · next h =>
      have := rl_s (n := n) hi h
      omega
    · split
      · omega
      · next h =>
        have : i + 1 < n := by
          apply Classical.byContradiction
          intro z
          apply h
          unfold sg2 nxB
          rw [if_neg z]
          rfl
        omega
theorem skp_b {By : Nat → Nat} {n i : Nat} (hi : i ≤ n) : i ≤ skp By n i ∧ skp By n i ≤ n := by
  have := rl_le (p := isBl) (By := By) (n := n) (i := i)
  unfold skp
  omega
theorem skp_1 {By : Nat → Nat} {n i : Nat} (hi : i < n) (h : isBl (By i) = true) : skp By n i = skp By n (i + 1) := by
  unfold skp
  rw [rl_s hi h]
  omega
theorem skp_0 {By : Nat → Nat} {n i : Nat} (hi : i < n) (h : isBl (By i) = false) : skp By n i = i := by
  unfold skp
  rw [rl_0 hi h]
  rfl
theorem skp_n {By : Nat → Nat} {n : Nat} : skp By n n = n := by
  have := rl_le (p := isBl) (By := By) (n := n) (i := n)
  unfold skp
  omega
theorem tp_le (By : Nat → Nat) (n : Nat) : ∀ t, tp By n t ≤ n ∨ tk By n (t - 1) = 0
  | 0 => Or.inl (skp_b (Nat.zero_le _)).2
  | t + 1 => by
    by_cases h : tp By n t < n
    · exact Or.inl (skp_b (lexN_b h).2).2
    · right
      show lexK By n (tp By n t) = 0
      unfold lexK
      rw [if_pos (by omega)]
/-- the last token that is looked at -/
def te (By : Nat → Nat) (n : Nat) : Nat := fd (fun t => decide (tk By n t < 2)) 400
theorem te_le (By : Nat → Nat) (n : Nat) : te By n ≤ 400 := fd_le _ _
theorem te_b {By : Nat → Nat} {n t : Nat} (h : t < te By n) : 2 ≤ tk By n t := by
  have := of_decide_eq_false (fd_f h)
  omega
theorem te_e {By : Nat → Nat} {n : Nat} (h : te By n < 400) : tk By n (te By n) < 2 := of_decide_eq_true (fd_t h)
theorem tk_p {By : Nat → Nat} {n t : Nat} (h : ¬ tk By n t = 0) : tp By n t < n := by
  apply Classical.byContradiction
  intro z
  apply h
  show lexK By n (tp By n t) = 0
  unfold lexK
  rw [if_pos (by omega)]
theorem te_p {By : Nat → Nat} {n t : Nat} (h : t ≤ te By n) : tp By n t ≤ n := by
  rcases tp_le By n t with z | z
  · exact z
  · cases t with
    | zero => exact (skp_b (Nat.zero_le _)).2
    | succ t =>
      have := te_b (By := By) (n := n) (t := t) (by omega)
      rw [show t + 1 - 1 = t from rfl] at z
      omega
theorem ltr_ok {By : Nat → Nat} {n i j : Nat} (h : j < rl isLt By n i) : 0 < ltr By i j ∧ ltr By i j < 27 := by
  have := of_decide_eq_true (rl_t h)
  unfold ltr
  omega
theorem dgr_ok {By : Nat → Nat} {n i j : Nat} (h : j < rl isDi By n i) : dgr By i j < 10 := by
  have := of_decide_eq_true (rl_t h)
  unfold dgr
  omega
