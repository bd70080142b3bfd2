/-! ===== way ===== -/
theorem x_fill {m : M2} (r L : Nat) (v : Int32) (hL : L < 999999) : ∃ m', F_J7_fill_53178 r L v m = some m' ∧ (∀ j, j < L → hI m' r j = v) ∧ Fr (fun k _ => k = r) m m' := by
  unfold F_J7_fill_53178
  rw [nmI_e, bind_s]
  have key : ∃ e, loop (g_J7_fill_53178_5 r L v (nI L)) ((0 : Int32), m) = some e ∧ (∀ j, j < L → hI e r j = v) ∧ Fr (fun k _ => k = r) m e := by
    refine loop_to L (fun k s => s.1 = nI k ∧ (∀ j, j < k → hI s.2 r j = v) ∧ Fr (fun k _ => k = r) m s.2) _ (by omega) ?_ ?_ ⟨rfl, fun j hj => by omega, Fr.rf⟩
    · rintro k ⟨x, m1⟩ hk ⟨i1, i2, i3⟩
      dsimp only at i1 i2 i3
      subst i1
      show ∃ s', f_J7_fill_53178_5 r L v (nI k) (nI L) m1 = some (Sum.inl s') ∧ _
      unfold f_J7_fill_53178_5
      rw [if_neg (nI_ge hk (by omega)), bI_n _ r _ hk (by omega), bind_s, nmI_e, bind_s]
      refine ⟨_, rfl, nI_1 k, fun j hj => ?_, i3.tI _ rfl⟩
      rw [hI_tI]
      by_cases e : j = k
      · rw [if_pos ⟨rfl, e⟩]
      · rw [if_neg (fun z => e z.2)]
        exact i2 j (by omega)
    · rintro ⟨x, m1⟩ ⟨i1, i2, i3⟩
      dsimp only at i1 i2 i3
      subst i1
      show ∃ e, f_J7_fill_53178_5 r L v (nI L) (nI L) m1 = some (Sum.inr e) ∧ _
      unfold f_J7_fill_53178_5
      rw [if_pos (nI_le (Nat.le_refl L) (by omega))]
      exact ⟨_, rfl, i2, i3⟩
  obtain ⟨e, e1, e2, e3⟩ := key
  rw [e1, bind_s]
  exact ⟨e, rfl, e2, e3⟩
/-- how many of the first n have the time y -/
def cnt (t : Nat → Nat) (y : Nat) : Nat → Nat
  | 0 => 0
  | n + 1 => if t n = y then cnt t y n + 1 else cnt t y n
theorem cnt_le (t : Nat → Nat) (y : Nat) : ∀ n, cnt t y n ≤ n
  | 0 => Nat.le_refl 0
  | n + 1 => by
    have := cnt_le t y n
    unfold cnt
    split <;> omega
/-- how many of the first n are not more than a part from x -/
def ner (P : Nat) (t : Nat → Nat) (x : Nat) : Nat → Nat
  | 0 => 0
  | n + 1 => if -1 ≤ gp P (nI (t n)) (nI x) ∧ gp P (nI (t n)) (nI x) ≤ 1 then ner P t x n + 1 else ner P t x n
theorem ner_le (P : Nat) (t : Nat → Nat) (x : Nat) : ∀ n, ner P t x n ≤ n
  | 0 => Nat.le_refl 0
  | n + 1 => by
    have := ner_le P t x n
    unfold ner
    split <;> omega
theorem rst_sub {P a b : Nat} (hP : 0 < P ∧ P < 2 ^ 20) (ha : a < P) (hb : b < P) : rst P (nI a - nI b) = if b ≤ a then a - b else a + P - b := by
  unfold rst
  rw [pk_sub_toInt (by omega) (by omega)]
  split
  · rw [Int.emod_eq_of_lt (by omega) (by omega)]
    omega
  · rw [← Int.add_emod_right, Int.emod_eq_of_lt (by omega) (by omega)]
    omega
def bef (P x : Nat) : Nat := if x = 0 then P - 1 else x - 1
def beh (P x : Nat) : Nat := if x = P - 1 then 0 else x + 1
theorem ner_iff {P a x : Nat} (hP : 3 ≤ P ∧ P ≤ 24) (ha : a < P) (hx : x < P) : (-1 ≤ gp P (nI a) (nI x) ∧ gp P (nI a) (nI x) ≤ 1) ↔ (a = bef P x ∨ a = x ∨ a = beh P x) := by
  have h := rst_sub (P := P) (a := a) (b := x) (by omega) ha hx
  unfold gp bef beh
  rw [h]
  constructor
  · intro q
    split at q <;> split at q <;> split <;> split <;> omega
  · intro q
    split at q <;> split at q <;> split <;> split <;> omega
theorem ner_cnt {P x : Nat} {t : Nat → Nat} (hP : 3 ≤ P ∧ P ≤ 24) (hx : x < P) : ∀ n, (∀ b, b < n → t b < P) → ner P t x n = cnt t (bef P x) n + cnt t x n + cnt t (beh P x) n
  | 0, _ => rfl
  | n + 1, ht => by
    have ih := ner_cnt hP hx n (fun b hb => ht b (by omega))
    have hi := ner_iff hP (ht n (by omega)) hx
    have d1 : bef P x ≠ x := by unfold bef; split <;> omega
    have d2 : beh P x ≠ x := by unfold beh; split <;> omega
    have d3 : bef P x ≠ beh P x := by unfold bef beh; split <;> split <;> omega
    unfold ner cnt
    by_cases h : -1 ≤ gp P (nI (t n)) (nI x) ∧ gp P (nI (t n)) (nI x) ≤ 1
    · rw [if_pos h, ih]
      rcases hi.mp h with e | e | e
      · rw [if_pos e, if_neg (fun z => d1 (e.symm.trans z)), if_neg (fun z => d3 (e.symm.trans z))]; omega
      · rw [if_neg (fun z => d1 (z.symm.trans e)), if_pos e, if_neg (fun z => d2 (z.symm.trans e))]; omega
      · rw [if_neg (fun z => d3 (z.symm.trans e)), if_neg (fun z => d2 (e.symm.trans z)), if_pos e]; omega
    · rw [if_neg h, ih, if_neg (fun z => h (hi.mpr (Or.inl z))), if_neg (fun z => h (hi.mpr (Or.inr (Or.inl z)))), if_neg (fun z => h (hi.mpr (Or.inr (Or.inr z))))]
/-- the first of the greatest, of 0 .. k -/
def bst (f : Nat → Nat) : Nat → Nat
  | 0 => 0
  | k + 1 => if f (bst f k) < f (k + 1) then k + 1 else bst f k
theorem bst_le (f : Nat → Nat) : ∀ k, bst f k ≤ k
  | 0 => Nat.le_refl 0
  | k + 1 => by
    have := bst_le f k
    unfold bst
    split <;> omega
theorem bst_max (f : Nat → Nat) : ∀ k j, j ≤ k → f j ≤ f (bst f k)
  | 0, j, hj => by
    have : j = 0 := by omega
    subst this
    exact Nat.le_refl _
  | k + 1, j, hj => by
    unfold bst
    split
    · next h =>
      by_cases e : j = k + 1
      · subst e; exact Nat.le_refl _
      · have := bst_max f k j (by omega)
        omega
    · next h =>
      by_cases e : j = k + 1
      · subst e; omega
      · exact bst_max f k j (by omega)
theorem bst_fst (f : Nat → Nat) : ∀ k j, j < bst f k → f j < f (bst f k)
  | 0, j, hj => by simp [bst] at hj
  | k + 1, j, hj => by
    unfold bst at hj ⊢
    split at hj
    · next h =>
      rw [if_pos h]
      have := bst_max f k j (by omega)
      omega
    · next h =>
      rw [if_neg h]
      exact bst_fst f k j hj
theorem bst_stop (f : Nat → Nat) {n : Nat} (hf : ∀ j, f j ≤ n) {k : Nat} (h : f (bst f k) = n) : ∀ i, bst f (k + i) = bst f k
  | 0 => rfl
  | i + 1 => by
    show (if f (bst f (k + i)) < f (k + i + 1) then k + i + 1 else bst f (k + i)) = _
    rw [bst_stop f hf h i, if_neg (by have := hf (k + i + 1); omega)]
/-- WAY: how many; the part -/
def wyp (P : Nat) (t : Nat → Nat) (n : Nat) : Nat := bst (fun x => ner P t x n) (P - 1)
def wyn (P : Nat) (t : Nat → Nat) (n : Nat) : Nat := ner P t (wyp P t n) n
theorem wyp_lt {P n : Nat} {t : Nat → Nat} (h : 0 < P) : wyp P t n < P := by
  have := bst_le (fun x => ner P t x n) (P - 1)
  unfold wyp
  omega
def Cwd (m : M2) (P n : Nat) (t : Nat → Nat) : Prop := ∀ y, y < P → hI m 26 y = nI (cnt t y n)
theorem x_menNear {m : M2} {c P n : Nat} {t : Nat → Nat} (hp : hI m c 0 = nI P) (hP : 3 ≤ P ∧ P ≤ 24) (hn : n ≤ 12) (hC : Cwd m P n t) (ht : ∀ b, b < n → t b < P) {x : Nat} (hx : x < P) : F_X5_menNear c (nI x) m = some (nI (ner P t x n), m) := by
  unfold F_X5_menNear
  rw [if_neg (nI_pos (by omega)), hp, if_pos (nI_lt hx (by omega))]
  have k57 : f_X5_menNear_57 c (nI x) (nI (bef P x)) (nI (beh P x)) m = some (nI (ner P t x n), m) := by
    unfold f_X5_menNear_57
    have b1 : bef P x < P := by unfold bef; split <;> omega
    have b2 : beh P x < P := by unfold beh; split <;> omega
    rw [aI_n _ 26 (show bef P x < 24 by omega) (by omega), bind_s, aI_n _ 26 (show x < 24 by omega) (by omega), bind_s, aI_n _ 26 (show beh P x < 24 by omega) (by omega), bind_s, hC _ b1, hC _ hx, hC _ b2, nI_add, nI_add, ner_cnt hP hx n ht]
  have k36 : f_X5_menNear_36 c (nI x) (nI (bef P x)) m = some (nI (ner P t x n), m) := by
    unfold f_X5_menNear_36
    rw [hp, lit_1, pk_sub (by omega)]
    by_cases e : x = P - 1
    · rw [if_pos (by rw [e])]
      have : nI (beh P x) = 0 := by unfold beh; rw [if_pos e]; rfl
      rw [← this]
      exact k57
    · rw [if_neg (fun z => e ((nI_eq (by omega) (by omega)).mp z)), nI_add]
      have : x + 1 = beh P x := by unfold beh; rw [if_neg e]
      rw [this]
      exact k57
  by_cases e : x = 0
  · subst e
    rw [if_pos (show nI 0 = 0 from rfl), lit_1, pk_sub (by omega)]
    exact k36
  · rw [if_neg (nI_ne0 (by omega) (by omega)), lit_1, pk_sub (by omega)]
    have : x - 1 = bef P x := by unfold bef; rw [if_neg e]
    rw [this]
    exact k36
theorem x_wayPart {m : M2} {c P n nl lag : Nat} {song : Int32} {t : Nat → Nat} (hT : TxC m c P n nl lag song) (ht : ∀ b, b < n → t b < P) : ∃ m', F_X5_wayPart c (lN (pk t n)) m = some (nI (wyp P t n), m') ∧ Cwd m' P n t ∧ Fr (fun k _ => k = 26) m m' := by
  have hT0 := hT
  obtain ⟨⟨h1, h2, h3, h4, h5⟩, hP, hn, hnl, hlag, hso, hc⟩ := hT
  have hc26 : ¬ c = 26 := by rcases hc with rfl | rfl <;> omega
  have ht32 : ∀ b, b < n → t b < 32 := fun b hb => by have := ht b hb; omega
  unfold F_X5_wayPart
  obtain ⟨m1, e1, z1, f1⟩ := x_fill (m := m) 26 24 0 (by omega)
  rw [e1, bind_s]
  have key1 : ∃ e, loop (g_X5_wayPart_10 c (lN (pk t n))) ((0 : Int32), m1) = some e ∧ Cwd e P n t ∧ Fr (fun k _ => k = 26) m e := by
    refine loop_to n (fun k s => s.1 = nI k ∧ (∀ y, y < P → hI s.2 26 y = nI (cnt t y k)) ∧ Fr (fun k _ => k = 26) m s.2) _ (by omega) ?_ ?_ ⟨rfl, fun y hy => z1 y (by omega), f1⟩
    · rintro k ⟨x, m2⟩ hk ⟨i1, i2, i3⟩
      dsimp only at i1 i2 i3
      subst i1
      show ∃ s', f_X5_wayPart_10 c (lN (pk t n)) (nI k) m2 = some (Sum.inl s') ∧ _
      have q1 : hI m2 c 0 = nI P := by rw [i3.I _ _ hc26]; exact h1
      have q2 : hI m2 c 5 = nI n := by rw [i3.I _ _ hc26]; exact h2
      have htk := ht k hk
      unfold f_X5_wayPart_10
      rw [q2, if_neg (nI_ge hk (by omega)), x_timeAt (p60n hn ht32) (by omega), bind_s, pk_dig ht32 hk]
      dsimp only
      rw [q1, if_neg (nI_ge htk (by omega)), aI_n _ 26 (show t k < 24 by omega) (by omega), bind_s, bI_n _ 26 _ (show t k < 24 by omega) (by omega), bind_s]
      refine ⟨_, rfl, nI_1 k, fun y hy => ?_, i3.tI _ rfl⟩
      show hI (tI m2 26 (t k) (hI m2 26 (t k) + 1)) 26 y = _
      rw [hI_tI]
      unfold cnt
      by_cases e : t k = y
      · rw [if_pos ⟨rfl, e.symm⟩, if_pos e, i2 _ htk, e, nI_1]
      · rw [if_neg (fun z => e z.2.symm), if_neg e]
        exact i2 y hy
    · rintro ⟨x, m2⟩ ⟨i1, i2, i3⟩
      dsimp only at i1 i2 i3
      subst i1
      show ∃ e, f_X5_wayPart_10 c (lN (pk t n)) (nI n) m2 = some (Sum.inr e) ∧ _
      have q2 : hI m2 c 5 = nI n := by rw [i3.I _ _ hc26]; exact h2
      unfold f_X5_wayPart_10
      rw [q2, if_pos (nI_le (Nat.le_refl n) (by omega))]
      exact ⟨_, rfl, i2, i3⟩
  obtain ⟨m2, e2, C2, f2⟩ := key1
  have q1 : hI m2 c 0 = nI P := by rw [f2.I _ _ hc26]; exact h1
  have q2 : hI m2 c 5 = nI n := by rw [f2.I _ _ hc26]; exact h2
  rw [e2, bind_s, show (0 : Int32) = nI 0 from rfl, x_menNear q1 hP hn C2 ht (by omega), bind_s]
  dsimp only
  have key2 : ∃ e, loop (g_X5_wayPart_69 c) (nI 0, nI (ner P t 0 n), (1 : Int32), m2) = some e ∧ e = (nI (wyp P t n), m2) := by
    refine loop_ex (P - 1) (fun k s => s = (nI (bst (fun x => ner P t x n) k), nI (ner P t (bst (fun x => ner P t x n) k) n), nI (k + 1), m2)) _ (by omega) ?_ ?_ rfl
    · rintro k s hk rfl
      have hb := bst_le (fun x => ner P t x n) k
      have hl := ner_le P t (bst (fun x => ner P t x n) k) n
      have hl2 := ner_le P t (k + 1) n
      show (∃ s', f_X5_wayPart_69 c _ _ (nI (k + 1)) m2 = some (Sum.inl s') ∧ _) ∨ ∃ e, f_X5_wayPart_69 c _ _ (nI (k + 1)) m2 = some (Sum.inr e) ∧ _
      unfold f_X5_wayPart_69
      rw [q1, if_neg (nI_ge (show k + 1 < P by omega) (by omega)), q2]
      by_cases hs : n ≤ ner P t (bst (fun x => ner P t x n) k) n
      · right
        rw [if_pos (nI_le hs (by omega))]
        refine ⟨_, rfl, ?_⟩
        have := bst_stop (fun x => ner P t x n) (n := n) (fun j => ner_le P t j n) (k := k) (by omega) (P - 1 - k)
        rw [show k + (P - 1 - k) = P - 1 by omega] at this
        unfold wyp
        rw [this]
      · left
        rw [if_neg (nI_ge (by omega) (by omega)), x_menNear q1 hP hn C2 ht (by omega), bind_s]
        dsimp only
        by_cases hg : ner P t (bst (fun x => ner P t x n) k) n < ner P t (k + 1) n
        · rw [if_neg (nI_ge hg (by omega))]
          refine ⟨_, rfl, ?_⟩
          rw [show bst (fun x => ner P t x n) (k + 1) = k + 1 from if_pos hg, nI_1]
        · rw [if_pos (nI_le (by omega) (by omega))]
          refine ⟨_, rfl, ?_⟩
          rw [show bst (fun x => ner P t x n) (k + 1) = bst (fun x => ner P t x n) k from if_neg hg, nI_1]
    · rintro s rfl
      show ∃ e, f_X5_wayPart_69 c _ _ (nI (P - 1 + 1)) m2 = some (Sum.inr e) ∧ _
      unfold f_X5_wayPart_69
      rw [q1, if_pos (nI_le (by omega) (by omega))]
      exact ⟨_, rfl, rfl⟩
  obtain ⟨e, e3, rfl⟩ := key2
  rw [e3, bind_s]
  exact ⟨m2, rfl, C2, f2⟩
theorem x_wayOf {m : M2} {c P n nl lag : Nat} {song : Int32} {t : Nat → Nat} (hT : TxC m c P n nl lag song) (ht : ∀ b, b < n → t b < P) : ∃ m', F_X5_wayOf c (lN (pk t n)) m = some (nI (wyn P t n), m') ∧ Fr (fun k _ => k = 26) m m' := by
  obtain ⟨m1, e1, C1, f1⟩ := x_wayPart hT ht
  obtain ⟨⟨h1, h2, h3, h4, h5⟩, hP, hn, hnl, hlag, hso, hc⟩ := hT
  have hc26 : ¬ c = 26 := by rcases hc with rfl | rfl <;> omega
  unfold F_X5_wayOf
  rw [e1, bind_s]
  dsimp only
  rw [x_menNear (by rw [f1.I _ _ hc26]; exact h1) hP hn C1 ht (wyp_lt (by omega)), bind_s]
  exact ⟨m1, rfl, f1⟩
/-! the reference's -/
theorem m_nearTo {m : M2} {l P n k nl lag : Nat} {song drum : Int32} {laws : Nat → Int32} {t : Nat → Nat} (hT : TxM m l P n nl song) (hP : 3 ≤ P ∧ P ≤ 24) (hR : RwM m k lag drum laws t) (hk : k ≤ 12) (x : Nat) : F_X12_nearTo (nI x) m = some (nI (ner P t x k), m) := by
  obtain ⟨t1, t2, t3, t4, t5, t6⟩ := hT
  obtain ⟨r1, r2, r3, r4, r5⟩ := hR
  unfold F_X12_nearTo
  have key : ∃ e, loop (g_X12_nearTo_4 (nI x)) ((0 : Int32), (0 : Int32), m) = some e ∧ e = (nI (ner P t x k), m) := by
    refine loop_to k (fun j s => s = (nI (ner P t x j), nI j, m)) _ (by omega) ?_ ?_ rfl
    · rintro j s hj rfl
      show ∃ s', f_X12_nearTo_4 (nI x) (nI (ner P t x j)) (nI j) m = some (Sum.inl s') ∧ _
      unfold f_X12_nearTo_4
      have hg := gp_bounds (P := P) (nI (t j)) (nI x) (by omega)
      rw [r1, if_neg (nI_ge hj (by omega)), aI_n _ 97 (show j < 12 by omega) (by omega), bind_s, r4 j hj, m_gap t1 t2 t3 (by omega) (by omega), bind_s, m_in, bind_s]
      dsimp only
      have hv : (iI (gp P (nI (t j)) (nI x))).toInt = gp P (nI (t j)) (nI x) := iI_toInt (by omega) (by omega)
      have hiff : ((-1 : Int32) ≤ iI (gp P (nI (t j)) (nI x)) ∧ iI (gp P (nI (t j)) (nI x)) ≤ 1) ↔ (-1 ≤ gp P (nI (t j)) (nI x) ∧ gp P (nI (t j)) (nI x) ≤ 1) := by
        rw [Int32.le_iff_toInt_le, Int32.le_iff_toInt_le, hv]
        exact Iff.rfl
      by_cases hc : -1 ≤ gp P (nI (t j)) (nI x) ∧ gp P (nI (t j)) (nI x) ≤ 1
      · rw [if_pos (hiff.mpr hc), if_neg (by decide), nmI_e, bind_s]
        refine ⟨_, rfl, ?_⟩
        rw [show ner P t x (j + 1) = ner P t x j + 1 from if_pos hc, nI_1, nI_1]
      · rw [if_neg (fun z => hc (hiff.mp z)), if_pos rfl]
        refine ⟨_, rfl, ?_⟩
        rw [show ner P t x (j + 1) = ner P t x j from if_neg hc, nI_1]
    · rintro s rfl
      show ∃ e, f_X12_nearTo_4 (nI x) _ (nI k) m = some (Sum.inr e) ∧ _
      unfold f_X12_nearTo_4
      rw [r1, if_pos (nI_le (Nat.le_refl k) (by omega))]
      exact ⟨_, rfl, rfl⟩
  obtain ⟨e, e1, rfl⟩ := key
  rw [e1, bind_s]
theorem m_wayNow {m : M2} {l P n k nl lag : Nat} {song drum : Int32} {laws : Nat → Int32} {t : Nat → Nat} (hT : TxM m l P n nl song) (hP : 3 ≤ P ∧ P ≤ 24) (hR : RwM m k lag drum laws t) (hk : k ≤ 12) : F_X12_wayNow m = some (nI (wyn P t k), m) := by
  have hT0 := hT
  obtain ⟨t1, t2, t3, t4, t5, t6⟩ := hT
  unfold F_X12_wayNow
  have key : ∃ e, loop g_X12_wayNow_4 ((0 : Int32), (0 : Int32), m) = some e ∧ e = (nI (wyn P t k), m) := by
    refine loop_to P (fun j s => s = (nI (if j = 0 then 0 else ner P t (bst (fun x => ner P t x k) (j - 1)) k), nI j, m)) _ (by omega) ?_ ?_ rfl
    · rintro j s hj rfl
      show ∃ s', f_X12_wayNow_4 _ (nI j) m = some (Sum.inl s') ∧ _
      have l1 := ner_le P t j k
      have l2 := ner_le P t (bst (fun x => ner P t x k) (j - 1)) k
      unfold f_X12_wayNow_4
      rw [m_all t1 t2 t3, bind_s]
      dsimp only
      rw [if_neg (nI_ge hj (by omega)), m_nearTo hT0 hP hR hk, bind_s]
      dsimp only
      by_cases e : j = 0
      · subst e
        rw [if_pos rfl]
        by_cases hz : ner P t 0 k ≤ 0
        · rw [if_pos (nI_le hz (by omega))]
          refine ⟨_, rfl, ?_⟩
          show (nI 0, nI 0 + 1, m) = _
          have : ner P t (bst (fun x => ner P t x k) 0) k = 0 := by show ner P t 0 k = 0; omega
          rw [if_neg (by omega), show 0 + 1 - 1 = 0 from rfl, this, nI_1]
        · rw [if_neg (nI_ge (by omega) (by omega)), m_nearTo hT0 hP hR hk, bind_s]
          refine ⟨_, rfl, ?_⟩
          show (nI (ner P t 0 k), nI 0 + 1, m) = _
          rw [if_neg (by omega), nI_1]
          rfl
      · rw [if_neg e]
        have ej : j + 1 - 1 = (j - 1) + 1 := by omega
        by_cases hg : ner P t (bst (fun x => ner P t x k) (j - 1)) k < ner P t j k
        · rw [if_neg (nI_ge hg (by omega)), m_nearTo hT0 hP hR hk, bind_s]
          refine ⟨_, rfl, ?_⟩
          show (nI (ner P t j k), nI j + 1, m) = _
          rw [if_neg (by omega), ej, show bst (fun x => ner P t x k) ((j - 1) + 1) = (j - 1) + 1 from if_pos (by rw [show j - 1 + 1 = j by omega]; exact hg), show j - 1 + 1 = j by omega, nI_1]
        · rw [if_pos (nI_le (by omega) (by omega))]
          refine ⟨_, rfl, ?_⟩
          show (nI (ner P t (bst (fun x => ner P t x k) (j - 1)) k), nI j + 1, m) = _
          rw [if_neg (by omega), ej, show bst (fun x => ner P t x k) ((j - 1) + 1) = bst (fun x => ner P t x k) (j - 1) from if_neg (by rw [show j - 1 + 1 = j by omega]; exact hg), nI_1]
    · rintro s rfl
      show ∃ e, f_X12_wayNow_4 _ (nI P) m = some (Sum.inr e) ∧ _
      unfold f_X12_wayNow_4
      rw [m_all t1 t2 t3, bind_s]
      dsimp only
      rw [if_pos (nI_le (Nat.le_refl P) (by omega)), if_neg (by omega)]
      exact ⟨_, rfl, rfl⟩
  obtain ⟨e, e1, rfl⟩ := key
  rw [e1, bind_s]
