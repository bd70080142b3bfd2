/-! ===== suspects ===== -/
def popN (z : Nat) : Nat → Nat
  | 0 => 0
  | b + 1 => popN z b + z / 2 ^ b % 2
theorem popN_le (z : Nat) : ∀ b, popN z b ≤ b
  | 0 => Nat.le_refl 0
  | b + 1 => by
    have := popN_le z b
    unfold popN
    omega
def pcI (x0 : Int32) : Int32 :=
  let v1 := x0 - ((x0.toUInt32 >>> ((1 : Int32).toUInt32 &&& Int32.toUInt32 31)).toInt32 &&& (1431655765 : Int32))
  let v3 := (v1 &&& (858993459 : Int32)) + ((v1.toUInt32 >>> ((2 : Int32).toUInt32 &&& Int32.toUInt32 31)).toInt32 &&& (858993459 : Int32))
  let v5 := (v3 + (v3.toUInt32 >>> ((4 : Int32).toUInt32 &&& Int32.toUInt32 31)).toInt32) &&& (252645135 : Int32)
  let v7 := v5 + (v5.toUInt32 >>> ((8 : Int32).toUInt32 &&& Int32.toUInt32 31)).toInt32
  let v9 := v7 + (v7.toUInt32 >>> ((16 : Int32).toUInt32 &&& Int32.toUInt32 31)).toInt32
  v9 &&& (63 : Int32)
theorem x_bitCount {m : M2} (x : Int32) : F_J6_bitCount_0f7a4 x m = some (pcI x, m) := rfl
theorem pc_all2 : ∀ a : Nat, a < 64 → ∀ b : Nat, b < 64 → pcI (nI (64 * a + b)) = nI (popN (64 * a + b) 12) := by decide +kernel
theorem pc_all (z : Nat) (hz : z < 4096) : pcI (nI z) = nI (popN z 12) := by
  have h := pc_all2 (z / 64) (by omega) (z % 64) (by omega)
  rw [show 64 * (z / 64) + z % 64 = z by omega] at h
  exact h
theorem m_bits {m : M2} {z : Nat} (hz : z < 4096) : F_X12_bits (nI z) 12 m = some (nI (popN z 12), m) := by
  unfold F_X12_bits
  have key : ∃ e, loop (g_X12_bits_5 (nI z) 12) ((0 : Int32), (0 : Int32), m) = some e ∧ e = (nI (popN z 12), m) := by
    refine loop_to 12 (fun b y => y = (nI (popN z b), nI b, m)) _ (by omega) ?_ ?_ rfl
    · rintro b y hb rfl
      show ∃ s', f_X12_bits_5 (nI z) 12 (nI (popN z b)) (nI b) m = some (Sum.inl s') ∧ _
      unfold f_X12_bits_5
      rw [lit_12, if_neg (nI_ge hb (by omega)), bit_n, bitN_n (by omega) (by omega), nmI_e, bind_s, nmI_e, bind_s, nI_add, nI_1]
      exact ⟨_, rfl, rfl⟩
    · rintro y rfl
      show ∃ e, f_X12_bits_5 (nI z) 12 (nI (popN z 12)) (nI 12) m = some (Sum.inr e) ∧ _
      unfold f_X12_bits_5
      rw [lit_12, if_pos (nI_le (Nat.le_refl _) (by omega))]
      exact ⟨_, rfl, rfl⟩
  obtain ⟨e, e1, rfl⟩ := key
  rw [e1, bind_s]
/-- how many below K have n bits -/
def cP (n : Nat) : Nat → Nat
  | 0 => 0
  | K + 1 => if popN K 12 = n then cP n K + 1 else cP n K
theorem cP_mono (n : Nat) {K : Nat} : ∀ i, cP n K ≤ cP n (K + i)
  | 0 => Nat.le_refl _
  | i + 1 => by
    have := cP_mono n (K := K) i
    show _ ≤ (if popN (K + i) 12 = n then cP n (K + i) + 1 else cP n (K + i))
    split <;> omega
def cPt (n : Nat) : Nat → Nat → Nat
  | 0, a => a
  | K + 1, a => cPt n K (if popN K 12 = n then a + 1 else a)
theorem cPt_e (n : Nat) : ∀ K a, cPt n K a = cP n K + a
  | 0, a => by simp [cPt, cP]
  | K + 1, a => by
    unfold cPt cP
    rw [cPt_e n K]
    split <;> omega
theorem cP_66 : ∀ n, n < 3 → cPt n 4096 0 ≤ 66 := by decide +kernel
theorem cP_le {n K : Nat} (hn : n < 3) (hK : K ≤ 4096) : cP n K ≤ 66 := by
  have h1 := cP_66 n hn
  rw [cPt_e] at h1
  have h2 := cP_mono n (K := K) (4096 - K)
  rw [show K + (4096 - K) = 4096 by omega] at h2
  omega
section KD
variable {m : M2} {c l : Nat} {s : SS}
def Lb (s : SS) (z : Nat) : Nat → Int32 := fun b => if z / 2 ^ b % 2 = 1 then -1 else tdO (ssD s) b
def f0 (s : SS) : Nat → Int32 := fun i => fogd (ssD s) (nI i)
def sqZ (s : SS) (z : Nat) : Nat → Nat → Nat := sq (ssD s) (Lb s z) (tdD (ssD s)) (f0 s) (tdT (ssD s))
theorem VR.z (hV : VS s) (z : Nat) : VR (ssD s) (Lb s z) (tdD (ssD s)) (tdT (ssD s)) := by
  obtain ⟨v1, v2, v3, v4, v5, v6, v7, v8, v9, v10, v11⟩ := hV.1
  refine ⟨v9, fun b hb => ?_, v6⟩
  unfold Lb
  split
  · exact Or.inl rfl
  · exact v8 b hb
theorem VR.zq (hV : VS s) (z i : Nat) : VR (ssD s) (Lb s z) (tdD (ssD s)) (sqZ s z i) := VR.sq hV.1 (VR.z hV z) (f0 s) i
def clZ (s : SS) (z i : Nat) : Int32 := clb (tdP (ssD s)) (sqZ s z i) (tdN (ssD s))
def lsN (s : SS) : Nat → Nat
  | 0 => 0
  | k + 1 => max (lsN s k) ((ss1 s k).toNatClampNeg + 1)
theorem lsN_le (hV : VS s) : ∀ k, k ≤ ssQ s → lsN s k ≤ 100
  | 0, _ => Nat.zero_le _
  | k + 1, hk => by
    have h1 := lsN_le hV k (by omega)
    obtain ⟨⟨a, ha, e⟩, _⟩ := hV.2.2.2.2.1.2 k (by omega)
    unfold lsN
    rw [e, nI_clamp (by omega)]
    omega
def agP (s : SS) (x : Int32) (st k : Nat) : Prop := ∀ i, i < k → ss1 s i = nI st → nI (bitN x (ss2 s i).toNatClampNeg) = ss3 s i
def susB (s : SS) (n k z : Nat) : Bool := decide (popN z 12 = n ∧ ∀ st, st < lsN s k → ∀ i, i < k → ss1 s i = nI st → nI (bitN (clZ s z st) (ss2 s i).toNatClampNeg) = ss3 s i)
theorem susB_t {n k z : Nat} : susB s n k z = true ↔ (popN z 12 = n ∧ ∀ st, st < lsN s k → agP s (clZ s z st) st k) := by
  unfold susB
  rw [decide_eq_true_iff]
  exact Iff.rfl
/-! the class's -/
theorem x_breakMen (hX : XT m c (ssD s)) (hV : VS s) {z : Nat} (hz : z < 4096) : ∃ m', F_X10_breakMen c (nI z) m = some m' ∧ (∀ b, b < tdN (ssD s) → hI m' 45 b = Lb s z b) ∧ Fr (fun k _ => k = 45) m m' := by
  have hN := hV.n
  have hc : c = 2 ∨ c = 8 := hX.1.2.2.2.2.2.2
  unfold F_X10_breakMen
  have key : ∃ e, loop (g_X10_breakMen_2 c (nI z)) ((0 : Int32), m) = some e ∧ (∀ b, b < tdN (ssD s) → hI e 45 b = Lb s z b) ∧ Fr (fun k _ => k = 45) m e := by
    refine loop_to (tdN (ssD s)) (fun k y => y.1 = nI k ∧ (∀ b, b < k → hI y.2 45 b = Lb s z b) ∧ Fr (fun k _ => k = 45) m y.2) _ (by omega) ?_ ?_ ⟨rfl, fun b hb => by omega, Fr.rf⟩
    · rintro k ⟨y, m1⟩ hk ⟨i1, i2, i3⟩
      dsimp only at i1 i2 i3
      subst i1
      show ∃ s', f_X10_breakMen_2 c (nI z) (nI k) m1 = some (Sum.inl s') ∧ _
      have go : ∀ v : Int32, v = Lb s z k → ∃ s', f_X10_breakMen_46 c (nI z) (nI k) (nI k) v m1 = some (Sum.inl s') ∧ s'.1 = nI (k + 1) ∧ (∀ b, b < k + 1 → hI s'.2 45 b = Lb s z b) ∧ Fr (fun k _ => k = 45) m s'.2 := by
        rintro v rfl
        unfold f_X10_breakMen_46
        rw [bI_n _ 45 _ (show k < 12 by omega) (by omega), bind_s, nmI_e, bind_s]
        refine ⟨_, rfl, nI_1 k, fun b hb => ?_, i3.tI _ rfl⟩
        rw [hI_tI]
        by_cases e : b = k
        · rw [if_pos ⟨rfl, e⟩, e]
        · rw [if_neg (by omega)]
          exact i2 b (by omega)
      unfold f_X10_breakMen_2
      rw [show hI m1 c 5 = nI (tdN (ssD s)) from by rw [i3.I _ _ (by omega)]; exact hX.1.1.2.1, if_neg (nI_ge hk (by omega)), bit_n, bitN_n (by omega) (by omega)]
      by_cases hb : z / 2 ^ k % 2 = 1
      · rw [if_pos (by rw [hb]; rfl)]
        exact go _ (by unfold Lb; rw [if_pos hb])
      · have hb' : ¬ nI (z / 2 ^ k % 2) = 1 := fun y => hb ((nI_eq (by omega) (by omega)).mp (show nI _ = nI 1 from y))
        rw [if_neg hb', aI_n _ (c + 3) (show k < 12 by omega) (by omega), bind_s]
        refine go _ ?_
        unfold Lb
        rw [if_neg hb, i3.I _ _ (by omega)]
        exact hX.2.2.2.2.1 k hk
    · rintro ⟨y, m1⟩ ⟨i1, i2, i3⟩
      dsimp only at i1 i2 i3
      subst i1
      show ∃ e, f_X10_breakMen_2 c (nI z) (nI (tdN (ssD s))) m1 = some (Sum.inr e) ∧ _
      unfold f_X10_breakMen_2
      rw [show hI m1 c 5 = nI (tdN (ssD s)) from by rw [i3.I _ _ (by omega)]; exact hX.1.1.2.1, if_pos (nI_le (Nat.le_refl _) (by omega))]
      exact ⟨_, rfl, i2, i3⟩
  obtain ⟨e, e1, e2, e3⟩ := key
  rw [e1, bind_s]
  exact ⟨e, rfl, e2, e3⟩
theorem ls_mx {a : Nat} {b : Nat} (ha : a ≤ 100) (hb : b < 100) : mxI (iI ((a : Int) - 1)) (nI b) = iI ((max a (b + 1) : Nat) - 1 : Int) := by
  have h1 : (iI ((a : Int) - 1)).toInt = (a : Int) - 1 := iI_toInt (by omega) (by omega)
  unfold mxI
  by_cases h : a ≤ b
  · rw [if_pos (by rw [Int32.lt_iff_toInt_lt, h1, nI_toInt (by omega)]; omega), Nat.max_eq_right (by omega)]
    rw [show ((b + 1 : Nat) : Int) - 1 = (b : Nat) by omega, iI_nat]
  · rw [if_neg (by rw [Int32.lt_iff_toInt_lt, h1, nI_toInt (by omega)]; omega), Nat.max_eq_left (by omega)]
theorem x_lastKnown (hQ : XQ m (ssQ s) (ss1 s) (ss2 s) (ss3 s)) (hV : VS s) {k : Nat} (hk : k ≤ ssQ s) : F_X10_lastKnown c (nI k) m = some (iI ((lsN s k : Int) - 1), m) := by
  have hq := hV.2.2.2.2.1.1
  unfold F_X10_lastKnown
  have key : ∃ e, loop (g_X10_lastKnown_4 c (nI k)) ((-1 : Int32), (0 : Int32), m) = some e ∧ e = (iI ((lsN s k : Int) - 1), m) := by
    refine loop_to k (fun i y => y = (iI ((lsN s i : Int) - 1), nI i, m)) _ (by omega) ?_ ?_ rfl
    · rintro i y hi rfl
      show ∃ s', f_X10_lastKnown_4 c (nI k) _ (nI i) m = some (Sum.inl s') ∧ _
      have hl := lsN_le hV i (by omega)
      obtain ⟨⟨a, ha, e⟩, _⟩ := hV.2.2.2.2.1.2 i (by omega)
      unfold f_X10_lastKnown_4
      rw [if_neg (nI_ge hi (by omega)), lit_20, if_neg (nI_ge (by omega) (by omega)), aI_n _ 42 (show i < 20 by omega) (by omega), bind_s, (hQ.2 i (by omega)).1, e, ls_mx hl ha, nmI_e, bind_s, nmI_e, bind_s, nI_1]
      refine ⟨_, rfl, ?_⟩
      rw [lsN, e, nI_clamp (by omega)]
    · rintro y rfl
      show ∃ e, f_X10_lastKnown_4 c (nI k) _ (nI k) m = some (Sum.inr e) ∧ _
      unfold f_X10_lastKnown_4
      rw [if_pos (nI_le (Nat.le_refl _) (by omega))]
      exact ⟨_, rfl, rfl⟩
  obtain ⟨e, e1, rfl⟩ := key
  rw [e1, bind_s]
  rfl
theorem x_agrees (hQ : XQ m (ssQ s) (ss1 s) (ss2 s) (ss3 s)) (hV : VS s) {k st : Nat} (hk : k ≤ ssQ s) (x : Int32) : (F_X10_agrees c x (nI st) (nI k) m = some (1, m) ∧ agP s x st k) ∨ (F_X10_agrees c x (nI st) (nI k) m = some (0, m) ∧ ¬ agP s x st k) := by
  have hq := hV.2.2.2.2.1.1
  have hN := hV.n
  unfold F_X10_agrees
  have key : ∃ e, loop (g_X10_agrees_3 c x (nI st) (nI k)) ((0 : Int32), m) = some e ∧ ((e = Sum.inl m ∧ ¬ agP s x st k) ∨ (e = Sum.inr m ∧ agP s x st k)) := by
    refine loop_ex k (fun i y => y = (nI i, m) ∧ agP s x st i) _ (by omega) ?_ ?_ ⟨rfl, fun i hi => by omega⟩
    · rintro i y hi ⟨rfl, i2⟩
      show (∃ s', f_X10_agrees_3 c x (nI st) (nI k) (nI i) m = some (Sum.inl s') ∧ _) ∨ ∃ e, f_X10_agrees_3 c x (nI st) (nI k) (nI i) m = some (Sum.inr e) ∧ _
      obtain ⟨⟨a, ha, e1⟩, ⟨b, hb0, hb, e2⟩, e3⟩ := hV.2.2.2.2.1.2 i (by omega)
      obtain ⟨q1, q2, q3⟩ := hQ.2 i (by omega)
      unfold f_X10_agrees_3
      rw [if_neg (nI_ge hi (by omega)), lit_20, if_neg (nI_ge (by omega) (by omega)), aI_n _ 42 (show i < 20 by omega) (by omega), bind_s, q1]
      have go : (ss1 s i = nI st → nI (bitN x (ss2 s i).toNatClampNeg) = ss3 s i) → ∃ s', f_X10_agrees_50 c x (nI st) (nI k) (nI i) m = some (Sum.inl s') ∧ s' = (nI (i + 1), m) ∧ agP s x st (i + 1) := by
        intro h
        refine ⟨_, rfl, by rw [nI_1], fun j hj => ?_⟩
        by_cases e : j = i
        · rw [e]; exact h
        · exact i2 j (by omega)
      by_cases z1 : ss1 s i = nI st
      · rw [if_pos z1, aI_n _ 43 (show i < 20 by omega) (by omega), bind_s, aI_n _ 44 (show i < 20 by omega) (by omega), bind_s, q2, q3, e2, bit_n]
        rw [e2, nI_clamp (by omega)] at go
        by_cases z2 : nI (bitN x b) = ss3 s i
        · rw [if_pos z2]
          exact Or.inl (go (fun _ => z2))
        · rw [if_neg z2]
          refine Or.inr ⟨_, rfl, Or.inl ⟨rfl, fun h => z2 ?_⟩⟩
          have := h i hi z1
          rw [e2, nI_clamp (by omega)] at this
          exact this
      · rw [if_neg z1]
        exact Or.inl (go (fun h => absurd h z1))
    · rintro y ⟨rfl, i2⟩
      show ∃ e, f_X10_agrees_3 c x (nI st) (nI k) (nI k) m = some (Sum.inr e) ∧ _
      unfold f_X10_agrees_3
      rw [if_pos (nI_le (Nat.le_refl _) (by omega))]
      exact ⟨_, rfl, Or.inr ⟨rfl, i2⟩⟩
  obtain ⟨e, e1, ⟨rfl, e2⟩ | ⟨rfl, e2⟩⟩ := key
  · rw [e1, bind_s]; exact Or.inr ⟨rfl, e2⟩
  · rw [e1, bind_s]; exact Or.inl ⟨rfl, e2⟩
theorem ls_lt {a st : Nat} (ha : a ≤ 100) (hs : st ≤ 100) : iI ((a : Int) - 1) < nI st ↔ a ≤ st := by
  rw [Int32.lt_iff_toInt_lt, iI_toInt (by omega) (by omega), nI_toInt (by omega)]
  omega
theorem x_isSuspect (hX : XS m c s) (hV : VS s) {z n k : Nat} (hz : z < 4096) (hn : n ≤ 2) (hk : k ≤ ssQ s) {m1 : M2} (hf : Fr (fun k _ => (24 ≤ k ∧ k ≤ 25) ∨ k = 45 ∨ k = 46) m m1) : ∃ m', F_X10_isSuspect c (nI z) (nI n) (nI k) m1 = some (bI1 (susB s n k z), m') ∧ Fr (fun k _ => (24 ≤ k ∧ k ≤ 25) ∨ k = 45) m1 m' := by
  have hN := hV.n
  have hc := hX.tx
  have hq := hV.2.2.2.2.1.1
  have hl := lsN_le hV k hk
  have hX1 := hX.1.fr hf (fun k j z1 z2 => by omega)
  unfold F_X10_isSuspect
  rw [x_bitCount, bind_s, pc_all z hz]
  dsimp only
  have hp := popN_le z 12
  by_cases h0 : popN z 12 = n
  · rw [if_pos (by rw [h0])]
    obtain ⟨m2, e2, L2, f2⟩ := x_breakMen (s := s) hX1 hV hz
    have f12 := hf.tr (f2.mono (S' := fun k _ => (24 ≤ k ∧ k ≤ 25) ∨ k = 45 ∨ k = 46) (fun k j z => by omega))
    rw [e2, bind_s, x_lastKnown (hX.2.2.2.2.1.fr f12 (fun k j z1 z2 z3 => by omega)) hV hk, bind_s]
    dsimp only
    rw [nmJ_e, bind_s, show hJ m2 c 7 = lN (pk (tdT (ssD s)) (tdN (ssD s))) from by rw [f12.J _ _ (by omega)]; exact hX.1.2.2.2.2.2.1]
    have key : ∃ e, loop (g_X10_isSuspect_37 c (nI k) (iI ((lsN s k : Int) - 1))) (lN (pk (tdT (ssD s)) (tdN (ssD s))), (0 : Int32), m2) = some e ∧ ((∃ m', e = Sum.inl m' ∧ ¬ (∀ st, st < lsN s k → agP s (clZ s z st) st k) ∧ Fr (fun k _ => 24 ≤ k ∧ k ≤ 25) m2 m') ∨ (∃ m', e = Sum.inr m' ∧ (∀ st, st < lsN s k → agP s (clZ s z st) st k) ∧ Fr (fun k _ => 24 ≤ k ∧ k ≤ 25) m2 m')) := by
      refine loop_ex (lsN s k) (fun st y => y.1 = lN (pk (sqZ s z st) (tdN (ssD s))) ∧ y.2.1 = nI st ∧ (∀ i, i < st → agP s (clZ s z i) i k) ∧ Fr (fun k _ => 24 ≤ k ∧ k ≤ 25) m2 y.2.2) _ (by omega) ?_ ?_ ⟨rfl, rfl, fun i hi => by omega, Fr.rf⟩
      · rintro st ⟨y1, y2, m3⟩ hst ⟨i1, i2, i3, i4⟩
        dsimp only at i1 i2 i3 i4
        subst i1 i2
        show (∃ s', f_X10_isSuspect_37 c (nI k) _ _ (nI st) m3 = some (Sum.inl s') ∧ _) ∨ ∃ e, f_X10_isSuspect_37 c (nI k) _ _ (nI st) m3 = some (Sum.inr e) ∧ _
        have f13 := f12.tr (i4.mono (S' := fun k _ => (24 ≤ k ∧ k ≤ 25) ∨ k = 45 ∨ k = 46) (fun k j z => by omega))
        have hX3 := hX.1.fr f13 (fun k j z1 z2 => by omega)
        unfold f_X10_isSuspect_37
        have hcl : F_X5_clashBits c (lN (pk (sqZ s z st) (tdN (ssD s)))) m3 = some (clZ s z st, m3) := x_clash hX3.1 ((VR.zq hV z st).t32 hV.1)
        rw [if_neg (fun y => by have := (ls_lt hl (by omega)).mp y; omega), hcl, bind_s]
        dsimp only
        rcases x_agrees (c := c) (m := m3) (st := st) (hX.2.2.2.2.1.fr f13 (fun k j z1 z2 z3 => by omega)) hV hk (clZ s z st) with ⟨e, e2⟩ | ⟨e, e2⟩
        · left
          rw [e, bind_s]
          dsimp only
          rw [if_neg (by decide), x_isFog hX3 hV.1, bind_s]
          dsimp only
          rw [show hI m3 c 8 = tdD (ssD s) from hX3.2.1]
          obtain ⟨m4, e4, f4⟩ := x_st (a := 45) hX3 hV.1 (VR.zq hV z st) (fun b hb => by rw [i4.I _ _ (by omega)]; exact L2 b hb) (by omega) (fogd (ssD s) (nI st))
          rw [e4, bind_s, nmI_e, bind_s]
          refine ⟨_, rfl, rfl, nI_1 st, fun i hi => ?_, i4.tr (f4.mono (fun k j z => by omega))⟩
          by_cases q : i = st
          · rw [q]; exact e2
          · exact i3 i (by omega)
        · right
          rw [e, bind_s]
          dsimp only
          rw [if_pos rfl]
          exact ⟨_, rfl, Or.inl ⟨m3, rfl, fun h => e2 (h st hst), i4⟩⟩
      · rintro ⟨y1, y2, m3⟩ ⟨i1, i2, i3, i4⟩
        dsimp only at i1 i2 i3 i4
        subst i1 i2
        show ∃ e, f_X10_isSuspect_37 c (nI k) _ _ (nI (lsN s k)) m3 = some (Sum.inr e) ∧ _
        unfold f_X10_isSuspect_37
        rw [if_pos ((ls_lt hl hl).mpr (Nat.le_refl _))]
        exact ⟨_, rfl, Or.inr ⟨m3, rfl, i3, i4⟩⟩
    obtain ⟨e, e3, ⟨m', rfl, e4, e5⟩ | ⟨m', rfl, e4, e5⟩⟩ := key
    · have : susB s n k z = false := by
        cases hb : susB s n k z
        · rfl
        · exact absurd (susB_t.mp hb).2 e4
      rw [e3, bind_s, this]
      exact ⟨m', rfl, (f2.mono (fun k j z => Or.inr z)).tr (e5.mono (fun k j z => Or.inl z))⟩
    · rw [e3, bind_s, susB_t.mpr ⟨h0, e4⟩]
      exact ⟨m', rfl, (f2.mono (fun k j z => Or.inr z)).tr (e5.mono (fun k j z => Or.inl z))⟩
  · rw [if_neg (fun y => h0 ((nI_eq (by omega) (by omega)).mp y))]
    have : susB s n k z = false := by
      cases hb : susB s n k z
      · rfl
      · exact absurd (susB_t.mp hb).1 h0
    rw [this]
    exact ⟨m1, rfl, Fr.rf⟩
theorem x_clashesAt (hX : XS m c s) (hV : VS s) {z st : Nat} (hz : z < 4096) (hst : st ≤ 99) {m1 : M2} (hf : Fr (fun k _ => (24 ≤ k ∧ k ≤ 25) ∨ k = 45 ∨ k = 46) m m1) : ∃ m', F_X10_clashesAt c (nI z) (nI st) m1 = some (clZ s z st, m') ∧ Fr (fun k _ => (24 ≤ k ∧ k ≤ 25) ∨ k = 45) m1 m' := by
  have hN := hV.n
  have hc := hX.tx
  have hX1 := hX.1.fr hf (fun k j z1 z2 => by omega)
  unfold F_X10_clashesAt
  obtain ⟨m2, e2, L2, f2⟩ := x_breakMen (s := s) hX1 hV hz
  have f12 := hf.tr (f2.mono (S' := fun k _ => (24 ≤ k ∧ k ≤ 25) ∨ k = 45 ∨ k = 46) (fun k j z => by omega))
  rw [e2, bind_s, nmJ_e, bind_s, show hJ m2 c 7 = lN (pk (tdT (ssD s)) (tdN (ssD s))) from by rw [f12.J _ _ (by omega)]; exact hX.1.2.2.2.2.2.1]
  have key : ∃ e, loop (g_X10_clashesAt_19 c (nI st)) (lN (pk (tdT (ssD s)) (tdN (ssD s))), (0 : Int32), m2) = some e ∧ e.1 = lN (pk (sqZ s z st) (tdN (ssD s))) ∧ Fr (fun k _ => 24 ≤ k ∧ k ≤ 25) m2 e.2 := by
    refine loop_to st (fun i y => y.1 = lN (pk (sqZ s z i) (tdN (ssD s))) ∧ y.2.1 = nI i ∧ Fr (fun k _ => 24 ≤ k ∧ k ≤ 25) m2 y.2.2) _ (by omega) ?_ ?_ ⟨rfl, rfl, Fr.rf⟩
    · rintro i ⟨y1, y2, m3⟩ hi ⟨i1, i2, i4⟩
      dsimp only at i1 i2 i4
      subst i1 i2
      show ∃ s', f_X10_clashesAt_19 c (nI st) _ (nI i) m3 = some (Sum.inl s') ∧ _
      have f13 := f12.tr (i4.mono (S' := fun k _ => (24 ≤ k ∧ k ≤ 25) ∨ k = 45 ∨ k = 46) (fun k j z => by omega))
      have hX3 := hX.1.fr f13 (fun k j z1 z2 => by omega)
      unfold f_X10_clashesAt_19
      rw [if_neg (nI_ge hi (by omega)), x_isFog hX3 hV.1, bind_s]
      dsimp only
      rw [show hI m3 c 8 = tdD (ssD s) from hX3.2.1]
      obtain ⟨m4, e4, f4⟩ := x_st (a := 45) hX3 hV.1 (VR.zq hV z i) (fun b hb => by rw [i4.I _ _ (by omega)]; exact L2 b hb) (by omega) (fogd (ssD s) (nI i))
      rw [e4, bind_s, nmI_e, bind_s]
      exact ⟨_, rfl, rfl, nI_1 i, i4.tr (f4.mono (fun k j z => by omega))⟩
    · rintro ⟨y1, y2, m3⟩ ⟨i1, i2, i4⟩
      dsimp only at i1 i2 i4
      subst i1 i2
      show ∃ e, f_X10_clashesAt_19 c (nI st) _ (nI st) m3 = some (Sum.inr e) ∧ _
      unfold f_X10_clashesAt_19
      rw [if_pos (nI_le (Nat.le_refl _) (by omega))]
      exact ⟨_, rfl, rfl, i4⟩
  obtain ⟨⟨y, m3⟩, e3, e4, e5⟩ := key
  dsimp only at e4 e5
  subst e4
  have f13 := f12.tr (e5.mono (S' := fun k _ => (24 ≤ k ∧ k ≤ 25) ∨ k = 45 ∨ k = 46) (fun k j z => by omega))
  have hcl : F_X5_clashBits c (lN (pk (sqZ s z st) (tdN (ssD s)))) m3 = some (clZ s z st, m3) := x_clash (hX.1.fr f13 (fun k j z1 z2 => by omega)).1 ((VR.zq hV z st).t32 hV.1)
  rw [e3, bind_s]
  dsimp only
  rw [hcl, bind_s]
  exact ⟨m3, rfl, (f2.mono (fun k j z => Or.inr z)).tr (e5.mono (fun k j z => Or.inl z))⟩
/-- how many of the sets below K are suspect -/
def cS (s : SS) (n k : Nat) : Nat → Nat
  | 0 => 0
  | K + 1 => if susB s n k K = true then cS s n k K + 1 else cS s n k K
theorem cS_le (s : SS) (n k : Nat) : ∀ K, cS s n k K ≤ cP n K
  | 0 => Nat.le_refl 0
  | K + 1 => by
    have := cS_le s n k K
    unfold cS cP
    by_cases h : susB s n k K = true
    · rw [if_pos h, if_pos (susB_t.mp h).1]; omega
    · rw [if_neg h]; split <;> omega
theorem cS_y {n k K : Nat} (h : susB s n k K = true) : cS s n k (K + 1) = cS s n k K + 1 := if_pos h
theorem cS_n {n k K : Nat} (h : ¬ susB s n k K = true) : cS s n k (K + 1) = cS s n k K := if_neg h
theorem cS_mono (n k : Nat) {K : Nat} : ∀ i, cS s n k K ≤ cS s n k (K + i)
  | 0 => Nat.le_refl _
  | i + 1 => by
    have := cS_mono n k (K := K) i
    show _ ≤ (if susB s n k (K + i) = true then cS s n k (K + i) + 1 else cS s n k (K + i))
    split <;> omega
theorem p12 (hV : VS s) : 2 ^ tdN (ssD s) ≤ 4096 := by
  have : 2 ^ tdN (ssD s) ≤ 2 ^ 12 := Nat.pow_le_pow_right (by omega) hV.n
  omega
def suOk (s : SS) (x y : Int32) : Prop := isR 0 2 x ∧ isR 0 (ssQ s) y
theorem x_isQ (hX : XS m c s) (hV : VS s) (x y : Int32) : (suOk s x y → F_X10_isQuestion c x y m = some (1, m)) ∧ (¬ suOk s x y → F_X10_isQuestion c x y m = some (0, m)) := by
  have hq := hV.2.2.2.2.1.1
  unfold suOk
  rw [isRx (by omega) (by omega), isRx (by omega) (by omega)]
  unfold F_X10_isQuestion
  rw [hX.2.2.2.2.1.1]
  refine ⟨fun h => ?_, fun h => ?_⟩
  · rw [if_neg (show ¬ x < 0 from h.1.1), if_neg (show ¬ (2 : Int32) < x from h.1.2), if_neg (show ¬ y < 0 from h.2.1), if_neg h.2.2]
    rfl
  · by_cases q1 : x < 0
    · rw [if_pos q1]; rfl
    by_cases q2 : 2 < x
    · rw [if_neg q1, if_pos q2]; rfl
    by_cases q3 : y < 0
    · rw [if_neg q1, if_neg q2, if_pos q3]; rfl
    by_cases q4 : nI (ssQ s) < y
    · rw [if_neg q1, if_neg q2, if_neg q3, if_pos q4]; rfl
    exact absurd ⟨⟨q1, q2⟩, q3, q4⟩ h
theorem b1_0 (b : Bool) : bI1 b = 0 ↔ ¬ b = true := by cases b <;> decide
theorem SSus (k j : Nat) (z : (24 ≤ k ∧ k ≤ 25) ∨ k = 45 ∨ k = 46) : ¬ xk k ∧ SX k j := ⟨fun z2 => by unfold xk at z2; omega, fun z2 => by omega⟩
theorem k_suspects_x (hX : XS m c s) (hV : VS s) {n k : Nat} (hn : n ≤ 2) (hk : k ≤ ssQ s) : OkX m c (F_X11_suspects c (nI n) (nI k) m) (nI (cS s n k (2 ^ tdN (ssD s)))) s := by
  have hN := hV.n
  have hp := p12 hV
  have hc := hX.tx
  unfold F_X11_suspects
  rw [(x_isQ hX hV _ _).1 ⟨⟨n, by omega, hn, rfl⟩, ⟨k, by omega, hk, rfl⟩⟩, bind_s]
  dsimp only
  rw [if_neg (by decide)]
  unfold F_X10_countSets
  have key : ∃ e, loop (g_X10_countSets_5 c (nI n) (nI k)) ((0 : Int32), (0 : Int32), m) = some e ∧ e.1 = nI (cS s n k (2 ^ tdN (ssD s))) ∧ Fr (fun k _ => (24 ≤ k ∧ k ≤ 25) ∨ k = 45 ∨ k = 46) m e.2 := by
    refine loop_to (2 ^ tdN (ssD s)) (fun K y => y.1 = nI (cS s n k K) ∧ y.2.1 = nI K ∧ Fr (fun k _ => (24 ≤ k ∧ k ≤ 25) ∨ k = 45 ∨ k = 46) m y.2.2) _ (by omega) ?_ ?_ ⟨rfl, rfl, Fr.rf⟩
    · rintro K ⟨y1, y2, m1⟩ hK ⟨i1, i2, i3⟩
      dsimp only at i1 i2 i3
      subst i1 i2
      show ∃ s', f_X10_countSets_5 c (nI n) (nI k) _ (nI K) m1 = some (Sum.inl s') ∧ _
      obtain ⟨m2, e2, f2⟩ := x_isSuspect (z := K) hX hV (by omega) hn hk i3
      unfold f_X10_countSets_5
      rw [show hI m1 c 5 = nI (tdN (ssD s)) from by rw [i3.I _ _ (by omega)]; exact hX.n, one_shl (by omega), if_neg (nI_ge hK (by omega)), e2, bind_s]
      dsimp only
      have f12 := i3.tr (f2.mono (S' := fun k _ => (24 ≤ k ∧ k ≤ 25) ∨ k = 45 ∨ k = 46) (fun k j z => by omega))
      by_cases hb : susB s n k K = true
      · rw [if_neg (fun z => (b1_0 _).mp z hb), nmI_e, bind_s]
        exact ⟨_, rfl, by rw [cS_y hb]; exact nI_1 _, nI_1 K, f12⟩
      · rw [if_pos ((b1_0 _).mpr hb)]
        exact ⟨_, rfl, by rw [cS_n hb], nI_1 K, f12⟩
    · rintro ⟨y1, y2, m1⟩ ⟨i1, i2, i3⟩
      dsimp only at i1 i2 i3
      subst i1 i2
      show ∃ e, f_X10_countSets_5 c (nI n) (nI k) _ (nI (2 ^ tdN (ssD s))) m1 = some (Sum.inr e) ∧ _
      unfold f_X10_countSets_5
      rw [show hI m1 c 5 = nI (tdN (ssD s)) from by rw [i3.I _ _ (by omega)]; exact hX.n, one_shl (by omega), if_pos (nI_le (Nat.le_refl _) (by omega))]
      exact ⟨_, rfl, rfl, i3⟩
  obtain ⟨⟨y, m1⟩, e1, e2, e3⟩ := key
  dsimp only at e2 e3
  subst e2
  rw [e1, bind_s, bind_s]
  exact OkX.scr hX e3 SSus
theorem k_suspects_x0 (hX : XS m c s) (hV : VS s) {x y : Int32} (h : ¬ suOk s x y) : OkX m c (F_X11_suspects c x y m) (-1) s := by
  unfold F_X11_suspects
  rw [(x_isQ hX hV _ _).2 h, bind_s]
  exact OkX.same hX
/-- the one with the number i -/
def suN (s : SS) (n k i : Nat) (v : Int32) : Prop := (∃ z, z < 2 ^ tdN (ssD s) ∧ susB s n k z = true ∧ cS s n k z = i ∧ v = nI z) ∨ (cS s n k (2 ^ tdN (ssD s)) ≤ i ∧ v = -1)
theorem suN.u {n k i : Nat} {v w : Int32} (h1 : suN s n k i v) (h2 : suN s n k i w) : v = w := by
  have lt : ∀ z z', susB s n k z = true → z < z' → cS s n k z < cS s n k z' := by
    intro z z' hz hlt
    have := cS_mono (s := s) n k (K := z + 1) (z' - (z + 1))
    rw [show z + 1 + (z' - (z + 1)) = z' by omega, cS_y hz] at this
    omega
  rcases h1 with ⟨z, a1, a2, a3, rfl⟩ | ⟨a1, rfl⟩
  · rcases h2 with ⟨z', b1, b2, b3, rfl⟩ | ⟨b1, rfl⟩
    · by_cases e : z < z'
      · have := lt z z' a2 e
        omega
      · by_cases e2 : z' < z
        · have := lt z' z b2 e2
          omega
        · rw [show z = z' by omega]
    · have := lt z _ a2 a1
      omega
  · rcases h2 with ⟨z', b1, b2, b3, rfl⟩ | ⟨b1, rfl⟩
    · have := lt z' _ b2 b1
      omega
    · rfl
theorem k_suspect_x (hX : XS m c s) (hV : VS s) {n k i : Nat} (hn : n ≤ 2) (hk : k ≤ ssQ s) (hi : i < 2 ^ 31) : ∃ v, suN s n k i v ∧ OkX m c (F_X11_suspect c (nI n) (nI k) (nI i) m) v s := by
  have hN := hV.n
  have hp := p12 hV
  have hc := hX.tx
  unfold F_X11_suspect
  rw [(x_isQ hX hV _ _).1 ⟨⟨n, by omega, hn, rfl⟩, ⟨k, by omega, hk, rfl⟩⟩, bind_s]
  dsimp only
  rw [if_neg (by decide), if_neg (nI_pos hi)]
  unfold F_X10_setNumber
  have key : ∃ e, loop (g_X10_setNumber_6 c (nI n) (nI k) (nI i)) ((0 : Int32), (0 : Int32), m) = some e ∧ ((∃ z m', e = Sum.inl (nI z, m') ∧ z < 2 ^ tdN (ssD s) ∧ susB s n k z = true ∧ cS s n k z = i ∧ Fr (fun k _ => (24 ≤ k ∧ k ≤ 25) ∨ k = 45 ∨ k = 46) m m') ∨ (∃ m', e = Sum.inr m' ∧ cS s n k (2 ^ tdN (ssD s)) ≤ i ∧ Fr (fun k _ => (24 ≤ k ∧ k ≤ 25) ∨ k = 45 ∨ k = 46) m m')) := by
    refine loop_ex (2 ^ tdN (ssD s)) (fun K y => y.1 = nI (cS s n k K) ∧ y.2.1 = nI K ∧ cS s n k K ≤ i ∧ Fr (fun k _ => (24 ≤ k ∧ k ≤ 25) ∨ k = 45 ∨ k = 46) m y.2.2) _ (by omega) ?_ ?_ ⟨rfl, rfl, Nat.zero_le _, Fr.rf⟩
    · rintro K ⟨y1, y2, m1⟩ hK ⟨i1, i2, i0, i3⟩
      dsimp only at i1 i2 i0 i3
      subst i1 i2
      show (∃ s', f_X10_setNumber_6 c (nI n) (nI k) (nI i) _ (nI K) m1 = some (Sum.inl s') ∧ _) ∨ ∃ e, f_X10_setNumber_6 c (nI n) (nI k) (nI i) _ (nI K) m1 = some (Sum.inr e) ∧ _
      obtain ⟨m2, e2, f2⟩ := x_isSuspect (z := K) hX hV (by omega) hn hk i3
      have hle := cS_le s n k K
      have h66 := cP_le (n := n) (K := K) (by omega) (by omega)
      unfold f_X10_setNumber_6
      rw [show hI m1 c 5 = nI (tdN (ssD s)) from by rw [i3.I _ _ (by omega)]; exact hX.n, one_shl (by omega), if_neg (nI_ge hK (by omega)), e2, bind_s]
      dsimp only
      have f12 := i3.tr (f2.mono (S' := fun k _ => (24 ≤ k ∧ k ≤ 25) ∨ k = 45 ∨ k = 46) (fun k j z => by omega))
      by_cases hb : susB s n k K = true
      · rw [if_neg (fun z => (b1_0 _).mp z hb)]
        by_cases he : cS s n k K = i
        · right
          rw [if_pos (by rw [he])]
          exact ⟨_, rfl, Or.inl ⟨K, m2, rfl, hK, hb, he, f12⟩⟩
        · left
          rw [if_neg (fun z => he ((nI_eq (by omega) hi).mp z)), nmI_e, bind_s]
          exact ⟨_, rfl, by rw [cS_y hb]; exact nI_1 _, nI_1 K, by rw [cS_y hb]; omega, f12⟩
      · left
        rw [if_pos ((b1_0 _).mpr hb)]
        exact ⟨_, rfl, by rw [cS_n hb], nI_1 K, by rw [cS_n hb]; exact i0, f12⟩
    · rintro ⟨y1, y2, m1⟩ ⟨i1, i2, i0, i3⟩
      dsimp only at i1 i2 i0 i3
      subst i1 i2
      show ∃ e, f_X10_setNumber_6 c (nI n) (nI k) (nI i) _ (nI (2 ^ tdN (ssD s))) m1 = some (Sum.inr e) ∧ _
      unfold f_X10_setNumber_6
      rw [show hI m1 c 5 = nI (tdN (ssD s)) from by rw [i3.I _ _ (by omega)]; exact hX.n, one_shl (by omega), if_pos (nI_le (Nat.le_refl _) (by omega))]
      exact ⟨_, rfl, Or.inr ⟨m1, rfl, i0, i3⟩⟩
  obtain ⟨e, e1, ⟨z, m', rfl, z1, z2, z3, z4⟩ | ⟨m', rfl, z1, z4⟩⟩ := key
  · refine ⟨nI z, Or.inl ⟨z, z1, z2, z3, rfl⟩, ?_⟩
    rw [e1, bind_s]
    exact OkX.scr hX z4 SSus
  · refine ⟨-1, Or.inr ⟨z1, rfl⟩, ?_⟩
    rw [e1, bind_s]
    exact OkX.scr hX z4 SSus
theorem k_suspect_x0 (hX : XS m c s) (hV : VS s) {x y w : Int32} (h : ¬ (suOk s x y ∧ ¬ w < 0)) : OkX m c (F_X11_suspect c x y w m) (-1) s := by
  unfold F_X11_suspect
  by_cases h1 : suOk s x y
  · rw [(x_isQ hX hV _ _).1 h1, bind_s]
    dsimp only
    rw [if_neg (by decide)]
    by_cases h2 : w < 0
    · rw [if_pos h2]
      exact OkX.same hX
    · exact absurd ⟨h1, h2⟩ h
  · rw [(x_isQ hX hV _ _).2 h1, bind_s]
    exact OkX.same hX
end KD
