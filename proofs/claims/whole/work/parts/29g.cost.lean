/-! ===== the clash bits as a number ===== -/
def clN (P : Nat) (t : Nat → Nat) : Nat → Nat
  | 0 => 0
  | k + 1 => if 0 < k ∧ (P + 2) / 3 ≤ gab P t k then clN P t k + 2 ^ k else clN P t k
theorem clN_lt (P : Nat) (t : Nat → Nat) : ∀ k, clN P t k < 2 ^ k
  | 0 => by simp [clN]
  | k + 1 => by
    have := clN_lt P t k
    rw [Nat.pow_succ]
    unfold clN
    split <;> omega
theorem nI_or {a b : Nat} (ha : a < 2 ^ 31) (hb : b < 2 ^ 31) : nI a ||| nI b = nI (a ||| b) := by
  apply Int32.toBitVec_inj.mp
  apply BitVec.eq_of_toNat_eq
  show ((BitVec.ofNat 32 a) ||| (BitVec.ofNat 32 b)).toNat = (BitVec.ofNat 32 (a ||| b)).toNat
  rw [BitVec.toNat_or, BitVec.toNat_ofNat, BitVec.toNat_ofNat, BitVec.toNat_ofNat, Nat.mod_eq_of_lt (by omega), Nat.mod_eq_of_lt (by omega), Nat.mod_eq_of_lt]
  exact Nat.or_lt_two_pow (by omega) (by omega)
theorem clb_clN (P : Nat) (t : Nat → Nat) : ∀ k, k ≤ 12 → clb P t k = nI (clN P t k)
  | 0, _ => rfl
  | k + 1, hk => by
    have ih := clb_clN P t k (by omega)
    have hl := clN_lt P t k
    have hp : 2 ^ k ≤ 2 ^ 12 := Nat.pow_le_pow_right (by omega) (by omega)
    unfold clb clN
    split
    · rw [ih, one_shl (by omega), nI_or (by omega) (by omega), Nat.or_comm]
      congr 1
      have := Nat.two_pow_add_eq_or_of_lt hl 1
      rw [Nat.mul_one] at this
      rw [← this]
      omega
    · exact ih
theorem clN_congr {P : Nat} {t u : Nat → Nat} : ∀ {n : Nat}, (∀ b, b < n → t b = u b) → clN P t n = clN P u n
  | 0, _ => rfl
  | n + 1, h => by
    have e : gab P t n = gab P u n := by
      unfold gab
      rw [h n (by omega), h (n - 1) (by omega)]
    unfold clN
    rw [e, clN_congr (n := n) (fun b hb => h b (by omega))]
/-! ===== what a seating costs ===== -/
section KG
variable {m : M2} {c l : Nat} {s : SS}
def oT (s : SS) (o : Nat → Nat) : Nat → Nat := fun b => cdT (ssK s) (o b)
def oL (s : SS) (o : Nat → Nat) : Nat → Int32 := fun b => cdL (ssK s) (o b)
def qO (s : SS) (o : Nat → Nat) : Nat → Nat → Nat := sq (ssD s) (oL s o) (cdD (ssK s)) (fun _ => 0) (oT s o)
def stlB (s : SS) (o : Nat → Nat) (i : Nat) : Bool := decide (∀ b, b < tdN (ssD s) → sstp (ssD s) (oL s o) (cdD (ssK s)) 0 (qO s o i) b = qO s o i b)
def eaO (s : SS) (o : Nat → Nat) (w i : Nat) : Nat := if w = 1 then popN (clN (tdP (ssD s)) (qO s o i) (tdN (ssD s))) 12 else wyn (tdP (ssD s)) (qO s o i) (tdN (ssD s))
def cst (s : SS) (o : Nat → Nat) (w n : Nat) : Nat := if w = 0 then fd (stlB s o) (n + 1) else sm (fun i => eaO s o w (i + 1)) n
def OkO (s : SS) (o : Nat → Nat) : Prop := ∀ b, b < tdN (ssD s) → o b < tdN (ssD s)
theorem VR.o (hV : VS s) {o : Nat → Nat} (ho : OkO s o) : VR (ssD s) (oL s o) (cdD (ssK s)) (oT s o) := ⟨fun b hb => hV.2.1.1 _ (ho b hb), fun b hb => hV.2.1.2.1 _ (ho b hb), hV.2.1.2.2.1⟩
theorem VR.oq (hV : VS s) {o : Nat → Nat} (ho : OkO s o) (i : Nat) : VR (ssD s) (oL s o) (cdD (ssK s)) (qO s o i) := VR.sq hV.1 (VR.o hV ho) _ i
theorem stlB_t {o : Nat → Nat} {i : Nat} : stlB s o i = true ↔ Stl (ssD s) (oL s o) (cdD (ssK s)) (qO s o i) := by
  unfold stlB
  rw [decide_eq_true_iff]
  exact Iff.rfl
theorem eaO_le (s : SS) (o : Nat → Nat) (w i : Nat) : eaO s o w i ≤ max 12 (tdN (ssD s)) := by
  unfold eaO
  split
  · have := popN_le (clN (tdP (ssD s)) (qO s o i) (tdN (ssD s))) 12
    omega
  · have := wyn_le (tdP (ssD s)) (qO s o i) (tdN (ssD s))
    omega
theorem eaO_congr {o : Nat → Nat} {w i j : Nat} (h : ∀ b, b < tdN (ssD s) → qO s o i b = qO s o j b) : eaO s o w i = eaO s o w j := by
  unfold eaO
  rw [clN_congr h, wyn_congr h]
theorem sm_const {f : Nat → Nat} {i v : Nat} (h : ∀ j, i ≤ j → f j = v) : ∀ k, sm f (i + k) = sm f i + v * k
  | 0 => by simp
  | k + 1 => by
    show sm f (i + k) + f (i + k) = _
    rw [sm_const h k, h (i + k) (by omega), Nat.mul_add]
    omega
theorem sm_bd {f : Nat → Nat} {B : Nat} (h : ∀ j, f j ≤ B) : ∀ k, sm f k ≤ B * k
  | 0 => by simp [sm]
  | k + 1 => by
    have := sm_bd h k
    have := h k
    show sm f k + f k ≤ _
    rw [Nat.mul_add]
    omega
theorem fix_all {o : Nat → Nat} {i : Nat} (h : stlB s o i = true) : ∀ k b, b < tdN (ssD s) → qO s o (i + k) b = qO s o i b
  | 0, b, _ => rfl
  | k + 1, b, hb => by
    have ih := fix_all h k
    have e : ∀ b, b < tdN (ssD s) → sstp (ssD s) (oL s o) (cdD (ssK s)) 0 (qO s o (i + k)) b = sstp (ssD s) (oL s o) (cdD (ssK s)) 0 (qO s o i) b := stp_congr ih
    show sstp (ssD s) (oL s o) (cdD (ssK s)) 0 (qO s o (i + k)) b = _
    rw [e b hb]
    exact stlB_t.mp h b hb
theorem cst_le (hV : VS s) (o : Nat → Nat) {w n : Nat} (hn : n ≤ 30) : cst s o w n ≤ 360 := by
  have hN := hV.n
  unfold cst
  split
  · have : ∀ k, fd (stlB s o) k ≤ k := by
      intro k
      induction k with
      | zero => exact Nat.le_refl 0
      | succ k ih => unfold fd; split; omega; split <;> omega
    have := this (n + 1)
    omega
  · have := sm_bd (f := fun i => eaO s o w (i + 1)) (B := 12) (fun j => by have := eaO_le s o w (j + 1); omega) n
    omega
/-- WAY counts below 0 in the class -/
def cvI (w c : Nat) : Int32 := if w = 2 then - nI c else nI c
theorem x_cost1 (hX : XS m c s) (hV : VS s) {o : Nat → Nat} (ho : OkO s o) {x2 x3 : Int32} {m1 : M2} (hf : Fr (fun k _ => (24 ≤ k ∧ k ≤ 26) ∨ (35 ≤ k ∧ k ≤ 37)) m m1) (hO : ∀ b, b < tdN (ssD s) → hI m1 35 b = nI (o b)) : ∃ m', loop (g_X6_cost_6 c 28 x2 x3) ((0 : Int64), (0 : Int32), m1) = some (lN (pk (oT s o) (tdN (ssD s))), m') ∧ (∀ b, b < tdN (ssD s) → hI m' 37 b = oL s o b) ∧ Fr (fun k _ => k = 37) m1 m' := by
  have hN := hV.n
  have hc := hX.tx
  have h32 := t32 hV.1 hV.2.1
  obtain ⟨a1, a2, a3, a4⟩ := hX.2.1
  have o32 : ∀ b, b < tdN (ssD s) → oT s o b < 32 := fun b hb => h32 _ (ho b hb)
  have key : ∃ e, loop (g_X6_cost_6 c 28 x2 x3) ((0 : Int64), (0 : Int32), m1) = some e ∧ e.1 = lN (pk (oT s o) (tdN (ssD s))) ∧ (∀ b, b < tdN (ssD s) → hI e.2 37 b = oL s o b) ∧ Fr (fun k _ => k = 37) m1 e.2 := by
    refine loop_to (tdN (ssD s)) (fun k z => z.1 = lN (pk (oT s o) k) ∧ z.2.1 = nI k ∧ (∀ b, b < k → hI z.2.2 37 b = oL s o b) ∧ Fr (fun k _ => k = 37) m1 z.2.2) _ (by omega) ?_ ?_ ⟨rfl, rfl, fun b hb => by omega, Fr.rf⟩
    · rintro k ⟨y1, y2, m2⟩ hk ⟨i1, i2, i3, i4⟩
      dsimp only at i1 i2 i3 i4
      subst i1 i2
      show ∃ s', f_X6_cost_6 c 28 x2 x3 (lN (pk (oT s o) k)) (nI k) m2 = some (Sum.inl s') ∧ _
      have f02 := hf.tr (i4.mono (S' := fun k _ => (24 ≤ k ∧ k ≤ 26) ∨ (35 ≤ k ∧ k ≤ 37)) (fun k j z => by omega))
      have hok := ho k hk
      have e35 : hI m2 35 k = nI (o k) := by rw [i4.I _ _ (by omega)]; exact hO k hk
      unfold f_X6_cost_6
      rw [show hI m2 c 5 = nI (tdN (ssD s)) from by rw [f02.I _ _ (by omega)]; exact hX.n, if_neg (nI_ge hk (by omega)), aI_n _ 35 (show k < 12 by omega) (by omega), bind_s, e35, show hJ m2 28 0 = lN (pk (cdT (ssK s)) (tdN (ssD s))) from by rw [f02.J _ _ (by omega)]; exact a1, x_timeAt (p60n hN h32) (by omega), bind_s, pk_dig h32 hok]
      dsimp only
      rw [x_withTime (p60n (by omega) (fun b hb => o32 b (by omega))) (by omega) (h32 _ hok), bind_s, sd_top (fun b hb => o32 b (by omega))]
      dsimp only
      rw [aI_n _ 35 (show k < 12 by omega) (by omega), bind_s, e35, aI_n _ (28 + 2) (show o k < 12 by omega) (by omega), bind_s, show hI m2 (28 + 2) (o k) = cdL (ssK s) (o k) from by rw [f02.I _ _ (by omega)]; exact (a2 _ hok).2, bI_n _ 37 _ (show k < 12 by omega) (by omega), bind_s, nmI_e, bind_s]
      refine ⟨_, rfl, rfl, nI_1 k, fun b hb => ?_, i4.tI _ rfl⟩
      rw [hI_tI]
      by_cases e : b = k
      · rw [if_pos ⟨rfl, e⟩, e]
        rfl
      · rw [if_neg (by omega)]
        exact i3 b (by omega)
    · rintro ⟨y1, y2, m2⟩ ⟨i1, i2, i3, i4⟩
      dsimp only at i1 i2 i3 i4
      subst i1 i2
      show ∃ e, f_X6_cost_6 c 28 x2 x3 _ (nI (tdN (ssD s))) m2 = some (Sum.inr e) ∧ _
      have f02 := hf.tr (i4.mono (S' := fun k _ => (24 ≤ k ∧ k ≤ 26) ∨ (35 ≤ k ∧ k ≤ 37)) (fun k j z => by omega))
      unfold f_X6_cost_6
      rw [show hI m2 c 5 = nI (tdN (ssD s)) from by rw [f02.I _ _ (by omega)]; exact hX.n, if_pos (nI_le (Nat.le_refl _) (by omega))]
      exact ⟨_, rfl, rfl, i3, i4⟩
  obtain ⟨⟨y, m'⟩, e1, e2, e3, e4⟩ := key
  dsimp only at e2 e3 e4
  subst e2
  exact ⟨m', e1, e3, e4⟩
theorem x_costOf (hX : XT m c (ssD s)) (hV : VS s) {o : Nat → Nat} (ho : OkO s o) {w : Nat} (hw : w ≤ 2) (i : Nat) : ∃ m', F_X6_costOf c (nI w) (lN (pk (qO s o i) (tdN (ssD s)))) m = some (if w = 0 then 0 else cvI w (eaO s o w i), m') ∧ Fr (fun k _ => k = 26) m m' := by
  have hN := hV.n
  have hr := VR.oq hV ho i
  unfold F_X6_costOf
  by_cases h0 : w = 0
  · rw [if_pos (by rw [h0]; rfl), if_pos h0]
    exact ⟨m, rfl, Fr.rf⟩
  · rw [if_neg (nI_ne0 (by omega) (by omega)), if_neg h0]
    by_cases h1 : w = 1
    · subst h1
      have hcl : F_X5_clashBits c (lN (pk (qO s o i) (tdN (ssD s)))) m = some (nI (clN (tdP (ssD s)) (qO s o i) (tdN (ssD s))), m) := by
        rw [← clb_clN _ _ _ hN]
        exact x_clash hX.1 (hr.t32 hV.1)
      have hl := clN_lt (tdP (ssD s)) (qO s o i) (tdN (ssD s))
      have hp := p12 hV
      rw [if_pos (show nI 1 = 1 from rfl), hcl, bind_s]
      dsimp only
      rw [x_bitCount, bind_s, pc_all _ (by omega)]
      exact ⟨m, rfl, Fr.rf⟩
    · have h2 : w = 2 := by omega
      subst h2
      rw [if_neg (by decide)]
      obtain ⟨m1, e1, f1⟩ := x_wayOf hX.1 hr.1
      rw [e1, bind_s]
      exact ⟨m1, rfl, f1⟩
theorem cvI_add (w a b : Nat) : cvI w a + cvI w b = cvI w (a + b) := by
  unfold cvI
  split
  · rw [← nI_add, Int32.neg_add, Int32.sub_eq_add_neg]
  · exact nI_add a b
theorem cvI_mul (w a b : Nat) : cvI w a * nI b = cvI w (a * b) := by
  unfold cvI
  split
  · rw [← pk_mul, Int32.neg_mul]
  · exact pk_mul a b
theorem x_cost (hX : XS m c s) (hV : VS s) {o : Nat → Nat} (ho : OkO s o) {w n : Nat} (hw : w ≤ 2) (hn : n ≤ 30) {m1 : M2} (hf : Fr (fun k _ => (24 ≤ k ∧ k ≤ 26) ∨ (35 ≤ k ∧ k ≤ 37)) m m1) (hO : ∀ b, b < tdN (ssD s) → hI m1 35 b = nI (o b)) : ∃ m', F_X6_cost c 28 (nI w) (nI n) m1 = some (cvI w (cst s o w n), m') ∧ Fr (fun k _ => (24 ≤ k ∧ k ≤ 26) ∨ k = 37) m1 m' := by
  have hN := hV.n
  have hc := hX.tx
  obtain ⟨a1, a2, a3, a4⟩ := hX.2.1
  unfold F_X6_cost
  obtain ⟨m2, e2, L2, f2⟩ := x_cost1 (x2 := nI w) (x3 := nI n) hX hV ho hf hO
  rw [e2, bind_s]
  dsimp only
  have key : ∃ e, loop (g_X6_cost_75 c 28 (nI w) (nI n)) (lN (pk (oT s o) (tdN (ssD s))), (0 : Int32), (0 : Int32), m2) = some e ∧ ((∃ i m', e = Sum.inl (if w = 0 then 0 else cvI w (sm (fun i => eaO s o w (i + 1)) i), nI i, if w = 0 then 0 else cvI w (eaO s o w (i + 1)), m') ∧ i ≤ n ∧ fd (stlB s o) i = i ∧ stlB s o i = true ∧ Fr (fun k _ => 24 ≤ k ∧ k ≤ 26) m2 m') ∨ (∃ m', e = Sum.inr (if w = 0 then 0 else cvI w (sm (fun i => eaO s o w (i + 1)) n), m') ∧ fd (stlB s o) (n + 1) = n + 1 ∧ Fr (fun k _ => 24 ≤ k ∧ k ≤ 26) m2 m')) := by
    refine loop_ex (n + 1) (fun i z => z.1 = lN (pk (qO s o i) (tdN (ssD s))) ∧ z.2.1 = (if w = 0 then 0 else cvI w (sm (fun i => eaO s o w (i + 1)) (min i n))) ∧ z.2.2.1 = nI i ∧ fd (stlB s o) i = i ∧ Fr (fun k _ => 24 ≤ k ∧ k ≤ 26) m2 z.2.2.2) _ (by omega) ?_ ?_ ⟨rfl, ?_, rfl, rfl, Fr.rf⟩
    · rintro i ⟨y1, y2, y3, m3⟩ hi ⟨i1, i2, i3, i4, i5⟩
      dsimp only at i1 i2 i3 i4 i5
      subst i1 i2 i3
      show (∃ s', f_X6_cost_75 c 28 (nI w) (nI n) _ _ (nI i) m3 = some (Sum.inl s') ∧ _) ∨ ∃ e, f_X6_cost_75 c 28 (nI w) (nI n) _ _ (nI i) m3 = some (Sum.inr e) ∧ _
      have f03 := (hf.tr (f2.mono (S' := fun k _ => (24 ≤ k ∧ k ≤ 26) ∨ (35 ≤ k ∧ k ≤ 37)) (fun k j z => by omega))).tr (i5.mono (S' := fun k _ => (24 ≤ k ∧ k ≤ 26) ∨ (35 ≤ k ∧ k ≤ 37)) (fun k j z => by omega))
      have hX3 := hX.1.fr f03 (fun k j z1 z2 => by omega)
      have hr := VR.oq hV ho i
      unfold f_X6_cost_75
      obtain ⟨m4, e4, f4⟩ := x_st (a := 37) hX3 hV.1 hr (fun b hb => by rw [i5.I _ _ (by omega)]; exact L2 b hb) (by omega) 0
      have e4' : F_X5_stroke c (lN (pk (qO s o i) (tdN (ssD s)))) 37 (cdD (ssK s)) 0 m3 = some (lN (pk (qO s o (i + 1)) (tdN (ssD s))), m4) := e4
      rw [if_neg (nI_nlt (by omega) (by omega)), show hI m3 28 3 = cdD (ssK s) from by rw [f03.I _ _ (by omega)]; exact a3, e4', bind_s]
      dsimp only
      obtain ⟨m5, e5, f5⟩ := x_costOf (s := s) (hX3.fr f4 (fun k j z1 z2 => by omega)) hV ho hw (i + 1)
      rw [e5, bind_s]
      dsimp only
      have f25 : Fr (fun k _ => 24 ≤ k ∧ k ≤ 26) m2 m5 := (i5.tr (f4.mono (fun k j z => by omega))).tr (f5.mono (fun k j z => by omega))
      have hst : lg_cmp (lN (pk (qO s o (i + 1)) (tdN (ssD s)))) (lN (pk (qO s o i) (tdN (ssD s)))) = 0 ↔ stlB s o i = true := (x_stl hV.1 hr).trans stlB_t.symm
      have hmin : min i n = i := by omega
      by_cases hq : stlB s o i = true
      · right
        rw [if_pos (hst.mpr hq), hmin]
        exact ⟨_, rfl, Or.inl ⟨i, m5, rfl, by omega, i4, hq, f25⟩⟩
      · left
        rw [if_neg (fun z => hq (hst.mp z))]
        have hfd := fd_n i4 (show stlB s o i = false by cases h : stlB s o i; rfl; exact absurd h hq)
        by_cases hz : n ≤ i
        · rw [if_pos (nI_le hz (by omega))]
          refine ⟨_, rfl, rfl, ?_, nI_1 i, hfd, f25⟩
          rw [show min (i + 1) n = min i n by omega]
        · rw [if_neg (nI_ge (by omega) (by omega)), nmI_e, bind_s]
          refine ⟨_, rfl, rfl, ?_, nI_1 i, hfd, f25⟩
          show (if w = 0 then 0 else cvI w (sm (fun i => eaO s o w (i + 1)) (min i n))) + (if w = 0 then 0 else cvI w (eaO s o w (i + 1))) = _
          rw [hmin, show min (i + 1) n = i + 1 by omega]
          by_cases h0 : w = 0
          · rw [if_pos h0, if_pos h0, if_pos h0]
            rfl
          · rw [if_neg h0, if_neg h0, if_neg h0, cvI_add]
            rfl
    · rintro ⟨y1, y2, y3, m3⟩ ⟨i1, i2, i3, i4, i5⟩
      dsimp only at i1 i2 i3 i4 i5
      subst i1 i2 i3
      show ∃ e, f_X6_cost_75 c 28 (nI w) (nI n) _ _ (nI (n + 1)) m3 = some (Sum.inr e) ∧ _
      unfold f_X6_cost_75
      rw [if_pos (nI_lt (by omega) (by omega)), show min (n + 1) n = n by omega]
      exact ⟨_, rfl, Or.inr ⟨m3, rfl, i4, i5⟩⟩
    · dsimp only
      rw [show min 0 n = 0 by omega]
      split
      · rfl
      · unfold cvI sm
        split <;> rfl
  have ff : ∀ m' : M2, Fr (fun k _ => 24 ≤ k ∧ k ≤ 26) m2 m' → Fr (fun k _ => (24 ≤ k ∧ k ≤ 26) ∨ k = 37) m1 m' := fun m' h => (f2.mono (fun k j z => Or.inr z)).tr (h.mono (fun k j z => Or.inl z))
  obtain ⟨e, e3, ⟨i, m', rfl, q1, q2, q3, q4⟩ | ⟨m', rfl, q2, q4⟩⟩ := key
  · rw [e3, bind_s, Sum.elim_inl]
    dsimp only
    unfold cst
    by_cases h0 : w = 0
    · rw [if_pos (by rw [h0]; rfl), if_pos h0]
      have := fd_y q2 q3 (n - i)
      rw [show i + 1 + (n - i) = n + 1 by omega] at this
      rw [this, h0]
      exact ⟨m', rfl, ff m' q4⟩
    · rw [if_neg (nI_ne0 (by omega) (by omega)), if_neg h0, if_neg h0, if_neg h0, pk_sub q1, cvI_mul, cvI_add]
      have := sm_const (f := fun i => eaO s o w (i + 1)) (i := i) (v := eaO s o w (i + 1)) (fun j hj => eaO_congr (fun b hb => by
        have h1 := fix_all q3 (j + 1 - i) b hb
        have h2 := fix_all q3 1 b hb
        rw [show i + (j + 1 - i) = j + 1 by omega] at h1
        rw [h1, h2])) (n - i)
      rw [show i + (n - i) = n by omega] at this
      rw [this]
      exact ⟨m', rfl, ff m' q4⟩
  · rw [e3, bind_s, Sum.elim_inr]
    dsimp only
    unfold cst
    by_cases h0 : w = 0
    · rw [if_pos (by rw [h0]; rfl), if_pos h0, q2, h0, nI_1]
      exact ⟨m', rfl, ff m' q4⟩
    · rw [if_neg (nI_ne0 (by omega) (by omega)), if_neg h0, if_neg h0]
      exact ⟨m', rfl, ff m' q4⟩
/-! the reference's -/
abbrev SSe : Nat → Nat → Prop := fun k j => StM k j ∨ SrM k j ∨ k = 103 ∨ k = 105 ∨ k = 106
theorem m_sits (hM : MS m l s) (hV : VS s) {o : Nat → Nat} (ho : OkO s o) {m1 : M2} (hf : Fr SSe m m1) (hO : ∀ b, b < tdN (ssD s) → hI m1 105 b = nI (o b)) : ∃ m', F_X12_sits m1 = some m' ∧ RwM m' (tdN (ssD s)) (tdG (ssD s)) (cdD (ssK s)) (oL s o) (oT s o) ∧ Fr StM m1 m' := by
  have hN := hV.n
  have hM1 := hM.fr hf (fun k j h z => by unfold mk2 at h; omega)
  obtain ⟨a1, a2, a3, a4⟩ := hM1.2.1
  unfold F_X12_sits
  obtain ⟨m2, e2, R2, f2⟩ := m_takes hM1.lv hM1.l2 hM1.n hN hM1.2.1
  rw [e2, bind_s]
  obtain ⟨r1, r2, r3, r4, r5⟩ := R2
  have key : ∃ e, loop g_X12_sits_6 ((0 : Int32), m2) = some e ∧ (∀ b, b < tdN (ssD s) → hI e 97 b = nI (oT s o b) ∧ hI e 98 b = oL s o b) ∧ Fr (fun k _ => k = 97 ∨ k = 98) m2 e := by
    refine loop_to (tdN (ssD s)) (fun k z => z.1 = nI k ∧ (∀ b, b < k → hI z.2 97 b = nI (oT s o b) ∧ hI z.2 98 b = oL s o b) ∧ Fr (fun k _ => k = 97 ∨ k = 98) m2 z.2) _ (by omega) ?_ ?_ ⟨rfl, fun b hb => by omega, Fr.rf⟩
    · rintro k ⟨x, m3⟩ hk ⟨i1, i2, i3⟩
      dsimp only at i1 i2 i3
      subst i1
      show ∃ s', f_X12_sits_6 (nI k) m3 = some (Sum.inl s') ∧ _
      have f13 : Fr StM m1 m3 := f2.tr (i3.mono (fun k j z => by omega))
      have hok := ho k hk
      have e105 : hI m3 105 k = nI (o k) := by rw [f13.I _ _ (by omega)]; exact hO k hk
      have e93 : hI m3 93 (o k) = nI (oT s o k) := by rw [f13.I _ _ (by omega)]; exact (a1 _ hok).1
      have e95 : hI m3 95 (o k) = oL s o k := by rw [f13.I _ _ (by omega)]; exact (a1 _ hok).2.2
      unfold f_X12_sits_6
      rw [show hI m3 56 65 = nI (tdN (ssD s)) from by rw [i3.I _ _ (by omega)]; exact r1, if_neg (nI_ge hk (by omega)), aI_n _ 105 (show k < 12 by omega) (by omega), bind_s, e105, aI_n _ 93 (show o k < 12 by omega) (by omega), bind_s, e93, bI_n _ 97 _ (show k < 12 by omega) (by omega), bind_s, aI_n _ 105 (show k < 12 by omega) (by omega), bind_s, show hI (tI m3 97 k (nI (oT s o k))) 105 k = nI (o k) from by rw [hI_tI, if_neg (by omega)]; exact e105, aI_n _ 95 (show o k < 12 by omega) (by omega), bind_s, show hI (tI m3 97 k (nI (oT s o k))) 95 (o k) = oL s o k from by rw [hI_tI, if_neg (by omega)]; exact e95, bI_n _ 98 _ (show k < 12 by omega) (by omega), bind_s, nmI_e, bind_s]
      refine ⟨_, rfl, nI_1 k, fun b hb => ?_, (i3.tI _ (by omega)).tI _ (by omega)⟩
      by_cases e : b = k
      · subst e
        simp [hI_tI]
      · have := i2 b (by omega)
        simp [hI_tI, e, this.1, this.2]
    · rintro ⟨x, m3⟩ ⟨i1, i2, i3⟩
      dsimp only at i1 i2 i3
      subst i1
      show ∃ e, f_X12_sits_6 (nI (tdN (ssD s))) m3 = some (Sum.inr e) ∧ _
      unfold f_X12_sits_6
      rw [show hI m3 56 65 = nI (tdN (ssD s)) from by rw [i3.I _ _ (by omega)]; exact r1, if_pos (nI_le (Nat.le_refl _) (by omega))]
      exact ⟨_, rfl, i2, i3⟩
  obtain ⟨m3, e3, g3, f3⟩ := key
  rw [e3, bind_s]
  exact ⟨m3, rfl, ⟨by rw [f3.I _ _ (by omega)]; exact r1, by rw [f3.I _ _ (by omega)]; exact r2, by rw [f3.I _ _ (by omega)]; exact r3, fun b hb => (g3 b hb).1, fun b hb => (g3 b hb).2⟩, f2.tr (f3.mono (fun k j z => by omega))⟩
theorem m_comesTo (hM : MS m l s) (hV : VS s) {o : Nat → Nat} (ho : OkO s o) {w n : Nat} (hw : w ≤ 2) (hn : n ≤ 30) {m1 : M2} (hf : Fr SSe m m1) (hO : ∀ b, b < tdN (ssD s) → hI m1 105 b = nI (o b)) : ∃ m', F_X12_comesTo (nI w) (nI n) m1 = some (nI (cst s o w n), m') ∧ hI m' 56 65 = nI (tdN (ssD s)) ∧ Fr (fun k j => StM k j ∨ SrM k j ∨ k = 103) m1 m' := by
  have hN := hV.n
  unfold F_X12_comesTo
  obtain ⟨m2, e2, R2, f2⟩ := m_sits hM hV ho hf hO
  rw [e2, bind_s]
  have hL := (VR.o hV ho).2.1
  have hD := (VR.o hV ho).2.2
  have hM2 : ∀ m3 : M2, Fr (fun k j => SrM k j ∨ k = 103) m2 m3 → MT m3 l (ssD s) := by
    intro m3 h
    exact (((hM.1.fr hf (fun k j h z => by omega)).fr f2 (fun k j h z => by omega)).fr h (fun k j h z => by omega))
  have ff : ∀ m3 : M2, Fr (fun k j => SrM k j ∨ k = 103) m2 m3 → Fr (fun k j => StM k j ∨ SrM k j ∨ k = 103) m1 m3 := fun m3 h => (f2.mono (fun k j z => Or.inl z)).tr (h.mono (fun k j z => Or.inr z))
  unfold cst
  by_cases h0 : w = 0
  · rw [if_pos (by rw [h0]; rfl), if_pos h0]
    have key : ∃ e, loop (g_X12_comesTo_10 (nI n)) ((0 : Int32), m2) = some e ∧ ((∃ m', e = Sum.inl (nI (fd (stlB s o) (n + 1)), m') ∧ hI m' 56 65 = nI (tdN (ssD s)) ∧ Fr (fun k j => SrM k j ∨ k = 103) m2 m') ∨ (∃ m', e = Sum.inr m' ∧ fd (stlB s o) (n + 1) = n + 1 ∧ hI m' 56 65 = nI (tdN (ssD s)) ∧ Fr (fun k j => SrM k j ∨ k = 103) m2 m')) := by
      refine loop_ex (n + 1) (fun i z => z.1 = nI i ∧ RwM z.2 (tdN (ssD s)) (tdG (ssD s)) (cdD (ssK s)) (oL s o) (qO s o i) ∧ fd (stlB s o) i = i ∧ Fr (fun k j => SrM k j ∨ k = 103) m2 z.2) _ (by omega) ?_ ?_ ⟨rfl, R2, rfl, Fr.rf⟩
      · rintro i ⟨x, m3⟩ hi ⟨i1, i2, i3, i4⟩
        dsimp only at i1 i2 i3 i4
        subst i1
        show (∃ s', f_X12_comesTo_10 (nI n) (nI i) m3 = some (Sum.inl s') ∧ _) ∨ ∃ e, f_X12_comesTo_10 (nI n) (nI i) m3 = some (Sum.inr e) ∧ _
        unfold f_X12_comesTo_10
        obtain ⟨m4, e4, R4, f4⟩ := m_isStill (hM2 m3 i4) hV.1 i2 hN hL hD (VR.oq hV ho i).1
        rw [if_neg (nI_nlt (by omega) (by omega))]
        rcases e4 with ⟨e4, q⟩ | ⟨e4, q⟩
        · right
          rw [e4, bind_s]
          dsimp only
          rw [if_neg (by decide)]
          have := fd_y i3 (stlB_t.mpr q) (n - i)
          rw [show i + 1 + (n - i) = n + 1 by omega] at this
          exact ⟨_, rfl, Or.inl ⟨m4, by rw [this], R4.1, i4.tr f4⟩⟩
        · left
          rw [e4, bind_s]
          dsimp only
          obtain ⟨m5, e5, R5, f5⟩ := m_st (hM2 m4 (i4.tr f4)) hV.1 R4 hN hL hD (VR.oq hV ho i).1 0
          rw [if_pos rfl, e5, bind_s, nmI_e, bind_s]
          exact ⟨_, rfl, nI_1 i, R5, fd_n i3 (by cases h : stlB s o i; rfl; exact absurd (stlB_t.mp h) q), (i4.tr f4).tr (f5.mono (fun k j z => Or.inl z))⟩
      · rintro ⟨x, m3⟩ ⟨i1, i2, i3, i4⟩
        dsimp only at i1 i2 i3 i4
        subst i1
        show ∃ e, f_X12_comesTo_10 (nI n) (nI (n + 1)) m3 = some (Sum.inr e) ∧ _
        unfold f_X12_comesTo_10
        rw [if_pos (nI_lt (by omega) (by omega))]
        exact ⟨_, rfl, Or.inr ⟨m3, rfl, i3, i2.1, i4⟩⟩
    obtain ⟨e, e3, ⟨m', rfl, q2, q3⟩ | ⟨m', rfl, q1, q2, q3⟩⟩ := key
    · rw [e3, bind_s]
      exact ⟨m', rfl, q2, ff m' q3⟩
    · rw [e3, bind_s, q1, ← nI_1]
      exact ⟨m', rfl, q2, ff m' q3⟩
  · rw [if_neg (nI_ne0 (by omega) (by omega)), if_neg h0]
    have key : ∃ e, loop (g_X12_comesTo_44 (nI w) (nI n)) ((0 : Int32), (0 : Int32), m2) = some e ∧ e.1 = nI (sm (fun i => eaO s o w (i + 1)) n) ∧ hI e.2 56 65 = nI (tdN (ssD s)) ∧ Fr (fun k j => SrM k j ∨ k = 103) m2 e.2 := by
      refine loop_to n (fun i z => z.1 = nI (sm (fun i => eaO s o w (i + 1)) i) ∧ z.2.1 = nI i ∧ RwM z.2.2 (tdN (ssD s)) (tdG (ssD s)) (cdD (ssK s)) (oL s o) (qO s o i) ∧ Fr (fun k j => SrM k j ∨ k = 103) m2 z.2.2) _ (by omega) ?_ ?_ ⟨rfl, rfl, R2, Fr.rf⟩
      · rintro i ⟨y1, y2, m3⟩ hi ⟨i1, i2, i3, i4⟩
        dsimp only at i1 i2 i3 i4
        subst i1 i2
        show ∃ s', f_X12_comesTo_44 (nI w) (nI n) _ (nI i) m3 = some (Sum.inl s') ∧ _
        unfold f_X12_comesTo_44
        obtain ⟨m4, e4, R4, f4⟩ := m_st (hM2 m3 i4) hV.1 i3 hN hL hD (VR.oq hV ho i).1 0
        have R4' : RwM m4 (tdN (ssD s)) (tdG (ssD s)) (cdD (ssK s)) (oL s o) (qO s o (i + 1)) := R4
        have f24 := i4.tr (f4.mono (S' := fun k j => SrM k j ∨ k = 103) (fun k j z => Or.inl z))
        rw [if_neg (nI_ge hi (by omega)), e4, bind_s]
        have go : ∀ v : Nat, v = eaO s o w (i + 1) → ∃ s', f_X12_comesTo_78 (nI w) (nI n) (nI i) (nI (sm (fun i => eaO s o w (i + 1)) i)) (nI v) m4 = some (Sum.inl s') ∧ s'.1 = nI (sm (fun i => eaO s o w (i + 1)) (i + 1)) ∧ s'.2.1 = nI (i + 1) ∧ RwM s'.2.2 (tdN (ssD s)) (tdG (ssD s)) (cdD (ssK s)) (oL s o) (qO s o (i + 1)) ∧ Fr (fun k j => SrM k j ∨ k = 103) m2 s'.2.2 := by
          rintro v rfl
          refine ⟨_, rfl, ?_, nI_1 i, R4', f24⟩
          show nI (sm (fun i => eaO s o w (i + 1)) i) + nI (eaO s o w (i + 1)) = _
          rw [nI_add]
          rfl
        by_cases h1 : w = 1
        · rw [if_pos (by rw [h1]; rfl), m_clash (hM2 m4 f24).1 hV.p R4' hN, bind_s, clb_clN _ _ _ hN]
          dsimp only
          have hl := clN_lt (tdP (ssD s)) (qO s o (i + 1)) (tdN (ssD s))
          have hp := p12 hV
          rw [m_bits (by omega), bind_s]
          exact go _ (by unfold eaO; rw [if_pos h1])
        · have h1' : ¬ nI w = 1 := fun y => h1 ((nI_eq (by omega) (by omega)).mp (show nI _ = nI 1 from y))
          rw [if_neg h1', m_wayNow (hM2 m4 f24).1 hV.p R4' hN, bind_s]
          exact go _ (by unfold eaO; rw [if_neg h1])
      · rintro ⟨y1, y2, m3⟩ ⟨i1, i2, i3, i4⟩
        dsimp only at i1 i2 i3 i4
        subst i1 i2
        show ∃ e, f_X12_comesTo_44 (nI w) (nI n) _ (nI n) m3 = some (Sum.inr e) ∧ _
        unfold f_X12_comesTo_44
        rw [if_pos (nI_le (Nat.le_refl _) (by omega))]
        exact ⟨_, rfl, rfl, i3.1, i4⟩
    obtain ⟨⟨y, m3⟩, e3, q1, q2, q3⟩ := key
    dsimp only at q1 q2 q3
    subst q1
    rw [e3, bind_s]
    exact ⟨m3, rfl, q2, ff m3 q3⟩
end KG
