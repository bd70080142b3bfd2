/-! ===== ram ===== -/
section KC
variable {m : M2} {c l : Nat} {s : SS}
def rmT (s : SS) (x p : Nat) : Nat → Nat → Nat
  | 0 => sqS s p
  | i + 1 => sstp (ssD s) (cdL (ssK s)) (nI x) (fS s (p + i)) (rmT s x p i)
def ramW (s : SS) (n a x : Nat) : Nat := wyn (tdP (ssD s)) (rmT s x (a - 1) (n - (a - 1))) (tdN (ssD s))
def ramF (s : SS) (n i : Nat) : Nat := ramW s n (n - i / tdP (ssD s)) (i % tdP (ssD s))
theorem ramF_le (s : SS) (n i : Nat) : ramF s n i ≤ tdN (ssD s) := wyn_le _ _ _
theorem dm {P q k : Nat} (hk : k < P) : (q * P + k) / P = q ∧ (q * P + k) % P = k := by
  refine ⟨?_, ?_⟩
  · rw [Nat.mul_comm, Nat.mul_add_div (by omega), Nat.div_eq_of_lt hk, Nat.add_zero]
  · rw [Nat.mul_comm, Nat.mul_add_mod, Nat.mod_eq_of_lt hk]
theorem ramF_e (s : SS) (n : Nat) {q k : Nat} (hk : k < tdP (ssD s)) : ramF s n (q * tdP (ssD s) + k) = ramW s n (n - q) k := by
  unfold ramF
  rw [(dm hk).1, (dm hk).2]
theorem fS_e (s : SS) (j : Nat) : (cdS (ssK s) + nI (j + 1)) - 1 = cdS (ssK s) + nI j := by
  rw [← nI_1, ← Int32.add_assoc]
  exact Int32.add_sub_cancel _ _
theorem VR.rm (hV : VS s) {x : Nat} (hx : x < tdP (ssD s)) (p : Nat) : ∀ i, VR (ssD s) (cdL (ssK s)) (nI x) (rmT s x p i)
  | 0 => ⟨(VR.sq hV.1 hV.2.1.r (fS s) p).1, hV.2.1.2.1, Or.inr ⟨x, hx, rfl⟩⟩
  | i + 1 => (VR.rm hV hx p i).st hV.1 _
theorem ram_eq {n a x : Nat} (ha : 1 ≤ a) (han : a < n) (h : ∀ b, b < tdN (ssD s) → rmT s x (a - 1) 1 b = sqS s a b) : ramW s n a x = ramW s n (a + 1) x := by
  have key : ∀ i, ∀ b, b < tdN (ssD s) → rmT s x (a - 1) (i + 1) b = rmT s x a i b := by
    intro i
    induction i with
    | zero => exact h
    | succ i ih =>
      show ∀ b, b < tdN (ssD s) → sstp (ssD s) (cdL (ssK s)) (nI x) (fS s (a - 1 + (i + 1))) (rmT s x (a - 1) (i + 1)) b = sstp (ssD s) (cdL (ssK s)) (nI x) (fS s (a + i)) (rmT s x a i) b
      rw [show a - 1 + (i + 1) = a + i by omega]
      exact stp_congr ih
  unfold ramW
  rw [show n - (a - 1) = (n - a) + 1 by omega, Nat.add_sub_cancel]
  exact wyn_congr (key (n - a))
theorem wyn_pos {P n : Nat} {t : Nat → Nat} (hP : 3 ≤ P ∧ P ≤ 24) (hn : 0 < n) (ht : ∀ b, b < n → t b < P) : 1 ≤ wyn P t n := by
  have h0 := ht 0 hn
  have hm := bst_max (fun x => ner P t x n) (P - 1) (t 0) (by omega)
  have h1 : ∀ k, 0 < k → 1 ≤ ner P t (t 0) k := by
    intro k
    induction k with
    | zero => intro h; omega
    | succ k ih =>
      intro _
      unfold ner
      by_cases hk : k = 0
      · subst hk
        rw [if_pos ((ner_iff hP h0 h0).mpr (Or.inr (Or.inl rfl)))]
        omega
      · have := ih (by omega)
        split <;> omega
  have := h1 n hn
  have hm' : ner P t (t 0) n ≤ ner P t (bst (fun x => ner P t x n) (P - 1)) n := hm
  unfold wyn wyp
  omega
theorem x_wayBehind (hX : XS m c s) (hV : VS s) {n a x : Nat} (ha : 1 ≤ a) (han : a ≤ n) (hn : n ≤ 60) (hx : x < tdP (ssD s)) {m1 : M2} (hf : Fr (fun k _ => 24 ≤ k ∧ k ≤ 26 ∨ k = 39 ∨ k = 40) m m1) (hr : ∀ i, i < n → hJ m1 40 i = lN (pk (sqS s i) (tdN (ssD s)))) : ∃ m', (F_X9_wayBehind c 28 (nI a) (nI n) (nI x) m1 = some (nI (ramW s n a x), m') ∨ (F_X9_wayBehind c 28 (nI a) (nI n) (nI x) m1 = some (0, m') ∧ a < n ∧ ramW s n a x = ramW s n (a + 1) x)) ∧ Fr (fun k _ => 24 ≤ k ∧ k ≤ 26) m1 m' := by
  have hN := hV.n
  have hc := hX.tx
  obtain ⟨a1, a2, a3, a4⟩ := hX.2.1
  unfold F_X9_wayBehind
  rw [lit_1, pk_sub ha, aJ_n _ 40 (show a - 1 < 401 by omega) (by omega), bind_s, hr (a - 1) (by omega)]
  have key : ∃ e, loop (g_X9_wayBehind_13 c 28 (nI a) (nI n) (nI x)) (lN (pk (sqS s (a - 1)) (tdN (ssD s))), nI a, m1) = some e ∧ ((∃ m', e = Sum.inl m' ∧ a < n ∧ ramW s n a x = ramW s n (a + 1) x ∧ Fr (fun k _ => 24 ≤ k ∧ k ≤ 26) m1 m') ∨ (∃ m', e = Sum.inr (lN (pk (rmT s x (a - 1) (n - (a - 1))) (tdN (ssD s))), m') ∧ Fr (fun k _ => 24 ≤ k ∧ k ≤ 26) m1 m')) := by
    refine loop_ex (n - (a - 1)) (fun j z => z.1 = lN (pk (rmT s x (a - 1) j) (tdN (ssD s))) ∧ z.2.1 = nI (a + j) ∧ Fr (fun k _ => 24 ≤ k ∧ k ≤ 26) m1 z.2.2) _ (by omega) ?_ ?_ ⟨rfl, rfl, Fr.rf⟩
    · rintro j ⟨y, z, m2⟩ hj ⟨i1, i2, i3⟩
      dsimp only at i1 i2 i3
      subst i1 i2
      show (∃ s', f_X9_wayBehind_13 c 28 (nI a) (nI n) (nI x) _ (nI (a + j)) m2 = some (Sum.inl s') ∧ _) ∨ ∃ e, f_X9_wayBehind_13 c 28 (nI a) (nI n) (nI x) _ (nI (a + j)) m2 = some (Sum.inr e) ∧ _
      have f2 : Fr (fun k _ => 24 ≤ k ∧ k ≤ 26 ∨ k = 39 ∨ k = 40) m m2 := hf.tr (i3.mono (fun k j z => Or.inl z))
      have hX2 := hX.1.fr f2 (fun k j z1 z2 => by omega)
      unfold f_X9_wayBehind_13
      rw [if_neg (nI_nlt (by omega) (by omega)), show hI m2 28 4 = cdS (ssK s) from by rw [f2.I _ _ (by omega)]; exact a4, show nI (a + j) = nI (a - 1 + j + 1) from by rw [show a + j = a - 1 + j + 1 by omega], fS_e, x_isFog hX2 hV.1, bind_s, show a - 1 + j + 1 = a + j by omega]
      dsimp only
      obtain ⟨m3, e3, f3⟩ := x_st (a := 28 + 2) hX2 hV.1 (VR.rm hV hx (a - 1) j) (fun b hb => by rw [f2.I _ _ (by omega)]; exact (a2 b hb).2) (by omega) (fogd (ssD s) (cdS (ssK s) + nI (a - 1 + j)))
      have e3' : F_X5_stroke c (lN (pk (rmT s x (a - 1) j) (tdN (ssD s)))) (28 + 2) (nI x) (fogd (ssD s) (cdS (ssK s) + nI (a - 1 + j))) m2 = some (lN (pk (rmT s x (a - 1) (j + 1)) (tdN (ssD s))), m3) := e3
      rw [e3', bind_s]
      dsimp only
      have f13 : Fr (fun k _ => 24 ≤ k ∧ k ≤ 26) m1 m3 := i3.tr (f3.mono (fun k j z => by omega))
      have go : ∃ s', f_X9_wayBehind_80 c 28 (nI a) (nI n) (nI x) (lN (pk (rmT s x (a - 1) (j + 1)) (tdN (ssD s)))) (nI (a + j)) m3 = some (Sum.inl s') ∧ s'.1 = lN (pk (rmT s x (a - 1) (j + 1)) (tdN (ssD s))) ∧ s'.2.1 = nI (a + (j + 1)) ∧ Fr (fun k _ => 24 ≤ k ∧ k ≤ 26) m1 s'.2.2 := ⟨_, rfl, rfl, nI_1 (a + j), f13⟩
      by_cases hj0 : j = 0
      · subst hj0
        rw [Nat.add_zero, if_pos rfl]
        by_cases hz : n ≤ a
        · rw [if_pos (nI_le hz (by omega))]
          exact Or.inl go
        · rw [if_neg (nI_ge (by omega) (by omega)), aJ_n _ 40 (show a < 401 by omega) (by omega), bind_s, show hJ m3 40 a = lN (pk (sqS s a) (tdN (ssD s))) from by rw [f13.J _ _ (by omega)]; exact hr a (by omega)]
          have hpk := pkN_eq (t := rmT s x (a - 1) 1) (u := sqS s a) hN ((VR.rm hV hx (a - 1) 1).t32 hV.1) ((VR.sq hV.1 hV.2.1.r (fS s) a).t32 hV.1)
          by_cases hq : ∀ b, b < tdN (ssD s) → rmT s x (a - 1) 1 b = sqS s a b
          · right
            rw [if_pos ((lg_cmp_eq _ _).mpr (hpk.mpr hq))]
            exact ⟨_, rfl, Or.inl ⟨m3, rfl, by omega, ram_eq ha (by omega) hq, f13⟩⟩
          · left
            rw [if_neg (fun z => hq (hpk.mp ((lg_cmp_eq _ _).mp z)))]
            exact go
      · left
        rw [if_neg (fun z => hj0 (by have := (nI_eq (by omega) (by omega)).mp z; omega))]
        exact go
    · rintro ⟨y, z, m2⟩ ⟨i1, i2, i3⟩
      dsimp only at i1 i2 i3
      subst i1 i2
      show ∃ e, f_X9_wayBehind_13 c 28 (nI a) (nI n) (nI x) _ (nI (a + (n - (a - 1)))) m2 = some (Sum.inr e) ∧ _
      unfold f_X9_wayBehind_13
      rw [if_pos (nI_lt (by omega) (by omega))]
      exact ⟨_, rfl, Or.inr ⟨m2, rfl, i3⟩⟩
  obtain ⟨e, e1, ⟨m', rfl, h1, h2, h3⟩ | ⟨m', rfl, h3⟩⟩ := key
  · rw [e1, bind_s]
    exact ⟨m', Or.inr ⟨rfl, h1, h2⟩, h3⟩
  · rw [e1, bind_s, Sum.elim_inr]
    have f2 : Fr (fun k _ => 24 ≤ k ∧ k ≤ 26 ∨ k = 39 ∨ k = 40) m m' := hf.tr (h3.mono (fun k j z => Or.inl z))
    obtain ⟨m2, e2, f3⟩ := x_wayOf (hX.1.fr f2 (fun k j z1 z2 => by omega)).1 (VR.rm hV hx (a - 1) (n - (a - 1))).1
    rw [e2, bind_s]
    exact ⟨m2, Or.inl rfl, h3.tr (f3.mono (fun k j z => by omega))⟩
/-- what is known behind K tries -/
def rmI3 (s : SS) (n K : Nat) (m : M2) : Prop := (K = 0 → hI m 39 4 = 0) ∧ (0 < K → hI m 39 4 = nI (ramF s n (bst (ramF s n) (K - 1))) ∧ hI m 39 5 = nI (n - bst (ramF s n) (K - 1) / tdP (ssD s)) ∧ hI m 39 6 = nI (bst (ramF s n) (K - 1) % tdP (ssD s)))
theorem rmI3.stop {n K : Nat} (h : rmI3 s n K m) (hK : 0 < K) (he : ramF s n (bst (ramF s n) (K - 1)) = tdN (ssD s)) (i : Nat) : rmI3 s n (K + i) m := by
  have e := bst_stop (ramF s n) (n := tdN (ssD s)) (ramF_le s n) he i
  refine ⟨fun z => by omega, fun _ => ?_⟩
  rw [show K + i - 1 = K - 1 + i by omega, e]
  exact h.2 hK
theorem rmI3.fr {S : Nat → Nat → Prop} {m' : M2} {n K : Nat} (h : rmI3 s n K m) (hf : Fr S m m') (hs : ∀ j, ¬ S 39 j) : rmI3 s n K m' := by
  refine ⟨fun z => by rw [hf.I _ _ (hs _)]; exact h.1 z, fun z => ?_⟩
  rw [hf.I _ _ (hs _), hf.I _ _ (hs _), hf.I _ _ (hs _)]
  exact h.2 z
theorem x_planRam (hX : XS m c s) (hV : VS s) {n : Nat} (h1 : 1 ≤ n) (hn : n ≤ 60) (hN0 : 0 < tdN (ssD s)) : ∃ m', F_X9_planRam c 28 (nI n) m = some m' ∧ rmI3 s n (n * tdP (ssD s)) m' ∧ Fr (fun k _ => 24 ≤ k ∧ k ≤ 26 ∨ k = 39 ∨ k = 40) m m' := by
  have hN := hV.n
  have hP := hV.p
  have hc := hX.tx
  obtain ⟨a1, a2, a3, a4⟩ := hX.2.1
  unfold F_X9_planRam
  rw [lit_60, mnI_n (by omega) (by omega), Nat.min_eq_left hn, nmI_e, bind_s, a1, bJ_e _ 40 (n := 401) (i := 0) (j := 0) _ rfl (by omega) (by omega), bind_s]
  have rows : ∃ e, loop (g_X9_planRam_20 c 28 (nI n)) ((1 : Int32), tJ m 40 0 (lN (pk (cdT (ssK s)) (tdN (ssD s))))) = some e ∧ (∀ i, i < n → hJ e 40 i = lN (pk (sqS s i) (tdN (ssD s)))) ∧ Fr (fun k _ => 24 ≤ k ∧ k ≤ 26 ∨ k = 39 ∨ k = 40) m e := by
    refine loop_to (n - 1) (fun k z => z.1 = nI (k + 1) ∧ (∀ i, i ≤ k → hJ z.2 40 i = lN (pk (sqS s i) (tdN (ssD s)))) ∧ Fr (fun k _ => 24 ≤ k ∧ k ≤ 26 ∨ k = 39 ∨ k = 40) m z.2) _ (by omega) ?_ ?_ ⟨rfl, fun i hi => ?_, Fr.rf.tJ _ (by omega)⟩
    · rintro k ⟨y, m1⟩ hk ⟨i1, i2, i3⟩
      dsimp only at i1 i2 i3
      subst i1
      show ∃ s', f_X9_planRam_20 c 28 (nI n) (nI (k + 1)) m1 = some (Sum.inl s') ∧ _
      have hX1 := hX.1.fr i3 (fun k j z1 z2 => by omega)
      unfold f_X9_planRam_20
      rw [if_neg (nI_ge (by omega) (by omega)), nI_pred, aJ_n _ 40 (show k < 401 by omega) (by omega), bind_s, i2 k (Nat.le_refl k), show hI m1 28 4 = cdS (ssK s) from by rw [i3.I _ _ (by omega)]; exact a4, fS_e, x_isFog hX1 hV.1, bind_s]
      dsimp only
      rw [show hI m1 28 3 = cdD (ssK s) from by rw [i3.I _ _ (by omega)]; exact a3]
      obtain ⟨m2, e2, f2⟩ := x_st (a := 28 + 2) hX1 hV.1 (VR.sq hV.1 hV.2.1.r (fS s) k) (fun b hb => by rw [i3.I _ _ (by omega)]; exact (a2 b hb).2) (by omega) (fogd (ssD s) (cdS (ssK s) + nI k))
      have e2' : F_X5_stroke c (lN (pk (sqS s k) (tdN (ssD s)))) (28 + 2) (cdD (ssK s)) (fogd (ssD s) (cdS (ssK s) + nI k)) m1 = some (lN (pk (sqS s (k + 1)) (tdN (ssD s))), m2) := e2
      rw [e2', bind_s]
      dsimp only
      rw [bJ_n _ 40 _ (show k + 1 < 401 by omega) (by omega), bind_s, nmI_e, bind_s]
      refine ⟨_, rfl, nI_1 (k + 1), fun i hi => ?_, (i3.tr (f2.mono (fun k j z => by omega))).tJ _ (by omega)⟩
      rw [hJ_tJ]
      by_cases e : i = k + 1
      · rw [if_pos ⟨rfl, e⟩, e]
      · rw [if_neg (by omega), f2.J _ _ (by omega)]
        exact i2 i (by omega)
    · rintro ⟨y, m1⟩ ⟨i1, i2, i3⟩
      dsimp only at i1 i2 i3
      subst i1
      show ∃ e, f_X9_planRam_20 c 28 (nI n) (nI (n - 1 + 1)) m1 = some (Sum.inr e) ∧ _
      unfold f_X9_planRam_20
      rw [if_pos (nI_le (by omega) (by omega))]
      exact ⟨_, rfl, fun i hi => i2 i (by omega), i3⟩
    · have : i = 0 := by omega
      subst this
      show hJ (tJ m 40 0 _) 40 0 = _
      rw [hJ_tJ, if_pos ⟨rfl, rfl⟩]
      rfl
  obtain ⟨m1, e1, r1, f1⟩ := rows
  rw [e1, bind_s, qI_e, bind_s]
  have f2 := f1.tI (k := 39) (j := 4) 0 (by omega)
  have r2 : ∀ i, i < n → hJ (tI m1 39 4 0) 40 i = lN (pk (sqS s i) (tdN (ssD s))) := r1
  have I2 : rmI3 s n 0 (tI m1 39 4 0) := ⟨fun _ => by rw [hI_tI, if_pos ⟨rfl, rfl⟩], fun z => by omega⟩
  generalize tI m1 39 4 0 = m2 at f2 r2 I2 ⊢
  have key : ∃ e, loop (g_X9_planRam_90 c 28 (nI n)) (nI n, m2) = some e ∧ rmI3 s n (n * tdP (ssD s)) e ∧ Fr (fun k _ => 24 ≤ k ∧ k ≤ 26 ∨ k = 39 ∨ k = 40) m e := by
    refine loop_ex n (fun q z => z.1 = nI (n - q) ∧ rmI3 s n (q * tdP (ssD s)) z.2 ∧ (∀ i, i < n → hJ z.2 40 i = lN (pk (sqS s i) (tdN (ssD s)))) ∧ Fr (fun k _ => 24 ≤ k ∧ k ≤ 26 ∨ k = 39 ∨ k = 40) m z.2) _ (by omega) ?_ ?_ ⟨rfl, by rw [Nat.zero_mul]; exact I2, r2, f2⟩
    · rintro q ⟨y, m3⟩ hq ⟨i1, i2, i3, i4⟩
      dsimp only at i1 i2 i3 i4
      subst i1
      show (∃ s', f_X9_planRam_90 c 28 (nI n) (nI (n - q)) m3 = some (Sum.inl s') ∧ _) ∨ ∃ e, f_X9_planRam_90 c 28 (nI n) (nI (n - q)) m3 = some (Sum.inr e) ∧ _
      unfold f_X9_planRam_90
      have h5 : hI m3 c 5 = nI (tdN (ssD s)) := by rw [i4.I _ _ (by omega)]; exact hX.n
      rw [lit_1, if_neg (nI_nlt (by omega) (by omega)), h5]
      -- all is known already, or not
      have full : ∀ (K : Nat) (m' : M2), rmI3 s n K m' → (nI (tdN (ssD s)) ≤ hI m' 39 4 ∧ 0 < K ∧ ramF s n (bst (ramF s n) (K - 1)) = tdN (ssD s)) ∨ (¬ nI (tdN (ssD s)) ≤ hI m' 39 4) := by
        intro K m' hI3
        by_cases hK : K = 0
        · right
          rw [hI3.1 hK]
          exact nI_nle hN0 (by omega)
        · obtain ⟨z1, z2, z3⟩ := hI3.2 (by omega)
          have hle := ramF_le s n (bst (ramF s n) (K - 1))
          rw [z1]
          by_cases hz : tdN (ssD s) ≤ ramF s n (bst (ramF s n) (K - 1))
          · exact Or.inl ⟨nI_le hz (by omega), by omega, by omega⟩
          · exact Or.inr (nI_ge (by omega) (by omega))
      have hqP : q * tdP (ssD s) + tdP (ssD s) ≤ n * tdP (ssD s) := by
        rw [← Nat.succ_mul]
        exact Nat.mul_le_mul_right _ hq
      rcases full _ _ i2 with ⟨z1, z2, z3⟩ | z1
      · right
        rw [if_pos z1]
        refine ⟨_, rfl, ?_, i4⟩
        have := i2.stop z2 z3 (n * tdP (ssD s) - q * tdP (ssD s))
        rw [show q * tdP (ssD s) + (n * tdP (ssD s) - q * tdP (ssD s)) = n * tdP (ssD s) by omega] at this
        exact this
      · left
        rw [if_neg z1]
        have inner : ∃ e, loop (g_X9_planRam_116 c 28 (nI n) (nI (n - q))) ((0 : Int32), m3) = some e ∧ rmI3 s n (q * tdP (ssD s) + tdP (ssD s)) e ∧ (∀ i, i < n → hJ e 40 i = lN (pk (sqS s i) (tdN (ssD s)))) ∧ Fr (fun k _ => 24 ≤ k ∧ k ≤ 26 ∨ k = 39 ∨ k = 40) m e := by
          refine loop_ex (tdP (ssD s)) (fun k z => z.1 = nI k ∧ rmI3 s n (q * tdP (ssD s) + k) z.2 ∧ (∀ i, i < n → hJ z.2 40 i = lN (pk (sqS s i) (tdN (ssD s)))) ∧ Fr (fun k _ => 24 ≤ k ∧ k ≤ 26 ∨ k = 39 ∨ k = 40) m z.2) _ (by omega) ?_ ?_ ⟨rfl, i2, i3, i4⟩
          · rintro k ⟨y, m4⟩ hk ⟨j1, j2, j3, j4⟩
            dsimp only at j1 j2 j3 j4
            subst j1
            show (∃ s', f_X9_planRam_116 c 28 (nI n) (nI (n - q)) (nI k) m4 = some (Sum.inl s') ∧ _) ∨ ∃ e, f_X9_planRam_116 c 28 (nI n) (nI (n - q)) (nI k) m4 = some (Sum.inr e) ∧ _
            unfold f_X9_planRam_116
            have h0' : hI m4 c 0 = nI (tdP (ssD s)) := by rw [j4.I _ _ (by omega)]; exact hX.p
            have h5' : hI m4 c 5 = nI (tdN (ssD s)) := by rw [j4.I _ _ (by omega)]; exact hX.n
            rw [h0', if_neg (nI_ge hk (by omega)), h5']
            rcases full _ _ j2 with ⟨y1, y2, y3⟩ | y1
            · right
              rw [if_pos y1]
              refine ⟨_, rfl, ?_, j3, j4⟩
              have := j2.stop y2 y3 (tdP (ssD s) - k)
              rw [show q * tdP (ssD s) + k + (tdP (ssD s) - k) = q * tdP (ssD s) + tdP (ssD s) by omega] at this
              exact this
            · left
              rw [if_neg y1]
              obtain ⟨m5, w5, f5⟩ := x_wayBehind (n := n) (a := n - q) (x := k) hX hV (by omega) (by omega) hn hk j4 j3
              have J5 := j2.fr f5 (fun j z => by omega)
              have R5 : ∀ i, i < n → hJ m5 40 i = lN (pk (sqS s i) (tdN (ssD s))) := fun i hi => by rw [f5.J _ _ (by omega)]; exact j3 i hi
              have F5 : Fr (fun k _ => 24 ≤ k ∧ k ≤ 26 ∨ k = 39 ∨ k = 40) m m5 := j4.tr (f5.mono (fun k j z => Or.inl z))
              have eF := ramF_e s n (q := q) hk
              have keep : ¬ (q * tdP (ssD s) + k = 0) → ¬ ramF s n (bst (ramF s n) (q * tdP (ssD s) + k - 1)) < ramF s n (q * tdP (ssD s) + k) → rmI3 s n (q * tdP (ssD s) + (k + 1)) m5 := by
                intro hz hle
                refine ⟨fun z => by omega, fun _ => ?_⟩
                have e : bst (ramF s n) (q * tdP (ssD s) + (k + 1) - 1) = bst (ramF s n) (q * tdP (ssD s) + k - 1) := by
                  rw [show q * tdP (ssD s) + (k + 1) - 1 = (q * tdP (ssD s) + k - 1) + 1 by omega]
                  refine if_neg ?_
                  rw [show q * tdP (ssD s) + k - 1 + 1 = q * tdP (ssD s) + k by omega]
                  exact hle
                rw [e]
                exact J5.2 (by omega)
              have hle5 := ramF_le s n (q * tdP (ssD s) + k)
              rcases w5 with w5 | ⟨w5, w6, w7⟩
              · rw [w5, bind_s]
                dsimp only
                rw [← eF]
                by_cases hup : q * tdP (ssD s) + k = 0 ∨ ramF s n (bst (ramF s n) (q * tdP (ssD s) + k - 1)) < ramF s n (q * tdP (ssD s) + k)
                · have hgt : ¬ nI (ramF s n (q * tdP (ssD s) + k)) ≤ hI m5 39 4 := by
                    by_cases hK : q * tdP (ssD s) + k = 0
                    · rw [J5.1 hK]
                      refine nI_nle ?_ (by omega)
                      rw [eF]
                      exact wyn_pos hP hN0 (VR.rm hV hk _ _).1
                    · rw [(J5.2 (by omega)).1]
                      exact nI_ge (by omega) (by omega)
                  rw [if_neg hgt, qI_e, bind_s, qI_e, bind_s, qI_e, bind_s]
                  refine ⟨_, rfl, nI_1 k, ⟨fun z => by omega, fun _ => ?_⟩, R5, ((F5.tI _ (by omega)).tI _ (by omega)).tI _ (by omega)⟩
                  have e : bst (ramF s n) (q * tdP (ssD s) + (k + 1) - 1) = q * tdP (ssD s) + k := by
                    by_cases hK : q * tdP (ssD s) + k = 0
                    · rw [show q * tdP (ssD s) + (k + 1) - 1 = 0 by omega, hK]
                      rfl
                    · rw [show q * tdP (ssD s) + (k + 1) - 1 = (q * tdP (ssD s) + k - 1) + 1 by omega]
                      have e2 : q * tdP (ssD s) + k - 1 + 1 = q * tdP (ssD s) + k := by omega
                      have : bst (ramF s n) (q * tdP (ssD s) + k - 1 + 1) = q * tdP (ssD s) + k - 1 + 1 := if_pos (by rw [e2]; omega)
                      rw [this, e2]
                  rw [e, (dm hk).1, (dm hk).2]
                  simp [hI_tI]
                · have hup1 : ¬ (q * tdP (ssD s) + k = 0) := fun z => hup (Or.inl z)
                  have hup2 := fun z => hup (Or.inr z)
                  rw [if_pos (by rw [(J5.2 (by omega)).1]; exact nI_le (by omega) (by have := ramF_le s n (bst (ramF s n) (q * tdP (ssD s) + k - 1)); omega))]
                  exact ⟨_, rfl, nI_1 k, keep hup1 hup2, R5, F5⟩
              · rw [w5, bind_s]
                dsimp only
                have hq1 : 1 ≤ q := by omega
                have hK : ¬ (q * tdP (ssD s) + k = 0) := by
                  have : 1 * tdP (ssD s) ≤ q * tdP (ssD s) := Nat.mul_le_mul_right _ hq1
                  omega
                have hz : (0 : Int32) ≤ hI m5 39 4 := by
                  rw [(J5.2 (by omega)).1]
                  exact nI_pos' (by have := ramF_le s n (bst (ramF s n) (q * tdP (ssD s) + k - 1)); omega)
                rw [if_pos hz]
                refine ⟨_, rfl, nI_1 k, keep hK ?_, R5, F5⟩
                have e2 := ramF_e s n (q := q - 1) hk
                rw [show n - (q - 1) = n - q + 1 by omega, ← w7, ← eF] at e2
                have hqP2 : (q - 1) * tdP (ssD s) + tdP (ssD s) = q * tdP (ssD s) := by
                  rw [← Nat.succ_mul, Nat.succ_eq_add_one, show q - 1 + 1 = q by omega]
                have := bst_max (ramF s n) (q * tdP (ssD s) + k - 1) ((q - 1) * tdP (ssD s) + k) (by omega)
                omega
          · rintro ⟨y, m4⟩ ⟨j1, j2, j3, j4⟩
            dsimp only at j1 j2 j3 j4
            subst j1
            show ∃ e, f_X9_planRam_116 c 28 (nI n) (nI (n - q)) (nI (tdP (ssD s))) m4 = some (Sum.inr e) ∧ _
            unfold f_X9_planRam_116
            rw [show hI m4 c 0 = nI (tdP (ssD s)) from by rw [j4.I _ _ (by omega)]; exact hX.p, if_pos (nI_le (Nat.le_refl _) (by omega))]
            exact ⟨_, rfl, j2, j3, j4⟩
        obtain ⟨m4, e4, I4, r4, f4⟩ := inner
        rw [e4, bind_s]
        refine ⟨_, rfl, ?_, by rw [Nat.succ_mul]; exact I4, r4, f4⟩
        show nI (n - q) + (-1 : Int32) = nI (n - (q + 1))
        rw [show n - q = (n - (q + 1)) + 1 by omega, ← nI_1, Int32.add_assoc, show (1 : Int32) + -1 = 0 from rfl, Int32.add_zero]
    · rintro ⟨y, m3⟩ ⟨i1, i2, i3, i4⟩
      dsimp only at i1 i2 i3 i4
      subst i1
      show ∃ e, f_X9_planRam_90 c 28 (nI n) (nI (n - n)) m3 = some (Sum.inr e) ∧ _
      unfold f_X9_planRam_90
      rw [Nat.sub_self, if_pos (by decide)]
      exact ⟨_, rfl, i2, i4⟩
  obtain ⟨m3, e3, I3, f3⟩ := key
  rw [e3, bind_s]
  exact ⟨m3, rfl, I3, f3⟩
def rmV (s : SS) (n : Nat) (x : Int32) : Int32 := if x = 0 then nI (ramF s n (bst (ramF s n) (n * tdP (ssD s) - 1))) else if x = 1 then nI (n - bst (ramF s n) (n * tdP (ssD s) - 1) / tdP (ssD s)) else nI (bst (ramF s n) (n * tdP (ssD s) - 1) % tdP (ssD s))
def rmOk (s : SS) (x y : Int32) : Prop := isR 1 60 x ∧ isR 0 2 y ∧ 0 < tdN (ssD s)
theorem k_ram_x1 (hX : XS m c s) (hV : VS s) {n : Nat} {y : Int32} (h : rmOk s (nI n) y) (hn : 1 ≤ n ∧ n ≤ 60) (hd : ¬ cdD (ssK s) = -1) : OkX m c (F_X11_ram c (nI n) y m) (rmV s n y) s := by
  have hN := hV.n
  have hP := hV.p
  obtain ⟨h1, h2, h3⟩ := h
  rw [isRx (by omega) (by omega)] at h1 h2
  have hdr : (0 : Int32) ≤ cdD (ssK s) := by
    rcases hV.2.1.2.2.1 with e | ⟨d, e1, e2⟩
    · exact absurd e hd
    · rw [e2]; exact nI_pos' (by omega)
  unfold F_X11_ram
  obtain ⟨m1, e1, I1, f1⟩ := x_planRam hX hV hn.1 hn.2 h3
  have hK : 0 < n * tdP (ssD s) := Nat.mul_pos (by omega) (by omega)
  obtain ⟨z1, z2, z3⟩ := I1.2 hK
  have q : ∀ k (j : Nat), (24 ≤ k ∧ k ≤ 26 ∨ k = 39 ∨ k = 40) → ¬ xk k ∧ SX k j := fun k j z => ⟨fun z2 => by unfold xk at z2; omega, fun z2 => by omega⟩
  rw [if_neg (show ¬ nI n < 1 from h1.1), if_neg (show ¬ (60 : Int32) < nI n from h1.2), if_neg (show ¬ y < 0 from h2.1), if_neg (show ¬ (2 : Int32) < y from h2.2), hX.n, if_neg (nI_ne0 h3 (by omega)), hX.2.1.2.2.1, if_pos hdr, e1, bind_s, z1, z2, z3]
  unfold rmV
  by_cases hx : y = 0
  · rw [if_pos hx, if_pos hx]
    exact OkX.scr hX f1 q
  · rw [if_neg hx, if_neg hx]
    by_cases hx1 : y = 1
    · rw [if_pos hx1, if_pos hx1]
      exact OkX.scr hX f1 q
    · rw [if_neg hx1, if_neg hx1]
      exact OkX.scr hX f1 q
theorem k_ram_xd (hX : XS m c s) (hV : VS s) {x y : Int32} (h : rmOk s x y) (hd : cdD (ssK s) = -1) : OkX m c (F_X11_ram c x y m) (-2) s := by
  have hN := hV.n
  obtain ⟨h1, h2, h3⟩ := h
  rw [isRx (by omega) (by omega)] at h1 h2
  unfold F_X11_ram
  rw [if_neg (show ¬ x < 1 from h1.1), if_neg (show ¬ (60 : Int32) < x from h1.2), if_neg (show ¬ y < 0 from h2.1), if_neg (show ¬ (2 : Int32) < y from h2.2), hX.n, if_neg (nI_ne0 h3 (by omega)), hX.2.1.2.2.1, hd, if_neg (by decide)]
  exact OkX.same hX
theorem k_ram_x0 (hX : XS m c s) (hV : VS s) {x y : Int32} (h : ¬ rmOk s x y) : OkX m c (F_X11_ram c x y m) (-1) s := by
  have hN := hV.n
  unfold rmOk at h
  rw [isRx (by omega) (by omega), isRx (by omega) (by omega)] at h
  unfold F_X11_ram
  by_cases q1 : x < 1
  · rw [if_pos q1]; exact OkX.same hX
  by_cases q2 : 60 < x
  · rw [if_neg q1, if_pos q2]; exact OkX.same hX
  by_cases q3 : y < 0
  · rw [if_neg q1, if_neg q2, if_pos q3]; exact OkX.same hX
  by_cases q4 : 2 < y
  · rw [if_neg q1, if_neg q2, if_neg q3, if_pos q4]; exact OkX.same hX
  rw [if_neg q1, if_neg q2, if_neg q3, if_neg q4, hX.n]
  by_cases q7 : tdN (ssD s) = 0
  · rw [if_pos (by rw [q7]; rfl)]; exact OkX.same hX
  exact absurd ⟨⟨q1, q2⟩, ⟨q3, q4⟩, by omega⟩ h
/-! the reference's -/
theorem m_ram74 (hM : MS m l s) (hV : VS s) {n a x : Nat} {x2 x3 x4 x5 : Int32} (ha : 1 ≤ a) (han : a ≤ n) (hn : n ≤ 60) (hx : x < tdP (ssD s)) {m1 : M2} (hR : RwM m1 (tdN (ssD s)) (tdG (ssD s)) (cdD (ssK s)) (cdL (ssK s)) (cdT (ssK s))) (hf : Fr (fun k j => StM k j ∨ SrM k j) m m1) : ∃ m', loop (g_X12_ram_74 (nI n) x2 x3 x4 x5 (nI a) (nI x)) ((1 : Int32), m1) = some m' ∧ RwM m' (tdN (ssD s)) (tdG (ssD s)) (nI x) (cdL (ssK s)) (rmT s x (a - 1) (n - (a - 1))) ∧ Fr (fun k j => StM k j ∨ SrM k j) m m' := by
  have hN := hV.n
  refine loop_to n (fun j z => z.1 = nI (j + 1) ∧ (j < a → RwM z.2 (tdN (ssD s)) (tdG (ssD s)) (cdD (ssK s)) (cdL (ssK s)) (sqS s j)) ∧ (a ≤ j → RwM z.2 (tdN (ssD s)) (tdG (ssD s)) (nI x) (cdL (ssK s)) (rmT s x (a - 1) (j - (a - 1)))) ∧ Fr (fun k j => StM k j ∨ SrM k j) m z.2) _ (by omega) ?_ ?_ ⟨rfl, fun _ => hR, fun z => by omega, hf⟩
  · rintro j ⟨y, m2⟩ hj ⟨i1, i2, i3, i4⟩
    dsimp only at i1 i2 i3 i4
    subst i1
    show ∃ s', f_X12_ram_74 (nI n) x2 x3 x4 x5 (nI a) (nI x) (nI (j + 1)) m2 = some (Sum.inl s') ∧ _
    unfold f_X12_ram_74
    rw [if_neg (nI_nlt (by omega) (by omega))]
    have go : ∀ (m3 : M2) (D : Int32) (t : Nat → Nat), (∀ b, b < tdN (ssD s) → t b < tdP (ssD s)) → Dr (tdP (ssD s)) D → RwM m3 (tdN (ssD s)) (tdG (ssD s)) D (cdL (ssK s)) t → Fr (fun k j => StM k j ∨ SrM k j) m m3 → ∃ m4, f_X12_ram_93 (nI n) x2 x3 x4 x5 (nI a) (nI x) (nI (j + 1)) m3 = some (Sum.inl (nI (j + 1 + 1), m4)) ∧ RwM m4 (tdN (ssD s)) (tdG (ssD s)) D (cdL (ssK s)) (sstp (ssD s) (cdL (ssK s)) D (fS s j) t) ∧ Fr (fun k j => StM k j ∨ SrM k j) m m4 := by
      intro m3 D t ht hD R3 f3
      have hM3 := hM.fr f3 (fun k j h z => by unfold mk2 at h; omega)
      unfold f_X12_ram_93
      rw [hM3.2.1.2.2.2, fS_e, m_isFog hM3.1 hV.1, bind_s]
      dsimp only
      obtain ⟨m4, e4, R4, f4⟩ := m_st hM3.1 hV.1 R3 hN hV.2.1.2.1 hD ht (fogd (ssD s) (cdS (ssK s) + nI j))
      rw [e4, bind_s, nmI_e, bind_s, nI_1]
      exact ⟨m4, rfl, R4, f3.tr (f4.mono (fun k j z => Or.inr z))⟩
    by_cases hja : j + 1 = a
    · rw [if_pos (by rw [hja]), qI_e, bind_s]
      obtain ⟨r1, r2, r3, r4, r5⟩ := i2 (by omega)
      obtain ⟨m4, e4, R4, f4⟩ := go (tI m2 56 66 (nI x)) (nI x) (sqS s j) (VR.sq hV.1 hV.2.1.r (fS s) j).1 (Or.inr ⟨x, hx, rfl⟩) ⟨by rw [hI_tI, if_neg (by omega)]; exact r1, by rw [hI_tI, if_pos ⟨rfl, rfl⟩], by rw [hI_tI, if_neg (by omega)]; exact r3, fun b hb => by rw [hI_tI, if_neg (by omega)]; exact r4 b hb, fun b hb => by rw [hI_tI, if_neg (by omega)]; exact r5 b hb⟩ (i4.tI _ (by omega))
      rw [e4]
      refine ⟨_, rfl, rfl, fun z => by omega, fun _ => ?_, f4⟩
      rw [show j + 1 - (a - 1) = 0 + 1 by omega]
      show RwM m4 _ _ _ _ (sstp (ssD s) (cdL (ssK s)) (nI x) (fS s (a - 1 + 0)) (sqS s (a - 1)))
      rw [show a - 1 + 0 = j by omega, show a - 1 = j by omega]
      exact R4
    · rw [if_neg (fun z => hja ((nI_eq (by omega) (by omega)).mp z))]
      by_cases hj2 : j < a
      · obtain ⟨m4, e4, R4, f4⟩ := go m2 (cdD (ssK s)) (sqS s j) (VR.sq hV.1 hV.2.1.r (fS s) j).1 hV.2.1.2.2.1 (i2 hj2) i4
        rw [e4]
        exact ⟨_, rfl, rfl, fun _ => R4, fun z => by omega, f4⟩
      · obtain ⟨m4, e4, R4, f4⟩ := go m2 (nI x) (rmT s x (a - 1) (j - (a - 1))) (VR.rm hV hx (a - 1) (j - (a - 1))).1 (Or.inr ⟨x, hx, rfl⟩) (i3 (by omega)) i4
        rw [e4]
        refine ⟨_, rfl, rfl, fun z => by omega, fun _ => ?_, f4⟩
        rw [show j + 1 - (a - 1) = (j - (a - 1)) + 1 by omega]
        show RwM m4 _ _ _ _ (sstp (ssD s) (cdL (ssK s)) (nI x) (fS s (a - 1 + (j - (a - 1)))) (rmT s x (a - 1) (j - (a - 1))))
        rw [show a - 1 + (j - (a - 1)) = j by omega]
        exact R4
  · rintro ⟨y, m2⟩ ⟨i1, i2, i3, i4⟩
    dsimp only at i1 i2 i3 i4
    subst i1
    show ∃ e, f_X12_ram_74 (nI n) x2 x3 x4 x5 (nI a) (nI x) (nI (n + 1)) m2 = some (Sum.inr e) ∧ _
    unfold f_X12_ram_74
    rw [if_pos (nI_lt (by omega) (by omega))]
    exact ⟨_, rfl, i3 han, i4⟩
def rm3 (s : SS) (n K : Nat) : Int32 × Int32 × Int32 := if K = 0 then (-1, 0, 0) else (nI (ramF s n (bst (ramF s n) (K - 1))), nI (n - bst (ramF s n) (K - 1) / tdP (ssD s)), nI (bst (ramF s n) (K - 1) % tdP (ssD s)))
theorem rm3_y {n K : Nat} (h : K = 0 ∨ ramF s n (bst (ramF s n) (K - 1)) < ramF s n K) : rm3 s n (K + 1) = (nI (ramF s n K), nI (n - K / tdP (ssD s)), nI (K % tdP (ssD s))) := by
  unfold rm3
  rw [if_neg (by omega), Nat.add_sub_cancel]
  have e : bst (ramF s n) K = K := by
    cases K with
    | zero => rfl
    | succ K => exact if_pos (by rcases h with h | h; omega; exact h)
  rw [e]
theorem rm3_n {n K : Nat} (h : ¬ (K = 0 ∨ ramF s n (bst (ramF s n) (K - 1)) < ramF s n K)) : rm3 s n (K + 1) = rm3 s n K := by
  unfold rm3
  rw [if_neg (by omega), Nat.add_sub_cancel, if_neg (fun z => h (Or.inl z))]
  have e : bst (ramF s n) K = bst (ramF s n) (K - 1) := by
    cases K with
    | zero => exact absurd (Or.inl rfl) h
    | succ K => exact if_neg (fun z => h (Or.inr z))
  rw [e]
theorem k_ram_m1 (hM : MS m l s) (hV : VS s) {n : Nat} {y : Int32} (h : rmOk s (nI n) y) (hn : 1 ≤ n ∧ n ≤ 60) (hd : ¬ cdD (ssK s) = -1) : OkM m l (F_X12_ram (nI n) y m) (rmV s n y) s := by
  have hN := hV.n
  have hP := hV.p
  obtain ⟨h1, h2, h3⟩ := h
  unfold F_X12_ram
  rw [show F_X12_in (nI n) 1 60 m = some (1, m) from (inR (a := 1) (b := 60) (by omega) (by omega) _).1 h1, bind_s]
  dsimp only
  rw [if_neg (by decide), show F_X12_in y 0 2 m = some (1, m) from (inR (a := 0) (b := 2) (by omega) (by omega) _).1 h2, bind_s]
  dsimp only
  rw [if_neg (by decide), m_menNow hM.lv hM.l2 hM.n, bind_s]
  dsimp only
  rw [if_neg (nI_ne0 h3 (by omega)), hM.2.1.2.1, if_neg hd]
  have key : ∃ e, loop (g_X12_ram_50 (nI n) y) ((-1 : Int32), (0 : Int32), (0 : Int32), nI n, m) = some e ∧ (e.1, e.2.1, e.2.2.1) = rm3 s n (n * tdP (ssD s)) ∧ Fr (fun k j => StM k j ∨ SrM k j) m e.2.2.2 := by
    refine loop_to n (fun q z => (z.1, z.2.1, z.2.2.1) = rm3 s n (q * tdP (ssD s)) ∧ z.2.2.2.1 = nI (n - q) ∧ Fr (fun k j => StM k j ∨ SrM k j) m z.2.2.2.2) _ (by omega) ?_ ?_ ⟨by rw [Nat.zero_mul]; rfl, rfl, Fr.rf⟩
    · rintro q ⟨u1, u2, u3, y1, m1⟩ hq ⟨i1, i2, i3⟩
      dsimp only at i1 i2 i3
      subst i2
      show ∃ s', f_X12_ram_50 (nI n) y u1 u2 u3 (nI (n - q)) m1 = some (Sum.inl s') ∧ _
      unfold f_X12_ram_50
      rw [if_neg (nI_nle (by omega) (by omega))]
      have inner : ∃ e, loop (g_X12_ram_58 (nI n) y (nI (n - q))) (u1, u2, u3, (0 : Int32), m1) = some e ∧ (e.1, e.2.1, e.2.2.1) = rm3 s n (q * tdP (ssD s) + tdP (ssD s)) ∧ Fr (fun k j => StM k j ∨ SrM k j) m e.2.2.2 := by
        refine loop_to (tdP (ssD s)) (fun k z => (z.1, z.2.1, z.2.2.1) = rm3 s n (q * tdP (ssD s) + k) ∧ z.2.2.2.1 = nI k ∧ Fr (fun k j => StM k j ∨ SrM k j) m z.2.2.2.2) _ (by omega) ?_ ?_ ⟨i1, rfl, i3⟩
        · rintro k ⟨v1, v2, v3, y2, m2⟩ hk ⟨j1, j2, j3⟩
          dsimp only at j1 j2 j3
          subst j2
          show ∃ s', f_X12_ram_58 (nI n) y v1 v2 v3 (nI (n - q)) (nI k) m2 = some (Sum.inl s') ∧ _
          have hM2 := hM.fr j3 (fun k j h z => by unfold mk2 at h; omega)
          unfold f_X12_ram_58
          rw [m_all hM2.lv hM2.l2 hM2.p, bind_s]
          dsimp only
          obtain ⟨m3, e3, R3, f3⟩ := m_takes hM2.lv hM2.l2 hM2.n hN hM2.2.1
          rw [if_neg (nI_ge hk (by omega)), e3, bind_s]
          obtain ⟨m4, e4, R4, f4⟩ := m_ram74 (x2 := y) (x3 := v1) (x4 := v2) (x5 := v3) hM hV (n := n) (a := n - q) (x := k) (by omega) (by omega) hn.2 hk R3 (j3.tr (f3.mono (fun k j z => Or.inl z)))
          rw [e4, bind_s, m_wayNow (hM.1.fr f4 (fun k j h z => by omega)).1 hP R4 hN, bind_s]
          dsimp only
          have eF : wyn (tdP (ssD s)) (rmT s k (n - q - 1) (n - (n - q - 1))) (tdN (ssD s)) = ramF s n (q * tdP (ssD s) + k) := (ramF_e s n hk).symm
          rw [eF]
          have l1 := ramF_le s n (q * tdP (ssD s) + k)
          have l2 := ramF_le s n (bst (ramF s n) (q * tdP (ssD s) + k - 1))
          by_cases hup : q * tdP (ssD s) + k = 0 ∨ ramF s n (bst (ramF s n) (q * tdP (ssD s) + k - 1)) < ramF s n (q * tdP (ssD s) + k)
          · have hlt : v1 < nI (ramF s n (q * tdP (ssD s) + k)) := by
              unfold rm3 at j1
              by_cases hK : q * tdP (ssD s) + k = 0
              · rw [if_pos hK] at j1
                rw [(Prod.mk.inj j1).1, Int32.lt_iff_toInt_lt, nI_toInt (by omega), show (-1 : Int32).toInt = -1 from rfl]
                omega
              · rw [if_neg hK] at j1
                rw [(Prod.mk.inj j1).1]
                exact nI_lt (by omega) (by omega)
            rw [if_pos hlt]
            refine ⟨_, rfl, ?_, nI_1 k, f4⟩
            show (_, _, _) = rm3 s n (q * tdP (ssD s) + k + 1)
            rw [rm3_y hup, (dm hk).1, (dm hk).2]
          · have hlt : ¬ v1 < nI (ramF s n (q * tdP (ssD s) + k)) := by
              have hK : ¬ q * tdP (ssD s) + k = 0 := fun z => hup (Or.inl z)
              have hg : ¬ ramF s n (bst (ramF s n) (q * tdP (ssD s) + k - 1)) < ramF s n (q * tdP (ssD s) + k) := fun z => hup (Or.inr z)
              unfold rm3 at j1
              rw [if_neg hK] at j1
              rw [(Prod.mk.inj j1).1]
              exact nI_nlt (by omega) (by omega)
            rw [if_neg hlt]
            refine ⟨_, rfl, ?_, nI_1 k, f4⟩
            show (_, _, _) = rm3 s n (q * tdP (ssD s) + k + 1)
            rw [rm3_n hup]
            exact j1
        · rintro ⟨v1, v2, v3, y2, m2⟩ ⟨j1, j2, j3⟩
          dsimp only at j1 j2 j3
          subst j2
          show ∃ e, f_X12_ram_58 (nI n) y v1 v2 v3 (nI (n - q)) (nI (tdP (ssD s))) m2 = some (Sum.inr e) ∧ _
          have hM2 := hM.fr j3 (fun k j h z => by unfold mk2 at h; omega)
          unfold f_X12_ram_58
          rw [m_all hM2.lv hM2.l2 hM2.p, bind_s]
          dsimp only
          rw [if_pos (nI_le (Nat.le_refl _) (by omega))]
          exact ⟨_, rfl, j1, j3⟩
      obtain ⟨⟨w1, w2, w3, m2⟩, e2, g2, f2⟩ := inner
      dsimp only at g2 f2
      rw [e2, bind_s, nmI_e, bind_s]
      refine ⟨_, rfl, by rw [Nat.succ_mul]; exact g2, ?_, f2⟩
      show nI (n - q) + (-1 : Int32) = nI (n - (q + 1))
      rw [show n - q = (n - (q + 1)) + 1 by omega, ← nI_1, Int32.add_assoc, show (1 : Int32) + -1 = 0 from rfl, Int32.add_zero]
    · rintro ⟨u1, u2, u3, y1, m1⟩ ⟨i1, i2, i3⟩
      dsimp only at i1 i2 i3
      subst i2
      show ∃ e, f_X12_ram_50 (nI n) y u1 u2 u3 (nI (n - n)) m1 = some (Sum.inr e) ∧ _
      unfold f_X12_ram_50
      rw [Nat.sub_self, if_pos (by decide)]
      exact ⟨_, rfl, i1, i3⟩
  obtain ⟨⟨u1, u2, u3, m1⟩, e1, e2, f1⟩ := key
  dsimp only at e2 f1
  have hK : 0 < n * tdP (ssD s) := Nat.mul_pos (by omega) (by omega)
  unfold rm3 at e2
  rw [if_neg (by omega)] at e2
  obtain ⟨z1, z23⟩ := Prod.mk.inj e2
  obtain ⟨z2, z3⟩ := Prod.mk.inj z23
  subst z1 z2 z3
  have q : ∀ k j, (StM k j ∨ SrM k j) → ¬ mk2 k j ∧ SM2 k j := fun k j z => ⟨fun z2 => by unfold mk2 at z2; omega, by omega⟩
  rw [e1, bind_s]
  dsimp only
  unfold rmV
  by_cases hx : y = 0
  · rw [if_pos hx, if_pos hx]
    exact OkM.scr hM f1 q
  · rw [if_neg hx, if_neg hx]
    by_cases hx1 : y = 1
    · rw [if_pos hx1, if_pos hx1]
      exact OkM.scr hM f1 q
    · rw [if_neg hx1, if_neg hx1]
      exact OkM.scr hM f1 q
theorem k_ram_md (hM : MS m l s) (hV : VS s) {x y : Int32} (h : rmOk s x y) (hd : cdD (ssK s) = -1) : OkM m l (F_X12_ram x y m) (-2) s := by
  have hN := hV.n
  obtain ⟨h1, h2, h3⟩ := h
  unfold F_X12_ram
  rw [show F_X12_in x 1 60 m = some (1, m) from (inR (a := 1) (b := 60) (by omega) (by omega) _).1 h1, bind_s]
  dsimp only
  rw [if_neg (by decide), show F_X12_in y 0 2 m = some (1, m) from (inR (a := 0) (b := 2) (by omega) (by omega) _).1 h2, bind_s]
  dsimp only
  rw [if_neg (by decide), m_menNow hM.lv hM.l2 hM.n, bind_s]
  dsimp only
  rw [if_neg (nI_ne0 h3 (by omega)), hM.2.1.2.1, if_pos hd]
  exact OkM.same hM
theorem k_ram_m0 (hM : MS m l s) (hV : VS s) {x y : Int32} (h : ¬ rmOk s x y) : OkM m l (F_X12_ram x y m) (-1) s := by
  have hN := hV.n
  unfold F_X12_ram
  by_cases h1 : isR 1 60 x
  · rw [show F_X12_in x 1 60 m = some (1, m) from (inR (a := 1) (b := 60) (by omega) (by omega) _).1 h1, bind_s]
    dsimp only
    rw [if_neg (by decide)]
    by_cases h2 : isR 0 2 y
    · rw [show F_X12_in y 0 2 m = some (1, m) from (inR (a := 0) (b := 2) (by omega) (by omega) _).1 h2, bind_s]
      dsimp only
      rw [if_neg (by decide), m_menNow hM.lv hM.l2 hM.n, bind_s]
      dsimp only
      by_cases h3 : tdN (ssD s) = 0
      · rw [if_pos (by rw [h3]; rfl)]; exact OkM.same hM
      · exact absurd ⟨h1, h2, by omega⟩ h
    · rw [show F_X12_in y 0 2 m = some (0, m) from (inR (a := 0) (b := 2) (by omega) (by omega) _).2 h2, bind_s]
      exact OkM.same hM
  · rw [show F_X12_in x 1 60 m = some (0, m) from (inR (a := 1) (b := 60) (by omega) (by omega) _).2 h1, bind_s]
    exact OkM.same hM
end KC
