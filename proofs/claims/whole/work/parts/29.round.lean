/-! ===== round ===== -/
def ShE (E : Nat → Nat → Prop) : Prop := (∀ i, E i i) ∧ (∀ i j, E i j → E j i) ∧ (∀ i j k, E i j → E j k → E i k) ∧ ∀ i j, E i j → E (i + 1) (j + 1)
theorem ShE.sh {E : Nat → Nat → Prop} (h : ShE E) {i j : Nat} (e : E i j) : ∀ k, E (i + k) (j + k)
  | 0 => e
  | k + 1 => h.2.2.2 _ _ (ShE.sh h e k)
theorem ShE.per {E : Nat → Nat → Prop} (h : ShE E) {s d : Nat} (e : E s (s + d)) : ∀ q, E s (s + q * d)
  | 0 => by rw [Nat.zero_mul]; exact h.1 s
  | q + 1 => by
    have h1 := h.per e q
    have h2 := h.sh e (q * d)
    refine h.2.2.1 _ _ _ h1 ?_
    rw [show s + (q + 1) * d = s + d + q * d by rw [Nat.add_mul]; omega]
    exact h2
def Rdp (E : Nat → Nat → Prop) (p l : Nat) : Prop := 1 ≤ p ∧ l + p ≤ 400 ∧ E l (l + p) ∧ ∀ n, n < l + p → ∀ k, k < n → ¬ E k n
def Rdn (E : Nat → Nat → Prop) : Prop := ∀ n, n ≤ 400 → ∀ k, k < n → ¬ E k n
theorem Rdp.u {E : Nat → Nat → Prop} (h : ShE E) {p l p' l' : Nat} (a : Rdp E p l) (b : Rdp E p' l') : p = p' ∧ l = l' := by
  obtain ⟨a1, a2, a3, a4⟩ := a
  obtain ⟨b1, b2, b3, b4⟩ := b
  have e : l + p = l' + p' := by
    apply Nat.le_antisymm
    · apply Nat.le_of_not_lt
      intro z
      exact a4 _ z l' (by omega) b3
    · apply Nat.le_of_not_lt
      intro z
      exact b4 _ z l (by omega) a3
  have e2 : E l l' := h.2.2.1 _ _ _ a3 (by rw [e]; exact h.2.1 _ _ b3)
  have : l = l' := by
    apply Nat.le_antisymm
    · apply Nat.le_of_not_lt
      intro z
      exact a4 l (by omega) l' z (h.2.1 _ _ e2)
    · apply Nat.le_of_not_lt
      intro z
      exact b4 l' (by omega) l z e2
  omega
theorem Rdp.nn {E : Nat → Nat → Prop} {p l : Nat} (a : Rdp E p l) (b : Rdn E) : False := b (l + p) a.2.1 l (by have := a.1; omega) a.2.2.1
theorem rd_A {E : Nat → Nat → Prop} (h : ShE E) {i : Nat} (h1 : 1 ≤ i) (h2 : i ≤ 400) (h3 : E i (i - 1)) (h4 : ∀ j, 1 ≤ j → j < i → ¬ E j (j - 1)) : Rdp E 1 (i - 1) := by
  have h3' : E (i - 1) (i - 1 + 1) := by rw [show i - 1 + 1 = i by omega]; exact h.2.1 _ _ h3
  refine ⟨Nat.le_refl 1, by omega, h3', fun n hn k hk e => ?_⟩
  have hd : E k (k + (n - k)) := by rw [show k + (n - k) = n by omega]; exact e
  have hq := h.per hd i
  have hf := h.per h3' (k + i * (n - k) - (i - 1))
  have hge : i - 1 ≤ k + i * (n - k) := by
    have : i * 1 ≤ i * (n - k) := Nat.mul_le_mul_left i (by omega)
    omega
  rw [show i - 1 + (k + i * (n - k) - (i - 1)) * 1 = k + i * (n - k) by omega] at hf
  have e1 : E k (i - 1) := h.2.2.1 _ _ _ hq (h.2.1 _ _ hf)
  have e2 : E (k + 1) (i - 1 + 1) := h.2.2.2 _ _ e1
  have e3 : E (k + 1) k := h.2.2.1 _ _ _ e2 (h.2.2.1 _ _ _ (h.2.1 _ _ h3') (h.2.1 _ _ e1))
  exact h4 (k + 1) (by omega) (by omega) e3
theorem rd_B {E : Nat → Nat → Prop} (h : ShE E) {p l : Nat} (hp : 1 ≤ p) (hp2 : p ≤ 400) (h1 : E (400 - p) 400) (h2 : ∀ q, 1 ≤ q → q < p → ¬ E (400 - q) 400) (h3 : E l (l + p)) (h4 : l + p ≤ 400) (h5 : ∀ k, k < l → ¬ E k (k + p)) : Rdp E p l := by
  refine ⟨hp, h4, h3, fun n hn k hk e => ?_⟩
  have hd : E k (k + (n - k)) := by rw [show k + (n - k) = n by omega]; exact e
  have hpd : p ≤ n - k := by
    apply Nat.le_of_not_lt
    intro z
    have := h.sh e (400 - n)
    rw [show k + (400 - n) = 400 - (n - k) by omega, show n + (400 - n) = 400 by omega] at this
    exact h2 (n - k) (by omega) z this
  have hq := h.per hd 400
  have hge : 400 - p ≤ k + 400 * (n - k) := by omega
  have a1 := h.sh h1 (k + 400 * (n - k) - (400 - p))
  rw [show 400 - p + (k + 400 * (n - k) - (400 - p)) = k + 400 * (n - k) by omega, show 400 + (k + 400 * (n - k) - (400 - p)) = k + 400 * (n - k) + p by omega] at a1
  have a2 := h.sh hq p
  exact h5 k (by omega) (h.2.2.1 _ _ _ hq (h.2.2.1 _ _ _ a1 (h.2.1 _ _ a2)))
theorem rd_N {E : Nat → Nat → Prop} (h : ShE E) (h2 : ∀ q, 1 ≤ q → q ≤ 400 → ¬ E (400 - q) 400) : Rdn E := by
  intro n hn k hk e
  have := h.sh e (400 - n)
  rw [show k + (400 - n) = 400 - (n - k) by omega, show n + (400 - n) = 400 by omega] at this
  exact h2 (n - k) (by omega) (by omega) this
theorem stp_congr {ev : Ev} {P lag n : Nat} {song : Int32} {laws : Nat → Int32} {drum fog : Int32} {t u : Nat → Nat} (h : ∀ b, b < n → t b = u b) : ∀ b, b < n → stp ev P lag song laws drum fog t b = stp ev P lag song laws drum fog u b := by
  intro b hb
  have e0 := h b hb
  have e1 := h (b - 1) (by omega)
  have e2 := h (b - 2) (by omega)
  have e3 : hrd P lag drum fog t b = hrd P lag drum fog u b := by unfold hrd; rw [e0]
  have e4 : lk P lag song drum fog t b = lk P lag song drum fog u b := by
    funext i
    unfold lk
    rw [e0, e1, e2, e3]
  unfold stp
  rw [e0, e4]
section KA
variable {m : M2} {c l : Nat} {s : SS}
def fR (s : SS) : Nat → Nat → Nat := sq (ssD s) (cdL (ssK s)) (cdD (ssK s)) (fun _ => 0) (cdT (ssK s))
def eR (s : SS) (i j : Nat) : Prop := ∀ b, b < tdN (ssD s) → fR s i b = fR s j b
theorem eR_sh (s : SS) : ShE (eR s) := ⟨fun i b _ => rfl, fun i j h b hb => (h b hb).symm, fun i j k h1 h2 b hb => (h1 b hb).trans (h2 b hb), fun i j h => stp_congr h⟩
theorem eR_pk (hV : VS s) (i j : Nat) : lg_cmp (lN (pk (fR s i) (tdN (ssD s)))) (lN (pk (fR s j) (tdN (ssD s)))) = 0 ↔ eR s i j := by
  rw [lg_cmp_eq]
  exact pkN_eq (t := fR s i) (u := fR s j) hV.n ((VR.sq hV.1 hV.2.1.r _ i).t32 hV.1) ((VR.sq hV.1 hV.2.1.r _ j).t32 hV.1)
abbrev SRd : Nat → Nat → Prop := fun k j => k = 24 ∨ k = 25 ∨ k = 40 ∨ (k = 39 ∧ (j = 2 ∨ j = 3))
theorem x_findRound (hX : XS m c s) (hV : VS s) : ∃ m', ((∃ p l', Rdp (eR s) p l' ∧ F_X9_findRound c 28 m = some (1, m') ∧ hI m' 39 2 = nI p ∧ hI m' 39 3 = nI l') ∨ (Rdn (eR s) ∧ F_X9_findRound c 28 m = some (0, m'))) ∧ Fr SRd m m' := by
  have hN := hV.n
  have hsh := eR_sh s
  obtain ⟨a1, a2, a3, a4⟩ := hX.2.1
  have hc := hX.tx
  unfold F_X9_findRound
  rw [a1, bJ_e _ 40 (n := 401) (i := 0) (j := 0) _ rfl (by omega) (by omega), bind_s]
  have key : ∃ e, loop (g_X9_findRound_12 c 28) ((1 : Int32), tJ m 40 0 (lN (pk (cdT (ssK s)) (tdN (ssD s))))) = some e ∧ ((∃ i m', e = Sum.inl (nI i, m') ∧ (1 ≤ i ∧ i ≤ 400) ∧ eR s i (i - 1) ∧ (∀ j, 1 ≤ j → j < i → ¬ eR s j (j - 1)) ∧ Fr SRd m m') ∨ (∃ m', e = Sum.inr m' ∧ (∀ i, i ≤ 400 → hJ m' 40 i = lN (pk (fR s i) (tdN (ssD s)))) ∧ Fr SRd m m')) := by
    refine loop_ex 400 (fun k z => z.1 = nI (k + 1) ∧ (∀ i, i ≤ k → hJ z.2 40 i = lN (pk (fR s i) (tdN (ssD s)))) ∧ (∀ j, 1 ≤ j → j < k + 1 → ¬ eR s j (j - 1)) ∧ Fr SRd m z.2) _ (by omega) ?_ ?_ ⟨rfl, fun i hi => ?_, fun j h1 h2 => by omega, Fr.rf.tJ _ (by omega)⟩
    · rintro k ⟨x, m1⟩ hk ⟨i1, i2, i3, i4⟩
      dsimp only at i1 i2 i3 i4
      subst i1
      show (∃ s', f_X9_findRound_12 c 28 (nI (k + 1)) m1 = some (Sum.inl s') ∧ _) ∨ ∃ e, f_X9_findRound_12 c 28 (nI (k + 1)) m1 = some (Sum.inr e) ∧ _
      have hX1 := hX.1.fr i4 (fun k j z1 z2 => by omega)
      unfold f_X9_findRound_12
      rw [lit_400, if_neg (nI_nlt (by omega) (by omega)), show nI (k + 1) - 1 = nI k from nI_pred k, aJ_n _ 40 (show k < 401 by omega) (by omega), bind_s, i2 k (Nat.le_refl k), show hI m1 28 3 = cdD (ssK s) from by rw [i4.I _ _ (by omega)]; exact a3]
      obtain ⟨m2, e2, f2⟩ := x_st (a := 28 + 2) hX1 hV.1 (VR.sq hV.1 hV.2.1.r (fun _ => 0) k) (fun b hb => by rw [i4.I _ _ (by omega)]; exact (a2 b hb).2) (by omega) 0
      have e2' : F_X5_stroke c (lN (pk (fR s k) (tdN (ssD s)))) (28 + 2) (cdD (ssK s)) 0 m1 = some (lN (pk (fR s (k + 1)) (tdN (ssD s))), m2) := e2
      rw [e2', bind_s]
      dsimp only
      rw [bJ_n _ 40 _ (show k + 1 < 401 by omega) (by omega), bind_s, aJ_n _ 40 (show k + 1 < 401 by omega) (by omega), bind_s, aJ_n _ 40 (show k < 401 by omega) (by omega), bind_s]
      have g1 : hJ (tJ m2 40 (k + 1) (lN (pk (fR s (k + 1)) (tdN (ssD s))))) 40 (k + 1) = lN (pk (fR s (k + 1)) (tdN (ssD s))) := by rw [hJ_tJ, if_pos ⟨rfl, rfl⟩]
      have g2 : ∀ i, i ≤ k → hJ (tJ m2 40 (k + 1) (lN (pk (fR s (k + 1)) (tdN (ssD s))))) 40 i = lN (pk (fR s i) (tdN (ssD s))) := fun i hi => by rw [hJ_tJ, if_neg (by omega), f2.J _ _ (by omega)]; exact i2 i hi
      rw [g1, g2 k (Nat.le_refl k)]
      have ff := (i4.tr (f2.mono (S' := SRd) (fun k j z => by omega))).tJ (k := 40) (j := k + 1) (lN (pk (fR s (k + 1)) (tdN (ssD s)))) (by omega)
      by_cases hq : eR s (k + 1) k
      · right
        rw [if_pos ((eR_pk hV _ _).mpr hq)]
        exact ⟨_, rfl, Or.inl ⟨k + 1, _, rfl, by omega, hq, i3, ff⟩⟩
      · left
        rw [if_neg (fun z => hq ((eR_pk hV _ _).mp z)), nmI_e, bind_s]
        refine ⟨_, rfl, nI_1 (k + 1), fun i hi => ?_, fun j h1 h2 => ?_, ff⟩
        · by_cases e : i = k + 1
          · rw [e]; exact g1
          · exact g2 i (by omega)
        · by_cases e : j = k + 1
          · rw [e]; exact hq
          · exact i3 j h1 (by omega)
    · rintro ⟨x, m1⟩ ⟨i1, i2, i3, i4⟩
      dsimp only at i1 i2 i3 i4
      subst i1
      show ∃ e, f_X9_findRound_12 c 28 (nI (400 + 1)) m1 = some (Sum.inr e) ∧ _
      unfold f_X9_findRound_12
      rw [lit_400, if_pos (nI_lt (by omega) (by omega))]
      exact ⟨_, rfl, Or.inr ⟨m1, rfl, i2, i4⟩⟩
    · have : i = 0 := by omega
      subst this
      show hJ (tJ m 40 0 _) 40 0 = _
      rw [hJ_tJ, if_pos ⟨rfl, rfl⟩]
      rfl
  obtain ⟨e, e1, ⟨i, m1, rfl, q1, q2, q3, q4⟩ | ⟨m1, rfl, q1, q4⟩⟩ := key
  · rw [e1, bind_s]
    show ∃ m', ((∃ p l', Rdp (eR s) p l' ∧ (Option.bind (qI m1 39 2 1) fun m5 => (qI m5 39 3 (nI i - 1)).bind fun m7 => some ((1 : Int32), m7)) = some (1, m') ∧ _) ∨ _) ∧ _
    rw [qI_e, bind_s, qI_e, bind_s, lit_1, pk_sub q1.1]
    exact ⟨_, Or.inl ⟨1, i - 1, rd_A hsh q1.1 q1.2 q2 q3, rfl, by rw [hI_tI, if_neg (by omega), hI_tI, if_pos ⟨rfl, rfl⟩], by rw [hI_tI, if_pos ⟨rfl, rfl⟩]⟩, (q4.tI _ (by omega)).tI _ (by omega)⟩
  · rw [e1, bind_s, Sum.elim_inr]
    have main : ∃ m', ((∃ p l', Rdp (eR s) p l' ∧ (Option.bind (qI m1 39 2 1) fun m9 => (loop (g_X9_findRound_92 c) m9).bind fun e11 => f_X9_findRound_140 c e11) = some (1, m') ∧ hI m' 39 2 = nI p ∧ hI m' 39 3 = nI l') ∨ (Rdn (eR s) ∧ (Option.bind (qI m1 39 2 1) fun m9 => (loop (g_X9_findRound_92 c) m9).bind fun e11 => f_X9_findRound_140 c e11) = some (0, m'))) ∧ Fr SRd m m' := by
      rw [qI_e, bind_s]
      have r400 : ∀ m2 : M2, Fr (fun k j => k = 39 ∧ (j = 2 ∨ j = 3)) m1 m2 → ∀ i, i ≤ 400 → hJ m2 40 i = lN (pk (fR s i) (tdN (ssD s))) := fun m2 f i hi => by rw [f.J _ _ (by omega)]; exact q1 i hi
      have k2 : ∃ e, loop (g_X9_findRound_92 c) (tI m1 39 2 1) = some e ∧ ∃ p, hI e 39 2 = nI p ∧ (1 ≤ p ∧ p ≤ 401) ∧ (p ≤ 400 → eR s (400 - p) 400) ∧ (∀ q, 1 ≤ q → q < p → ¬ eR s (400 - q) 400) ∧ Fr (fun k j => k = 39 ∧ (j = 2 ∨ j = 3)) m1 e := by
        refine loop_ex 400 (fun k z => hI z 39 2 = nI (k + 1) ∧ (∀ q, 1 ≤ q → q < k + 1 → ¬ eR s (400 - q) 400) ∧ Fr (fun k j => k = 39 ∧ (j = 2 ∨ j = 3)) m1 z) _ (by omega) ?_ ?_ ⟨by rw [hI_tI, if_pos ⟨rfl, rfl⟩]; rfl, fun q h1 h2 => by omega, Fr.rf.tI _ (by omega)⟩
        · rintro k m2 hk ⟨i1, i2, i3⟩
          show (∃ s', f_X9_findRound_92 c m2 = some (Sum.inl s') ∧ _) ∨ ∃ e, f_X9_findRound_92 c m2 = some (Sum.inr e) ∧ _
          unfold f_X9_findRound_92
          rw [i1, lit_400, if_neg (nI_nlt (by omega) (by omega)), pk_sub (by omega), aJ_n _ 40 (show 400 - (k + 1) < 401 by omega) (by omega), bind_s, aJ_n _ 40 (show 400 < 401 by omega) (by omega), bind_s, r400 m2 i3 _ (by omega), r400 m2 i3 _ (by omega)]
          by_cases hq : eR s (400 - (k + 1)) 400
          · right
            rw [if_pos ((eR_pk hV _ _).mpr hq)]
            exact ⟨_, rfl, k + 1, i1, by omega, fun _ => hq, i2, i3⟩
          · left
            rw [if_neg (fun z => hq ((eR_pk hV _ _).mp z)), qI_e, bind_s, nI_1]
            refine ⟨_, rfl, by rw [hI_tI, if_pos ⟨rfl, rfl⟩], fun q h1 h2 => ?_, i3.tI _ (by omega)⟩
            by_cases e : q = k + 1
            · rw [e]; exact hq
            · exact i2 q h1 (by omega)
        · rintro m2 ⟨i1, i2, i3⟩
          show ∃ e, f_X9_findRound_92 c m2 = some (Sum.inr e) ∧ _
          unfold f_X9_findRound_92
          rw [i1, lit_400, if_pos (nI_lt (by omega) (by omega))]
          exact ⟨_, rfl, 401, i1, by omega, fun z => by omega, i2, i3⟩
      obtain ⟨m2, e2, p, p1, p2, p3, p4, f2⟩ := k2
      rw [e2, bind_s]
      unfold f_X9_findRound_140
      rw [qI_e, bind_s]
      have k3 : ∃ e, loop (g_X9_findRound_145 c) (tI m2 39 3 0) = some e ∧ ∃ l', hI e 39 3 = nI l' ∧ hI e 39 2 = nI p ∧ (p ≤ 400 → l' + p ≤ 400 ∧ eR s l' (l' + p) ∧ ∀ k, k < l' → ¬ eR s k (k + p)) ∧ Fr (fun k j => k = 39 ∧ (j = 2 ∨ j = 3)) m1 e := by
        refine loop_ex (400 - p) (fun k z => hI z 39 3 = nI k ∧ hI z 39 2 = nI p ∧ (∀ i, i < k → ¬ eR s i (i + p)) ∧ Fr (fun k j => k = 39 ∧ (j = 2 ∨ j = 3)) m1 z) _ (by omega) ?_ ?_ ⟨by rw [hI_tI, if_pos ⟨rfl, rfl⟩]; rfl, by rw [hI_tI, if_neg (by omega)]; exact p1, fun q h2 => by omega, f2.tI _ (by omega)⟩
        · rintro k m3 hk ⟨i1, i0, i2, i3⟩
          show (∃ s', f_X9_findRound_145 c m3 = some (Sum.inl s') ∧ _) ∨ ∃ e, f_X9_findRound_145 c m3 = some (Sum.inr e) ∧ _
          unfold f_X9_findRound_145
          rw [i1, i0, nI_add, lit_400, if_neg (nI_ge (by omega) (by omega)), aJ_n _ 40 (show k < 401 by omega) (by omega), bind_s, aJ_n _ 40 (show k + p < 401 by omega) (by omega), bind_s, r400 m3 i3 _ (by omega), r400 m3 i3 _ (by omega)]
          by_cases hq : eR s k (k + p)
          · right
            rw [if_pos ((eR_pk hV _ _).mpr hq)]
            exact ⟨_, rfl, k, i1, i0, fun _ => ⟨by omega, hq, i2⟩, i3⟩
          · left
            rw [if_neg (fun z => hq ((eR_pk hV _ _).mp z)), qI_e, bind_s, nI_1]
            refine ⟨_, rfl, by rw [hI_tI, if_pos ⟨rfl, rfl⟩], by rw [hI_tI, if_neg (by omega)]; exact i0, fun i h2 => ?_, i3.tI _ (by omega)⟩
            by_cases e : i = k
            · rw [e]; exact hq
            · exact i2 i (by omega)
        · rintro m3 ⟨i1, i0, i2, i3⟩
          show ∃ e, f_X9_findRound_145 c m3 = some (Sum.inr e) ∧ _
          unfold f_X9_findRound_145
          rw [i1, i0, nI_add, lit_400, if_pos (nI_le (by omega) (by omega))]
          refine ⟨_, rfl, 400 - p, i1, i0, fun z => ⟨by omega, ?_, i2⟩, i3⟩
          rw [show 400 - p + p = 400 by omega]
          exact p3 z
      obtain ⟨m3, e3, l', l1, l2, l3, f3⟩ := k3
      rw [e3, bind_s]
      unfold f_X9_findRound_200
      have ff : Fr SRd m m3 := q4.tr (f3.mono (fun k j z => by omega))
      rw [l2, lit_400]
      by_cases hp : p ≤ 400
      · rw [if_neg (nI_nlt hp (by omega))]
        obtain ⟨u1, u2, u3⟩ := l3 hp
        exact ⟨m3, Or.inl ⟨p, l', rd_B hsh p2.1 hp (p3 hp) p4 u2 u1 u3, rfl, l2, l1⟩, ff⟩
      · rw [if_pos (nI_lt (by omega) (by omega))]
        exact ⟨m3, Or.inr ⟨rd_N hsh (fun q h1 h2 => p4 q h1 (by omega)), rfl⟩, ff⟩
    exact main
def rdV (x : Int32) (p l : Nat) : Int32 := if x = 0 then nI p else nI l
theorem k_round_x (hX : XS m c s) (hV : VS s) {x : Int32} (h : isR 0 1 x) : (∃ p l', Rdp (eR s) p l' ∧ OkX m c (F_X11_round c x m) (rdV x p l') s) ∨ (Rdn (eR s) ∧ OkX m c (F_X11_round c x m) (-2) s) := by
  rw [isRx (by omega) (by omega), show nI 0 = 0 from rfl] at h
  unfold F_X11_round
  rw [if_neg h.1, lit_1, if_pos (nlt_le h.2)]
  have q : ∀ k j, SRd k j → ¬ xk k ∧ SX k j := fun k j z => ⟨fun z2 => by unfold xk at z2; omega, fun z2 => by omega⟩
  obtain ⟨m1, ⟨p, l', h1, h2, h3, h4⟩ | ⟨h1, h2⟩, h5⟩ := x_findRound hX hV
  · refine Or.inl ⟨p, l', h1, ?_⟩
    rw [h2, bind_s]
    dsimp only
    rw [if_neg (by decide), h3, h4]
    unfold rdV
    by_cases hx : x = 0
    · rw [if_pos hx, if_pos hx]
      exact OkX.scr hX h5 q
    · rw [if_neg hx, if_neg hx]
      exact OkX.scr hX h5 q
  · refine Or.inr ⟨h1, ?_⟩
    rw [h2, bind_s]
    exact OkX.scr hX h5 q
theorem k_round_x0 (hX : XS m c s) {x : Int32} (h : ¬ isR 0 1 x) : OkX m c (F_X11_round c x m) (-1) s := by
  rw [isRx (by omega) (by omega), show nI 0 = 0 from rfl] at h
  unfold F_X11_round
  by_cases h1 : x < 0
  · rw [if_pos h1]
    exact OkX.same hX
  · rw [if_neg h1, lit_1, if_neg (fun z => h ⟨h1, fun z2 => lt_nle z2 z⟩)]
    exact OkX.same hX
/-! the reference's -/
theorem m_isAt {n k lag : Nat} {D : Int32} {L : Nat → Int32} {t u : Nat → Nat} (hR : RwM m n lag D L t) (hn : n ≤ 12) (hk : k ≤ 400) (ht : ∀ b, b < n → t b < 32) (hu : ∀ b, b < n → u b < 32) (h : ∀ b, b < n → hI m 104 (12 * k + b) = nI (u b)) : (F_X12_isAt (nI k) m = some (1, m) ∧ ∀ b, b < n → u b = t b) ∨ (F_X12_isAt (nI k) m = some (0, m) ∧ ¬ ∀ b, b < n → u b = t b) := by
  obtain ⟨r1, r2, r3, r4, r5⟩ := hR
  unfold F_X12_isAt
  have key : ∃ e, loop (g_X12_isAt_2 (nI k)) ((0 : Int32), m) = some e ∧ ((e = Sum.inl m ∧ ¬ ∀ b, b < n → u b = t b) ∨ (e = Sum.inr m ∧ ∀ b, b < n → u b = t b)) := by
    refine loop_ex n (fun i z => z = (nI i, m) ∧ ∀ b, b < i → u b = t b) _ (by omega) ?_ ?_ ⟨rfl, fun b hb => by omega⟩
    · rintro i z hi ⟨rfl, i2⟩
      show (∃ s', f_X12_isAt_2 (nI k) (nI i) m = some (Sum.inl s') ∧ _) ∨ ∃ e, f_X12_isAt_2 (nI k) (nI i) m = some (Sum.inr e) ∧ _
      have := ht i hi
      have := hu i hi
      unfold f_X12_isAt_2
      rw [r1, if_neg (nI_ge hi (by omega)), lit_12, pk_mul, nI_add, aI_n _ 104 (show 12 * k + i < 4812 by omega) (by omega), bind_s, aI_n _ 97 (show i < 12 by omega) (by omega), bind_s, h i hi, r4 i hi]
      by_cases e : u i = t i
      · left
        rw [if_pos (by rw [e]), nmI_e, bind_s]
        refine ⟨_, rfl, by rw [nI_1], fun b hb => ?_⟩
        by_cases e2 : b = i
        · rw [e2]; exact e
        · exact i2 b (by omega)
      · right
        rw [if_neg (fun z => e ((nI_eq (by omega) (by omega)).mp z))]
        exact ⟨_, rfl, Or.inl ⟨rfl, fun z => e (z i hi)⟩⟩
    · rintro z ⟨rfl, i2⟩
      show ∃ e, f_X12_isAt_2 (nI k) (nI n) m = some (Sum.inr e) ∧ _
      unfold f_X12_isAt_2
      rw [r1, if_pos (nI_le (Nat.le_refl _) (by omega))]
      exact ⟨_, rfl, Or.inr ⟨rfl, i2⟩⟩
  obtain ⟨e, e1, ⟨rfl, e2⟩ | ⟨rfl, e2⟩⟩ := key
  · rw [e1, bind_s]; exact Or.inr ⟨rfl, e2⟩
  · rw [e1, bind_s]; exact Or.inl ⟨rfl, e2⟩
theorem k_round_m (hM : MS m l s) (hV : VS s) {x : Int32} (h : isR 0 1 x) : (∃ p l', Rdp (eR s) p l' ∧ OkM m l (F_X12_round x m) (rdV x p l') s) ∨ (Rdn (eR s) ∧ OkM m l (F_X12_round x m) (-2) s) := by
  have hN := hV.n
  have hsh := eR_sh s
  have f32 : ∀ i b, b < tdN (ssD s) → fR s i b < 32 := fun i => (VR.sq hV.1 hV.2.1.r _ i).t32 hV.1
  unfold F_X12_round
  rw [show F_X12_in x 0 1 m = some (1, m) from (inR (a := 0) (b := 1) (by omega) (by omega) _).1 h, bind_s]
  dsimp only
  obtain ⟨m1, e1, R1, f1⟩ := m_takes hM.lv hM.l2 hM.n hN hM.2.1
  rw [if_neg (by decide), e1, bind_s]
  have hM1 := hM.1.fr f1 (fun k j h z => by omega)
  have key : ∃ e, loop (g_X12_round_17 x) ((0 : Int32), m1) = some e ∧ ((∃ n k m', e = Sum.inl (nI n, nI k, m') ∧ k < n ∧ n ≤ 400 ∧ eR s k n ∧ (∀ n', n' < n → ∀ k', k' < n' → ¬ eR s k' n') ∧ Fr (fun k j => SrM k j ∨ k = 104) m1 m') ∨ (∃ m', e = Sum.inr m' ∧ Rdn (eR s) ∧ Fr (fun k j => SrM k j ∨ k = 104) m1 m')) := by
    refine loop_ex 401 (fun n z => z.1 = nI n ∧ RwM z.2 (tdN (ssD s)) (tdG (ssD s)) (cdD (ssK s)) (cdL (ssK s)) (fR s n) ∧ (∀ k, k < n → ∀ b, b < tdN (ssD s) → hI z.2 104 (12 * k + b) = nI (fR s k b)) ∧ (∀ n', n' < n → ∀ k', k' < n' → ¬ eR s k' n') ∧ Fr (fun k j => SrM k j ∨ k = 104) m1 z.2) _ (by omega) ?_ ?_ ⟨rfl, R1, fun k hk => by omega, fun n' hn' => by omega, Fr.rf⟩
    · rintro n ⟨y, m2⟩ hn ⟨i1, i2, i3, i4, i5⟩
      dsimp only at i1 i2 i3 i4 i5
      subst i1
      show (∃ s', f_X12_round_17 x (nI n) m2 = some (Sum.inl s') ∧ _) ∨ ∃ e, f_X12_round_17 x (nI n) m2 = some (Sum.inr e) ∧ _
      unfold f_X12_round_17
      rw [lit_400, if_neg (nI_nlt (by omega) (by omega))]
      have inner : ∃ e, loop (g_X12_round_26 x (nI n)) ((0 : Int32), m2) = some e ∧ ((∃ k, e = Sum.inl (nI k, m2) ∧ k < n ∧ eR s k n) ∨ (e = Sum.inr m2 ∧ ∀ k, k < n → ¬ eR s k n)) := by
        refine loop_ex n (fun k z => z = (nI k, m2) ∧ ∀ k', k' < k → ¬ eR s k' n) _ (by omega) ?_ ?_ ⟨rfl, fun k hk => by omega⟩
        · rintro k z hk ⟨rfl, j2⟩
          show (∃ s', f_X12_round_26 x (nI n) (nI k) m2 = some (Sum.inl s') ∧ _) ∨ ∃ e, f_X12_round_26 x (nI n) (nI k) m2 = some (Sum.inr e) ∧ _
          unfold f_X12_round_26
          rw [if_neg (nI_ge hk (by omega))]
          rcases m_isAt (k := k) i2 hN (by omega) (f32 n) (f32 k) (i3 k hk) with ⟨e, e2⟩ | ⟨e, e2⟩
          · right
            rw [e, bind_s]
            dsimp only
            rw [if_neg (by decide)]
            exact ⟨_, rfl, Or.inl ⟨k, rfl, hk, e2⟩⟩
          · left
            rw [e, bind_s]
            dsimp only
            rw [if_pos rfl, nmI_e, bind_s]
            refine ⟨_, rfl, by rw [nI_1], fun k' hk' => ?_⟩
            by_cases q : k' = k
            · rw [q]; exact e2
            · exact j2 k' (by omega)
        · rintro z ⟨rfl, j2⟩
          show ∃ e, f_X12_round_26 x (nI n) (nI n) m2 = some (Sum.inr e) ∧ _
          unfold f_X12_round_26
          rw [if_pos (nI_le (Nat.le_refl _) (by omega))]
          exact ⟨_, rfl, Or.inr ⟨rfl, j2⟩⟩
      obtain ⟨e, e2, ⟨k, rfl, k1, k2⟩ | ⟨rfl, k2⟩⟩ := inner
      · right
        rw [e2, bind_s]
        exact ⟨_, rfl, Or.inl ⟨n, k, m2, rfl, k1, by omega, k2, i4, i5⟩⟩
      · left
        rw [e2, bind_s]
        show ∃ s', (Option.bind (loop (g_X12_round_59 x (nI n)) ((0 : Int32), m2)) fun e4 => (F_X12_strikes (0 : Int32) e4).bind fun c6 => (nmI (nI n + (1 : Int32))).bind fun v8 => some (Sum.inl (v8, c6))) = some (Sum.inl s') ∧ _
        have cp : ∃ e, loop (g_X12_round_59 x (nI n)) ((0 : Int32), m2) = some e ∧ (∀ b, b < tdN (ssD s) → hI e 104 (12 * n + b) = nI (fR s n b)) ∧ Fr (fun k j => k = 104 ∧ 12 * n ≤ j) m2 e := by
          refine loop_to (tdN (ssD s)) (fun j z => z.1 = nI j ∧ (∀ b, b < j → hI z.2 104 (12 * n + b) = nI (fR s n b)) ∧ Fr (fun k j => k = 104 ∧ 12 * n ≤ j) m2 z.2) _ (by omega) ?_ ?_ ⟨rfl, fun b hb => by omega, Fr.rf⟩
          · rintro j ⟨y, m3⟩ hj ⟨j1, j2, j3⟩
            dsimp only at j1 j2 j3
            subst j1
            show ∃ s', f_X12_round_59 x (nI n) (nI j) m3 = some (Sum.inl s') ∧ _
            obtain ⟨r1, r2, r3, r4, r5⟩ := i2.fr j3 (fun k j h z => by omega)
            unfold f_X12_round_59
            rw [r1, if_neg (nI_ge hj (by omega)), aI_n _ 97 (show j < 12 by omega) (by omega), bind_s, r4 j hj, lit_12, pk_mul, nI_add, bI_n _ 104 _ (show 12 * n + j < 4812 by omega) (by omega), bind_s, nmI_e, bind_s]
            refine ⟨_, rfl, nI_1 j, fun b hb => ?_, j3.tI _ ⟨rfl, by omega⟩⟩
            rw [hI_tI]
            by_cases e : b = j
            · subst e
              rw [if_pos ⟨rfl, rfl⟩]
            · rw [if_neg (by omega)]
              exact j2 b (by omega)
          · rintro ⟨y, m3⟩ ⟨j1, j2, j3⟩
            dsimp only at j1 j2 j3
            subst j1
            show ∃ e, f_X12_round_59 x (nI n) (nI (tdN (ssD s))) m3 = some (Sum.inr e) ∧ _
            obtain ⟨r1, r2, r3, r4, r5⟩ := i2.fr j3 (fun k j h z => by omega)
            unfold f_X12_round_59
            rw [r1, if_pos (nI_le (Nat.le_refl _) (by omega))]
            exact ⟨_, rfl, j2, j3⟩
        obtain ⟨m3, e3, g3, f3⟩ := cp
        rw [e3, bind_s]
        have f23 := i5.tr (f3.mono (S' := fun k j => SrM k j ∨ k = 104) (fun k j z => Or.inr z.1))
        obtain ⟨m4, e4, R4, f4⟩ := m_st (hM1.fr f23 (fun k j h z => by omega)) hV.1 (i2.fr f3 (fun k j h z => by omega)) hN hV.2.1.2.1 hV.2.1.2.2.1 (VR.sq hV.1 hV.2.1.r (fun _ => 0) n).1 0
        rw [e4, bind_s, nmI_e, bind_s]
        refine ⟨_, rfl, nI_1 n, R4, fun k hk b hb => ?_, fun n' hn' k' hk' => ?_, f23.tr (f4.mono (fun k j z => Or.inl z))⟩
        · rw [f4.I _ _ (by omega)]
          by_cases q : k = n
          · rw [q]; exact g3 b hb
          · rw [f3.I _ _ (by omega)]; exact i3 k (by omega) b hb
        · by_cases q : n' = n
          · rw [q]; exact k2 k' (by omega)
          · exact i4 n' (by omega) k' hk'
    · rintro ⟨y, m2⟩ ⟨i1, i2, i3, i4, i5⟩
      dsimp only at i1 i2 i3 i4 i5
      subst i1
      show ∃ e, f_X12_round_17 x (nI 401) m2 = some (Sum.inr e) ∧ _
      unfold f_X12_round_17
      rw [lit_400, if_pos (nI_lt (by omega) (by omega))]
      exact ⟨_, rfl, Or.inr ⟨m2, rfl, fun n hn k hk => i4 n (by omega) k hk, i5⟩⟩
  have q : ∀ k j, (StM k j ∨ SrM k j ∨ k = 104) → ¬ mk2 k j ∧ SM2 k j := fun k j z => ⟨fun z2 => by unfold mk2 at z2; omega, by omega⟩
  obtain ⟨e, e2, ⟨n, k, m2, rfl, k1, k2, k3, k4, k5⟩ | ⟨m2, rfl, k2, k5⟩⟩ := key
  · left
    have ff : Fr (fun k j => StM k j ∨ SrM k j ∨ k = 104) m m2 := (f1.mono (fun k j z => Or.inl z)).tr (k5.mono (fun k j z => Or.inr z))
    refine ⟨n - k, k, ⟨by omega, by omega, by rw [show k + (n - k) = n by omega]; exact k3, fun n' hn' => k4 n' (by omega)⟩, ?_⟩
    rw [e2, bind_s]
    show OkM m l (if x = 0 then f_X12_round_50 (nI n - nI k) m2 else f_X12_round_50 (nI k) m2) _ s
    rw [pk_sub (by omega)]
    unfold rdV
    by_cases hx : x = 0
    · rw [if_pos hx, if_pos hx]
      exact OkM.scr hM ff q
    · rw [if_neg hx, if_neg hx]
      exact OkM.scr hM ff q
  · right
    refine ⟨k2, ?_⟩
    rw [e2, bind_s]
    exact OkM.scr hM ((f1.mono (fun k j z => Or.inl z)).tr (k5.mono (fun k j z => Or.inr z))) q
theorem k_round_m0 (hM : MS m l s) {x : Int32} (h : ¬ isR 0 1 x) : OkM m l (F_X12_round x m) (-1) s := by
  unfold F_X12_round
  rw [show F_X12_in x 0 1 m = some (0, m) from (inR (a := 0) (b := 1) (by omega) (by omega) _).2 h, bind_s]
  exact OkM.same hM
end KA
