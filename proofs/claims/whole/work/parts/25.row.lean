/-! ===== strokes one behind the other ===== -/
def sstp (d : TD) (L : Nat → Int32) (D fog : Int32) (t : Nat → Nat) : Nat → Nat := stp (tdE d) (tdP d) (tdG d) (tdS d) L D fog t
def sq (d : TD) (L : Nat → Int32) (D : Int32) (fog : Nat → Int32) (t0 : Nat → Nat) : Nat → Nat → Nat
  | 0 => t0
  | i + 1 => sstp d L D (fog i) (sq d L D fog t0 i)
/-- laws, drum and times that may be rowed -/
def VR (d : TD) (L : Nat → Int32) (D : Int32) (t : Nat → Nat) : Prop := (∀ b, b < tdN d → t b < tdP d) ∧ LwOk (tdL d) (tdN d) L ∧ Dr (tdP d) D
theorem VC.r {d : TD} {k : CD} (h : VC d k) : VR d (cdL k) (cdD k) (cdT k) := ⟨h.1, h.2.1, h.2.2.1⟩
theorem VR.st {d : TD} {L : Nat → Int32} {D : Int32} {t : Nat → Nat} (hV : VT d) (h : VR d L D t) (fog : Int32) : VR d L D (sstp d L D fog t) := ⟨stp_lt hV.e h.2.1 hV.l h.1, h.2⟩
theorem VR.sq {d : TD} {L : Nat → Int32} {D : Int32} {t : Nat → Nat} (hV : VT d) (h : VR d L D t) (fog : Nat → Int32) : ∀ i, VR d L D (sq d L D fog t i)
  | 0 => h
  | i + 1 => (VR.sq hV h fog i).st hV (fog i)
theorem VR.t32 {d : TD} {L : Nat → Int32} {D : Int32} {t : Nat → Nat} (hV : VT d) (h : VR d L D t) : ∀ b, b < tdN d → t b < 32 := fun b hb => by have := h.1 b hb; have := hV.p; omega
theorem x_st {m : M2} {c a : Nat} {d : TD} {L : Nat → Int32} {D : Int32} {t : Nat → Nat} (hX : XT m c d) (hV : VT d) (hr : VR d L D t) (ha : ∀ b, b < tdN d → hI m a b = L b) (ha2 : 26 ≤ a) (fog : Int32) : ∃ m', F_X5_stroke c (lN (pk t (tdN d))) a D fog m = some (lN (pk (sstp d L D fog t) (tdN d)), m') ∧ Fr (fun k _ => k = 24 ∨ k = 25) m m' :=
  x_stroke hX.1 hX.2.2.2.2.2.2 hV.e hr.2.2 hr.2.1 ha (by omega) hr.1
theorem m_st {m : M2} {l k : Nat} {d : TD} {L : Nat → Int32} {D : Int32} {t : Nat → Nat} (hM : MT m l d) (hV : VT d) (hR : RwM m k (tdG d) D L t) (hk : k ≤ 12) (hL : LwOk (tdL d) k L) (hD : Dr (tdP d) D) (ht : ∀ b, b < k → t b < tdP d) (fog : Int32) : ∃ m', F_X12_strikes fog m = some m' ∧ RwM m' k (tdG d) D L (sstp d L D fog t) ∧ Fr SrM m m' :=
  m_strikes hM.1 hM.2.2.2.2.2.2 hV.p hV.g hV.l hR hk hD hL ht
theorem fog01 (d : TD) (x : Int32) : fogd d x = 0 ∨ fogd d x = 1 := fgB_or _ _ _ _
theorem pkN_eq {t u : Nat → Nat} {n : Nat} (hn : n ≤ 12) (ht : ∀ b, b < n → t b < 32) (hu : ∀ b, b < n → u b < 32) : lN (pk t n) = lN (pk u n) ↔ ∀ b, b < n → t b = u b := by
  have h1 := p60n hn ht
  have h2 := p60n hn hu
  constructor
  · intro h
    have h3 : (lN (pk t n)).toBitVec.toNat = (lN (pk u n)).toBitVec.toNat := by rw [h]
    rw [lN_tn (by omega), lN_tn (by omega)] at h3
    exact pk_inj ht hu h3
  · intro h
    rw [pk_congr h]
/-! the past -/
def hkp (u : Nat) (h : Nat → Nat → Nat) (t : Nat → Nat) : Nat × (Nat → Nat → Nat) := if u < 100 then (u + 1, fun i => if i = u then t else h i) else (100, fun i => if i = 99 then t else h (i + 1))
theorem mnI_n {a b : Nat} (ha : a < 2 ^ 31) (hb : b < 2 ^ 31) : mnI (nI a) (nI b) = nI (min a b) := by
  unfold mnI
  by_cases h : b < a
  · rw [if_pos (nI_lt h ha), Nat.min_eq_right (by omega)]
  · rw [if_neg (nI_nlt (by omega) hb), Nat.min_eq_left (by omega)]
theorem mxI_n {a b : Nat} (ha : a < 2 ^ 31) (hb : b < 2 ^ 31) : mxI (nI a) (nI b) = nI (max a b) := by
  unfold mxI
  by_cases h : a < b
  · rw [if_pos (nI_lt h hb), Nat.max_eq_right (by omega)]
  · rw [if_neg (nI_nlt (by omega) ha), Nat.max_eq_left (by omega)]
theorem x_keep {m : M2} {n u : Nat} {h : Nat → Nat → Nat} (t : Nat → Nat) (hu : u ≤ 100) (H : XU m n u h) : ∃ m', F_X3_keep (lN (pk t n)) m = some m' ∧ XU m' n (hkp u h t).1 (hkp u h t).2 ∧ Fr (fun k _ => k = 32 ∨ k = 33) m m' := by
  obtain ⟨x, a1, a2, a3, a4⟩ := H
  unfold F_X3_keep
  rw [a3, bJ_n _ 33 _ a1 (by omega), bind_s, show hI (tJ m 33 x (lN (pk t n))) 32 2 = nI x from a3, lit_1, nI_add, lit_100, rmI_of (nI_nz (by omega) (by omega)), bind_s, pk_rem (by omega) (by omega) (by omega), qI_e, bind_s, qI_e, bind_s]
  have e1 : hI (tI (tJ m 33 x (lN (pk t n))) 32 2 (nI ((x + 1) % 100))) 32 1 = nI u := by rw [hI_tI, if_neg (by omega)]; exact a2
  rw [e1, nI_add, mnI_n (by omega) (by omega)]
  refine ⟨_, rfl, ⟨(x + 1) % 100, by omega, ?_, ?_, ?_⟩, ((Fr.rf.tJ _ (by omega)).tI _ (by omega)).tI _ (by omega)⟩
  · rw [hI_tI, if_pos ⟨rfl, rfl⟩]
    unfold hkp
    split
    · congr 1; show _ = u + 1; omega
    · congr 1; show _ = 100; omega
  · rw [hI_tI, if_neg (by omega), hI_tI, if_pos ⟨rfl, rfl⟩]
  · intro i hi
    rw [hJ_tI, hJ_tI, hJ_tJ]
    unfold hkp at hi ⊢
    by_cases hc : u < 100
    · rw [if_pos hc] at hi ⊢
      dsimp only at hi ⊢
      by_cases e : i = u
      · rw [if_pos e, if_pos ⟨rfl, by omega⟩]
      · rw [if_neg e, if_neg (by omega), ← a4 i (by omega)]
        congr 1
        omega
    · rw [if_neg hc] at hi ⊢
      dsimp only at hi ⊢
      by_cases e : i = 99
      · rw [if_pos e, if_pos ⟨rfl, by omega⟩]
      · rw [if_neg e, if_neg (by omega), ← a4 (i + 1) (by omega)]
        congr 1
        omega
section K6
variable {m : M2} {c l : Nat} {s : SS}
def row1 (s : SS) : SS := sKU s (sstp (ssD s) (cdL (ssK s)) (cdD (ssK s)) (fogd (ssD s) (cdS (ssK s))) (cdT (ssK s)), cdM (ssK s), cdL (ssK s), cdD (ssK s), cdS (ssK s) + 1) (hkp (ssU s) (ssH s) (cdT (ssK s)))
def rowN (s : SS) : Nat → SS
  | 0 => s
  | k + 1 => row1 (rowN s k)
theorem v_row1 (hV : VS s) : VS (row1 s) := by
  obtain ⟨v1, v2, ⟨v3, v3'⟩, v4, v5, v7⟩ := hV
  obtain ⟨a1, a2, a3, a4⟩ := v2
  refine ⟨v1, ⟨(VR.st v1 ⟨a1, a2, a3⟩ _).1, a2, a3, a4⟩, ?_, v4, v5, v7⟩
  show (hkp (ssU s) (ssH s) (cdT (ssK s))).1 ≤ 100 ∧ ∀ i, i < (hkp (ssU s) (ssH s) (cdT (ssK s))).1 → ∀ b, b < tdN (ssD s) → (hkp (ssU s) (ssH s) (cdT (ssK s))).2 i b < tdP (ssD s)
  unfold hkp
  by_cases hc : ssU s < 100
  · rw [if_pos hc]
    refine ⟨by show ssU s + 1 ≤ 100; omega, fun i hi b hb => ?_⟩
    show (if i = ssU s then cdT (ssK s) else ssH s i) b < _
    have hi' : i < ssU s + 1 := hi
    split
    · exact a1 b hb
    · exact v3' i (by omega) b hb
  · rw [if_neg hc]
    refine ⟨by show 100 ≤ 100; omega, fun i hi b hb => ?_⟩
    show (if i = 99 then cdT (ssK s) else ssH s (i + 1)) b < _
    have hi' : i < 100 := hi
    split
    · exact a1 b hb
    · exact v3' (i + 1) (by omega) b hb
theorem v_row (hV : VS s) : ∀ k, VS (rowN s k)
  | 0 => hV
  | k + 1 => v_row1 (v_row hV k)
theorem x_row1 (hX : XS m c s) (hV : VS s) : ∃ m1 m2 m3 : M2, F_X3_keep (hJ m 28 0) m = some m1 ∧ F_X7_isFog c (hI m1 28 4) m1 = some (fogd (ssD s) (cdS (ssK s)), m1) ∧ F_X5_stroke c (hJ m1 28 0) (28 + 2) (hI m1 28 3) (fogd (ssD s) (cdS (ssK s))) m1 = some (lN (pk (sstp (ssD s) (cdL (ssK s)) (cdD (ssK s)) (fogd (ssD s) (cdS (ssK s))) (cdT (ssK s))) (tdN (ssD s))), m2) ∧ tI (tJ m2 28 0 (lN (pk (sstp (ssD s) (cdL (ssK s)) (cdD (ssK s)) (fogd (ssD s) (cdS (ssK s))) (cdT (ssK s))) (tdN (ssD s))))) 28 4 (hI m2 28 4 + 1) = m3 ∧ XS m3 c (row1 s) ∧ Fr SX m m3 := by
  obtain ⟨a1, a2, a3, a4⟩ := hX.2.1
  obtain ⟨m1, e1, u1, f1⟩ := x_keep (cdT (ssK s)) hV.2.2.1.1 hX.2.2.1
  have hc := hX.tx
  have hX1 := hX.1.fr f1 (fun k j z1 z2 => by omega)
  have b1 : hJ m1 28 0 = lN (pk (cdT (ssK s)) (tdN (ssD s))) := by rw [f1.J _ _ (by omega)]; exact a1
  have b3 : hI m1 28 3 = cdD (ssK s) := by rw [f1.I _ _ (by omega)]; exact a3
  have b4 : hI m1 28 4 = cdS (ssK s) := by rw [f1.I _ _ (by omega)]; exact a4
  obtain ⟨m2, e2, f2⟩ := x_st (a := 28 + 2) hX1 hV.1 hV.2.1.r (fun b hb => by rw [f1.I _ _ (by omega)]; exact (a2 b hb).2) (by omega) (fogd (ssD s) (cdS (ssK s)))
  refine ⟨m1, m2, _, by rw [a1]; exact e1, by rw [b4]; exact x_isFog hX1 hV.1 _, by rw [b1, b3]; exact e2, rfl, ?_⟩
  have g1 : Fr (fun k j => (24 ≤ k ∧ k ≤ 25) ∨ k = 32 ∨ k = 33 ∨ k = 28) m m2 := (f1.mono (fun k j z => by omega)).tr (f2.mono (fun k j z => by omega))
  have hf := (g1.tJ (k := 28) (j := 0) (lN (pk (sstp (ssD s) (cdL (ssK s)) (cdD (ssK s)) (fogd (ssD s) (cdS (ssK s))) (cdT (ssK s))) (tdN (ssD s)))) (by omega)).tI (k := 28) (j := 4) (hI m2 28 4 + 1) (by omega)
  refine ⟨hX.ku hf (fun k j z => by unfold xk; omega) ⟨?_, fun b hb => ⟨?_, ?_⟩, ?_, ?_⟩ ?_, hf.mono (fun k j z => by show ¬ _; omega)⟩
  · rw [hJ_tI, hJ_tJ, if_pos ⟨rfl, rfl⟩]; rfl
  · rw [hf.I _ _ (by omega)]; exact (a2 b hb).1
  · rw [hf.I _ _ (by omega)]; exact (a2 b hb).2
  · rw [hI_tI, if_neg (by omega), hI_tJ, f2.I _ _ (by omega)]; exact b3
  · rw [hI_tI, if_pos ⟨rfl, rfl⟩, f2.I _ _ (by omega), b4]; rfl
  · refine (u1.fr f2 (fun k j z1 z2 => by omega)).fr (S := fun k j => k = 28) ((Fr.rf.tJ _ (by omega)).tI _ (by omega)) (fun k j z1 z2 => by omega)
theorem k_row_x1 (hX : XS m c s) (hV : VS s) {n : Nat} (hn : n ≤ 100) : OkX m c (F_X11_row c (nI n) m) (cdS (ssK (rowN s n))) (rowN s n) := by
  unfold F_X11_row
  rw [if_neg (nI_pos (by omega)), lit_100, if_pos (nI_le hn (by omega))]
  have key : ∃ e, loop (g_X11_row_14 c (nI n)) ((0 : Int32), m) = some e ∧ XS e c (rowN s n) ∧ Fr SX m e := by
    refine loop_to n (fun k z => z.1 = nI k ∧ XS z.2 c (rowN s k) ∧ Fr SX m z.2) _ (by omega) ?_ ?_ ⟨rfl, hX, Fr.rf⟩
    · rintro k ⟨x, m1⟩ hk ⟨i1, i2, i3⟩
      dsimp only at i1 i2 i3
      subst i1
      show ∃ s', f_X11_row_14 c (nI n) (nI k) m1 = some (Sum.inl s') ∧ _
      obtain ⟨n1, n2, n3, e1, e2, e3, e4, e5, e6⟩ := x_row1 i2 (v_row hV k)
      unfold f_X11_row_14
      rw [if_neg (nI_ge hk (by omega)), e1, bind_s, e2, bind_s]
      dsimp only
      rw [e3, bind_s]
      dsimp only
      rw [qJ_e, bind_s, qI_e, bind_s, nmI_e, bind_s]
      refine ⟨_, rfl, nI_1 k, ?_, ?_⟩
      · rw [hI_tJ, e4]; exact e5
      · rw [hI_tJ, e4]; exact i3.tr e6
    · rintro ⟨x, m1⟩ ⟨i1, i2, i3⟩
      dsimp only at i1 i2 i3
      subst i1
      show ∃ e, f_X11_row_14 c (nI n) (nI n) m1 = some (Sum.inr e) ∧ _
      unfold f_X11_row_14
      rw [if_pos (nI_le (Nat.le_refl _) (by omega))]
      exact ⟨_, rfl, i2, i3⟩
  obtain ⟨e, e1, e2, e3⟩ := key
  rw [e1, bind_s, e2.2.1.2.2.2]
  exact ⟨e, rfl, e2, e3⟩
theorem k_row_x0 (hX : XS m c s) {x : Int32} (h : ¬ isR 0 100 x) : OkX m c (F_X11_row c x m) (-1) s := by
  rw [isRx (by omega) (by omega), show nI 0 = 0 from rfl] at h
  unfold F_X11_row
  by_cases h1 : x < 0
  · rw [if_pos h1]
    exact OkX.same hX
  · rw [if_neg h1, lit_100, if_neg (fun z => h ⟨h1, fun z2 => lt_nle z2 z⟩)]
    exact OkX.same hX
/-! the reference's -/
abbrev SRW : Nat → Nat → Prop := fun k j => k = 96 ∨ k = 97 ∨ k = 99 ∨ k = 100 ∨ k = 101 ∨ (k = 56 ∧ (j = 60 ∨ j = 61 ∨ j = 71))
theorem m_shift {n u : Nat} {h : Nat → Nat → Nat} {x y : Int32} (hn : n ≤ 12) (hU : MU m n 100 h) : ∃ m', loop (g_X12_row_34 x y) ((0 : Int32), m) = some m' ∧ (∀ i, i < 99 → ∀ b, b < n → hI m' 96 (12 * i + b) = nI (h (i + 1) b)) ∧ Fr (fun k _ => k = 96) m m' := by
  obtain ⟨N, hN⟩ : ∃ N, N = 1188 := ⟨_, rfl⟩
  have hN' : nI N = 1188 := by rw [hN]; rfl
  have key : ∃ e, loop (g_X12_row_34 x y) ((0 : Int32), m) = some e ∧ (∀ j, j < N → hI e 96 j = hI m 96 (j + 12)) ∧ Fr (fun k _ => k = 96) m e := by
    refine loop_to N (fun k z => z.1 = nI k ∧ (∀ j, hI z.2 96 j = if j < k then hI m 96 (j + 12) else hI m 96 j) ∧ Fr (fun k _ => k = 96) m z.2) _ (by omega) ?_ ?_ ⟨rfl, fun j => by rw [if_neg (by omega)], Fr.rf⟩
    · rintro k ⟨x1, m1⟩ hk ⟨i1, i2, i3⟩
      dsimp only at i1 i2 i3
      subst i1
      show ∃ s', f_X12_row_34 x y (nI k) m1 = some (Sum.inl s') ∧ _
      unfold f_X12_row_34
      rw [← hN', if_neg (nI_ge hk (by omega)), lit_12, nI_add, aI_n _ 96 (show k + 12 < 1200 by omega) (by omega), bind_s, bI_n _ 96 _ (show k < 1200 by omega) (by omega), bind_s, nmI_e, bind_s]
      refine ⟨_, rfl, nI_1 k, fun j => ?_, i3.tI _ rfl⟩
      rw [hI_tI]
      by_cases e : j = k
      · subst e
        rw [if_pos ⟨rfl, rfl⟩, if_pos (by omega), i2, if_neg (by omega)]
      · rw [if_neg (fun z => e z.2), i2]
        by_cases e2 : j < k
        · rw [if_pos e2, if_pos (by omega)]
        · rw [if_neg e2, if_neg (by omega)]
    · rintro ⟨x1, m1⟩ ⟨i1, i2, i3⟩
      dsimp only at i1 i2 i3
      subst i1
      show ∃ e, f_X12_row_34 x y (nI N) m1 = some (Sum.inr e) ∧ _
      unfold f_X12_row_34
      rw [← hN', if_pos (nI_le (Nat.le_refl _) (by omega))]
      exact ⟨_, rfl, fun j hj => by rw [i2, if_pos hj], i3⟩
  obtain ⟨e, e1, e2, e3⟩ := key
  refine ⟨e, e1, fun i hi b hb => ?_, e3⟩
  rw [e2 _ (by omega), ← hU.2 (i + 1) (by omega) b hb, show 12 * i + b + 12 = 12 * (i + 1) + b by omega]
theorem m_row72 {d : TD} {N i u : Nat} {L : Nat → Int32} {D S : Int32} {t : Nat → Nat} {h : Nat → Nat → Nat} (hM : MT m l d) (hV : VT d) (hR : RwM m (tdN d) (tdG d) D L t) (hr : VR d L D t) (hu : u < 100) (hU : MU m (tdN d) u h) (hS : hI m 56 60 = S) (hi : i < N) (hN : N ≤ 100) : ∃ m', f_X12_row_72 (nI N) (nI i) m = some (Sum.inl (nI (i + 1), m')) ∧ RwM m' (tdN d) (tdG d) D L (sstp d L D (fogd d S) t) ∧ MU m' (tdN d) (u + 1) (fun i => if i = u then t else h i) ∧ hI m' 56 60 = S + 1 ∧ Fr SRW m m' := by
  have hn := hV.n
  unfold f_X12_row_72
  have key : ∃ e, loop (g_X12_row_74 (nI N) (nI i)) ((0 : Int32), m) = some e ∧ (∀ b, b < tdN d → hI e 96 (12 * u + b) = nI (t b)) ∧ Fr (fun k j => k = 96 ∧ 12 * u ≤ j) m e := by
    refine loop_to (tdN d) (fun k z => z.1 = nI k ∧ (∀ b, b < k → hI z.2 96 (12 * u + b) = nI (t b)) ∧ Fr (fun k j => k = 96 ∧ 12 * u ≤ j) m z.2) _ (by omega) ?_ ?_ ⟨rfl, fun b hb => by omega, Fr.rf⟩
    · rintro k ⟨x, m1⟩ hk ⟨i1, i2, i3⟩
      dsimp only at i1 i2 i3
      subst i1
      show ∃ s', f_X12_row_74 (nI N) (nI i) (nI k) m1 = some (Sum.inl s') ∧ _
      obtain ⟨r1, r2, r3, r4, r5⟩ := hR.fr i3 (fun k j h z => by omega)
      unfold f_X12_row_74
      rw [r1, if_neg (nI_ge hk (by omega)), aI_n _ 97 (show k < 12 by omega) (by omega), bind_s, r4 k hk, show hI m1 56 61 = nI u from by rw [i3.I _ _ (by omega)]; exact hU.1, lit_12, pk_mul, nI_add, bI_n _ 96 _ (show 12 * u + k < 1200 by omega) (by omega), bind_s, nmI_e, bind_s]
      refine ⟨_, rfl, nI_1 k, fun b hb => ?_, i3.tI _ ⟨rfl, by omega⟩⟩
      rw [hI_tI]
      by_cases e : b = k
      · subst e
        rw [if_pos ⟨rfl, rfl⟩]
      · rw [if_neg (by omega)]
        exact i2 b (by omega)
    · rintro ⟨x, m1⟩ ⟨i1, i2, i3⟩
      dsimp only at i1 i2 i3
      subst i1
      show ∃ e, f_X12_row_74 (nI N) (nI i) (nI (tdN d)) m1 = some (Sum.inr e) ∧ _
      obtain ⟨r1, r2, r3, r4, r5⟩ := hR.fr i3 (fun k j h z => by omega)
      unfold f_X12_row_74
      rw [r1, if_pos (nI_le (Nat.le_refl _) (by omega))]
      exact ⟨_, rfl, i2, i3⟩
  obtain ⟨m1, e1, g1, f1⟩ := key
  rw [e1, bind_s, qI_e, bind_s, show hI m1 56 61 = nI u from by rw [f1.I _ _ (by omega)]; exact hU.1, nI_1]
  have f2 := (f1.mono (S' := SRW) (fun k j z => by omega)).tI (k := 56) (j := 61) (nI (u + 1)) (by omega)
  have g2 : hI (tI m1 56 61 (nI (u + 1))) 56 61 = nI (u + 1) := by rw [hI_tI, if_pos ⟨rfl, rfl⟩]
  have g3 : ∀ j, hI (tI m1 56 61 (nI (u + 1))) 96 j = hI m1 96 j := fun j => by rw [hI_tI, if_neg (by omega)]
  have g4 : hI (tI m1 56 61 (nI (u + 1))) 56 60 = S := by rw [hI_tI, if_neg (by omega), f1.I _ _ (by omega)]; exact hS
  have hR2 : RwM (tI m1 56 61 (nI (u + 1))) (tdN d) (tdG d) D L t := (hR.fr f1 (fun k j h z => by omega)).fr (S := fun k j => k = 56 ∧ j = 61) (Fr.rf.tI _ ⟨rfl, rfl⟩) (fun k j h z => by omega)
  generalize tI m1 56 61 (nI (u + 1)) = m2 at f2 g2 g3 g4 hR2 ⊢
  have hM2 := hM.fr f2 (fun k j h z => by omega)
  rw [g4, m_isFog hM2 hV, bind_s]
  dsimp only
  obtain ⟨m3, e3, R3, f3⟩ := m_st hM2 hV hR2 hn hr.2.1 hr.2.2 hr.1 (fogd d S)
  rw [e3, bind_s, qI_e, bind_s, nmI_e, bind_s, show hI m3 56 60 = S from by rw [f3.I _ _ (by omega)]; exact g4, nI_1]
  have f4 := (f2.tr (f3.mono (S' := SRW) (fun k j z => by omega))).tI (k := 56) (j := 60) (S + 1) (by omega)
  refine ⟨_, rfl, R3.fr (S := fun k j => k = 56 ∧ j = 60) (Fr.rf.tI _ ⟨rfl, rfl⟩) (fun k j h z => by omega), ⟨?_, fun j hj b hb => ?_⟩, by rw [hI_tI, if_pos ⟨rfl, rfl⟩], f4⟩
  · rw [hI_tI, if_neg (by omega), f3.I _ _ (by omega)]; exact g2
  · rw [hI_tI, if_neg (by omega), f3.I _ _ (by omega), g3]
    show _ = nI ((if j = u then t else h j) b)
    by_cases e : j = u
    · rw [if_pos e, e]; exact g1 b hb
    · rw [if_neg e, f1.I _ _ (by omega)]; exact hU.2 j (by omega) b hb
theorem m_rowstep {d : TD} {N i u : Nat} {L : Nat → Int32} {D S : Int32} {t : Nat → Nat} {h : Nat → Nat → Nat} (hM : MT m l d) (hV : VT d) (hR : RwM m (tdN d) (tdG d) D L t) (hr : VR d L D t) (hu : u ≤ 100) (hU : MU m (tdN d) u h) (hS : hI m 56 60 = S) (hi : i < N) (hN : N ≤ 100) : ∃ m', f_X12_row_18 (nI N) (nI i) m = some (Sum.inl (nI (i + 1), m')) ∧ RwM m' (tdN d) (tdG d) D L (sstp d L D (fogd d S) t) ∧ MU m' (tdN d) (hkp u h t).1 (hkp u h t).2 ∧ hI m' 56 60 = S + 1 ∧ Fr SRW m m' := by
  unfold f_X12_row_18
  rw [if_neg (nI_ge hi (by omega)), hU.1, lit_100]
  by_cases hc : u < 100
  · rw [if_neg (fun z => by have := (nI_eq (by omega) (by omega)).mp z; omega)]
    unfold hkp
    rw [if_pos hc]
    exact m_row72 hM hV hR hr hc hU hS hi hN
  · have : u = 100 := by omega
    subst this
    rw [if_pos rfl]
    obtain ⟨m1, e1, g1, f1⟩ := m_shift (u := 0) (x := nI N) (y := nI i) hV.n hU
    rw [e1, bind_s, qI_e, bind_s, show hI m1 56 61 = nI 100 from by rw [f1.I _ _ (by omega)]; exact hU.1, show nI 100 - 1 = nI (100 - 1) from nI_pred 99]
    have f2 := (f1.mono (S' := SRW) (fun k j z => by omega)).tI (k := 56) (j := 61) (nI (100 - 1)) (by omega)
    have hU2 : MU (tI m1 56 61 (nI (100 - 1))) (tdN d) 99 (fun i => h (i + 1)) := ⟨by rw [hI_tI, if_pos ⟨rfl, rfl⟩], fun i hi b hb => by rw [hI_tI, if_neg (by omega)]; exact g1 i hi b hb⟩
    obtain ⟨m3, e3, R3, U3, S3, f3⟩ := m_row72 (hM.fr f2 (fun k j h z => by omega)) hV ((hR.fr f1 (fun k j h z => by omega)).fr (S := fun k j => k = 56 ∧ j = 61) (Fr.rf.tI (m := m1) (nI (100 - 1)) ⟨rfl, rfl⟩) (fun k j h z => by omega)) hr (by omega) hU2 ((show hI (tI m1 56 61 (nI (100 - 1))) 56 60 = hI m1 56 60 from by rw [hI_tI, if_neg (by omega)]).trans ((f1.I 56 60 (by omega)).trans hS)) hi hN
    rw [e3]
    exact ⟨m3, rfl, R3, U3, S3, f2.tr f3⟩
theorem rowN_u (s : SS) : ∀ k, rowN s k = sKU s (ssK (rowN s k)) (ssHU (rowN s k)) ∧ cdM (ssK (rowN s k)) = cdM (ssK s) ∧ cdL (ssK (rowN s k)) = cdL (ssK s) ∧ cdD (ssK (rowN s k)) = cdD (ssK s)
  | 0 => ⟨rfl, rfl, rfl, rfl⟩
  | k + 1 => by
    obtain ⟨h1, h2, h3, h4⟩ := rowN_u s k
    refine ⟨?_, h2, h3, h4⟩
    have e1 : (rowN s k).1 = s.1 := congrArg (fun x => x.1) h1
    have e2 : (rowN s k).2.2.2 = s.2.2.2 := congrArg (fun x => x.2.2.2) h1
    have : ∀ (p q : TD) (a : CD) (b : Nat × (Nat → Nat → Nat)) (y z : ((Nat → Bool) × (Nat → CD)) × (Nat × (Nat → Int32) × (Nat → Int32) × (Nat → Int32)) × (Nat × (Nat → Int32)) × Int32), p = q → y = z → ((p, a, b, y) : SS) = (q, a, b, z) := by
      rintro p q a b y z rfl rfl
      rfl
    exact this _ _ _ _ _ _ e1 e2
theorem k_row_m1 (hM : MS m l s) (hV : VS s) {n : Nat} (hn : n ≤ 100) : OkM m l (F_X12_row (nI n) m) (cdS (ssK (rowN s n))) (rowN s n) := by
  have hN := hV.n
  obtain ⟨a1, a2, a3, a4⟩ := hM.2.1
  unfold F_X12_row
  rw [lit_0, lit_100, (inR (by omega) (by omega) _).1 ⟨n, by omega, hn, rfl⟩, bind_s]
  dsimp only
  obtain ⟨m1, e1, R1, f1⟩ := m_takes hM.lv hM.l2 hM.n hN hM.2.1
  rw [← lit_0, if_neg (by decide), e1, bind_s]
  have dk : ∀ k, ssD (rowN s k) = ssD s := fun k => by rw [(rowN_u s k).1]; rfl
  have key : ∃ e, loop (g_X12_row_18 (nI n)) ((0 : Int32), m1) = some e ∧ RwM e (tdN (ssD s)) (tdG (ssD s)) (cdD (ssK s)) (cdL (ssK s)) (cdT (ssK (rowN s n))) ∧ MU e (tdN (ssD s)) (ssU (rowN s n)) (ssH (rowN s n)) ∧ hI e 56 60 = cdS (ssK (rowN s n)) ∧ Fr SRW m1 e := by
    refine loop_to n (fun k z => z.1 = nI k ∧ RwM z.2 (tdN (ssD s)) (tdG (ssD s)) (cdD (ssK s)) (cdL (ssK s)) (cdT (ssK (rowN s k))) ∧ MU z.2 (tdN (ssD s)) (ssU (rowN s k)) (ssH (rowN s k)) ∧ hI z.2 56 60 = cdS (ssK (rowN s k)) ∧ Fr SRW m1 z.2) _ (by omega) ?_ ?_ ⟨rfl, R1, hM.2.2.1.fr f1 (fun k j z1 z2 => by omega), by rw [f1.I _ _ (by omega)]; exact a4, Fr.rf⟩
    · rintro k ⟨x, m2⟩ hk ⟨i1, i2, i3, i4, i5⟩
      dsimp only at i1 i2 i3 i4 i5
      subst i1
      show ∃ s', f_X12_row_18 (nI n) (nI k) m2 = some (Sum.inl s') ∧ _
      have hVk := v_row hV k
      obtain ⟨q1, q2, q3, q4⟩ := rowN_u s k
      have hr := hVk.2.1.r
      rw [dk, q3, q4] at hr
      obtain ⟨m3, e3, R3, U3, S3, f3⟩ := m_rowstep (N := n) (i := k) ((hM.1.fr f1 (fun k j h z => by omega)).fr i5 (fun k j h z => by omega)) hV.1 i2 hr hVk.2.2.1.1 i3 i4 hk hn
      rw [e3]
      refine ⟨_, rfl, rfl, ?_, ?_, ?_, i5.tr f3⟩
      · have : cdT (ssK (rowN s (k + 1))) = sstp (ssD (rowN s k)) (cdL (ssK (rowN s k))) (cdD (ssK (rowN s k))) (fogd (ssD (rowN s k)) (cdS (ssK (rowN s k)))) (cdT (ssK (rowN s k))) := rfl
        rw [this, dk, q3, q4]
        exact R3
      · exact U3
      · exact S3
    · rintro ⟨x, m2⟩ ⟨i1, i2, i3, i4, i5⟩
      dsimp only at i1 i2 i3 i4 i5
      subst i1
      show ∃ e, f_X12_row_18 (nI n) (nI n) m2 = some (Sum.inr e) ∧ _
      unfold f_X12_row_18
      rw [if_pos (nI_le (Nat.le_refl _) (by omega))]
      exact ⟨_, rfl, i2, i3, i4, i5⟩
  obtain ⟨m2, e2, R2, U2, S2, f2⟩ := key
  rw [e2, bind_s]
  have key2 : ∃ e, loop g_X12_row_148 ((0 : Int32), m2) = some e ∧ (∀ b, b < tdN (ssD s) → hI e 93 b = nI (cdT (ssK (rowN s n)) b)) ∧ Fr (fun k _ => k = 93) m2 e := by
    refine loop_to (tdN (ssD s)) (fun k z => z.1 = nI k ∧ (∀ b, b < k → hI z.2 93 b = nI (cdT (ssK (rowN s n)) b)) ∧ Fr (fun k _ => k = 93) m2 z.2) _ (by omega) ?_ ?_ ⟨rfl, fun b hb => by omega, Fr.rf⟩
    · rintro k ⟨x, m3⟩ hk ⟨i1, i2, i3⟩
      dsimp only at i1 i2 i3
      subst i1
      show ∃ s', f_X12_row_148 (nI k) m3 = some (Sum.inl s') ∧ _
      obtain ⟨r1, r2, r3, r4, r5⟩ := R2.fr i3 (fun k j h z => by omega)
      unfold f_X12_row_148
      rw [r1, if_neg (nI_ge hk (by omega)), aI_n _ 97 (show k < 12 by omega) (by omega), bind_s, r4 k hk, bI_n _ 93 _ (show k < 12 by omega) (by omega), bind_s, nmI_e, bind_s]
      refine ⟨_, rfl, nI_1 k, fun b hb => ?_, i3.tI _ rfl⟩
      rw [hI_tI]
      by_cases e : b = k
      · subst e
        rw [if_pos ⟨rfl, rfl⟩]
      · rw [if_neg (by omega)]
        exact i2 b (by omega)
    · rintro ⟨x, m3⟩ ⟨i1, i2, i3⟩
      dsimp only at i1 i2 i3
      subst i1
      show ∃ e, f_X12_row_148 (nI (tdN (ssD s))) m3 = some (Sum.inr e) ∧ _
      obtain ⟨r1, r2, r3, r4, r5⟩ := R2.fr i3 (fun k j h z => by omega)
      unfold f_X12_row_148
      rw [r1, if_pos (nI_le (Nat.le_refl _) (by omega))]
      exact ⟨_, rfl, i2, i3⟩
  obtain ⟨m3, e3, g3, f3⟩ := key2
  have S3 : hI m3 56 60 = cdS (ssK (rowN s n)) := by rw [f3.I _ _ (by omega)]; exact S2
  rw [e3, bind_s, S3]
  have ff : Fr (fun k j => SRW k j ∨ StM k j ∨ k = 93) m m3 := ((f1.mono (fun k j z => Or.inr (Or.inl z))).tr (f2.mono (fun k j z => Or.inl z))).tr (f3.mono (fun k j z => Or.inr (Or.inr z)))
  obtain ⟨q1, q2, q3, q4⟩ := rowN_u s n
  refine ⟨m3, rfl, ?_, ff.mono (fun k j z => by omega)⟩
  rw [q1]
  refine hM.ku ff (fun k j z => by unfold mk2; omega) ⟨fun b hb => ⟨g3 b hb, ?_, ?_⟩, ?_, ?_, S3⟩ (U2.fr f3 (fun k j z1 z2 => by omega))
  · rw [q2, ff.I _ _ (by omega)]; exact (a1 b hb).2.1
  · rw [q3, ff.I _ _ (by omega)]; exact (a1 b hb).2.2
  · rw [q4, ff.I _ _ (by omega)]; exact a2
  · rw [ff.I _ _ (by omega)]; exact a3
theorem k_row_m0 (hM : MS m l s) {x : Int32} (h : ¬ isR 0 100 x) : OkM m l (F_X12_row x m) (-1) s := by
  unfold F_X12_row
  rw [lit_0, lit_100, (inR (by omega) (by omega) _).2 h, bind_s]
  exact OkM.same hM
end K6
