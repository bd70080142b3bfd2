/-! ===== feed ===== -/
section K5
variable {m : M2} {c l : Nat} {s : SS}
def wby (x : Int32) (k : Nat) : Int32 := (x >>> (iI (24 - 8 * k) &&& 31)).toInt8.toInt32.toInt8.toInt32
def yw (T : Nat) (Y : Nat → Int32) (x : Int32) (k : Nat) : Nat → Int32 := fun i => if T ≤ i ∧ i < T + k then wby x (i - T) else Y i
theorem yw_up {T : Nat} {Y : Nat → Int32} {x : Int32} {k i : Nat} : (if i = T + k then wby x k else yw T Y x k i) = yw T Y x (k + 1) i := by
  unfold yw
  by_cases e : i = T + k
  · rw [if_pos e, if_pos (by omega)]
    congr 1
    omega
  · rw [if_neg e]
    by_cases e2 : T ≤ i ∧ i < T + k
    · rw [if_pos e2, if_pos (by omega)]
    · rw [if_neg e2, if_neg (by omega)]
theorem sh8 : ∀ k : Nat, k < 4 → ¬ iI (24 - 8 * k) < 0 ∧ iI (24 - 8 * k) + (-8 : Int32) = iI (24 - 8 * (k + 1 : Nat)) := by decide
theorem x_tapeWord {T : Nat} {Y : Nat → Int32} (x : Int32) (hT : T + 4 ≤ 2000) (h1 : hI m 0 1 = nI T) (h2 : ∀ i, hI m 1 i = Y i) : ∃ m', F_X11_tapeWord c x m = some m' ∧ hI m' 0 1 = nI (T + 4) ∧ (∀ i, hI m' 1 i = yw T Y x 4 i) ∧ Fr (fun k j => (k = 0 ∧ j = 1) ∨ k = 1) m m' := by
  unfold F_X11_tapeWord
  have key : ∃ e, loop (g_X11_tapeWord_3 c x) ((24 : Int32), m) = some e ∧ hI e 0 1 = nI (T + 4) ∧ (∀ i, hI e 1 i = yw T Y x 4 i) ∧ Fr (fun k j => (k = 0 ∧ j = 1) ∨ k = 1) m e := by
    refine loop_to 4 (fun k z => z.1 = iI (24 - 8 * k) ∧ hI z.2 0 1 = nI (T + k) ∧ (∀ i, hI z.2 1 i = yw T Y x k i) ∧ Fr (fun k j => (k = 0 ∧ j = 1) ∨ k = 1) m z.2) _ (by omega) ?_ ?_ ⟨rfl, h1, fun i => by rw [h2]; unfold yw; rw [if_neg (by omega)], Fr.rf⟩
    · rintro k ⟨y, m1⟩ hk ⟨i1, i2, i3, i4⟩
      dsimp only at i1 i2 i3 i4
      subst i1
      show ∃ s', f_X11_tapeWord_3 c x (iI (24 - 8 * k)) m1 = some (Sum.inl s') ∧ _
      obtain ⟨j1, j2⟩ := sh8 k hk
      unfold f_X11_tapeWord_3
      rw [if_neg j1, i2, bB_n _ 1 _ (show T + k < 2000 by omega) (by omega), bind_s, by_eq x k hk, qI_e, bind_s, nmI_e, bind_s, j2]
      rw [show hI (tI m1 1 (T + k) (x >>> (iI (24 - 8 * k) &&& 31)).toInt8.toInt32.toInt8.toInt32) 0 1 = nI (T + k) from by rw [hI_tI, if_neg (by omega)]; exact i2, nI_1]
      refine ⟨_, rfl, rfl, by rw [hI_tI, if_pos ⟨rfl, rfl⟩]; rfl, fun i => ?_, (i4.tI _ (by omega)).tI _ (by omega)⟩
      rw [← yw_up, hI_tI, if_neg (by omega), hI_tI]
      by_cases e : i = T + k
      · rw [if_pos ⟨rfl, e⟩, if_pos e]
        rfl
      · rw [if_neg (fun z => e z.2), if_neg e]
        exact i3 i
    · rintro ⟨y, m1⟩ ⟨i1, i2, i3, i4⟩
      dsimp only at i1 i2 i3 i4
      subst i1
      show ∃ e, f_X11_tapeWord_3 c x (iI (24 - 8 * (4 : Nat))) m1 = some (Sum.inr e) ∧ _
      unfold f_X11_tapeWord_3
      rw [if_pos (by decide)]
      exact ⟨_, rfl, i2, i3, i4⟩
  obtain ⟨e, e1, e2⟩ := key
  rw [e1, bind_s]
  exact ⟨e, rfl, e2⟩
theorem m_put {T : Nat} {Y : Nat → Int32} (x : Int32) (hT : T + 4 ≤ 2000) (h1 : hI m 56 2 = nI T) (h2 : ∀ i, hI m 57 i = Y i) : ∃ m', F_X12_put x m = some m' ∧ hI m' 56 2 = nI (T + 4) ∧ (∀ i, hI m' 57 i = yw T Y x 4 i) ∧ Fr (fun k j => (k = 56 ∧ j = 2) ∨ k = 57) m m' := by
  unfold F_X12_put
  have key : ∃ e, loop (g_X12_put_3 x) ((24 : Int32), m) = some e ∧ hI e 56 2 = nI (T + 4) ∧ (∀ i, hI e 57 i = yw T Y x 4 i) ∧ Fr (fun k j => (k = 56 ∧ j = 2) ∨ k = 57) m e := by
    refine loop_to 4 (fun k z => z.1 = iI (24 - 8 * k) ∧ hI z.2 56 2 = nI (T + k) ∧ (∀ i, hI z.2 57 i = yw T Y x k i) ∧ Fr (fun k j => (k = 56 ∧ j = 2) ∨ k = 57) m z.2) _ (by omega) ?_ ?_ ⟨rfl, h1, fun i => by rw [h2]; unfold yw; rw [if_neg (by omega)], Fr.rf⟩
    · rintro k ⟨y, m1⟩ hk ⟨i1, i2, i3, i4⟩
      dsimp only at i1 i2 i3 i4
      subst i1
      show ∃ s', f_X12_put_3 x (iI (24 - 8 * k)) m1 = some (Sum.inl s') ∧ _
      obtain ⟨j1, j2⟩ := sh8 k hk
      unfold f_X12_put_3
      rw [if_neg j1, i2, bB_n _ 57 _ (show T + k < 2000 by omega) (by omega), bind_s, qI_e, bind_s, nmI_e, bind_s, j2]
      rw [show hI (tI m1 57 (T + k) (x >>> (iI (24 - 8 * k) &&& 31)).toInt8.toInt32.toInt8.toInt32) 56 2 = nI (T + k) from by rw [hI_tI, if_neg (by omega)]; exact i2, nI_1]
      refine ⟨_, rfl, rfl, by rw [hI_tI, if_pos ⟨rfl, rfl⟩]; rfl, fun i => ?_, (i4.tI _ (by omega)).tI _ (by omega)⟩
      rw [← yw_up, hI_tI, if_neg (by omega), hI_tI]
      by_cases e : i = T + k
      · rw [if_pos ⟨rfl, e⟩, if_pos e]
        rfl
      · rw [if_neg (fun z => e z.2), if_neg e]
        exact i3 i
    · rintro ⟨y, m1⟩ ⟨i1, i2, i3, i4⟩
      dsimp only at i1 i2 i3 i4
      subst i1
      show ∃ e, f_X12_put_3 x (iI (24 - 8 * (4 : Nat))) m1 = some (Sum.inr e) ∧ _
      unfold f_X12_put_3
      rw [if_pos (by decide)]
      exact ⟨_, rfl, i2, i3, i4⟩
  obtain ⟨e, e1, e2⟩ := key
  rw [e1, bind_s]
  exact ⟨e, rfl, e2⟩
def y5 (T : Nat) (Y : Nat → Int32) (a b d e f : Int32) : Nat → Int32 := yw (T + 4 + 4 + 4 + 4) (yw (T + 4 + 4 + 4) (yw (T + 4 + 4) (yw (T + 4) (yw T Y a 4) b 4) d 4) e 4) f 4
def sFeed (s : SS) (a b d e f : Int32) : SS := sY s (ssT s + 20, y5 (ssT s) (ssY s) a b d e f)
theorem k_feed_x1 (hX : XS m c s) (h : ssT s ≤ 1980) (a b d e f : Int32) : OkX m c (F_X11_feed c a b d e f m) (nI (ssT s + 20)) (sFeed s a b d e f) := by
  obtain ⟨y1, y2⟩ := hX.2.2.2.2.2.1
  unfold F_X11_feed
  rw [y1, show (1980 : Int32) = nI 1980 from rfl, if_pos (nI_le h (by omega))]
  obtain ⟨m1, e1, a1, b1, f1⟩ := x_tapeWord (c := c) a (by omega) y1 y2
  obtain ⟨m2, e2, a2, b2, f2⟩ := x_tapeWord (c := c) b (by omega) a1 b1
  obtain ⟨m3, e3, a3, b3, f3⟩ := x_tapeWord (c := c) d (by omega) a2 b2
  obtain ⟨m4, e4, a4, b4, f4⟩ := x_tapeWord (c := c) e (by omega) a3 b3
  obtain ⟨m5, e5, a5, b5, f5⟩ := x_tapeWord (c := c) f (by omega) a4 b4
  rw [e1, bind_s, e2, bind_s, e3, bind_s, e4, bind_s, e5, bind_s, a5]
  have hf := (((f1.tr f2).tr f3).tr f4).tr f5
  exact ⟨m5, rfl, hX.sy hf (fun k j z => by omega) ⟨a5, b5⟩, hf.mono (fun k j z => by show ¬ _; omega)⟩
theorem k_feed_x0 (hX : XS m c s) (hV : VS s) (h : ¬ ssT s ≤ 1980) (a b d e f : Int32) : OkX m c (F_X11_feed c a b d e f m) (-1) s := by
  have ht := hV.2.2.2.2.2
  obtain ⟨y1, y2⟩ := hX.2.2.2.2.2.1
  unfold F_X11_feed
  rw [y1, show (1980 : Int32) = nI 1980 from rfl, if_neg (nI_ge (by omega) (by omega))]
  exact OkX.same hX
theorem k_feed_m1 (hM : MS m l s) (h : ssT s ≤ 1980) (a b d e f : Int32) : OkM m l (F_X12_feed a b d e f m) (nI (ssT s + 20)) (sFeed s a b d e f) := by
  obtain ⟨y1, y2⟩ := hM.2.2.2.2.2.1
  unfold F_X12_feed
  rw [y1, lit_20, nI_add, lit_2000, if_pos (nI_le (by omega) (by omega))]
  obtain ⟨m1, e1, a1, b1, f1⟩ := m_put a (by omega) y1 y2
  obtain ⟨m2, e2, a2, b2, f2⟩ := m_put b (by omega) a1 b1
  obtain ⟨m3, e3, a3, b3, f3⟩ := m_put d (by omega) a2 b2
  obtain ⟨m4, e4, a4, b4, f4⟩ := m_put e (by omega) a3 b3
  obtain ⟨m5, e5, a5, b5, f5⟩ := m_put f (by omega) a4 b4
  rw [e1, bind_s, e2, bind_s, e3, bind_s, e4, bind_s, e5, bind_s, a5]
  have hf := (((f1.tr f2).tr f3).tr f4).tr f5
  exact ⟨m5, rfl, hM.sy hf (fun k j z => by omega) ⟨a5, b5⟩, hf.mono (fun k j z => by omega)⟩
theorem k_feed_m0 (hM : MS m l s) (hV : VS s) (h : ¬ ssT s ≤ 1980) (a b d e f : Int32) : OkM m l (F_X12_feed a b d e f m) (-1) s := by
  have ht := hV.2.2.2.2.2
  obtain ⟨y1, y2⟩ := hM.2.2.2.2.2.1
  unfold F_X12_feed
  rw [y1, lit_20, nI_add, lit_2000, if_neg (nI_ge (by omega) (by omega))]
  exact OkM.same hM
theorem v_feed (hV : VS s) (h : ssT s ≤ 1980) (a b d e f : Int32) : VS (sFeed s a b d e f) := by
  obtain ⟨h1, h2, h3, h4, h5, h6⟩ := hV
  exact ⟨h1, h2, h3, h4, h5, by show ssT s + 20 ≤ 2000; omega⟩
/-! undo -/
def sUndo (s : SS) : SS := sKU s (ssH s (ssU s - 1), cdM (ssK s), cdL (ssK s), cdD (ssK s), cdS (ssK s) - 1) (ssU s - 1, ssH s)
theorem mxI_0 {a : Nat} (h : a < 2 ^ 31) : mxI (nI a) 0 = nI a := if_neg (nI_pos h)
theorem k_undo_x1 (hX : XS m c s) (hV : VS s) (h : 0 < ssU s) : OkX m c (F_X11_undo c m) 1 (sUndo s) := by
  have hu := hV.2.2.1.1
  obtain ⟨x, h1, h2, h3, h4⟩ := hX.2.2.1
  obtain ⟨a1, a2, a3, a4⟩ := hX.2.1
  unfold F_X11_undo
  rw [h2, if_neg (nI_ne0 h (by omega))]
  unfold F_X3_takeLast
  rw [h3, lit_100, nI_add, lit_1, pk_sub (by omega), rmI_of (nI_nz (by omega) (by omega)), bind_s, pk_rem (by omega) (by omega) (by omega), qI_e, bind_s, qI_e, bind_s]
  have e1 : hI (tI m 32 2 (nI ((x + 100 - 1) % 100))) 32 1 = nI (ssU s) := by rw [hI_tI, if_neg (by omega)]; exact h2
  rw [e1, pk_sub (by omega), mxI_0 (by omega)]
  have e2 : hI (tI (tI m 32 2 (nI ((x + 100 - 1) % 100))) 32 1 (nI (ssU s - 1))) 32 2 = nI ((x + 100 - 1) % 100) := by rw [hI_tI, if_neg (by omega), hI_tI, if_pos ⟨rfl, rfl⟩]
  rw [e2, aJ_n _ 33 (show (x + 100 - 1) % 100 < 100 by omega) (by omega), bind_s, bind_s]
  dsimp only
  rw [qJ_e, bind_s, qI_e, bind_s]
  have e3 : hJ (tI (tI m 32 2 (nI ((x + 100 - 1) % 100))) 32 1 (nI (ssU s - 1))) 33 ((x + 100 - 1) % 100) = lN (pk (ssH s (ssU s - 1)) (tdN (ssD s))) := by
    show hJ m 33 _ = _
    rw [← h4 (ssU s - 1) (by omega)]
    congr 1
    omega
  rw [e3]
  have f1 : Fr (fun k j => k = 32 ∨ k = 28) m (tJ (tI (tI m 32 2 (nI ((x + 100 - 1) % 100))) 32 1 (nI (ssU s - 1))) 28 0 (lN (pk (ssH s (ssU s - 1)) (tdN (ssD s))))) := ((Fr.rf.tI _ (by omega)).tI _ (by omega)).tJ _ (by omega)
  have e4 : hI (tJ (tI (tI m 32 2 (nI ((x + 100 - 1) % 100))) 32 1 (nI (ssU s - 1))) 28 0 (lN (pk (ssH s (ssU s - 1)) (tdN (ssD s))))) 28 4 = cdS (ssK s) := by rw [hI_tJ, hI_tI, hI_tI, if_neg (by omega), if_neg (by omega)]; exact a4
  have e5 : hI (tJ (tI (tI m 32 2 (nI ((x + 100 - 1) % 100))) 32 1 (nI (ssU s - 1))) 28 0 (lN (pk (ssH s (ssU s - 1)) (tdN (ssD s))))) 28 3 = cdD (ssK s) := by rw [hI_tJ, hI_tI, hI_tI, if_neg (by omega), if_neg (by omega)]; exact a3
  rw [e4]
  have hf := f1.tI (k := 28) (j := 4) (cdS (ssK s) - nI 1) (by omega)
  refine ⟨_, rfl, hX.ku hf (fun k j z => by omega) ⟨?_, fun b hb => ⟨?_, ?_⟩, ?_, ?_⟩ ⟨(x + 100 - 1) % 100, by omega, ?_, ?_, fun i hi => ?_⟩, hf.mono (fun k j z => by show ¬ _; omega)⟩
  · rw [hJ_tI, hJ_tJ, if_pos ⟨rfl, rfl⟩]; rfl
  · rw [hf.I _ _ (by omega)]; exact (a2 b hb).1
  · rw [hf.I _ _ (by omega)]; exact (a2 b hb).2
  · rw [hI_tI, if_neg (by omega)]; exact e5
  · rw [hI_tI, if_pos ⟨rfl, rfl⟩]; rfl
  · rw [hI_tI, if_neg (by omega), hI_tJ, hI_tI, if_pos ⟨rfl, rfl⟩]
  · rw [hI_tI, if_neg (by omega), hI_tJ, hI_tI, if_neg (by omega), hI_tI, if_pos ⟨rfl, rfl⟩]
  · have hi' : i < ssU s - 1 := hi
    rw [hf.J _ _ (by omega)]
    show hJ m 33 (((x + 100 - 1) % 100 + 100 - (ssU s - 1) + i) % 100) = lN (pk (ssH s i) (tdN (ssD s)))
    rw [← h4 i (by omega)]
    congr 1
    omega
theorem k_undo_x0 (hX : XS m c s) (h : ssU s = 0) : OkX m c (F_X11_undo c m) 0 s := by
  obtain ⟨x, h1, h2, h3, h4⟩ := hX.2.2.1
  unfold F_X11_undo
  rw [h2, if_pos (by rw [h]; rfl)]
  exact OkX.same hX
theorem k_undo_m1 (hM : MS m l s) (hV : VS s) (h : 0 < ssU s) : OkM m l (F_X12_undo m) 1 (sUndo s) := by
  have hu := hV.2.2.1.1
  have hn := hV.n
  obtain ⟨h1, h2⟩ := hM.2.2.1
  obtain ⟨a1, a2, a3, a4⟩ := hM.2.1
  unfold F_X12_undo
  rw [h1, if_neg (nI_ne0 h (by omega)), lit_1, pk_sub (by omega), qI_e, bind_s, qI_e, bind_s]
  have e1 : hI (tI m 56 61 (nI (ssU s - 1))) 56 60 = cdS (ssK s) := by rw [hI_tI, if_neg (by omega)]; exact a4
  rw [e1]
  have f0 : Fr (fun k j => k = 93 ∨ (k = 56 ∧ (j = 60 ∨ j = 61))) m (tI (tI m 56 61 (nI (ssU s - 1))) 56 60 (cdS (ssK s) - nI 1)) := (Fr.rf.tI _ (by omega)).tI _ (by omega)
  have g1 : hI (tI (tI m 56 61 (nI (ssU s - 1))) 56 60 (cdS (ssK s) - nI 1)) 56 61 = nI (ssU s - 1) := by rw [hI_tI, if_neg (by omega), hI_tI, if_pos ⟨rfl, rfl⟩]
  have g2 : hI (tI (tI m 56 61 (nI (ssU s - 1))) 56 60 (cdS (ssK s) - nI 1)) 56 60 = cdS (ssK s) - nI 1 := by rw [hI_tI, if_pos ⟨rfl, rfl⟩]
  generalize tI (tI m 56 61 (nI (ssU s - 1))) 56 60 (cdS (ssK s) - nI 1) = m1 at f0 g1 g2 ⊢
  have key : ∃ e, loop g_X12_undo_31 ((0 : Int32), m1) = some e ∧ (∀ b, b < tdN (ssD s) → hI e 93 b = nI (ssH s (ssU s - 1) b)) ∧ Fr (fun k j => k = 93) m1 e := by
    refine loop_to (tdN (ssD s)) (fun k z => z.1 = nI k ∧ (∀ b, b < k → hI z.2 93 b = nI (ssH s (ssU s - 1) b)) ∧ Fr (fun k j => k = 93) m1 z.2) _ (by omega) ?_ ?_ ⟨rfl, fun b hb => by omega, Fr.rf⟩
    · rintro k ⟨x, m2⟩ hk ⟨i1, i2, i3⟩
      dsimp only at i1 i2 i3
      subst i1
      show ∃ s', f_X12_undo_31 (nI k) m2 = some (Sum.inl s') ∧ _
      have hf2 : Fr (fun k j => k = 93 ∨ (k = 56 ∧ (j = 60 ∨ j = 61))) m m2 := f0.tr (i3.mono (fun k j z => by omega))
      unfold f_X12_undo_31
      rw [m_menNow ((hf2.I 56 18 (by omega)).trans hM.lv) hM.l2 ((hf2.I 74 l (by omega)).trans hM.n), bind_s]
      dsimp only
      rw [if_neg (nI_ge hk (by omega)), show hI m2 56 61 = nI (ssU s - 1) from by rw [i3.I _ _ (by omega)]; exact g1, lit_12, pk_mul, nI_add, aI_n _ 96 (show 12 * (ssU s - 1) + k < 1200 by omega) (by omega), bind_s, bI_n _ 93 _ (show k < 12 by omega) (by omega), bind_s, nmI_e, bind_s]
      refine ⟨_, rfl, nI_1 k, fun b hb => ?_, i3.tI _ rfl⟩
      rw [hI_tI]
      by_cases e : b = k
      · subst e
        rw [if_pos ⟨rfl, rfl⟩, hf2.I _ _ (by omega)]
        exact h2 (ssU s - 1) (by omega) b hk
      · rw [if_neg (fun z => e z.2)]
        exact i2 b (by omega)
    · rintro ⟨x, m2⟩ ⟨i1, i2, i3⟩
      dsimp only at i1 i2 i3
      subst i1
      show ∃ e, f_X12_undo_31 (nI (tdN (ssD s))) m2 = some (Sum.inr e) ∧ _
      have hf2 : Fr (fun k j => k = 93 ∨ (k = 56 ∧ (j = 60 ∨ j = 61))) m m2 := f0.tr (i3.mono (fun k j z => by omega))
      unfold f_X12_undo_31
      rw [m_menNow ((hf2.I 56 18 (by omega)).trans hM.lv) hM.l2 ((hf2.I 74 l (by omega)).trans hM.n), bind_s]
      dsimp only
      rw [if_pos (nI_le (Nat.le_refl _) (by omega))]
      exact ⟨_, rfl, i2, i3⟩
  obtain ⟨m2, k1, k2, k3⟩ := key
  rw [k1, bind_s]
  have hf2 : Fr (fun k j => k = 93 ∨ (k = 56 ∧ (j = 60 ∨ j = 61))) m m2 := f0.tr (k3.mono (fun k j z => by omega))
  refine ⟨_, rfl, hM.ku hf2 (fun k j z => by omega) ⟨fun b hb => ⟨k2 b hb, ?_, ?_⟩, ?_, ?_, ?_⟩ ⟨?_, fun i hi b hb => ?_⟩, hf2.mono (fun k j z => by omega)⟩
  · rw [hf2.I _ _ (by omega)]; exact (a1 b hb).2.1
  · rw [hf2.I _ _ (by omega)]; exact (a1 b hb).2.2
  · rw [hf2.I _ _ (by omega)]; exact a2
  · rw [hf2.I _ _ (by omega)]; exact a3
  · rw [k3.I _ _ (by omega)]; exact g2
  · rw [k3.I _ _ (by omega)]; exact g1
  · have hi' : i < ssU s - 1 := hi
    rw [hf2.I _ _ (by omega)]; exact h2 i (by omega) b hb
theorem k_undo_m0 (hM : MS m l s) (h : ssU s = 0) : OkM m l (F_X12_undo m) 0 s := by
  unfold F_X12_undo
  rw [hM.2.2.1.1, if_pos (by rw [h]; rfl)]
  exact OkM.same hM
theorem v_undo (hV : VS s) (h : 0 < ssU s) : VS (sUndo s) := by
  obtain ⟨v1, ⟨a1, a2, a3, a4⟩, ⟨v3, v3'⟩, v4, v5, v7⟩ := hV
  exact ⟨v1, ⟨fun b hb => v3' (ssU s - 1) (by omega) b hb, a2, a3, a4⟩, ⟨by show ssU s - 1 ≤ 100; omega, fun i hi b hb => v3' i (by have hi' : i < ssU s - 1 := hi; omega) b hb⟩, v4, v5, v7⟩
end K5
