/-! ===== still, soon, rubs ===== -/
section K7
variable {m : M2} {c l : Nat} {s : SS}
theorem m_isStill {d : TD} {k : Nat} {L : Nat → Int32} {D : Int32} {t : Nat → Nat} (hM : MT m l d) (hV : VT d) (hR : RwM m k (tdG d) D L t) (hk : k ≤ 12) (hL : LwOk (tdL d) k L) (hD : Dr (tdP d) D) (ht : ∀ b, b < k → t b < tdP d) : ∃ m', ((F_X12_isStill m = some (1, m') ∧ ∀ b, b < k → sstp d L D 0 t b = t b) ∨ (F_X12_isStill m = some (0, m') ∧ ¬ ∀ b, b < k → sstp d L D 0 t b = t b)) ∧ RwM m' k (tdG d) D L t ∧ Fr (fun k j => SrM k j ∨ k = 103) m m' := by
  have hp := hV.p
  unfold F_X12_isStill
  have key1 : ∃ e, loop g_X12_isStill_2 ((0 : Int32), m) = some e ∧ (∀ b, b < k → hI e 103 b = nI (t b)) ∧ Fr (fun k _ => k = 103) m e := by
    refine loop_to k (fun j z => z.1 = nI j ∧ (∀ b, b < j → hI z.2 103 b = nI (t b)) ∧ Fr (fun k _ => k = 103) m z.2) _ (by omega) ?_ ?_ ⟨rfl, fun b hb => by omega, Fr.rf⟩
    · rintro j ⟨x, m1⟩ hj ⟨i1, i2, i3⟩
      dsimp only at i1 i2 i3
      subst i1
      show ∃ s', f_X12_isStill_2 (nI j) m1 = some (Sum.inl s') ∧ _
      obtain ⟨r1, r2, r3, r4, r5⟩ := hR.fr i3 (fun k j h z => by omega)
      unfold f_X12_isStill_2
      rw [r1, if_neg (nI_ge hj (by omega)), aI_n _ 97 (show j < 12 by omega) (by omega), bind_s, r4 j hj, bI_n _ 103 _ (show j < 12 by omega) (by omega), bind_s, nmI_e, bind_s]
      refine ⟨_, rfl, nI_1 j, fun b hb => ?_, i3.tI _ rfl⟩
      rw [hI_tI]
      by_cases e : b = j
      · subst e
        rw [if_pos ⟨rfl, rfl⟩]
      · rw [if_neg (by omega)]
        exact i2 b (by omega)
    · rintro ⟨x, m1⟩ ⟨i1, i2, i3⟩
      dsimp only at i1 i2 i3
      subst i1
      show ∃ e, f_X12_isStill_2 (nI k) m1 = some (Sum.inr e) ∧ _
      obtain ⟨r1, r2, r3, r4, r5⟩ := hR.fr i3 (fun k j h z => by omega)
      unfold f_X12_isStill_2
      rw [r1, if_pos (nI_le (Nat.le_refl _) (by omega))]
      exact ⟨_, rfl, i2, i3⟩
  obtain ⟨m1, e1, g1, f1⟩ := key1
  rw [e1, bind_s]
  obtain ⟨m2, e2, R2, f2⟩ := m_st (hM.fr f1 (fun k j h z => by omega)) hV (hR.fr f1 (fun k j h z => by omega)) hk hL hD ht 0
  rw [e2, bind_s]
  have g2 : ∀ b, b < k → hI m2 103 b = nI (t b) := fun b hb => by rw [f2.I _ _ (by omega)]; exact g1 b hb
  have hs := stp_lt (lag := tdG d) (song := tdS d) (drum := D) (fog := 0) hV.e hL hV.l ht
  have key2 : ∃ e, loop g_X12_isStill_37 ((1 : Int32), (0 : Int32), m2) = some e ∧ ((e.1 = 1 ∧ ∀ b, b < k → sstp d L D 0 t b = t b) ∨ (e.1 = 0 ∧ ¬ ∀ b, b < k → sstp d L D 0 t b = t b)) ∧ (∀ b, b < k → hI e.2 97 b = nI (t b)) ∧ Fr (fun k _ => k = 97) m2 e.2 := by
    refine loop_to k (fun j z => ((z.1 = 1 ∧ ∀ b, b < j → sstp d L D 0 t b = t b) ∨ (z.1 = 0 ∧ ¬ ∀ b, b < j → sstp d L D 0 t b = t b)) ∧ z.2.1 = nI j ∧ (∀ b, b < k → hI z.2.2 97 b = if b < j then nI (t b) else nI (sstp d L D 0 t b)) ∧ Fr (fun k _ => k = 97) m2 z.2.2) _ (by omega) ?_ ?_ ⟨Or.inl ⟨rfl, fun b hb => by omega⟩, rfl, fun b hb => by rw [if_neg (by omega)]; exact R2.2.2.2.1 b hb, Fr.rf⟩
    · rintro j ⟨x, y, m3⟩ hj ⟨i1, i2, i3, i4⟩
      dsimp only at i1 i2 i3 i4
      subst i2
      show ∃ s', f_X12_isStill_37 x (nI j) m3 = some (Sum.inl s') ∧ _
      have r1 : hI m3 56 65 = nI k := by rw [i4.I _ _ (by omega)]; exact R2.1
      have g3 : hI m3 103 j = nI (t j) := by rw [i4.I _ _ (by omega)]; exact g2 j hj
      have go : ∀ v : Int32, ((v = 1 ∧ ∀ b, b < j + 1 → sstp d L D 0 t b = t b) ∨ (v = 0 ∧ ¬ ∀ b, b < j + 1 → sstp d L D 0 t b = t b)) → ∃ s', f_X12_isStill_69 (nI j) v m3 = some (Sum.inl s') ∧ ((s'.1 = 1 ∧ ∀ b, b < j + 1 → sstp d L D 0 t b = t b) ∨ (s'.1 = 0 ∧ ¬ ∀ b, b < j + 1 → sstp d L D 0 t b = t b)) ∧ s'.2.1 = nI (j + 1) ∧ (∀ b, b < k → hI s'.2.2 97 b = if b < j + 1 then nI (t b) else nI (sstp d L D 0 t b)) ∧ Fr (fun k _ => k = 97) m2 s'.2.2 := by
        intro v hv
        unfold f_X12_isStill_69
        rw [aI_n _ 103 (show j < 12 by omega) (by omega), bind_s, g3, bI_n _ 97 _ (show j < 12 by omega) (by omega), bind_s, nmI_e, bind_s]
        refine ⟨_, rfl, hv, nI_1 j, fun b hb => ?_, i4.tI _ rfl⟩
        rw [hI_tI]
        by_cases e : b = j
        · subst e
          rw [if_pos ⟨rfl, rfl⟩, if_pos (by omega)]
        · rw [if_neg (by omega), i3 b hb]
          by_cases e2 : b < j
          · rw [if_pos e2, if_pos (by omega)]
          · rw [if_neg e2, if_neg (by omega)]
      unfold f_X12_isStill_37
      rw [r1, if_neg (nI_ge hj (by omega))]
      rcases i1 with ⟨rfl, i1⟩ | ⟨rfl, i1⟩
      · rw [if_neg (by decide), aI_n _ 97 (show j < 12 by omega) (by omega), bind_s, i3 j hj, if_neg (by omega), aI_n _ 103 (show j < 12 by omega) (by omega), bind_s, g3]
        have l1 := hs j hj
        have l1' : sstp d L D 0 t j < tdP d := l1
        have l2 := ht j hj
        by_cases e : sstp d L D 0 t j = t j
        · rw [if_pos (by rw [e])]
          refine go 1 (Or.inl ⟨rfl, fun b hb => ?_⟩)
          by_cases e2 : b = j
          · rw [e2]; exact e
          · exact i1 b (by omega)
        · rw [if_neg (fun z => e ((nI_eq (by omega) (by omega)).mp z))]
          exact go 0 (Or.inr ⟨rfl, fun z => e (z j (by omega))⟩)
      · rw [if_pos rfl]
        exact go 0 (Or.inr ⟨rfl, fun z => i1 (fun b hb => z b (by omega))⟩)
    · rintro ⟨x, y, m3⟩ ⟨i1, i2, i3, i4⟩
      dsimp only at i1 i2 i3 i4
      subst i2
      show ∃ e, f_X12_isStill_37 x (nI k) m3 = some (Sum.inr e) ∧ _
      have r1 : hI m3 56 65 = nI k := by rw [i4.I _ _ (by omega)]; exact R2.1
      unfold f_X12_isStill_37
      rw [r1, if_pos (nI_le (Nat.le_refl _) (by omega))]
      exact ⟨_, rfl, i1, fun b hb => by rw [i3 b hb, if_pos hb], i4⟩
  obtain ⟨⟨v, m3⟩, e3, g3, g4, f3⟩ := key2
  dsimp only at g3 g4 f3
  rw [e3, bind_s]
  dsimp only
  have ff : Fr (fun k j => SrM k j ∨ k = 103) m m3 := ((f1.mono (fun k j z => Or.inr z)).tr (f2.mono (fun k j z => Or.inl z))).tr (f3.mono (fun k j z => Or.inl (Or.inl z)))
  obtain ⟨r1, r2, r3, r4, r5⟩ := R2
  refine ⟨m3, ?_, ⟨by rw [f3.I _ _ (by omega)]; exact r1, by rw [f3.I _ _ (by omega)]; exact r2, by rw [f3.I _ _ (by omega)]; exact r3, g4, fun b hb => by rw [f3.I _ _ (by omega)]; exact r5 b hb⟩, ff⟩
  rcases g3 with ⟨rfl, g3⟩ | ⟨rfl, g3⟩
  · exact Or.inl ⟨rfl, g3⟩
  · exact Or.inr ⟨rfl, g3⟩
/-- nothing changes by a stroke -/
def Stl (d : TD) (L : Nat → Int32) (D : Int32) (t : Nat → Nat) : Prop := ∀ b, b < tdN d → sstp d L D 0 t b = t b
theorem x_stl {d : TD} {L : Nat → Int32} {D : Int32} {t : Nat → Nat} (hV : VT d) (hr : VR d L D t) : lg_cmp (lN (pk (sstp d L D 0 t) (tdN d))) (lN (pk t (tdN d))) = 0 ↔ Stl d L D t := by
  rw [lg_cmp_eq, pkN_eq hV.n ((hr.st hV 0).t32 hV) (hr.t32 hV)]
  rfl
def sStl (s : SS) : Prop := Stl (ssD s) (cdL (ssK s)) (cdD (ssK s)) (cdT (ssK s))
theorem k_still_x (hX : XS m c s) (hV : VS s) : (sStl s → OkX m c (F_X11_still c m) 1 s) ∧ (¬ sStl s → OkX m c (F_X11_still c m) 0 s) := by
  obtain ⟨a1, a2, a3, a4⟩ := hX.2.1
  unfold F_X11_still
  obtain ⟨m1, e1, f1⟩ := x_st (a := 28 + 2) hX.1 hV.1 hV.2.1.r (fun b hb => (a2 b hb).2) (by omega) 0
  rw [a1, a3, e1, bind_s]
  dsimp only
  rw [show hJ m1 28 0 = lN (pk (cdT (ssK s)) (tdN (ssD s))) from by rw [f1.J _ _ (by omega)]; exact a1]
  have q : ∀ k (j : Nat), (k = 24 ∨ k = 25) → ¬ xk k ∧ SX k j := fun k j z => ⟨fun z2 => by unfold xk at z2; omega, fun z2 => by omega⟩
  refine ⟨fun h => ?_, fun h => ?_⟩
  · rw [if_pos ((x_stl hV.1 hV.2.1.r).mpr h)]
    exact OkX.scr hX f1 q
  · rw [if_neg (fun z => h ((x_stl hV.1 hV.2.1.r).mp z))]
    exact OkX.scr hX f1 q
theorem k_still_m (hM : MS m l s) (hV : VS s) : (sStl s → OkM m l (F_X12_still m) 1 s) ∧ (¬ sStl s → OkM m l (F_X12_still m) 0 s) := by
  have hn := hV.n
  unfold F_X12_still
  obtain ⟨m1, e1, R1, f1⟩ := m_takes hM.lv hM.l2 hM.n hn hM.2.1
  rw [e1, bind_s]
  obtain ⟨m2, e2, R2, f2⟩ := m_isStill (hM.1.fr f1 (fun k j h z => by omega)) hV.1 R1 hn hV.2.1.2.1 hV.2.1.2.2.1 hV.2.1.1
  have ff : Fr (fun k j => StM k j ∨ SrM k j ∨ k = 103) m m2 := (f1.mono (fun k j z => Or.inl z)).tr (f2.mono (fun k j z => Or.inr z))
  have q : ∀ k j, (StM k j ∨ SrM k j ∨ k = 103) → ¬ mk2 k j ∧ SM2 k j := fun k j z => ⟨fun z2 => by unfold mk2 at z2; omega, by omega⟩
  refine ⟨fun h => ?_, fun h => ?_⟩
  · rcases e2 with ⟨e2, _⟩ | ⟨_, z⟩
    · rw [e2, bind_s]
      dsimp only
      rw [if_neg (by decide)]
      exact OkM.scr hM ff q
    · exact absurd h z
  · rcases e2 with ⟨_, z⟩ | ⟨e2, _⟩
    · exact absurd z h
    · rw [e2, bind_s]
      dsimp only
      rw [if_pos rfl]
      exact OkM.scr hM ff q
/-! soon -/
/-- the first k below N with p, else N -/
def fd (p : Nat → Bool) : Nat → Nat
  | 0 => 0
  | k + 1 => if fd p k < k then fd p k else if p k then k else k + 1
theorem fd_n {p : Nat → Bool} {k : Nat} (h : fd p k = k) (hp : p k = false) : fd p (k + 1) = k + 1 := by
  unfold fd
  rw [if_neg (by omega), hp]
  rfl
theorem fd_y {p : Nat → Bool} {k : Nat} (h : fd p k = k) (hp : p k = true) : ∀ i, fd p (k + 1 + i) = k
  | 0 => by
    unfold fd
    rw [if_neg (by omega), hp]
    rfl
  | i + 1 => by
    have := fd_y h hp i
    show (if fd p (k + 1 + i) < k + 1 + i then fd p (k + 1 + i) else if p (k + 1 + i) then k + 1 + i else k + 1 + i + 1) = k
    rw [this, if_pos (by omega)]
def fS (s : SS) : Nat → Int32 := fun i => fogd (ssD s) (cdS (ssK s) + nI i)
def sqS (s : SS) : Nat → Nat → Nat := sq (ssD s) (cdL (ssK s)) (cdD (ssK s)) (fS s) (cdT (ssK s))
def soP (s : SS) (k : Nat) : Nat → Bool := fun i => decide (k ≤ wyn (tdP (ssD s)) (sqS s i) (tdN (ssD s)))
def soV (s : SS) (k : Nat) : Int32 := if fd (soP s k) 101 = 101 then -2 else nI (fd (soP s k) 101)
theorem wyn_le (P : Nat) (t : Nat → Nat) (n : Nat) : wyn P t n ≤ n := ner_le _ _ _ _
theorem k_soon_x1 (hX : XS m c s) (hV : VS s) {k : Nat} (h1 : 1 ≤ k) (h2 : k ≤ tdN (ssD s)) : OkX m c (F_X11_soon c (nI k) m) (soV s k) s := by
  have hn := hV.n
  obtain ⟨a1, a2, a3, a4⟩ := hX.2.1
  have hc := hX.tx
  unfold F_X11_soon
  rw [lit_1, if_neg (nI_nlt h1 (by omega)), hX.n, if_pos (nI_le h2 (by omega)), nmJ_e, bind_s, a1]
  have key : ∃ e, loop (g_X11_soon_29 c (nI k)) (lN (pk (cdT (ssK s)) (tdN (ssD s))), (0 : Int32), m) = some e ∧ ((∃ m', e = Sum.inl (nI (fd (soP s k) 101), m') ∧ ¬ fd (soP s k) 101 = 101 ∧ Fr (fun k _ => 24 ≤ k ∧ k ≤ 26) m m') ∨ (∃ m', e = Sum.inr m' ∧ fd (soP s k) 101 = 101 ∧ Fr (fun k _ => 24 ≤ k ∧ k ≤ 26) m m')) := by
    refine loop_ex 101 (fun i z => z.1 = lN (pk (sqS s i) (tdN (ssD s))) ∧ z.2.1 = nI i ∧ fd (soP s k) i = i ∧ Fr (fun k _ => 24 ≤ k ∧ k ≤ 26) m z.2.2) _ (by omega) ?_ ?_ ⟨rfl, rfl, rfl, Fr.rf⟩
    · rintro i ⟨tt, x, m1⟩ hi ⟨i1, i2, i3, i4⟩
      dsimp only at i1 i2 i3 i4
      subst i1 i2
      show (∃ s', f_X11_soon_29 c (nI k) _ (nI i) m1 = some (Sum.inl s') ∧ _) ∨ ∃ e, f_X11_soon_29 c (nI k) _ (nI i) m1 = some (Sum.inr e) ∧ _
      have hX1 := hX.1.fr i4 (fun k j z1 z2 => by omega)
      have hr := VR.sq hV.1 hV.2.1.r (fS s) i
      unfold f_X11_soon_29
      obtain ⟨m2, e2, f2⟩ := x_wayOf hX1.1 hr.1
      have hw := wyn_le (tdP (ssD s)) (sqS s i) (tdN (ssD s))
      rw [lit_100, if_neg (nI_nlt (by omega) (by omega))]
      change (∃ s', (Option.bind (F_X5_wayOf c (lN (pk (sqS s i) (tdN (ssD s)))) m1) _) = some (Sum.inl s') ∧ _) ∨ ∃ e, (Option.bind (F_X5_wayOf c (lN (pk (sqS s i) (tdN (ssD s)))) m1) _) = some (Sum.inr e) ∧ _
      have e2' : F_X5_wayOf c (lN (pk (sqS s i) (tdN (ssD s)))) m1 = some (nI (wyn (tdP (ssD s)) (sqS s i) (tdN (ssD s))), m2) := e2
      rw [e2', bind_s]
      dsimp only
      have f12 := i4.tr (f2.mono (S' := fun k _ => 24 ≤ k ∧ k ≤ 26) (fun k j z => by omega))
      by_cases hq : k ≤ wyn (tdP (ssD s)) (sqS s i) (tdN (ssD s))
      · right
        rw [if_neg (nI_nlt hq (by omega))]
        have := fd_y i3 (show soP s k i = true by unfold soP; simp [hq]) (100 - i)
        rw [show i + 1 + (100 - i) = 101 by omega] at this
        exact ⟨_, rfl, Or.inl ⟨m2, by rw [this], by omega, f12⟩⟩
      · left
        rw [if_pos (nI_lt (by omega) (by omega))]
        have hX2 := hX.1.fr f12 (fun k j z1 z2 => by omega)
        rw [show hI m2 28 4 = cdS (ssK s) from by rw [f12.I _ _ (by omega)]; exact a4, x_isFog hX2 hV.1, bind_s]
        dsimp only
        rw [show hI m2 28 3 = cdD (ssK s) from by rw [f12.I _ _ (by omega)]; exact a3]
        obtain ⟨m3, e3, f3⟩ := x_st (a := 28 + 2) hX2 hV.1 hr (fun b hb => by rw [f12.I _ _ (by omega)]; exact (a2 b hb).2) (by omega) (fogd (ssD s) (cdS (ssK s) + nI i))
        have e3' : F_X5_stroke c (lN (pk (sqS s i) (tdN (ssD s)))) (28 + 2) (cdD (ssK s)) (fogd (ssD s) (cdS (ssK s) + nI i)) m2 = some (lN (pk (sqS s (i + 1)) (tdN (ssD s))), m3) := e3
        rw [e3', bind_s, nmI_e, bind_s]
        exact ⟨_, rfl, rfl, nI_1 i, fd_n i3 (by unfold soP; simp; omega), f12.tr (f3.mono (fun k j z => by omega))⟩
    · rintro ⟨tt, x, m1⟩ ⟨i1, i2, i3, i4⟩
      dsimp only at i1 i2 i3 i4
      subst i1 i2
      show ∃ e, f_X11_soon_29 c (nI k) _ (nI 101) m1 = some (Sum.inr e) ∧ _
      unfold f_X11_soon_29
      rw [lit_100, if_pos (nI_lt (by omega) (by omega))]
      exact ⟨_, rfl, Or.inr ⟨m1, rfl, i3, i4⟩⟩
  have q : ∀ k (j : Nat), (24 ≤ k ∧ k ≤ 26) → ¬ xk k ∧ SX k j := fun k j z => ⟨fun z2 => by unfold xk at z2; omega, fun z2 => by omega⟩
  obtain ⟨e, e1, ⟨m', rfl, e2, e3⟩ | ⟨m', rfl, e2, e3⟩⟩ := key
  · rw [e1, bind_s]
    unfold soV
    rw [if_neg e2]
    exact OkX.scr hX e3 q
  · rw [e1, bind_s]
    unfold soV
    rw [if_pos e2]
    exact OkX.scr hX e3 q
theorem k_soon_x0 (hX : XS m c s) (hV : VS s) {x : Int32} (h : ¬ isR 1 (tdN (ssD s)) x) : OkX m c (F_X11_soon c x m) (-1) s := by
  have hn := hV.n
  rw [isRx (by omega) (by omega)] at h
  unfold F_X11_soon
  by_cases h1 : x < nI 1
  · rw [lit_1, if_pos h1]
    exact OkX.same hX
  · rw [lit_1, if_neg h1, hX.n, if_neg (fun z => h ⟨h1, fun z2 => lt_nle z2 z⟩)]
    exact OkX.same hX
theorem k_soon_m1 (hM : MS m l s) (hV : VS s) {k : Nat} (h1 : 1 ≤ k) (h2 : k ≤ tdN (ssD s)) : OkM m l (F_X12_soon (nI k) m) (soV s k) s := by
  have hn := hV.n
  unfold F_X12_soon
  rw [m_menNow hM.lv hM.l2 hM.n, bind_s]
  dsimp only
  rw [lit_1, (inR (by omega) (by omega) _).1 ⟨k, h1, h2, rfl⟩, bind_s]
  dsimp only
  obtain ⟨m1, e1, R1, f1⟩ := m_takes hM.lv hM.l2 hM.n hn hM.2.1
  rw [if_neg (by decide), e1, bind_s]
  have hM1 := hM.1.fr f1 (fun k j h z => by omega)
  have S1 : hI m1 56 60 = cdS (ssK s) := by rw [f1.I _ _ (by omega)]; exact hM.2.1.2.2.2
  have key : ∃ e, loop (g_X12_soon_20 (nI k)) ((0 : Int32), m1) = some e ∧ ((∃ m', e = Sum.inl (nI (fd (soP s k) 101), m') ∧ ¬ fd (soP s k) 101 = 101 ∧ Fr SrM m1 m') ∨ (∃ m', e = Sum.inr m' ∧ fd (soP s k) 101 = 101 ∧ Fr SrM m1 m')) := by
    refine loop_ex 101 (fun i z => z.1 = nI i ∧ RwM z.2 (tdN (ssD s)) (tdG (ssD s)) (cdD (ssK s)) (cdL (ssK s)) (sqS s i) ∧ fd (soP s k) i = i ∧ Fr SrM m1 z.2) _ (by omega) ?_ ?_ ⟨rfl, R1, rfl, Fr.rf⟩
    · rintro i ⟨x, m2⟩ hi ⟨i1, i2, i3, i4⟩
      dsimp only at i1 i2 i3 i4
      subst i1
      show (∃ s', f_X12_soon_20 (nI k) (nI i) m2 = some (Sum.inl s') ∧ _) ∨ ∃ e, f_X12_soon_20 (nI k) (nI i) m2 = some (Sum.inr e) ∧ _
      have hM2 := hM1.fr i4 (fun k j h z => by omega)
      have hw := wyn_le (tdP (ssD s)) (sqS s i) (tdN (ssD s))
      unfold f_X12_soon_20
      rw [lit_100, if_neg (nI_nlt (by omega) (by omega)), m_wayNow hM2.1 hV.p i2 hn, bind_s]
      dsimp only
      by_cases hq : k ≤ wyn (tdP (ssD s)) (sqS s i) (tdN (ssD s))
      · right
        rw [if_neg (nI_nlt hq (by omega))]
        have := fd_y i3 (show soP s k i = true by unfold soP; simp [hq]) (100 - i)
        rw [show i + 1 + (100 - i) = 101 by omega] at this
        exact ⟨_, rfl, Or.inl ⟨m2, by rw [this], by omega, i4⟩⟩
      · left
        rw [if_pos (nI_lt (by omega) (by omega)), show hI m2 56 60 = cdS (ssK s) from by rw [i4.I _ _ (by omega)]; exact S1, m_isFog hM2 hV.1, bind_s]
        dsimp only
        obtain ⟨m3, e3, R3, f3⟩ := m_st hM2 hV.1 i2 hn hV.2.1.2.1 hV.2.1.2.2.1 (VR.sq hV.1 hV.2.1.r (fS s) i).1 (fogd (ssD s) (cdS (ssK s) + nI i))
        rw [e3, bind_s, nmI_e, bind_s]
        exact ⟨_, rfl, nI_1 i, R3, fd_n i3 (by unfold soP; simp; omega), i4.tr f3⟩
    · rintro ⟨x, m2⟩ ⟨i1, i2, i3, i4⟩
      dsimp only at i1 i2 i3 i4
      subst i1
      show ∃ e, f_X12_soon_20 (nI k) (nI 101) m2 = some (Sum.inr e) ∧ _
      unfold f_X12_soon_20
      rw [lit_100, if_pos (nI_lt (by omega) (by omega))]
      exact ⟨_, rfl, Or.inr ⟨m2, rfl, i3, i4⟩⟩
  have q : ∀ k j, (StM k j ∨ SrM k j) → ¬ mk2 k j ∧ SM2 k j := fun k j z => ⟨fun z2 => by unfold mk2 at z2; omega, by omega⟩
  obtain ⟨e, e2, ⟨m', rfl, e3, e4⟩ | ⟨m', rfl, e3, e4⟩⟩ := key
  · rw [e2, bind_s]
    unfold soV
    rw [if_neg e3]
    exact OkM.scr hM ((f1.mono (fun k j z => Or.inl z)).tr (e4.mono (fun k j z => Or.inr z))) q
  · rw [e2, bind_s]
    unfold soV
    rw [if_pos e3]
    exact OkM.scr hM ((f1.mono (fun k j z => Or.inl z)).tr (e4.mono (fun k j z => Or.inr z))) q
theorem k_soon_m0 (hM : MS m l s) (hV : VS s) {x : Int32} (h : ¬ isR 1 (tdN (ssD s)) x) : OkM m l (F_X12_soon x m) (-1) s := by
  have hn := hV.n
  unfold F_X12_soon
  rw [m_menNow hM.lv hM.l2 hM.n, bind_s]
  dsimp only
  rw [lit_1, (inR (by omega) (by omega) _).2 h, bind_s]
  exact OkM.same hM
end K7
