/-! ===== hold, restore, count, bench, undo ===== -/
section K3
variable {m : M2} {c l : Nat} {s : SS}
theorem kC_12 (m : M2) (a b : Nat) : kC m a 12 b 12 0 0 12 = some (tC m a b 0 0 12) := rfl
theorem tC_I {m : M2} {a b i : Nat} (hi : i < 12) : hI (tC m a b 0 0 12) b i = hI m a i := by
  rw [hI_tC, if_pos rfl, pk_cpy_in (by omega) (by omega)]
  congr 1
  omega
theorem tC_O {m : M2} {a b k i : Nat} (hk : ¬ k = b) : hI (tC m a b 0 0 12) k i = hI m k i := by
  rw [hI_tC, if_neg hk]
theorem Fr.tC {S : Nat → Nat → Prop} {m m' : M2} (h : Fr S m m') {a b : Nat} (hs : ∀ j, S b j) : Fr S m (tC m' a b 0 0 12) := by
  intro k j hn
  refine ⟨?_, (h k j hn).2⟩
  rw [tC_O (fun z => hn (by rw [z]; exact hs j))]
  exact (h k j hn).1
theorem x_take {w v n : Nat} {k : CD} (hn : n ≤ 12) (hwv : v + 2 < w ∨ w + 2 < v) (h : XC m v n k) : ∃ m', F_X1_take w v m = some m' ∧ XC m' w n k ∧ Fr (fun k j => (k = w ∧ j < 5) ∨ k = w + 1 ∨ k = w + 2) m m' := by
  obtain ⟨a1, a2, a3, a4⟩ := h
  unfold F_X1_take
  rw [qJ_e, bind_s, qI_e, bind_s, qI_e, bind_s, kC_12, bind_s, kC_12, bind_s]
  refine ⟨_, rfl, ⟨?_, fun b hb => ⟨?_, ?_⟩, ?_, ?_⟩, ?_⟩
  · show hJ (tJ m w 0 (hJ m v 0)) w 0 = _
    rw [hJ_tJ, if_pos ⟨rfl, rfl⟩, a1]
  · rw [tC_O (by omega), tC_I (by omega)]
    simp only [hI_tI, hI_tJ]
    rw [if_neg (by omega), if_neg (by omega)]
    exact (a2 b hb).1
  · rw [tC_I (by omega), tC_O (by omega)]
    simp only [hI_tI, hI_tJ]
    rw [if_neg (by omega), if_neg (by omega)]
    exact (a2 b hb).2
  · rw [tC_O (by omega), tC_O (by omega)]
    rw [hI_tI, if_neg (by omega), hI_tI, if_pos ⟨rfl, rfl⟩, hI_tJ]
    exact a3
  · rw [tC_O (by omega), tC_O (by omega)]
    rw [hI_tI, if_pos ⟨rfl, rfl⟩, hI_tI, if_neg (by omega), hI_tJ]
    exact a4
  · exact ((((Fr.rf.tJ _ (by omega)).tI _ (by omega)).tI _ (by omega)).tC (fun j => by omega)).tC (fun j => by omega)
def sHold (s : SS) (i : Nat) : SS := sB s (up1 (ssB s) i true, up1 (ssC s) i (ssK s))
theorem k_hold_x1 (hX : XS m c s) (hV : VS s) {i : Nat} (hi : i < 3) : OkX m c (F_X11_hold c (nI i) m) 1 (sHold s i) := by
  have hn := hV.n
  unfold F_X11_hold
  rw [if_neg (nI_pos (by omega)), lit_3, if_pos (nI_lt hi (by omega)), ixC_n hi (by omega), bind_s]
  obtain ⟨m1, e1, c1, f1⟩ := x_take (w := 47 + 3 * i) (v := 28) hn (by omega) hX.2.1
  rw [e1, bind_s, bind_s, qI_e, bind_s]
  have hf := (f1.mono (S' := fun k j => 47 + 3 * i ≤ k ∧ k ≤ 49 + 3 * i) (fun k j z => by omega)).tI (k := 47 + 3 * i) (j := 5) 1 (by omega)
  refine ⟨_, rfl, hX.sb hf (fun k j z => by omega) (fun t ht => ?_), hf.mono (fun k j z => by show ¬ _; omega)⟩
  show _ = bI1 (up1 (ssB s) i true t) ∧ (up1 (ssB s) i true t = true → XC _ _ _ (up1 (ssC s) i (ssK s) t))
  by_cases e : t = i
  · subst e
    have u1 : up1 (ssB s) t true t = true := if_pos rfl
    have u2 : up1 (ssC s) t (ssK s) t = ssK s := if_pos rfl
    rw [u1, u2]
    refine ⟨by rw [hI_tI, if_pos ⟨rfl, rfl⟩]; rfl, fun _ => ?_⟩
    obtain ⟨a1, a2, a3, a4⟩ := c1
    exact ⟨a1, fun b hb => ⟨by rw [hI_tI, if_neg (by omega)]; exact (a2 b hb).1, by rw [hI_tI, if_neg (by omega)]; exact (a2 b hb).2⟩, by rw [hI_tI, if_neg (by omega)]; exact a3, by rw [hI_tI, if_neg (by omega)]; exact a4⟩
  · have u1 : up1 (ssB s) i true t = ssB s t := if_neg e
    have u2 : up1 (ssC s) i (ssK s) t = ssC s t := if_neg e
    rw [u1, u2]
    obtain ⟨b1, b2⟩ := hX.2.2.2.1 t ht
    exact ⟨by rw [hf.I _ _ (by omega)]; exact b1, fun z => (b2 z).fr hf (fun k j z1 z2 => by omega)⟩
theorem k_hold_x0 (hX : XS m c s) {x : Int32} (h : ¬ isB 3 x) : OkX m c (F_X11_hold c x m) 0 s := by
  rw [isBx (by omega)] at h
  unfold F_X11_hold
  by_cases h1 : x < 0
  · rw [if_pos h1]
    exact OkX.same hX
  · rw [if_neg h1, lit_3, if_neg (fun z => h ⟨h1, lt_nle z⟩)]
    exact OkX.same hX
theorem in3 {m : M2} (x : Int32) : (isB 3 x → F_X12_in x 0 2 m = some (1, m)) ∧ (¬ isB 3 x → F_X12_in x 0 2 m = some (0, m)) := inB (n := 3) (by omega) x
theorem k_hold_m1 (hM : MS m l s) (hV : VS s) {i : Nat} (hi : i < 3) : OkM m l (F_X12_hold (nI i) m) 1 (sHold s i) := by
  have hn := hV.n
  have q3 : 3 < 2 ^ 31 := by omega
  obtain ⟨a1, a2, a3, a4⟩ := hM.2.1
  unfold F_X12_hold
  rw [(in3 _).1 ⟨i, hi, rfl⟩, bind_s]
  dsimp only
  rw [if_neg (by decide), bI_n _ 113 _ hi q3, bind_s, bI_n _ 117 _ hi q3, bind_s, bI_n _ 118 _ hi q3, bind_s, bI_n _ 119 _ hi q3, bind_s]
  have e1 : hI (tI m 113 i 1) 56 58 = cdD (ssK s) := by rw [hI_tI, if_neg (by omega)]; exact a2
  rw [e1]
  have e2 : hI (tI (tI m 113 i 1) 117 i (cdD (ssK s))) 56 59 = nI (tdG (ssD s)) := by rw [hI_tI, hI_tI, if_neg (by omega), if_neg (by omega)]; exact a3
  rw [e2]
  have e3 : hI (tI (tI (tI m 113 i 1) 117 i (cdD (ssK s))) 118 i (nI (tdG (ssD s)))) 56 60 = cdS (ssK s) := by rw [hI_tI, hI_tI, hI_tI, if_neg (by omega), if_neg (by omega), if_neg (by omega)]; exact a4
  rw [e3]
  have f0 : Fr (fun k j => (113 ≤ k ∧ k ≤ 119 ∧ (k = 113 ∨ 117 ≤ k) ∧ j = i) ∨ (114 ≤ k ∧ k ≤ 116 ∧ 12 * i ≤ j ∧ j < 12 * i + 12)) m (tI (tI (tI (tI m 113 i 1) 117 i (cdD (ssK s))) 118 i (nI (tdG (ssD s)))) 119 i (cdS (ssK s))) := (((Fr.rf.tI _ (by omega)).tI _ (by omega)).tI _ (by omega)).tI _ (by omega)
  have g0 : hI (tI (tI (tI (tI m 113 i 1) 117 i (cdD (ssK s))) 118 i (nI (tdG (ssD s)))) 119 i (cdS (ssK s))) 113 i = 1 ∧ hI (tI (tI (tI (tI m 113 i 1) 117 i (cdD (ssK s))) 118 i (nI (tdG (ssD s)))) 119 i (cdS (ssK s))) 117 i = cdD (ssK s) ∧ hI (tI (tI (tI (tI m 113 i 1) 117 i (cdD (ssK s))) 118 i (nI (tdG (ssD s)))) 119 i (cdS (ssK s))) 118 i = nI (tdG (ssD s)) ∧ hI (tI (tI (tI (tI m 113 i 1) 117 i (cdD (ssK s))) 118 i (nI (tdG (ssD s)))) 119 i (cdS (ssK s))) 119 i = cdS (ssK s) := by simp [hI_tI]
  generalize tI (tI (tI (tI m 113 i 1) 117 i (cdD (ssK s))) 118 i (nI (tdG (ssD s)))) 119 i (cdS (ssK s)) = m1 at f0 g0 ⊢
  have key : ∃ e, loop (g_X12_hold_50 (nI i)) ((0 : Int32), m1) = some e ∧ (∀ b, b < 12 → hI e 114 (12 * i + b) = hI m 93 b ∧ hI e 115 (12 * i + b) = hI m 94 b ∧ hI e 116 (12 * i + b) = hI m 95 b) ∧ Fr (fun k j => 114 ≤ k ∧ k ≤ 116) m1 e ∧ Fr (fun k j => (113 ≤ k ∧ k ≤ 119 ∧ (k = 113 ∨ 117 ≤ k) ∧ j = i) ∨ (114 ≤ k ∧ k ≤ 116 ∧ 12 * i ≤ j ∧ j < 12 * i + 12)) m e := by
    refine loop_to 12 (fun k z => z.1 = nI k ∧ (∀ b, b < k → hI z.2 114 (12 * i + b) = hI m 93 b ∧ hI z.2 115 (12 * i + b) = hI m 94 b ∧ hI z.2 116 (12 * i + b) = hI m 95 b) ∧ Fr (fun k j => 114 ≤ k ∧ k ≤ 116) m1 z.2 ∧ Fr (fun k j => (113 ≤ k ∧ k ≤ 119 ∧ (k = 113 ∨ 117 ≤ k) ∧ j = i) ∨ (114 ≤ k ∧ k ≤ 116 ∧ 12 * i ≤ j ∧ j < 12 * i + 12)) m z.2) _ (by omega) ?_ ?_ ⟨rfl, fun b hb => by omega, Fr.rf, f0⟩
    · rintro k ⟨x, m2⟩ hk ⟨i1, i2, i3, i4⟩
      dsimp only at i1 i2 i3 i4
      subst i1
      show ∃ s', f_X12_hold_50 (nI i) (nI k) m2 = some (Sum.inl s') ∧ _
      unfold f_X12_hold_50
      have ei : (12 : Int32) * nI i + nI k = nI (12 * i + k) := by rw [lit_12, pk_mul, nI_add]
      rw [ei, lit_12, if_neg (nI_ge hk (by omega)), aI_n _ 93 hk (by omega), bind_s, bI_n _ 114 _ (show 12 * i + k < 36 by omega) (by omega), bind_s, aI_n _ 94 hk (by omega), bind_s, bI_n _ 115 _ (show 12 * i + k < 36 by omega) (by omega), bind_s, aI_n _ 95 hk (by omega), bind_s, bI_n _ 116 _ (show 12 * i + k < 36 by omega) (by omega), bind_s, nmI_e, bind_s]
      have n1 : hI m2 93 k = hI m 93 k := i4.I _ _ (by omega)
      have n2 : hI (tI m2 114 (12 * i + k) (hI m2 93 k)) 94 k = hI m 94 k := by rw [hI_tI, if_neg (by omega)]; exact i4.I _ _ (by omega)
      have n3 : hI (tI (tI m2 114 (12 * i + k) (hI m2 93 k)) 115 (12 * i + k) (hI m 94 k)) 95 k = hI m 95 k := by rw [hI_tI, hI_tI, if_neg (by omega), if_neg (by omega)]; exact i4.I _ _ (by omega)
      rw [n2, n3, n1]
      refine ⟨_, rfl, nI_1 k, fun b hb => ?_, ((i3.tI _ (by omega)).tI _ (by omega)).tI _ (by omega), ((i4.tI _ (by omega)).tI _ (by omega)).tI _ (by omega)⟩
      by_cases e : b = k
      · subst e
        simp [hI_tI]
      · obtain ⟨j1, j2, j3⟩ := i2 b (by omega)
        have : ¬ 12 * i + b = 12 * i + k := by omega
        simp [hI_tI, e, j1, j2, j3]
    · rintro ⟨x, m2⟩ ⟨i1, i2, i3, i4⟩
      dsimp only at i1 i2 i3 i4
      subst i1
      show ∃ e, f_X12_hold_50 (nI i) (nI 12) m2 = some (Sum.inr e) ∧ _
      unfold f_X12_hold_50
      rw [lit_12, if_pos (nI_le (Nat.le_refl _) (by omega))]
      exact ⟨_, rfl, i2, i3, i4⟩
  obtain ⟨m2, k1, k2, k3, k4⟩ := key
  rw [k1, bind_s]
  refine ⟨_, rfl, hM.sb k4 (fun k j z => by omega) (fun t ht => ?_), k4.mono (fun k j z => by omega)⟩
  show _ = bI1 (up1 (ssB s) i true t) ∧ (up1 (ssB s) i true t = true → (∀ b, b < tdN (ssD s) → hI m2 114 (12 * t + b) = nI (cdT (up1 (ssC s) i (ssK s) t) b) ∧ hI m2 115 (12 * t + b) = cdM (up1 (ssC s) i (ssK s) t) b ∧ hI m2 116 (12 * t + b) = cdL (up1 (ssC s) i (ssK s) t) b) ∧ hI m2 117 t = cdD (up1 (ssC s) i (ssK s) t) ∧ hI m2 118 t = nI (tdG (ssD s)) ∧ hI m2 119 t = cdS (up1 (ssC s) i (ssK s) t))
  by_cases e : t = i
  · subst e
    have u1 : up1 (ssB s) t true t = true := if_pos rfl
    have u2 : up1 (ssC s) t (ssK s) t = ssK s := if_pos rfl
    rw [u1, u2]
    refine ⟨by rw [k3.I _ _ (by omega)]; exact g0.1, fun _ => ⟨fun b hb => ?_, ?_, ?_, ?_⟩⟩
    · obtain ⟨j1, j2, j3⟩ := k2 b (by omega)
      rw [j1, j2, j3]
      exact a1 b hb
    · rw [k3.I _ _ (by omega)]; exact g0.2.1
    · rw [k3.I _ _ (by omega)]; exact g0.2.2.1
    · rw [k3.I _ _ (by omega)]; exact g0.2.2.2
  · have u1 : up1 (ssB s) i true t = ssB s t := if_neg e
    have u2 : up1 (ssC s) i (ssK s) t = ssC s t := if_neg e
    rw [u1, u2]
    obtain ⟨b1, b2⟩ := hM.2.2.2.1 t ht
    refine ⟨by rw [k4.I _ _ (by omega)]; exact b1, fun z => ?_⟩
    obtain ⟨d1, d2, d3, d4⟩ := b2 z
    exact ⟨fun b hb => ⟨by rw [k4.I _ _ (by omega)]; exact (d1 b hb).1, by rw [k4.I _ _ (by omega)]; exact (d1 b hb).2.1, by rw [k4.I _ _ (by omega)]; exact (d1 b hb).2.2⟩, by rw [k4.I _ _ (by omega)]; exact d2, by rw [k4.I _ _ (by omega)]; exact d3, by rw [k4.I _ _ (by omega)]; exact d4⟩
theorem k_hold_m0 (hM : MS m l s) {x : Int32} (h : ¬ isB 3 x) : OkM m l (F_X12_hold x m) 0 s := by
  unfold F_X12_hold
  rw [(in3 _).2 h, bind_s]
  exact OkM.same hM
theorem v_hold (hV : VS s) {i : Nat} : VS (sHold s i) := by
  obtain ⟨v1, v2, v3, v4, v5, v7⟩ := hV
  refine ⟨v1, v2, v3, fun t ht => ?_, v5, v7⟩
  show up1 (ssB s) i true t = true → VC (ssD s) (up1 (ssC s) i (ssK s) t)
  unfold up1
  by_cases e : t = i
  · rw [if_pos e, if_pos e]
    exact fun _ => v2
  · rw [if_neg e, if_neg e]
    exact v4 t ht
/-! restore -/
def sRestore (s : SS) (i : Nat) : SS := sKU s (ssC s i) (0, ssH s)
theorem k_restore_x1 (hX : XS m c s) (hV : VS s) {i : Nat} (hi : i < 3) (hb : ssB s i = true) : OkX m c (F_X11_restore c (nI i) m) 1 (sRestore s i) := by
  have hn := hV.n
  obtain ⟨b1, b2⟩ := hX.2.2.2.1 i hi
  unfold F_X11_restore
  rw [if_neg (nI_pos (by omega)), lit_3, if_neg (nI_ge hi (by omega)), ixC_n hi (by omega), bind_s, b1, hb, if_neg (by decide), bind_s]
  obtain ⟨m1, e1, c1, f1⟩ := x_take (w := 28) (v := 47 + 3 * i) hn (by omega) (b2 hb)
  rw [e1, bind_s]
  unfold F_X3_clear
  rw [qI_e, bind_s, qI_e, bind_s, bind_s]
  have hf := ((f1.mono (S' := fun k j => (28 ≤ k ∧ k ≤ 30) ∨ k = 32) (fun k j z => by omega)).tI (k := 32) (j := 1) 0 (by omega)).tI (k := 32) (j := 2) 0 (by omega)
  have hg : Fr (fun k j => k = 32) m1 (tI (tI m1 32 1 0) 32 2 0) := (Fr.rf.tI _ (by omega)).tI _ (by omega)
  refine ⟨_, rfl, hX.ku hf (fun k j z => by omega) (c1.fr hg (fun k j z1 z2 => by omega)) ⟨0, by omega, by simp [hI_tI, nI_0], by simp [hI_tI, nI_0], fun j hj => absurd hj (Nat.not_lt_zero j)⟩, hf.mono (fun k j z => by show ¬ _; omega)⟩
theorem k_restore_x0 (hX : XS m c s) {x : Int32} (h : ¬ (∃ i, i < 3 ∧ ssB s i = true ∧ x = nI i)) : OkX m c (F_X11_restore c x m) 0 s := by
  unfold F_X11_restore
  by_cases hb : isB 3 x
  · obtain ⟨i, hi, rfl⟩ := hb
    obtain ⟨b1, b2⟩ := hX.2.2.2.1 i hi
    have e : ssB s i = false := by
      cases hq : ssB s i
      · rfl
      · exact absurd ⟨i, hi, hq, rfl⟩ h
    rw [if_neg (nI_pos (by omega)), lit_3, if_neg (nI_ge hi (by omega)), ixC_n hi (by omega), bind_s, b1, e, if_pos (show bI1 false = 0 from rfl)]
    exact OkX.same hX
  · rw [isBx (by omega)] at hb
    by_cases h1 : x < 0
    · rw [if_pos h1]
      exact OkX.same hX
    · rw [if_neg h1, lit_3]
      by_cases h2 : nI 3 ≤ x
      · rw [if_pos h2]
        exact OkX.same hX
      · exact absurd ⟨h1, h2⟩ hb
theorem k_restore_m1 (hM : MS m l s) (hV : VS s) {i : Nat} (hi : i < 3) (hb : ssB s i = true) : OkM m l (F_X12_restore (nI i) m) 1 (sRestore s i) := by
  have hn := hV.n
  have q3 : 3 < 2 ^ 31 := by omega
  obtain ⟨b1, b2⟩ := hM.2.2.2.1 i hi
  obtain ⟨d1, d2, d3, d4⟩ := b2 hb
  unfold F_X12_restore
  rw [(in3 _).1 ⟨i, hi, rfl⟩, bind_s]
  dsimp only
  rw [if_neg (by decide), aI_n _ 113 hi q3, bind_s, b1, hb, if_neg (by decide), aI_n _ 117 hi q3, bind_s, qI_e, bind_s, aI_n _ 118 hi q3, bind_s, qI_e, bind_s, aI_n _ 119 hi q3, bind_s, qI_e, bind_s, qI_e, bind_s, d2]
  have e1 : hI (tI m 56 58 (cdD (ssC s i))) 118 i = nI (tdG (ssD s)) := by rw [hI_tI, if_neg (by omega)]; exact d3
  rw [e1]
  have e2 : hI (tI (tI m 56 58 (cdD (ssC s i))) 56 59 (nI (tdG (ssD s)))) 119 i = cdS (ssC s i) := by rw [hI_tI, hI_tI, if_neg (by omega), if_neg (by omega)]; exact d4
  rw [e2]
  have f0 : Fr (fun k j => (k = 56 ∧ 58 ≤ j ∧ j ≤ 61) ∨ (93 ≤ k ∧ k ≤ 95)) m (tI (tI (tI (tI m 56 58 (cdD (ssC s i))) 56 59 (nI (tdG (ssD s)))) 56 60 (cdS (ssC s i))) 56 61 0) := (((Fr.rf.tI _ (by omega)).tI _ (by omega)).tI _ (by omega)).tI _ (by omega)
  have g0 : hI (tI (tI (tI (tI m 56 58 (cdD (ssC s i))) 56 59 (nI (tdG (ssD s)))) 56 60 (cdS (ssC s i))) 56 61 0) 56 58 = cdD (ssC s i) ∧ hI (tI (tI (tI (tI m 56 58 (cdD (ssC s i))) 56 59 (nI (tdG (ssD s)))) 56 60 (cdS (ssC s i))) 56 61 0) 56 59 = nI (tdG (ssD s)) ∧ hI (tI (tI (tI (tI m 56 58 (cdD (ssC s i))) 56 59 (nI (tdG (ssD s)))) 56 60 (cdS (ssC s i))) 56 61 0) 56 60 = cdS (ssC s i) ∧ hI (tI (tI (tI (tI m 56 58 (cdD (ssC s i))) 56 59 (nI (tdG (ssD s)))) 56 60 (cdS (ssC s i))) 56 61 0) 56 61 = 0 := by simp [hI_tI]
  generalize tI (tI (tI (tI m 56 58 (cdD (ssC s i))) 56 59 (nI (tdG (ssD s)))) 56 60 (cdS (ssC s i))) 56 61 0 = m1 at f0 g0 ⊢
  have key : ∃ e, loop (g_X12_restore_57 (nI i)) ((0 : Int32), m1) = some e ∧ (∀ b, b < 12 → hI e 93 b = hI m 114 (12 * i + b) ∧ hI e 94 b = hI m 115 (12 * i + b) ∧ hI e 95 b = hI m 116 (12 * i + b)) ∧ Fr (fun k j => 93 ≤ k ∧ k ≤ 95) m1 e ∧ Fr (fun k j => (k = 56 ∧ 58 ≤ j ∧ j ≤ 61) ∨ (93 ≤ k ∧ k ≤ 95)) m e := by
    refine loop_to 12 (fun k z => z.1 = nI k ∧ (∀ b, b < k → hI z.2 93 b = hI m 114 (12 * i + b) ∧ hI z.2 94 b = hI m 115 (12 * i + b) ∧ hI z.2 95 b = hI m 116 (12 * i + b)) ∧ Fr (fun k j => 93 ≤ k ∧ k ≤ 95) m1 z.2 ∧ Fr (fun k j => (k = 56 ∧ 58 ≤ j ∧ j ≤ 61) ∨ (93 ≤ k ∧ k ≤ 95)) m z.2) _ (by omega) ?_ ?_ ⟨rfl, fun b hb => by omega, Fr.rf, f0⟩
    · rintro k ⟨x, m2⟩ hk ⟨i1, i2, i3, i4⟩
      dsimp only at i1 i2 i3 i4
      subst i1
      show ∃ s', f_X12_restore_57 (nI i) (nI k) m2 = some (Sum.inl s') ∧ _
      unfold f_X12_restore_57
      have ei : (12 : Int32) * nI i + nI k = nI (12 * i + k) := by rw [lit_12, pk_mul, nI_add]
      rw [ei, lit_12, if_neg (nI_ge hk (by omega)), aI_n _ 114 (show 12 * i + k < 36 by omega) (by omega), bind_s, bI_n _ 93 _ hk (by omega), bind_s, aI_n _ 115 (show 12 * i + k < 36 by omega) (by omega), bind_s, bI_n _ 94 _ hk (by omega), bind_s, aI_n _ 116 (show 12 * i + k < 36 by omega) (by omega), bind_s, bI_n _ 95 _ hk (by omega), bind_s, nmI_e, bind_s]
      have n1 : hI m2 114 (12 * i + k) = hI m 114 (12 * i + k) := i4.I _ _ (by omega)
      have n2 : hI (tI m2 93 k (hI m2 114 (12 * i + k))) 115 (12 * i + k) = hI m 115 (12 * i + k) := by rw [hI_tI, if_neg (by omega)]; exact i4.I _ _ (by omega)
      have n3 : hI (tI (tI m2 93 k (hI m2 114 (12 * i + k))) 94 k (hI m 115 (12 * i + k))) 116 (12 * i + k) = hI m 116 (12 * i + k) := by rw [hI_tI, hI_tI, if_neg (by omega), if_neg (by omega)]; exact i4.I _ _ (by omega)
      rw [n2, n3, n1]
      refine ⟨_, rfl, nI_1 k, fun b hb => ?_, ((i3.tI _ (by omega)).tI _ (by omega)).tI _ (by omega), ((i4.tI _ (by omega)).tI _ (by omega)).tI _ (by omega)⟩
      by_cases e : b = k
      · subst e
        simp [hI_tI]
      · obtain ⟨j1, j2, j3⟩ := i2 b (by omega)
        simp [hI_tI, e, j1, j2, j3]
    · rintro ⟨x, m2⟩ ⟨i1, i2, i3, i4⟩
      dsimp only at i1 i2 i3 i4
      subst i1
      show ∃ e, f_X12_restore_57 (nI i) (nI 12) m2 = some (Sum.inr e) ∧ _
      unfold f_X12_restore_57
      rw [lit_12, if_pos (nI_le (Nat.le_refl _) (by omega))]
      exact ⟨_, rfl, i2, i3, i4⟩
  obtain ⟨m2, k1, k2, k3, k4⟩ := key
  rw [k1, bind_s]
  refine ⟨_, rfl, hM.ku k4 (fun k j z => by omega) ⟨fun b hb => ?_, ?_, ?_, ?_⟩ ⟨?_, fun j hj => absurd hj (Nat.not_lt_zero j)⟩, k4.mono (fun k j z => by omega)⟩
  · obtain ⟨j1, j2, j3⟩ := k2 b (by omega)
    rw [j1, j2, j3]
    exact d1 b hb
  · rw [k3.I _ _ (by omega)]; exact g0.1
  · rw [k3.I _ _ (by omega)]; exact g0.2.1
  · rw [k3.I _ _ (by omega)]; exact g0.2.2.1
  · rw [k3.I _ _ (by omega)]; exact g0.2.2.2
theorem k_restore_m0 (hM : MS m l s) {x : Int32} (h : ¬ (∃ i, i < 3 ∧ ssB s i = true ∧ x = nI i)) : OkM m l (F_X12_restore x m) 0 s := by
  unfold F_X12_restore
  by_cases hb : isB 3 x
  · rw [(in3 _).1 hb, bind_s]
    dsimp only
    obtain ⟨i, hi, rfl⟩ := hb
    obtain ⟨b1, b2⟩ := hM.2.2.2.1 i hi
    have e : ssB s i = false := by
      cases hq : ssB s i
      · rfl
      · exact absurd ⟨i, hi, hq, rfl⟩ h
    rw [if_neg (by decide), aI_n _ 113 hi (by omega), bind_s, b1, e, if_pos (show bI1 false = 0 from rfl)]
    exact OkM.same hM
  · rw [(in3 _).2 hb, bind_s]
    exact OkM.same hM
theorem v_restore (hV : VS s) {i : Nat} (hi : i < 3) (hb : ssB s i = true) : VS (sRestore s i) := by
  obtain ⟨v1, v2, v3, v4, v5, v7⟩ := hV
  exact ⟨v1, v4 i hi hb, ⟨Nat.zero_le _, fun j hj => absurd hj (Nat.not_lt_zero j)⟩, v4, v5, v7⟩
end K3
