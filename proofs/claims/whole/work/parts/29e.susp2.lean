/-! ===== check; the reference's suspects ===== -/
section KE
variable {m : M2} {c l : Nat} {s : SS}
/-- how many suspects clash at the bench b -/
def chS (s : SS) (n k st b : Nat) : Nat → Nat
  | 0 => 0
  | K + 1 => chS s n k st b K + if susB s n k K = true ∧ 0 < b then bitN (clZ s K st) b else 0
theorem chS_le (s : SS) (n k st b : Nat) : ∀ K, chS s n k st b K ≤ cS s n k K
  | 0 => Nat.le_refl 0
  | K + 1 => by
    have := chS_le s n k st b K
    have h2 := bitN_le (clZ s K st) b
    unfold chS cS
    by_cases h : susB s n k K = true
    · rw [if_pos h]; split <;> omega
    · rw [if_neg h, if_neg (fun z => h z.1)]; omega
def grP (f : Nat → Nat) (S b : Nat) : Nat := max (f b) (S - f b)
/-- the first of the least, of 1 .. j + 1 -/
def bmn (f : Nat → Nat) : Nat → Nat
  | 0 => 1
  | j + 1 => if f (j + 2) < f (bmn f j) then j + 2 else bmn f j
theorem bmn_le (f : Nat → Nat) : ∀ j, 1 ≤ bmn f j ∧ bmn f j ≤ j + 1
  | 0 => ⟨Nat.le_refl 1, Nat.le_refl 1⟩
  | j + 1 => by
    have := bmn_le f j
    unfold bmn
    split <;> omega
def ckV (s : SS) (n k st : Nat) : Int32 := if cS s n k (2 ^ tdN (ssD s)) = 0 ∨ tdN (ssD s) < 2 then -2 else nI (bmn (grP (fun b => chS s n k st b (2 ^ tdN (ssD s))) (cS s n k (2 ^ tdN (ssD s)))) (tdN (ssD s) - 2))
theorem x_greater {f : Nat → Nat} {S b : Nat} (hb : b < 12) (h : hI m 46 b = nI (f b)) (hf : f b ≤ S) (hS : S ≤ 100) : F_X10_greaterPart c (nI b) (nI S) m = some (nI (grP f S b), m) := by
  unfold F_X10_greaterPart grP
  rw [aI_n _ 46 hb (by omega), bind_s, bind_s, h, pk_sub hf, mxI_n (by omega) (by omega)]
theorem k_check_x (hX : XS m c s) (hV : VS s) {n k st : Nat} (hn : n ≤ 2) (hk : k ≤ ssQ s) (hst : st ≤ 99) : OkX m c (F_X11_check c (nI n) (nI k) (nI st) m) (ckV s n k st) s := by
  have hN := hV.n
  have hp := p12 hV
  have hc := hX.tx
  unfold F_X11_check
  rw [(x_isQ hX hV _ _).1 ⟨⟨n, by omega, hn, rfl⟩, ⟨k, by omega, hk, rfl⟩⟩, bind_s]
  dsimp only
  rw [if_neg (by decide), (x_isStroke _).1 ⟨st, by omega, hst, rfl⟩, bind_s]
  dsimp only
  rw [if_neg (by decide)]
  unfold F_X10_evenestBench
  obtain ⟨m1, e1, z1, f1⟩ := x_fill (m := m) 46 12 0 (by omega)
  rw [hX.n, nmI_e, bind_s, e1, bind_s]
  have key : ∃ e, loop (g_X10_evenestBench_26 c (nI n) (nI k) (nI st) (nI (tdN (ssD s)))) ((0 : Int32), (0 : Int32), m1) = some e ∧ e.1 = nI (cS s n k (2 ^ tdN (ssD s))) ∧ (∀ b, b < 12 → b < tdN (ssD s) → hI e.2 46 b = nI (chS s n k st b (2 ^ tdN (ssD s)))) ∧ Fr (fun k _ => (24 ≤ k ∧ k ≤ 25) ∨ k = 45 ∨ k = 46) m e.2 := by
    refine loop_to (2 ^ tdN (ssD s)) (fun K y => y.1 = nI (cS s n k K) ∧ y.2.1 = nI K ∧ (∀ b, b < 12 → b < tdN (ssD s) → hI y.2.2 46 b = nI (chS s n k st b K)) ∧ Fr (fun k _ => (24 ≤ k ∧ k ≤ 25) ∨ k = 45 ∨ k = 46) m y.2.2) _ (by omega) ?_ ?_ ⟨rfl, rfl, fun b hb _ => z1 b hb, f1.mono (fun k j z => by omega)⟩
    · rintro K ⟨y1, y2, m2⟩ hK ⟨i1, i2, i3, i4⟩
      dsimp only at i1 i2 i3 i4
      subst i1 i2
      show ∃ s', f_X10_evenestBench_26 c (nI n) (nI k) (nI st) (nI (tdN (ssD s))) _ (nI K) m2 = some (Sum.inl s') ∧ _
      obtain ⟨m3, e3, f3⟩ := x_isSuspect (z := K) hX hV (by omega) hn hk i4
      unfold f_X10_evenestBench_26
      rw [one_shl (by omega), if_neg (nI_ge hK (by omega)), e3, bind_s]
      dsimp only
      have f13 := i4.tr (f3.mono (S' := fun k _ => (24 ≤ k ∧ k ≤ 25) ∨ k = 45 ∨ k = 46) (fun k j z => by omega))
      by_cases hb : susB s n k K = true
      · rw [if_neg (fun z => (b1_0 _).mp z hb), nmI_e, bind_s]
        obtain ⟨m4, e4, f4⟩ := x_clashesAt (z := K) (st := st) hX hV (by omega) hst f13
        rw [e4, bind_s]
        dsimp only
        have f14 := f13.tr (f4.mono (S' := fun k _ => (24 ≤ k ∧ k ≤ 25) ∨ k = 45 ∨ k = 46) (fun k j z => by omega))
        have g4 : ∀ b, b < 12 → b < tdN (ssD s) → hI m4 46 b = nI (chS s n k st b K) := fun b h1 h2 => by rw [f4.I _ _ (by omega), f3.I _ _ (by omega)]; exact i3 b h1 h2
        have inner : ∃ e, loop (g_X10_evenestBench_61 c (nI n) (nI k) (nI st) (nI (tdN (ssD s))) (nI (cS s n k K) + 1) (nI K) (clZ s K st)) ((1 : Int32), m4) = some e ∧ (∀ b, b < 12 → b < tdN (ssD s) → hI e 46 b = nI (chS s n k st b (K + 1))) ∧ Fr (fun k _ => (24 ≤ k ∧ k ≤ 25) ∨ k = 45 ∨ k = 46) m e := by
          refine loop_to (tdN (ssD s) - 1) (fun j z => z.1 = nI (j + 1) ∧ (∀ b, b < 12 → b < tdN (ssD s) → hI z.2 46 b = if b < j + 1 then nI (chS s n k st b (K + 1)) else nI (chS s n k st b K)) ∧ Fr (fun k _ => (24 ≤ k ∧ k ≤ 25) ∨ k = 45 ∨ k = 46) m z.2) _ (by omega) ?_ ?_ ⟨rfl, fun b h1 h2 => ?_, f14⟩
          · rintro j ⟨x, m5⟩ hj ⟨j1, j2, j3⟩
            dsimp only at j1 j2 j3
            subst j1
            show ∃ s', f_X10_evenestBench_61 c (nI n) (nI k) (nI st) (nI (tdN (ssD s))) _ (nI K) _ (nI (j + 1)) m5 = some (Sum.inl s') ∧ _
            unfold f_X10_evenestBench_61
            rw [if_neg (nI_ge (show j + 1 < tdN (ssD s) by omega) (by omega)), aI_n _ 46 (show j + 1 < 12 by omega) (by omega), bind_s, bI_n _ 46 _ (show j + 1 < 12 by omega) (by omega), bind_s, nmI_e, bind_s, bit_n, j2 (j + 1) (by omega) (by omega), if_neg (by omega), nI_add]
            refine ⟨_, rfl, nI_1 (j + 1), fun b h1 h2 => ?_, j3.tI _ (by omega)⟩
            rw [hI_tI]
            by_cases e : b = j + 1
            · subst e
              rw [if_pos ⟨rfl, rfl⟩, if_pos (by omega), chS, if_pos ⟨hb, by omega⟩]
            · rw [if_neg (by omega), j2 b h1 h2]
              by_cases e2 : b < j + 1
              · rw [if_pos e2, if_pos (by omega)]
              · rw [if_neg e2, if_neg (by omega)]
          · rintro ⟨x, m5⟩ ⟨j1, j2, j3⟩
            dsimp only at j1 j2 j3
            subst j1
            show ∃ e, f_X10_evenestBench_61 c (nI n) (nI k) (nI st) (nI (tdN (ssD s))) _ (nI K) _ (nI (tdN (ssD s) - 1 + 1)) m5 = some (Sum.inr e) ∧ _
            unfold f_X10_evenestBench_61
            rw [if_pos (nI_le (by omega) (by omega))]
            exact ⟨_, rfl, fun b h1 h2 => by rw [j2 b h1 h2, if_pos (by omega)], j3⟩
          · show hI m4 46 b = _
            rw [g4 b h1 h2]
            by_cases e : b < 0 + 1
            · have : b = 0 := by omega
              subst this
              rw [if_pos e, chS, if_neg (fun z => by omega), Nat.add_zero]
            · rw [if_neg e]
        obtain ⟨m5, e5, g5, f5⟩ := inner
        rw [e5, bind_s]
        exact ⟨_, rfl, by rw [cS_y hb]; exact nI_1 _, nI_1 K, g5, f5⟩
      · rw [if_pos ((b1_0 _).mpr hb)]
        refine ⟨_, rfl, by rw [cS_n hb], nI_1 K, fun b h1 h2 => ?_, f13⟩
        rw [f3.I _ _ (by omega), i3 b h1 h2, chS, if_neg (fun z => hb z.1), Nat.add_zero]
    · rintro ⟨y1, y2, m2⟩ ⟨i1, i2, i3, i4⟩
      dsimp only at i1 i2 i3 i4
      subst i1 i2
      show ∃ e, f_X10_evenestBench_26 c (nI n) (nI k) (nI st) (nI (tdN (ssD s))) _ (nI (2 ^ tdN (ssD s))) m2 = some (Sum.inr e) ∧ _
      unfold f_X10_evenestBench_26
      rw [one_shl (by omega), if_pos (nI_le (Nat.le_refl _) (by omega))]
      exact ⟨_, rfl, rfl, i3, i4⟩
  obtain ⟨⟨y, m2⟩, e2, g1, g2, f2⟩ := key
  dsimp only at g1 g2 f2
  subst g1
  have hle := cS_le s n k (2 ^ tdN (ssD s))
  have h66 := cP_le (n := n) (K := 2 ^ tdN (ssD s)) (by omega) hp
  rw [e2, bind_s]
  dsimp only
  unfold ckV
  by_cases h0 : cS s n k (2 ^ tdN (ssD s)) = 0
  · rw [if_pos (by rw [h0]; rfl), if_pos (Or.inl h0)]
    exact OkX.scr hX f2 SSus
  · rw [if_neg (nI_ne0 (by omega) (by omega)), lit_2]
    by_cases h2 : tdN (ssD s) < 2
    · rw [if_neg (nI_ge h2 (by omega)), if_pos (Or.inr h2)]
      exact OkX.scr hX f2 SSus
    · rw [if_pos (nI_le (by omega) (by omega)), if_neg (fun z => by omega)]
      have key2 : ∃ e, loop (g_X10_evenestBench_117 c (nI (tdN (ssD s))) (nI (cS s n k (2 ^ tdN (ssD s))))) ((1 : Int32), nI 2, m2) = some e ∧ e = (nI (bmn (grP (fun b => chS s n k st b (2 ^ tdN (ssD s))) (cS s n k (2 ^ tdN (ssD s)))) (tdN (ssD s) - 2)), m2) := by
        refine loop_to (tdN (ssD s) - 2) (fun j y => y = (nI (bmn (grP (fun b => chS s n k st b (2 ^ tdN (ssD s))) (cS s n k (2 ^ tdN (ssD s)))) j), nI (j + 2), m2)) _ (by omega) ?_ ?_ rfl
        · rintro j y hj rfl
          show ∃ s', f_X10_evenestBench_117 c (nI (tdN (ssD s))) (nI (cS s n k (2 ^ tdN (ssD s)))) (nI (bmn _ j)) (nI (j + 2)) m2 = some (Sum.inl s') ∧ _
          obtain ⟨b1, b2⟩ := bmn_le (grP (fun b => chS s n k st b (2 ^ tdN (ssD s))) (cS s n k (2 ^ tdN (ssD s)))) j
          generalize hB : bmn (grP (fun b => chS s n k st b (2 ^ tdN (ssD s))) (cS s n k (2 ^ tdN (ssD s)))) j = B at b1 b2 ⊢
          have c1 := chS_le s n k st (j + 2) (2 ^ tdN (ssD s))
          have c2 := chS_le s n k st B (2 ^ tdN (ssD s))
          unfold f_X10_evenestBench_117
          rw [if_neg (nI_ge (show j + 2 < tdN (ssD s) by omega) (by omega)), x_greater (f := fun b => chS s n k st b (2 ^ tdN (ssD s))) (show j + 2 < 12 by omega) (g2 (j + 2) (by omega) (by omega)) c1 (by omega), bind_s]
          dsimp only
          rw [x_greater (f := fun b => chS s n k st b (2 ^ tdN (ssD s))) (show B < 12 by omega) (g2 B (by omega) (by omega)) c2 (by omega), bind_s]
          dsimp only
          have u1 : grP (fun b => chS s n k st b (2 ^ tdN (ssD s))) (cS s n k (2 ^ tdN (ssD s))) (j + 2) ≤ 100 := by unfold grP; dsimp only; omega
          have u2 : grP (fun b => chS s n k st b (2 ^ tdN (ssD s))) (cS s n k (2 ^ tdN (ssD s))) B ≤ 100 := by unfold grP; dsimp only; omega
          by_cases hg : grP (fun b => chS s n k st b (2 ^ tdN (ssD s))) (cS s n k (2 ^ tdN (ssD s))) (j + 2) < grP (fun b => chS s n k st b (2 ^ tdN (ssD s))) (cS s n k (2 ^ tdN (ssD s))) B
          · rw [if_neg (nI_ge hg (by omega))]
            refine ⟨_, rfl, ?_⟩
            rw [show bmn (grP (fun b => chS s n k st b (2 ^ tdN (ssD s))) (cS s n k (2 ^ tdN (ssD s)))) (j + 1) = j + 2 from if_pos (by rw [hB]; exact hg), nI_1]
          · rw [if_pos (nI_le (by omega) (by omega))]
            refine ⟨_, rfl, ?_⟩
            rw [show bmn (grP (fun b => chS s n k st b (2 ^ tdN (ssD s))) (cS s n k (2 ^ tdN (ssD s)))) (j + 1) = B from (if_neg (by rw [hB]; exact hg)).trans hB, nI_1]
        · rintro y rfl
          show ∃ e, f_X10_evenestBench_117 c (nI (tdN (ssD s))) _ _ (nI (tdN (ssD s) - 2 + 2)) m2 = some (Sum.inr e) ∧ _
          unfold f_X10_evenestBench_117
          rw [if_pos (nI_le (by omega) (by omega))]
          exact ⟨_, rfl, rfl⟩
      obtain ⟨e, e3, rfl⟩ := key2
      rw [e3, bind_s, bind_s]
      exact OkX.scr hX f2 SSus
theorem k_check_x0 (hX : XS m c s) (hV : VS s) {x y w : Int32} (h : ¬ (suOk s x y ∧ isR 0 99 w)) : OkX m c (F_X11_check c x y w m) (-1) s := by
  unfold F_X11_check
  by_cases h1 : suOk s x y
  · rw [(x_isQ hX hV _ _).1 h1, bind_s]
    dsimp only
    rw [if_neg (by decide), (x_isStroke _).2 (fun z => h ⟨h1, z⟩), bind_s]
    exact OkX.same hX
  · rw [(x_isQ hX hV _ _).2 h1, bind_s]
    exact OkX.same hX
/-! the reference's -/
theorem m_breaks (hM : MT m l (ssD s)) (hV : VS s) {z : Nat} (hz : z < 4096) : ∃ m', F_X12_breaks (nI z) m = some m' ∧ RwM m' (tdN (ssD s)) (tdG (ssD s)) (tdD (ssD s)) (Lb s z) (tdT (ssD s)) ∧ Fr StM m m' := by
  have hN := hV.n
  obtain ⟨⟨t1, t2, t3, t4, t5, t6⟩, h2, h3, h4, h5, h6, h7⟩ := hM
  unfold F_X12_breaks
  rw [m_menNow t1 t2 t4, bind_s, qI_e, bind_s]
  dsimp only
  have e1 : hI (tI m 56 65 (nI (tdN (ssD s)))) 56 18 = nI l := by rw [hI_tI, if_neg (by omega)]; exact t1
  rw [e1, aI_n _ 77 t2 (by omega), bind_s, show hI (tI m 56 65 (nI (tdN (ssD s)))) 77 l = tdD (ssD s) from by rw [hI_tI, if_neg (by omega)]; exact h2, qI_e, bind_s]
  have e2 : hI (tI (tI m 56 65 (nI (tdN (ssD s)))) 56 66 (tdD (ssD s))) 56 18 = nI l := by rw [hI_tI, if_neg (by omega)]; exact e1
  rw [e2, aI_n _ 78 t2 (by omega), bind_s, show hI (tI (tI m 56 65 (nI (tdN (ssD s)))) 56 66 (tdD (ssD s))) 78 l = nI (tdG (ssD s)) from by rw [hI_tI, hI_tI, if_neg (by omega), if_neg (by omega)]; exact h3, qI_e, bind_s]
  have f0 : Fr StM m (tI (tI (tI m 56 65 (nI (tdN (ssD s)))) 56 66 (tdD (ssD s))) 56 67 (nI (tdG (ssD s)))) := ((Fr.rf.tI _ (by omega)).tI _ (by omega)).tI _ (by omega)
  have g0 : hI (tI (tI (tI m 56 65 (nI (tdN (ssD s)))) 56 66 (tdD (ssD s))) 56 67 (nI (tdG (ssD s)))) 56 65 = nI (tdN (ssD s)) ∧ hI (tI (tI (tI m 56 65 (nI (tdN (ssD s)))) 56 66 (tdD (ssD s))) 56 67 (nI (tdG (ssD s)))) 56 66 = tdD (ssD s) ∧ hI (tI (tI (tI m 56 65 (nI (tdN (ssD s)))) 56 66 (tdD (ssD s))) 56 67 (nI (tdG (ssD s)))) 56 67 = nI (tdG (ssD s)) := by simp [hI_tI]
  generalize tI (tI (tI m 56 65 (nI (tdN (ssD s)))) 56 66 (tdD (ssD s))) 56 67 (nI (tdG (ssD s))) = m1 at f0 g0 ⊢
  have key : ∃ e, loop (g_X12_breaks_36 (nI z)) ((0 : Int32), m1) = some e ∧ (∀ b, b < tdN (ssD s) → hI e 97 b = nI (tdT (ssD s) b) ∧ hI e 98 b = Lb s z b) ∧ Fr (fun k _ => k = 97 ∨ k = 98) m1 e := by
    refine loop_to (tdN (ssD s)) (fun k y => y.1 = nI k ∧ (∀ b, b < k → hI y.2 97 b = nI (tdT (ssD s) b) ∧ hI y.2 98 b = Lb s z b) ∧ Fr (fun k _ => k = 97 ∨ k = 98) m1 y.2) _ (by omega) ?_ ?_ ⟨rfl, fun b hb => by omega, Fr.rf⟩
    · rintro k ⟨y, m2⟩ hk ⟨i1, i2, i3⟩
      dsimp only at i1 i2 i3
      subst i1
      show ∃ s', f_X12_breaks_36 (nI z) (nI k) m2 = some (Sum.inl s') ∧ _
      have f02 : Fr StM m m2 := f0.tr (i3.mono (fun k j z => by omega))
      have e18 : hI m2 56 18 = nI l := by rw [f02.I _ _ (by omega)]; exact t1
      have e76 : hI m2 76 (12 * l + k) = nI (tdT (ssD s) k) := by rw [f02.I _ _ (by omega)]; exact (h6 k hk).2
      have e75 : hI m2 75 (12 * l + k) = tdO (ssD s) k := by rw [f02.I _ _ (by omega)]; exact (h6 k hk).1
      have ei : (12 : Int32) * nI l + nI k = nI (12 * l + k) := by rw [lit_12, pk_mul, nI_add]
      have go : ∀ v : Int32, v = Lb s z k → ∃ s', f_X12_breaks_96 (nI z) (nI k) (nI k) v (tI m2 97 k (nI (tdT (ssD s) k))) = some (Sum.inl s') ∧ s'.1 = nI (k + 1) ∧ (∀ b, b < k + 1 → hI s'.2 97 b = nI (tdT (ssD s) b) ∧ hI s'.2 98 b = Lb s z b) ∧ Fr (fun k _ => k = 97 ∨ k = 98) m1 s'.2 := by
        rintro v rfl
        unfold f_X12_breaks_96
        rw [bI_n _ 98 _ (show k < 12 by omega) (by omega), bind_s, nmI_e, bind_s]
        refine ⟨_, rfl, nI_1 k, fun b hb => ?_, (i3.tI _ (by omega)).tI _ (by omega)⟩
        by_cases e : b = k
        · subst e
          simp [hI_tI]
        · have := i2 b (by omega)
          simp [hI_tI, e, this.1, this.2]
      unfold f_X12_breaks_36
      rw [show hI m2 56 65 = nI (tdN (ssD s)) from by rw [i3.I _ _ (by omega)]; exact g0.1, if_neg (nI_ge hk (by omega)), e18, ei, aI_n _ 76 (show 12 * l + k < 24 by omega) (by omega), bind_s, e76, bI_n _ 97 _ (show k < 12 by omega) (by omega), bind_s, bit_n, bitN_n (by omega) (by omega)]
      by_cases hb : z / 2 ^ k % 2 = 1
      · rw [if_pos (by rw [hb]; rfl)]
        exact go _ (by unfold Lb; rw [if_pos hb])
      · have hb' : ¬ nI (z / 2 ^ k % 2) = 1 := fun y => hb ((nI_eq (by omega) (by omega)).mp (show nI _ = nI 1 from y))
        rw [if_neg hb', show hI (tI m2 97 k (nI (tdT (ssD s) k))) 56 18 = nI l from by rw [hI_tI, if_neg (by omega)]; exact e18, ei, aI_n _ 75 (show 12 * l + k < 24 by omega) (by omega), bind_s]
        refine go _ ?_
        unfold Lb
        rw [if_neg hb, hI_tI, if_neg (by omega)]
        exact e75
    · rintro ⟨y, m2⟩ ⟨i1, i2, i3⟩
      dsimp only at i1 i2 i3
      subst i1
      show ∃ e, f_X12_breaks_36 (nI z) (nI (tdN (ssD s))) m2 = some (Sum.inr e) ∧ _
      unfold f_X12_breaks_36
      rw [show hI m2 56 65 = nI (tdN (ssD s)) from by rw [i3.I _ _ (by omega)]; exact g0.1, if_pos (nI_le (Nat.le_refl _) (by omega))]
      exact ⟨_, rfl, i2, i3⟩
  obtain ⟨m2, e3, g3, f3⟩ := key
  rw [e3, bind_s]
  exact ⟨m2, rfl, ⟨by rw [f3.I _ _ (by omega)]; exact g0.1, by rw [f3.I _ _ (by omega)]; exact g0.2.1, by rw [f3.I _ _ (by omega)]; exact g0.2.2, fun b hb => (g3 b hb).1, fun b hb => (g3 b hb).2⟩, f0.tr (f3.mono (fun k j z => by omega))⟩
abbrev SSu : Nat → Nat → Prop := fun k j => StM k j ∨ SrM k j ∨ k = 112 ∨ k = 102 ∨ (k = 56 ∧ j = 84)
theorem m_fits (hM : MS m l s) (hV : VS s) {z n k : Nat} (hz : z < 4096) (hk : k ≤ ssQ s) (hn : popN z 12 = n) {m1 : M2} (hf : Fr SSu m m1) : ∃ m', F_X12_fits (nI z) (nI k) m1 = some (bI1 (susB s n k z), m') ∧ Fr (fun k j => StM k j ∨ SrM k j) m1 m' := by
  have hN := hV.n
  have hq := hV.2.2.2.2.1.1
  have hl := lsN_le hV k hk
  have hM1 := hM.1.fr hf (fun k j h z => by omega)
  unfold F_X12_fits
  obtain ⟨m2, e2, R2, f2⟩ := m_breaks (s := s) hM1 hV hz
  have f12 : Fr SSu m m2 := hf.tr (f2.mono (fun k j z => Or.inl z))
  have hQ2 := hM.2.2.2.2.1.fr f12 (fun k j z1 z2 => by omega)
  rw [e2, bind_s]
  have last : ∃ e, loop (g_X12_fits_10 (nI k)) ((-1 : Int32), (0 : Int32), m2) = some e ∧ e = (iI ((lsN s k : Int) - 1), m2) := by
    refine loop_to k (fun i y => y = (iI ((lsN s i : Int) - 1), nI i, m2)) _ (by omega) ?_ ?_ rfl
    · rintro i y hi rfl
      show ∃ s', f_X12_fits_10 (nI k) _ (nI i) m2 = some (Sum.inl s') ∧ _
      have hl2 := lsN_le hV i (by omega)
      obtain ⟨⟨a, ha, e⟩, _⟩ := hV.2.2.2.2.1.2 i (by omega)
      unfold f_X12_fits_10
      rw [if_neg (nI_ge hi (by omega)), aI_n _ 109 (show i < 20 by omega) (by omega), bind_s, (hQ2.2 i (by omega)).1, e]
      have h1 : (iI ((lsN s i : Int) - 1)).toInt = (lsN s i : Int) - 1 := iI_toInt (by omega) (by omega)
      have eL : lsN s (i + 1) = max (lsN s i) (a + 1) := by rw [lsN, e, nI_clamp (by omega)]
      by_cases h : lsN s i ≤ a
      · rw [if_neg (by rw [Int32.le_iff_toInt_le, h1, nI_toInt (by omega)]; omega), bind_s]
        refine ⟨_, rfl, ?_⟩
        rw [eL, Nat.max_eq_right (by omega), show ((a + 1 : Nat) : Int) - 1 = (a : Nat) by omega, iI_nat, nI_1]
      · rw [if_pos (by rw [Int32.le_iff_toInt_le, h1, nI_toInt (by omega)]; omega)]
        refine ⟨_, rfl, ?_⟩
        rw [eL, Nat.max_eq_left (by omega), nI_1]
    · rintro y rfl
      show ∃ e, f_X12_fits_10 (nI k) _ (nI k) m2 = some (Sum.inr e) ∧ _
      unfold f_X12_fits_10
      rw [if_pos (nI_le (Nat.le_refl _) (by omega))]
      exact ⟨_, rfl, rfl⟩
  obtain ⟨e, e3, rfl⟩ := last
  rw [e3, bind_s]
  dsimp only
  have key : ∃ e, loop (g_X12_fits_44 (nI k) (iI ((lsN s k : Int) - 1))) ((0 : Int32), m2) = some e ∧ ((∃ m', e = Sum.inl m' ∧ ¬ (∀ st, st < lsN s k → agP s (clZ s z st) st k) ∧ Fr SrM m2 m') ∨ (∃ m', e = Sum.inr m' ∧ (∀ st, st < lsN s k → agP s (clZ s z st) st k) ∧ Fr SrM m2 m')) := by
    refine loop_ex (lsN s k) (fun st y => y.1 = nI st ∧ RwM y.2 (tdN (ssD s)) (tdG (ssD s)) (tdD (ssD s)) (Lb s z) (sqZ s z st) ∧ (∀ i, i < st → agP s (clZ s z i) i k) ∧ Fr SrM m2 y.2) _ (by omega) ?_ ?_ ⟨rfl, R2, fun i hi => by omega, Fr.rf⟩
    · rintro st ⟨y1, m3⟩ hst ⟨i1, i2, i3, i4⟩
      dsimp only at i1 i2 i3 i4
      subst i1
      show (∃ s', f_X12_fits_44 (nI k) _ (nI st) m3 = some (Sum.inl s') ∧ _) ∨ ∃ e, f_X12_fits_44 (nI k) _ (nI st) m3 = some (Sum.inr e) ∧ _
      have f13 : Fr SSu m m3 := f12.tr (i4.mono (fun k j z => Or.inr (Or.inl z)))
      have hM3 := hM.1.fr f13 (fun k j h z => by omega)
      have hQ3 := hM.2.2.2.2.1.fr f13 (fun k j z1 z2 => by omega)
      unfold f_X12_fits_44
      have hcl : F_X12_clashesNow m3 = some (clZ s z st, m3) := m_clash hM3.1 hV.p i2 hN
      rw [if_neg (fun y => by have := (ls_lt hl (by omega)).mp y; omega), hcl, bind_s]
      dsimp only
      have inner : ∃ e, loop (g_X12_fits_59 (nI k) (iI ((lsN s k : Int) - 1)) (nI st) (clZ s z st)) ((0 : Int32), m3) = some e ∧ ((e = Sum.inl m3 ∧ ¬ agP s (clZ s z st) st k) ∨ (e = Sum.inr m3 ∧ agP s (clZ s z st) st k)) := by
        refine loop_ex k (fun i y => y = (nI i, m3) ∧ agP s (clZ s z st) st i) _ (by omega) ?_ ?_ ⟨rfl, fun i hi => by omega⟩
        · rintro i y hi ⟨rfl, j2⟩
          show (∃ s', f_X12_fits_59 (nI k) _ (nI st) _ (nI i) m3 = some (Sum.inl s') ∧ _) ∨ ∃ e, f_X12_fits_59 (nI k) _ (nI st) _ (nI i) m3 = some (Sum.inr e) ∧ _
          obtain ⟨⟨a, ha, e1⟩, ⟨b, hb0, hb, e2⟩, e3⟩ := hV.2.2.2.2.1.2 i (by omega)
          obtain ⟨q1, q2, q3⟩ := hQ3.2 i (by omega)
          unfold f_X12_fits_59
          rw [if_neg (nI_ge hi (by omega)), aI_n _ 109 (show i < 20 by omega) (by omega), bind_s, q1]
          have go : (ss1 s i = nI st → nI (bitN (clZ s z st) (ss2 s i).toNatClampNeg) = ss3 s i) → ∃ s', f_X12_fits_110 (nI k) (iI ((lsN s k : Int) - 1)) (nI st) (clZ s z st) (nI i) m3 = some (Sum.inl s') ∧ s' = (nI (i + 1), m3) ∧ agP s (clZ s z st) st (i + 1) := by
            intro h
            refine ⟨_, rfl, by rw [nI_1], fun j hj => ?_⟩
            by_cases e : j = i
            · rw [e]; exact h
            · exact j2 j (by omega)
          by_cases z1 : ss1 s i = nI st
          · rw [if_pos z1, aI_n _ 110 (show i < 20 by omega) (by omega), bind_s, q2, e2, bit_n]
            rw [e2, nI_clamp (by omega)] at go
            have h98 : ∀ v : Int32, v = nI (bitN (clZ s z st) b) → (∃ s', f_X12_fits_98 (nI k) (iI ((lsN s k : Int) - 1)) (nI st) (clZ s z st) (nI i) v m3 = some (Sum.inl s') ∧ s' = (nI (i + 1), m3) ∧ agP s (clZ s z st) st (i + 1)) ∨ ∃ e, f_X12_fits_98 (nI k) (iI ((lsN s k : Int) - 1)) (nI st) (clZ s z st) (nI i) v m3 = some (Sum.inr e) ∧ ((e = Sum.inl m3 ∧ ¬ agP s (clZ s z st) st k) ∨ (e = Sum.inr m3 ∧ agP s (clZ s z st) st k)) := by
              rintro v rfl
              unfold f_X12_fits_98
              rw [aI_n _ 111 (show i < 20 by omega) (by omega), bind_s, q3]
              by_cases z2 : nI (bitN (clZ s z st) b) = ss3 s i
              · rw [if_pos z2]
                exact Or.inl (go (fun _ => z2))
              · rw [if_neg z2]
                refine Or.inr ⟨_, rfl, Or.inl ⟨rfl, fun h => z2 ?_⟩⟩
                have := h i hi z1
                rw [e2, nI_clamp (by omega)] at this
                exact this
            have hle := bitN_le (clZ s z st) b
            by_cases hb1 : bitN (clZ s z st) b = 1
            · rw [if_pos (by rw [hb1]; rfl)]
              exact h98 1 (by rw [hb1]; rfl)
            · have hb' : ¬ nI (bitN (clZ s z st) b) = 1 := fun y => hb1 ((nI_eq (by omega) (by omega)).mp (show nI _ = nI 1 from y))
              rw [if_neg hb']
              exact h98 0 (by rw [show bitN (clZ s z st) b = 0 by omega]; rfl)
          · rw [if_neg z1]
            exact Or.inl (go (fun h => absurd h z1))
        · rintro y ⟨rfl, j2⟩
          show ∃ e, f_X12_fits_59 (nI k) _ (nI st) _ (nI k) m3 = some (Sum.inr e) ∧ _
          unfold f_X12_fits_59
          rw [if_pos (nI_le (Nat.le_refl _) (by omega))]
          exact ⟨_, rfl, Or.inr ⟨rfl, j2⟩⟩
      obtain ⟨e, e4, ⟨rfl, e5⟩ | ⟨rfl, e5⟩⟩ := inner
      · right
        rw [e4, bind_s]
        exact ⟨_, rfl, Or.inl ⟨m3, rfl, fun h => e5 (h st hst), i4⟩⟩
      · left
        rw [e4, bind_s, Sum.elim_inr, m_isFog hM3 hV.1, bind_s]
        dsimp only
        obtain ⟨m4, e6, R4, f4⟩ := m_st hM3 hV.1 i2 hN (VR.z hV z).2.1 (VR.z hV z).2.2 (VR.zq hV z st).1 (fogd (ssD s) (nI st))
        rw [e6, bind_s, nmI_e, bind_s]
        refine ⟨_, rfl, nI_1 st, R4, fun i hi => ?_, i4.tr f4⟩
        by_cases q : i = st
        · rw [q]; exact e5
        · exact i3 i (by omega)
    · rintro ⟨y1, m3⟩ ⟨i1, i2, i3, i4⟩
      dsimp only at i1 i2 i3 i4
      subst i1
      show ∃ e, f_X12_fits_44 (nI k) _ (nI (lsN s k)) m3 = some (Sum.inr e) ∧ _
      unfold f_X12_fits_44
      rw [if_pos ((ls_lt hl hl).mpr (Nat.le_refl _))]
      exact ⟨_, rfl, Or.inr ⟨m3, rfl, i3, i4⟩⟩
  obtain ⟨e, e4, ⟨m', rfl, e5, e6⟩ | ⟨m', rfl, e5, e6⟩⟩ := key
  · have : susB s n k z = false := by
      cases hb : susB s n k z
      · rfl
      · exact absurd (susB_t.mp hb).2 e5
    rw [e4, bind_s, this]
    exact ⟨m', rfl, (f2.mono (fun k j z => Or.inl z)).tr (e6.mono (fun k j z => Or.inr z))⟩
  · rw [e4, bind_s, susB_t.mpr ⟨hn, e5⟩]
    exact ⟨m', rfl, (f2.mono (fun k j z => Or.inl z)).tr (e6.mono (fun k j z => Or.inr z))⟩
theorem m_fill (hM : MS m l s) (hV : VS s) {n k : Nat} (hn : n ≤ 2) (hk : k ≤ ssQ s) : ∃ (m' : M2) (A : Nat → Nat), F_X12_fillSuspects (nI n) (nI k) m = some m' ∧ hI m' 56 84 = nI (cS s n k (2 ^ tdN (ssD s))) ∧ (∀ j, j < cS s n k (2 ^ tdN (ssD s)) → hI m' 112 j = nI (A j) ∧ A j < 2 ^ tdN (ssD s) ∧ susB s n k (A j) = true ∧ cS s n k (A j) = j) ∧ (∀ z, z < 2 ^ tdN (ssD s) → susB s n k z = true → A (cS s n k z) = z) ∧ Fr SSu m m' := by
  have hN := hV.n
  have hp := p12 hV
  unfold F_X12_fillSuspects
  rw [qI_e, bind_s]
  have key : ∃ e, loop (g_X12_fillSuspects_7 (nI n) (nI k)) ((0 : Int32), tI m 56 84 0) = some e ∧ ∃ A : Nat → Nat, hI e 56 84 = nI (cS s n k (2 ^ tdN (ssD s))) ∧ (∀ j, j < cS s n k (2 ^ tdN (ssD s)) → hI e 112 j = nI (A j) ∧ A j < 2 ^ tdN (ssD s) ∧ susB s n k (A j) = true ∧ cS s n k (A j) = j) ∧ (∀ z, z < 2 ^ tdN (ssD s) → susB s n k z = true → A (cS s n k z) = z) ∧ Fr SSu m e := by
    refine loop_to (2 ^ tdN (ssD s)) (fun K y => y.1 = nI K ∧ ∃ A : Nat → Nat, hI y.2 56 84 = nI (cS s n k K) ∧ (∀ j, j < cS s n k K → hI y.2 112 j = nI (A j) ∧ A j < K ∧ susB s n k (A j) = true ∧ cS s n k (A j) = j) ∧ (∀ z, z < K → susB s n k z = true → A (cS s n k z) = z) ∧ Fr SSu m y.2) _ (by omega) ?_ ?_ ⟨rfl, fun _ => 0, by rw [hI_tI, if_pos ⟨rfl, rfl⟩]; rfl, fun j hj => absurd hj (Nat.not_lt_zero j), fun z hz => by omega, Fr.rf.tI _ (by omega)⟩
    · rintro K ⟨y, m1⟩ hK ⟨i1, A, i2, i3, i4, i5⟩
      dsimp only at i1 i2 i3 i4 i5
      subst i1
      show ∃ s', f_X12_fillSuspects_7 (nI n) (nI k) (nI K) m1 = some (Sum.inl s') ∧ _
      have hM1 := hM.1.fr i5 (fun k j h z => by omega)
      have hpp := popN_le K 12
      have hle := cS_le s n k K
      have h66 := cP_le (n := n) (K := K) (by omega) (by omega)
      unfold f_X12_fillSuspects_7
      rw [m_menNow hM1.1.1 hM.l2 hM1.1.2.2.2.1, bind_s]
      dsimp only
      rw [one_shl (by omega), if_neg (nI_ge hK (by omega)), m_bits (by omega), bind_s]
      dsimp only
      have nope : ∀ m2 : M2, ¬ susB s n k K = true → hI m2 56 84 = nI (cS s n k K) → (∀ j, hI m2 112 j = hI m1 112 j) → Fr SSu m m2 → ∃ s', f_X12_fillSuspects_60 (nI n) (nI k) (nI K) m2 = some (Sum.inl s') ∧ s'.1 = nI (K + 1) ∧ ∃ A : Nat → Nat, hI s'.2 56 84 = nI (cS s n k (K + 1)) ∧ (∀ j, j < cS s n k (K + 1) → hI s'.2 112 j = nI (A j) ∧ A j < K + 1 ∧ susB s n k (A j) = true ∧ cS s n k (A j) = j) ∧ (∀ z, z < K + 1 → susB s n k z = true → A (cS s n k z) = z) ∧ Fr SSu m s'.2 := by
        intro m2 hb q1 q2 q3
        refine ⟨_, rfl, nI_1 K, A, by rw [cS_n hb]; exact q1, fun j hj => ?_, fun z hz hs => ?_, q3⟩
        · rw [cS_n hb] at hj
          obtain ⟨a1, a2, a3, a4⟩ := i3 j hj
          exact ⟨by rw [q2]; exact a1, by omega, a3, a4⟩
        · by_cases e : z = K
          · subst e; exact absurd hs hb
          · exact i4 z (by omega) hs
      by_cases h0 : popN K 12 = n
      · rw [if_pos (by rw [h0])]
        obtain ⟨m2, e2, f2⟩ := m_fits (z := K) hM hV (by omega) hk h0 i5
        rw [e2, bind_s]
        dsimp only
        have f12 : Fr SSu m m2 := i5.tr (f2.mono (fun k j z => by omega))
        by_cases hb : susB s n k K = true
        · rw [if_neg (fun z => (b1_0 _).mp z hb), show hI m2 56 84 = nI (cS s n k K) from by rw [f2.I _ _ (by omega)]; exact i2, bI_n _ 112 _ (show cS s n k K < 80 by omega) (by omega), bind_s, qI_e, bind_s]
          rw [show hI (tI m2 112 (cS s n k K) (nI K)) 56 84 = nI (cS s n k K) from by rw [hI_tI, if_neg (by omega), f2.I _ _ (by omega)]; exact i2, nI_1]
          refine ⟨_, rfl, nI_1 K, up1 A (cS s n k K) K, by rw [hI_tI, if_pos ⟨rfl, rfl⟩, cS_y hb], fun j hj => ?_, fun z hz hs => ?_, (f12.tI _ (by omega)).tI _ (by omega)⟩
          · rw [cS_y hb] at hj
            unfold up1
            rw [hI_tI, if_neg (by omega), hI_tI]
            by_cases e : j = cS s n k K
            · rw [if_pos ⟨rfl, e⟩, if_pos e]
              exact ⟨rfl, by omega, hb, e.symm⟩
            · obtain ⟨a1, a2, a3, a4⟩ := i3 j (by omega)
              rw [if_neg (fun z => e z.2), if_neg e, f2.I _ _ (by omega)]
              exact ⟨a1, by omega, a3, a4⟩
          · unfold up1
            by_cases e : z = K
            · subst e; rw [if_pos rfl]
            · have hlt : cS s n k z < cS s n k K := by
                have := cS_mono (s := s) n k (K := z + 1) (K - (z + 1))
                rw [show z + 1 + (K - (z + 1)) = K by omega, cS_y hs] at this
                omega
              rw [if_neg (by omega)]
              exact i4 z (by omega) hs
        · rw [if_pos ((b1_0 _).mpr hb)]
          exact nope m2 hb (by rw [f2.I _ _ (by omega)]; exact i2) (fun j => f2.I _ _ (by omega)) f12
      · rw [if_neg (fun y => h0 ((nI_eq (by omega) (by omega)).mp y))]
        exact nope m1 (fun hb => h0 (susB_t.mp hb).1) i2 (fun _ => rfl) i5
    · rintro ⟨y, m1⟩ ⟨i1, A, i2, i3, i4, i5⟩
      dsimp only at i1 i2 i3 i4 i5
      subst i1
      show ∃ e, f_X12_fillSuspects_7 (nI n) (nI k) (nI (2 ^ tdN (ssD s))) m1 = some (Sum.inr e) ∧ _
      have hM1 := hM.1.fr i5 (fun k j h z => by omega)
      unfold f_X12_fillSuspects_7
      rw [m_menNow hM1.1.1 hM.l2 hM1.1.2.2.2.1, bind_s]
      dsimp only
      rw [one_shl (by omega), if_pos (nI_le (Nat.le_refl _) (by omega))]
      exact ⟨_, rfl, A, i2, i3, i4, i5⟩
  obtain ⟨m', e1, A, e2, e3, e4, e5⟩ := key
  rw [e1, bind_s]
  exact ⟨m', A, rfl, e2, e3, e4, e5⟩
theorem m_canS (hM : MS m l s) (hV : VS s) (x y : Int32) : (suOk s x y → F_X12_canSuspect x y m = some (1, m)) ∧ (¬ suOk s x y → F_X12_canSuspect x y m = some (0, m)) := by
  have hq := hV.2.2.2.2.1.1
  unfold F_X12_canSuspect
  refine ⟨fun h => ?_, fun h => ?_⟩
  · rw [show F_X12_in x 0 2 m = some (1, m) from (inR (a := 0) (b := 2) (by omega) (by omega) _).1 h.1, bind_s]
    dsimp only
    rw [if_neg (by decide), hM.2.2.2.2.1.1, show F_X12_in y 0 (nI (ssQ s)) m = some (1, m) from (inR (a := 0) (b := ssQ s) (by omega) (by omega) _).1 h.2, bind_s]
    rfl
  · by_cases h1 : isR 0 2 x
    · rw [show F_X12_in x 0 2 m = some (1, m) from (inR (a := 0) (b := 2) (by omega) (by omega) _).1 h1, bind_s]
      dsimp only
      rw [if_neg (by decide), hM.2.2.2.2.1.1, show F_X12_in y 0 (nI (ssQ s)) m = some (0, m) from (inR (a := 0) (b := ssQ s) (by omega) (by omega) _).2 (fun z => h ⟨h1, z⟩), bind_s]
      rfl
    · rw [show F_X12_in x 0 2 m = some (0, m) from (inR (a := 0) (b := 2) (by omega) (by omega) _).2 h1, bind_s]
      rfl
theorem SSuM (k j : Nat) (z : SSu k j) : ¬ mk2 k j ∧ SM2 k j := ⟨fun z2 => by unfold mk2 at z2; omega, by omega⟩
theorem k_suspects_m (hM : MS m l s) (hV : VS s) {n k : Nat} (hn : n ≤ 2) (hk : k ≤ ssQ s) : OkM m l (F_X12_suspects (nI n) (nI k) m) (nI (cS s n k (2 ^ tdN (ssD s)))) s := by
  unfold F_X12_suspects
  rw [(m_canS hM hV _ _).1 ⟨⟨n, by omega, hn, rfl⟩, ⟨k, by omega, hk, rfl⟩⟩, bind_s]
  dsimp only
  obtain ⟨m1, A, e1, e2, e3, e4, f1⟩ := m_fill hM hV hn hk
  rw [if_neg (by decide), e1, bind_s, e2]
  exact OkM.scr hM f1 SSuM
theorem k_suspects_m0 (hM : MS m l s) (hV : VS s) {x y : Int32} (h : ¬ suOk s x y) : OkM m l (F_X12_suspects x y m) (-1) s := by
  unfold F_X12_suspects
  rw [(m_canS hM hV _ _).2 h, bind_s]
  exact OkM.same hM
theorem k_suspect_m (hM : MS m l s) (hV : VS s) {n k : Nat} {w : Int32} (hn : n ≤ 2) (hk : k ≤ ssQ s) : (∀ i, i < 2 ^ 31 → w = nI i → ∃ v, suN s n k i v ∧ OkM m l (F_X12_suspect (nI n) (nI k) w m) v s) ∧ (w < 0 → OkM m l (F_X12_suspect (nI n) (nI k) w m) (-1) s) := by
  have hp := p12 hV
  have hle := cS_le s n k (2 ^ tdN (ssD s))
  have h66 := cP_le (n := n) (K := 2 ^ tdN (ssD s)) (by omega) hp
  unfold F_X12_suspect
  rw [(m_canS hM hV _ _).1 ⟨⟨n, by omega, hn, rfl⟩, ⟨k, by omega, hk, rfl⟩⟩, bind_s]
  dsimp only
  obtain ⟨m1, A, e1, e2, e3, e4, f1⟩ := m_fill hM hV hn hk
  rw [if_neg (by decide), e1, bind_s, e2]
  have inb := inB (m := m1) (n := cS s n k (2 ^ tdN (ssD s))) (by omega) w
  refine ⟨fun i hi hw => ?_, fun hw => ?_⟩
  · by_cases h : i < cS s n k (2 ^ tdN (ssD s))
    · rw [inb.1 ⟨i, h, hw⟩, bind_s]
      dsimp only
      obtain ⟨a1, a2, a3, a4⟩ := e3 i h
      rw [if_neg (by decide), hw, aI_n _ 112 (show i < 80 by omega) (by omega), bind_s, a1]
      exact ⟨nI (A i), Or.inl ⟨A i, a2, a3, a4, rfl⟩, OkM.scr hM f1 SSuM⟩
    · have : ¬ isB (cS s n k (2 ^ tdN (ssD s))) w := by
        rintro ⟨b, hb, hb2⟩
        rw [hw] at hb2
        have := (nI_eq hi (by omega)).mp hb2
        omega
      rw [inb.2 this, bind_s]
      exact ⟨-1, Or.inr ⟨by omega, rfl⟩, OkM.scr hM f1 SSuM⟩
  · have : ¬ isB (cS s n k (2 ^ tdN (ssD s))) w := by
      rintro ⟨b, hb, hb2⟩
      rw [hb2] at hw
      exact nI_pos (by omega) hw
    rw [inb.2 this, bind_s]
    exact OkM.scr hM f1 SSuM
theorem k_suspect_m0 (hM : MS m l s) (hV : VS s) {x y w : Int32} (h : ¬ suOk s x y) : OkM m l (F_X12_suspect x y w m) (-1) s := by
  unfold F_X12_suspect
  rw [(m_canS hM hV _ _).2 h, bind_s]
  exact OkM.same hM
end KE
