/-! ===== the class's read ===== -/
def cwB (d : TD) : CD := (tdT d, (fun b => nI b), tdO d, tdD d, 0)
def sRead (s : SS) (d : TD) : SS := (d, cwB d, (0, ssH s), ((fun _ => false), ssC s), (0, ss1 s, ss2 s, ss3 s), (0, ssY s), -1)
def sFail (s : SS) (p : Int32) : SS := (ssD s, ssK s, (ssU s, ssH s), (ssB s, ssC s), (ssQ s, ss1 s, ss2 s, ss3 s), (0, ssY s), p)
theorem VS.fail {s : SS} (h : VS s) (p : Int32) : VS (sFail s p) := ⟨h.1, h.2.1, h.2.2.1, h.2.2.2.1, h.2.2.2.2.1, Nat.zero_le _⟩
theorem VS.read {s : SS} {d : TD} (h : VT d) : VS (sRead s d) := by
  have h0 := h
  obtain ⟨h1, h2, h3, h4, h5, h6, h7, h8, h9, h10, h11⟩ := h
  exact ⟨h0, ⟨h9, h8, h6, h11⟩, ⟨Nat.zero_le _, fun i hi => absurd hi (Nat.not_lt_zero _)⟩, fun i _ hb => (by cases hb), ⟨Nat.zero_le _, fun i hi => absurd hi (Nat.not_lt_zero _)⟩, Nat.zero_le _⟩
/-- behind the text that was read -/
def rdEnd (e : Nat) (m : M2) : Option M2 := (F_X1_begin 28 e m).bind fun m3 => (F_X3_clear m3).bind fun m4 => some (tI (tI (tI (tI m4 41 1 0) 47 5 0) 50 5 0) 53 5 0)
def F_read (e0 c : Nat) (m : M2) : Option (Int32 × M2) := (F_X4_readTape e0 (hI m 0 1) (10 - c) m).bind fun r => if r.1 = 0 then (rdEnd (10 - c) (tI r.2 0 1 0)).bind fun m' => some (r.1, m') else some (r.1, tI r.2 0 1 0)
section KG2
variable {m : M2} {e : Nat} {By : Nat → Nat} {n : Nat}
theorem XI.xt {i : Nat} {s : IS} (he : tx e) (hX : XI m e By n i s) (hT : TB s) (hV : VT (tdOf s)) : XT m e (tdOf s) := by
  obtain ⟨C, hR, ⟨⟨⟨a0, a1, a5, a8, a9, a10, a11⟩, a7, b3, b4⟩, _⟩, hB, hL⟩ := hX
  obtain ⟨v1, v2, v3, v4, v5', v6, v7, v8, v9, v10, v11⟩ := hV
  have he' := he
  unfold tx at he'
  have hte := te_le By n
  refine ⟨⟨⟨a0, a5, a1, a9, a10⟩, v1, v2, v3, v4, v5', he⟩, a8, a11, fun q hq => ?_, fun b hb => ?_, ?_, ?_⟩
  · obtain ⟨p, p1, p2, _⟩ := getD_some (d := ((0 : Nat), (0 : Nat))) (show q < (ttF s).length from hq)
    show hI m (e + 4) q = nI ((ttF s).getD q (0, 0)).1 ∧ hI m (e + 5) q = nI ((ttF s).getD q (0, 0)).2
    rw [p2]
    exact b4 q p p1
  · obtain ⟨p, p1, p2, _⟩ := getD_some (d := ((0 : Int32), (0 : Nat))) (show b < (ttM s).length from hb)
    show hI m (e + 3) b = ((ttM s).getD b (0, 0)).1
    rw [p2]
    exact b3 b p p1
  · rw [a7]
    show lN (pk (tmN (ttM s)) (ttM s).length) = lN (pk (fun b => ((ttM s).getD b (0, 0)).2) (ttM s).length)
    rw [pk_congr (u := fun b => ((ttM s).getD b (0, 0)).2)]
    intro b hb
    show ((ttM s).getD b (0, 0)).2 % 32 = ((ttM s).getD b (0, 0)).2
    have h1 : ((ttM s).getD b (0, 0)).2 < ttP s := v9 b hb
    have h2 : ttP s ≤ 24 := v1.2
    exact Nat.mod_eq_of_lt (by omega)
  · intro q hq v m' hf hv
    obtain ⟨w, w1, w2, _⟩ := getD_some (d := (([] : List Br), ([] : List Op))) (show q < (ttL s).length from hq)
    obtain ⟨a, h1, h2, h3⟩ := hL q w w1
    have hC : CdX m' e C := hR.2.2.2.2.2.1.fr hf (fun k j z => by omega)
    have hlen : C.length ≤ 400 := by
      have := hR.2.2.2.2.1
      have := hR.2.2.2.1
      omega
    rw [h2]
    obtain ⟨x, m2, e2, g2, f2⟩ := x_worked (c := e) (P := ttP s) (D := C) (v := v) (m := m') (own := v 0) (by rw [hf.I _ _ (by omega)]; exact a0) v1 (by omega) hC hlen hB hv (h3 C (fun _ _ => rfl) (ttP s) v) (by omega)
    refine ⟨x, m2, e2, ?_, f2⟩
    show rst (ttP s) x = rst (ttP s) ((lawV (ttP s) v ((ttL s).getD q ([], []))).getD (v 0))
    rw [w2, g2]
theorem x_crewBegin {d : TD} (he : tx e) (hX : XT m e d) (hV : VT d) : ∃ m', F_X1_begin 28 e m = some m' ∧ XC m' 28 (tdN d) (cwB d) ∧ Fr (fun k _ => k = 28 ∨ k = 29 ∨ k = 30) m m' := by
  have he' := he
  unfold tx at he'
  have hn := hV.n
  obtain ⟨h1, h2, h3, h4, h5, h6, h7⟩ := hX
  unfold F_X1_begin
  rw [qJ_e, bind_s, qI_e, bind_s, qI_e, bind_s, h6, hI_tJ, h2]
  have f0 : Fr (fun k _ => k = 28 ∨ k = 29 ∨ k = 30) m (tI (tI (tJ m 28 0 (lN (pk (tdT d) (tdN d)))) 28 3 (tdD d)) 28 4 0) := ((Fr.rf.tJ _ (by omega)).tI _ (by omega)).tI _ (by omega)
  have g0 : hJ (tI (tI (tJ m 28 0 (lN (pk (tdT d) (tdN d)))) 28 3 (tdD d)) 28 4 0) 28 0 = lN (pk (tdT d) (tdN d)) ∧ hI (tI (tI (tJ m 28 0 (lN (pk (tdT d) (tdN d)))) 28 3 (tdD d)) 28 4 0) 28 3 = tdD d ∧ hI (tI (tI (tJ m 28 0 (lN (pk (tdT d) (tdN d)))) 28 3 (tdD d)) 28 4 0) 28 4 = 0 := by simp [hI_tI, hJ_tI, hJ_tJ]
  generalize tI (tI (tJ m 28 0 (lN (pk (tdT d) (tdN d)))) 28 3 (tdD d)) 28 4 0 = m1 at f0 g0 ⊢
  have key : ∃ z, loop (g_X1_begin_23 28 e) ((0 : Int32), m1) = some z ∧ XC z 28 (tdN d) (cwB d) ∧ Fr (fun k _ => k = 28 ∨ k = 29 ∨ k = 30) m z := by
    refine loop_to (tdN d) (fun k z => z.1 = nI k ∧ (∀ b, b < k → hI z.2 29 b = nI b ∧ hI z.2 30 b = tdO d b) ∧ (hJ z.2 28 0 = lN (pk (tdT d) (tdN d)) ∧ hI z.2 28 3 = tdD d ∧ hI z.2 28 4 = 0) ∧ Fr (fun k _ => k = 28 ∨ k = 29 ∨ k = 30) m z.2) _ (by omega) ?_ ?_ ⟨rfl, fun b hb => by omega, g0, f0⟩
    · rintro k ⟨z1, m2⟩ hk ⟨i1, i2, i3, i4⟩
      dsimp only at i1 i2 i3 i4
      subst i1
      show ∃ s', f_X1_begin_23 28 e (nI k) m2 = some (Sum.inl s') ∧ _
      unfold f_X1_begin_23
      rw [show hI m2 e 5 = nI (tdN d) from (i4.I _ _ (by omega)).trans h1.1.2.1, if_neg (nI_ge hk (by omega)), bI_n _ (28 + 1) _ (show k < 12 by omega) (by omega), bind_s, aI_n _ (e + 3) (show k < 12 by omega) (by omega), bind_s, hI_tI, if_neg (by omega), show hI m2 (e + 3) k = tdO d k from (i4.I _ _ (by omega)).trans (h5 k hk), bI_n _ (28 + 2) _ (show k < 12 by omega) (by omega), bind_s, nmI_e, bind_s, nI_1]
      have f5 : Fr (fun a b => (a = 29 ∧ b = k) ∨ (a = 30 ∧ b = k)) m2 (tI (tI m2 (28 + 1) k (nI k)) (28 + 2) k (tdO d k)) := (Fr.rf.tI _ (by omega)).tI _ (by omega)
      refine ⟨_, rfl, rfl, fun b hb => ?_, ⟨(f5.J _ _ (by omega)).trans i3.1, (f5.I _ _ (by omega)).trans i3.2.1, (f5.I _ _ (by omega)).trans i3.2.2⟩, i4.tr (f5.mono (fun k j z => by omega))⟩
      by_cases q : b = k
      · subst q
        exact ⟨by rw [hI_tI, if_neg (by omega), hI_tI, if_pos ⟨rfl, rfl⟩], by rw [hI_tI, if_pos ⟨rfl, rfl⟩]⟩
      · have := i2 b (by omega)
        exact ⟨(f5.I _ _ (by omega)).trans this.1, (f5.I _ _ (by omega)).trans this.2⟩
    · rintro ⟨z1, m2⟩ ⟨i1, i2, i3, i4⟩
      dsimp only at i1 i2 i3 i4
      subst i1
      show ∃ z, f_X1_begin_23 28 e (nI (tdN d)) m2 = some (Sum.inr z) ∧ _
      unfold f_X1_begin_23
      rw [show hI m2 e 5 = nI (tdN d) from (i4.I _ _ (by omega)).trans h1.1.2.1, if_pos (nI_le (Nat.le_refl _) (by omega))]
      exact ⟨_, rfl, ⟨i3.1, i2, i3.2.1, i3.2.2⟩, i4⟩
  obtain ⟨z, e1, q1, q2⟩ := key
  rw [e1, bind_s]
  exact ⟨z, rfl, q1, q2⟩
theorem x_readTape {e0 : Nat} (he : tx e) (hn : n ≤ 2000) (hB : ∀ i, i < n → hI m 1 i &&& (255 : Int32) = nI (By i)) (hB2 : ∀ i, By i < 256) (hW : ∀ w, w < 17 → hJ m 19 w = lN (W5 w)) : (∀ s, rdA (tk By n) (vI By n) (v5 By n) = .inl s → VT (tdOf s) ∧ ∃ m', F_X4_readTape e0 (nI n) e m = some (0, m') ∧ XT m' e (tdOf s) ∧ hI m' 14 5 = -1 ∧ Fr (SRt e) m m') ∧ (∀ f t, rdA (tk By n) (vI By n) (v5 By n) = .inr (f, t) → (0 < f ∧ f < 7) ∧ ∃ m', F_X4_readTape e0 (nI n) e m = some (nI f, m') ∧ hI m' 14 5 = nI (tp By n t) ∧ Fr (SRt e) m m') := by
  have he' := he
  unfold tx at he'
  unfold F_X4_readTape
  have bg : F_X4_begin e0 (nI n) e m = F_X4_begin e (nI n) e m := rfl
  obtain ⟨m1, e1, x1, f1⟩ := x_begin he hn hB hB2 hW
  rw [bg, e1, bind_s]
  obtain ⟨m2, e2, f2, q2⟩ := x_text he hn x1
  rw [e2, bind_s]
  have ff2 : Fr (SRt e) m m2 := f1.tr (f2.mono (fun k j z => by omega))
  unfold rdA
  rcases q2 with ⟨i, s, ep, hI2, hT⟩ | ⟨f, t, ep, r2⟩
  · rw [ep]
    dsimp only
    have hA : AV (tk By n) (vI By n) (v5 By n) s := pT_AV ep (AV0 _ _ _)
    have hI3 := hI2
    obtain ⟨C, hR, ⟨F2, N2, W2, U2⟩, _, _⟩ := hI2
    unfold f_X4_readTape_169 f_X4_readTape_180
    rw [if_pos hR.1]
    unfold F_X4_takeLaterFault f_X4_takeLaterFault_64 rdW
    cases hw : ttW s with
    | some w =>
      rw [hw] at W2
      have w1 : hI m2 14 6 = nI w.1 := W2.1
      have w2 := W2.2.1
      have w3 : hI m2 14 7 = nI (tp By n w.2) := W2.2.2
      dsimp only
      rw [if_neg (by rw [w1]; exact nI_ne0 w2.1 (by omega)), qI_e, bind_s, qI_e, bind_s, bind_s]
      refine ⟨fun s' z => (by cases z), fun f' t' z => ?_⟩
      cases z
      refine ⟨w2, tI (tI m2 14 4 (hI m2 14 6)) 14 5 (hI (tI m2 14 4 (hI m2 14 6)) 14 7), ?_, ?_, (ff2.tI _ (by omega)).tI _ (by omega)⟩
      · have : hI (tI (tI m2 14 4 (hI m2 14 6)) 14 5 (hI (tI m2 14 4 (hI m2 14 6)) 14 7)) 14 4 = nI f' := by rw [hI_tI, if_neg (by omega), hI_tI, if_pos ⟨rfl, rfl⟩, w1]
        rw [this]
      rw [hI_tI, if_pos ⟨rfl, rfl⟩, hI_tI, if_neg (by omega)]
      exact w3
    | none =>
      rw [hw] at W2
      have w1 : hI m2 14 6 = 0 := W2
      have hP := hA.1
      have b1 := U2.1 (ttP s) hP.1 hP.2
      dsimp only
      rw [if_pos w1, show hI m2 e 0 = nI (ttP s) from F2.1.1, aI_n _ 15 (show ttP s < 25 by omega) (by omega), bind_s, b1]
      cases hb : fbl (vI By n) (ttP s) (ttU s) with
      | none =>
        rw [if_pos (show byV By n none = -1 from rfl), bind_s]
        have hV := td_ok hT hA hw hb
        refine ⟨fun s' z => ?_, fun f' t' z => (by cases z)⟩
        cases z
        exact ⟨hV, m2, by rw [hR.1], hI3.xt he hT hV, hR.2.2.2.2.2.2.2, ff2⟩
      | some t =>
        rw [hb] at b1
        have ht : ¬ byV By n (some t) = -1 := nI_m1 (by have := U2.2 t (fbl_m hb).1; omega)
        rw [if_neg ht, qI_e, bind_s, show hI (tI m2 14 4 6) e 0 = nI (ttP s) from by rw [hI_tI, if_neg (by omega)]; exact F2.1.1, aI_n _ 15 (show ttP s < 25 by omega) (by omega), bind_s, hI_tI, if_neg (by omega), b1, qI_e, bind_s, bind_s]
        refine ⟨fun s' z => (by cases z), fun f' t' z => ?_⟩
        cases z
        refine ⟨by omega, _, rfl, ?_, (ff2.tI _ (by omega)).tI _ (by omega)⟩
        rw [hI_tI, if_pos ⟨rfl, rfl⟩]
        rfl
  · rw [ep]
    unfold f_X4_readTape_169 f_X4_readTape_180
    rw [if_neg r2.ne]
    refine ⟨fun s' z => (by cases z), fun f' t' z => ?_⟩
    cases z
    exact ⟨r2.2.1, m2, by rw [r2.1], r2.2.2.1, ff2⟩
end KG2
section KH2
variable {m : M2} {c e0 : Nat} {s : SS}
def sBy (s : SS) : Nat → Nat := fun i => byt (ssY s i)
def rdS (s : SS) : IS ⊕ (Nat × Nat) := rdA (tk (sBy s) (ssT s)) (vI (sBy s) (ssT s)) (v5 (sBy s) (ssT s))
theorem k_read_x (hX : XS m c s) (hV : VS s) (hW : ∀ w, w < 17 → hJ m 19 w = lN (W5 w)) : (∀ q, rdS s = .inl q → VS (sRead s (tdOf q)) ∧ ∃ m', F_read e0 c m = some (0, m') ∧ XS m' (10 - c) (sRead s (tdOf q)) ∧ Fr SX m m') ∧ (∀ f t, rdS s = .inr (f, t) → (0 < f ∧ f < 7) ∧ ∃ m', F_read e0 c m = some (nI f, m') ∧ XS m' c (sFail s (nI (tp (sBy s) (ssT s) t))) ∧ Fr SX m m') := by
  have hX0 := hX
  obtain ⟨h1, h2, h3, h4, h5, ⟨h6, h6b⟩, h7⟩ := hX
  have hc : tx c := h1.1.2.2.2.2.2.2
  have hc' := hc
  unfold tx at hc'
  have he : tx (10 - c) := by unfold tx; omega
  have hdis : ∀ k, (c ≤ k ∧ k ≤ c + 5) → ¬ (10 - c ≤ k ∧ k ≤ 10 - c + 5) := fun k z => by omega
  have hn : ssT s ≤ 2000 := hV.2.2.2.2.2
  obtain ⟨r1, r2⟩ := x_readTape (m := m) (e0 := e0) (By := sBy s) (n := ssT s) he hn (fun i _ => by rw [h6b]; exact byt_ok _) (fun i => byt_lt _) hW
  unfold F_read
  rw [h6]
  refine ⟨fun q hq => ?_, fun f t hq => ?_⟩
  · obtain ⟨hVT, m1, e1, x1, p1, f1⟩ := r1 q hq
    refine ⟨VS.read hVT, ?_⟩
    rw [e1, bind_s]
    dsimp only
    rw [if_pos rfl]
    have f2 : Fr (fun k j => k = 0 ∧ j = 1) m1 (tI m1 0 1 0) := Fr.rf.tI _ ⟨rfl, rfl⟩
    have w2 : hI (tI m1 0 1 0) 0 1 = 0 := by rw [hI_tI, if_pos ⟨rfl, rfl⟩]
    generalize tI m1 0 1 0 = m2 at f2 w2 ⊢
    have x2 := x1.fr f2 (fun k j z1 z2 => by omega)
    obtain ⟨m3, e3, x3, f3⟩ := x_crewBegin he x2 hVT
    unfold rdEnd F_X3_clear
    rw [e3, bind_s, qI_e, bind_s, qI_e, bind_s, bind_s, bind_s]
    have f4 : Fr (fun k j => (k = 32 ∧ (j = 1 ∨ j = 2)) ∨ (k = 41 ∧ j = 1) ∨ ((k = 47 ∨ k = 50 ∨ k = 53) ∧ j = 5)) m3 (tI (tI (tI (tI (tI (tI m3 32 1 0) 32 2 0) 41 1 0) 47 5 0) 50 5 0) 53 5 0) := (((((Fr.rf.tI _ (by omega)).tI _ (by omega)).tI _ (by omega)).tI _ (by omega)).tI _ (by omega)).tI _ (by omega)
    have w4 : hI (tI (tI (tI (tI (tI (tI m3 32 1 0) 32 2 0) 41 1 0) 47 5 0) 50 5 0) 53 5 0) 32 1 = 0 ∧ hI (tI (tI (tI (tI (tI (tI m3 32 1 0) 32 2 0) 41 1 0) 47 5 0) 50 5 0) 53 5 0) 32 2 = 0 ∧ hI (tI (tI (tI (tI (tI (tI m3 32 1 0) 32 2 0) 41 1 0) 47 5 0) 50 5 0) 53 5 0) 41 1 = 0 ∧ hI (tI (tI (tI (tI (tI (tI m3 32 1 0) 32 2 0) 41 1 0) 47 5 0) 50 5 0) 53 5 0) 47 5 = 0 ∧ hI (tI (tI (tI (tI (tI (tI m3 32 1 0) 32 2 0) 41 1 0) 47 5 0) 50 5 0) 53 5 0) 50 5 = 0 ∧ hI (tI (tI (tI (tI (tI (tI m3 32 1 0) 32 2 0) 41 1 0) 47 5 0) 50 5 0) 53 5 0) 53 5 = 0 := by simp [hI_tI]
    generalize tI (tI (tI (tI (tI (tI m3 32 1 0) 32 2 0) 41 1 0) 47 5 0) 50 5 0) 53 5 0 = m4 at f4 w4 ⊢
    have f14 : Fr (fun k j => (k = 0 ∧ j = 1) ∨ (28 ≤ k ∧ k ≤ 30) ∨ (k = 32 ∧ (j = 1 ∨ j = 2)) ∨ (k = 41 ∧ j = 1) ∨ ((k = 47 ∨ k = 50 ∨ k = 53) ∧ j = 5)) m1 m4 := ((f2.mono (fun k j z => by omega)).tr (f3.mono (fun k j z => by omega))).tr (f4.mono (fun k j z => by omega))
    refine ⟨m4, rfl, ⟨x1.fr f14 (fun k j z1 z2 => by omega), x3.fr f4 (fun k j z1 z2 => by omega), ⟨0, by omega, w4.1, w4.2.1, fun i hi => absurd hi (Nat.not_lt_zero _)⟩, fun t ht => ⟨?_, fun z => (by cases z)⟩, ⟨w4.2.2.1, fun i hi => absurd hi (Nat.not_lt_zero _)⟩, ⟨?_, fun i => ?_⟩, ?_⟩, ?_⟩
    · show hI m4 (47 + 3 * t) 5 = 0
      match t, ht with
      | 0, _ => exact w4.2.2.2.1
      | 1, _ => exact w4.2.2.2.2.1
      | 2, _ => exact w4.2.2.2.2.2
    · show hI m4 0 1 = 0
      rw [f4.I _ _ (by omega), f3.I _ _ (by omega)]; exact w2
    · rw [f14.I _ _ (by omega), f1.I _ _ (by omega)]; exact h6b i
    · rw [f14.I _ _ (by omega)]; exact p1
    · exact (f1.mono (fun k j z => by omega)).tr (f14.mono (fun k j z => by omega))
  · obtain ⟨hf, m1, e1, p1, f1⟩ := r2 f t hq
    refine ⟨hf, ?_⟩
    rw [e1, bind_s]
    dsimp only
    rw [if_neg (nI_ne0 hf.1 (by omega))]
    have f2 : Fr (fun k j => SRt (10 - c) k j ∨ (k = 0 ∧ j = 1)) m (tI m1 0 1 0) := (f1.mono (fun k j z => Or.inl z)).tI _ (by omega)
    refine ⟨_, rfl, ⟨h1.fr f2 (fun k j z1 z2 => by omega), h2.fr f2 (fun k j z1 z2 => by omega), ?_, ?_, ?_, ⟨?_, fun i => ?_⟩, ?_⟩, f2.mono (fun k j z => by omega)⟩
    · obtain ⟨x, a1, a2, a3, a4⟩ := h3
      exact ⟨x, a1, (f2.I _ _ (by omega)).trans a2, (f2.I _ _ (by omega)).trans a3, fun i hi => (f2.J _ _ (by omega)).trans (a4 i hi)⟩
    · intro t' ht
      obtain ⟨a1, a2⟩ := h4 t' ht
      exact ⟨(f2.I _ _ (by omega)).trans a1, fun z => (a2 z).fr f2 (fun k j z1 z2 => by omega)⟩
    · obtain ⟨a1, a2⟩ := h5
      exact ⟨(f2.I _ _ (by omega)).trans a1, fun i hi => ⟨(f2.I _ _ (by omega)).trans (a2 i hi).1, (f2.I _ _ (by omega)).trans (a2 i hi).2.1, (f2.I _ _ (by omega)).trans (a2 i hi).2.2⟩⟩
    · show hI (tI m1 0 1 0) 0 1 = 0
      rw [hI_tI, if_pos ⟨rfl, rfl⟩]
    · rw [f2.I _ _ (by omega)]; exact h6b i
    · show hI (tI m1 0 1 0) 14 5 = nI (tp (sBy s) (ssT s) t)
      rw [hI_tI, if_neg (by omega)]; exact p1
end KH2
