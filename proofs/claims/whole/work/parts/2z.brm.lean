/-! ===== the reference reads a law's branches ===== -/
section KZ
variable {m : M2} {By : Nat → Nat} {n sd : Nat}
theorem m_cond_no {i : Nat} (hB : MBs m By n i) (h21 : tk By n i = 21) (h4 : ¬ i < 400) : ∃ m', F_X12_condition m = some m' ∧ MFt m' By n 2 i ∧ Fr S56 m m' := by
  unfold F_X12_condition f_X12_condition_61
  obtain ⟨m1, e1, r1, f1⟩ := (m_goesOn hB (by omega)).2 h4
  rw [e1, bind_s]
  have key : ∃ z, loop g_X12_condition_8 ((1 : Int32), (1 : Int32), m1) = some z ∧ z = m1 := by
    refine loop_to 0 (fun _ z => z = ((1 : Int32), (1 : Int32), m1)) _ (by omega) (fun k s hk => by omega) ?_ rfl
    rintro z rfl
    show ∃ z, f_X12_condition_8 1 1 m1 = some (Sum.inr z) ∧ _
    unfold f_X12_condition_8
    rw [if_neg (by decide), if_neg r1.ne]
    exact ⟨_, rfl, rfl⟩
  obtain ⟨z, e2, rfl⟩ := key
  rw [e2, bind_s]
  exact ⟨z, rfl, r1, f1.mono (fun k j z => by omega)⟩
def BOK (m m' : M2) (By : Nat → Nat) (n sd : Nat) (C C2 : List Op) (i j k0 k1 b0 : Nat) (bs : List Br) : Prop := MBs m' By n j ∧ CdM m' sd (C ++ C2) ∧ (C ++ C2).length ≤ j ∧ hI m' 56 12 = 0 ∧ hI m' 56 41 = nI (150 * sd + k1) ∧ 3 * k1 ≤ j ∧ k0 ≤ k1 ∧ hI m' 56 27 = nI (54 * sd + (b0 + bs.length)) ∧ (∀ q b, bs[q]? = some b → BrK (GC (C ++ C2)) k1 m' sd (b0 + q) b) ∧ (∀ b, b ∈ bs → ¬ b.1 = []) ∧ i ≤ j ∧ Fr (SBr sd k0 b0) m m'
def FOK (m m' : M2) (By : Nat → Nat) (n sd k0 b0 f t : Nat) : Prop := MFt m' By n f t ∧ (∃ b1, hI m' 56 27 = nI (54 * sd + b1) ∧ b1 ≤ b0 + 8) ∧ Fr (SBr sd k0 b0) m m'
theorem pBr_s (K V : Nat → Nat) (f i : Nat) (bs : List Br) : pBr K V (f + 1) i bs = if K i = 21 then (if f = 0 then .inr (2, i) else if i < 400 then (match pCn K V 401 (i + 1) true [] with
      | .inr e => .inr e
      | .inl z => if K z.1 = 22 then (if z.1 < 400 then (match pX K V 24 0 0 (z.1 + 1) with
          | .inr e => .inr e
          | .inl y => if K y.1 = 23 then (if y.1 < 400 then pBr K V f (y.1 + 1) (bs ++ [(z.2, y.2)]) else .inr (2, y.1)) else .inr (1, y.1)) else .inr (2, z.1)) else .inr (1, z.1)) else .inr (2, i)) else .inl (i, bs) := rfl
def p1 (K V : Nat → Nat) (i : Nat) : (Nat × Br) ⊕ (Nat × Nat) := if i < 400 then (match pCn K V 401 (i + 1) true [] with
      | .inr e => .inr e
      | .inl z => if K z.1 = 22 then (if z.1 < 400 then (match pX K V 24 0 0 (z.1 + 1) with
          | .inr e => .inr e
          | .inl y => if K y.1 = 23 then (if y.1 < 400 then .inl (y.1 + 1, (z.2, y.2)) else .inr (2, y.1)) else .inr (1, y.1)) else .inr (2, z.1)) else .inr (1, z.1)) else .inr (2, i)
theorem pBr_1 (K V : Nat → Nat) (f i : Nat) (bs : List Br) : pBr K V (f + 1) i bs = if K i = 21 then (if f = 0 then .inr (2, i) else match p1 K V i with
      | .inr e => .inr e
      | .inl y => pBr K V f y.1 (bs ++ [y.2])) else .inl (i, bs) := by
  rw [pBr_s]
  unfold p1
  by_cases h1 : K i = 21
  · rw [if_pos h1, if_pos h1]
    by_cases h0 : f = 0
    · rw [if_pos h0, if_pos h0]
    · rw [if_neg h0, if_neg h0]
      by_cases h4 : i < 400
      · rw [if_pos h4, if_pos h4]
        cases pCn K V 401 (i + 1) true [] with
        | inr e => rfl
        | inl z =>
          dsimp only
          by_cases h2 : K z.1 = 22
          · rw [if_pos h2, if_pos h2]
            by_cases h5 : z.1 < 400
            · rw [if_pos h5, if_pos h5]
              cases pX K V 24 0 0 (z.1 + 1) with
              | inr e => rfl
              | inl y =>
                dsimp only
                by_cases h3 : K y.1 = 23
                · rw [if_pos h3, if_pos h3]
                  by_cases h6 : y.1 < 400
                  · rw [if_pos h6, if_pos h6]
                  · rw [if_neg h6, if_neg h6]
                · rw [if_neg h3, if_neg h3]
            · rw [if_neg h5, if_neg h5]
          · rw [if_neg h2, if_neg h2]
      · rw [if_neg h4, if_neg h4]
  · rw [if_neg h1, if_neg h1]
/-! frames, small -/
theorem SBr.up {k0 k1 b0 b1 k j : Nat} (hk : k0 ≤ k1) (hb : b0 ≤ b1) (z : SBr sd k1 b1 k j) : SBr sd k0 b0 k j := by omega
theorem SBr.lt {k0 b0 k j : Nat} (z : SLt sd k0 k j) : SBr sd k0 b0 k j := Or.inl z
theorem SBr.s {k0 b0 k j : Nat} (z : S56 k j) : SBr sd k0 b0 k j := by omega
theorem SBr.p {q k0 b0 k j : Nat} (hq : 70 ≤ q ∧ q ≤ 73) (hb : b0 < 54) (z : k = q ∧ j = 54 * sd + b0) : SBr sd k0 b0 k j := by omega
theorem SBr.t {k0 b0 k j : Nat} (hb : b0 < 54) (z : SXm sd k j ∨ (k = 56 ∧ j = 27) ∨ ((k = 72 ∨ k = 73) ∧ j = 54 * sd + b0)) : SBr sd k0 b0 k j := by omega
theorem SBr.t2 {k0 b0 k j : Nat} (hb : b0 < 54) (z : (k = 56 ∧ j = 27) ∨ ((k = 72 ∨ k = 73) ∧ j = 54 * sd + b0)) : SBr sd k0 b0 k j := by omega
theorem BrK.sbr {G G' : Nat → List Op → Prop} {m' : M2} {K K' p b' : Nat} {br : Br} (h : BrK G K m sd p br) (hK : K ≤ K') (hp : p < b') (hG : ∀ a L, G a L → G' a L) (hf : Fr (SBr sd K b') m m') : BrK G' K' m' sd p br := h.mono hK hG (fun q j g1 g2 g3 g4 => hf.I _ _ (by omega)) (fun q g1 g2 => hf.I _ _ (by omega))
theorem Fr.i56 {m' : M2} (h : Fr S56 m m') {k j : Nat} (hk : ¬ k = 56) : hI m' k j = hI m k j := h.I _ _ (fun z => hk z.1)
theorem Fr.j56 {m' : M2} (h : Fr S56 m m') {j : Nat} (hk : ¬ (j = 11 ∨ j = 13 ∨ j = 14)) : hI m' 56 j = hI m 56 j := h.I _ _ (fun z => hk z.2)
theorem Fr.i1 {m' : M2} {K J : Nat} (h : Fr (fun k j => k = K ∧ j = J) m m') {k j : Nat} (hk : ¬ k = K) : hI m' k j = hI m k j := h.I _ _ (fun z => hk z.1)
theorem Fr.iL {m' : M2} {k0 : Nat} (h : Fr (SLt sd k0) m m') {k j : Nat} (hk : (66 ≤ k ∧ k ≤ 82) ∨ (k = 56 ∧ j = 27)) : hI m' k j = hI m k j := h.I _ _ (by omega)
theorem Fr.iT {m' : M2} {b0 : Nat} (h : Fr (fun k j => SXm sd k j ∨ (k = 56 ∧ j = 27) ∨ ((k = 72 ∨ k = 73) ∧ j = 54 * sd + b0)) m m') {k j : Nat} (hk : (66 ≤ k ∧ k ≤ 71) ∨ (74 ≤ k ∧ k ≤ 88) ∨ (k = 56 ∧ j = 41)) : hI m' k j = hI m k j := h.I _ _ (by omega)
theorem m_br1 {j k1 B : Nat} {C : List Op} {v2 : Int32} (hsd : sd < 2) (hB : B < 54) (b1 : MBs m By n j) (k21 : tk By n j = 21) (c1 : CdM m sd C) (n1 : C.length ≤ j) (o1 : hI m 56 12 = 0) (q1 : hI m 56 41 = nI (150 * sd + k1)) (t1 : 3 * k1 ≤ j) (s1 : hI m 56 27 = nI (54 * sd + B)) : ∃ m', ((bI m 70 108 (hI m 56 27) (hI m 56 41)).bind fun m4 => (F_X12_condition m4).bind fun c6 => (bI c6 71 108 (hI c6 56 27) (hI c6 56 41)).bind fun m8 => (F_X12_must (23 : Int32) m8).bind fun c10 => (F_X12_term c10).bind fun c12 => (F_X12_must (24 : Int32) c12).bind fun c14 => (some (Sum.inl (v2, c14)) : Option ((Int32 × M2) ⊕ (M2 ⊕ M2)))) = some (Sum.inl (v2, m')) ∧ hI m' 56 27 = nI (54 * sd + (B + 1)) ∧ Fr (SBr sd k1 B) m m' ∧ ((∃ i2 br C2 k2, p1 (tk By n) (vI By n) j = .inl (i2, br) ∧ MBs m' By n i2 ∧ CdM m' sd (C ++ C2) ∧ (C ++ C2).length ≤ i2 ∧ hI m' 56 12 = 0 ∧ hI m' 56 41 = nI (150 * sd + k2) ∧ 3 * k2 ≤ i2 ∧ k1 ≤ k2 ∧ BrK (GC (C ++ C2)) k2 m' sd B br ∧ ¬ br.1 = [] ∧ j ≤ i2) ∨ (∃ f t, p1 (tk By n) (vI By n) j = .inr (f, t) ∧ MFt m' By n f t)) := by
  have hte := te_le By n
  have hKV : ∀ i, tk By n i = 3 → vI By n i < 10000 := fun i hi => vI_lt hi
  have hjt := b1.2.2.1
  have hix : 54 * sd + B < 108 := by omega
  rw [s1, q1, bI_n _ 70 _ hix (by omega), bind_s]
  have f2 : Fr (fun k j => k = 70 ∧ j = 54 * sd + B) m (tI m 70 (54 * sd + B) (nI (150 * sd + k1))) := Fr.rf.tI _ ⟨rfl, rfl⟩
  have w70 : hI (tI m 70 (54 * sd + B) (nI (150 * sd + k1))) 70 (54 * sd + B) = nI (150 * sd + k1) := by rw [hI_tI, if_pos ⟨rfl, rfl⟩]
  generalize tI m 70 (54 * sd + B) (nI (150 * sd + k1)) = m2 at f2 w70 ⊢
  have b2 := b1.fr f2 (fun k j z => by omega)
  have ff2 : Fr (SBr sd k1 B) m m2 := f2.mono (fun k j z => SBr.p (by omega) hB z)
  have s2 : hI m2 56 27 = nI (54 * sd + B) := by rw [f2.i1 (by decide)]; exact s1
  unfold p1
  -- a fault, ahead of the term
  have bad : ∀ (f t : Nat) (m5 : M2) (PZ : (Nat × Br) ⊕ (Nat × Nat)), PZ = .inr (f, t) → MFt m5 By n f t → hI m5 56 27 = nI (54 * sd + B) → Fr (SBr sd k1 B) m m5 → ∃ m', ((F_X12_term m5).bind fun c12 => (F_X12_must (24 : Int32) c12).bind fun c14 => (some (Sum.inl (v2, c14)) : Option ((Int32 × M2) ⊕ (M2 ⊕ M2)))) = some (Sum.inl (v2, m')) ∧ hI m' 56 27 = nI (54 * sd + (B + 1)) ∧ Fr (SBr sd k1 B) m m' ∧ ((∃ i2 br C2 k2, PZ = .inl (i2, br) ∧ MBs m' By n i2 ∧ CdM m' sd (C ++ C2) ∧ (C ++ C2).length ≤ i2 ∧ hI m' 56 12 = 0 ∧ hI m' 56 41 = nI (150 * sd + k2) ∧ 3 * k2 ≤ i2 ∧ k1 ≤ k2 ∧ BrK (GC (C ++ C2)) k2 m' sd B br ∧ ¬ br.1 = [] ∧ j ≤ i2) ∨ (∃ f t, PZ = .inr (f, t) ∧ MFt m' By n f t)) := by
    intro f t m5 PZ h1 h2 h3 h4
    obtain ⟨m6, e6, r6, s6, f6⟩ := mf_term hsd hB h3 h2
    rw [e6, bind_s, mf_must r6, bind_s]
    exact ⟨m6, rfl, s6, h4.tr (f6.mono (fun k j z => SBr.t2 hB z)), Or.inr ⟨f, t, h1, r6⟩⟩
  by_cases h4 : j < 400
  · rw [if_pos h4]
    obtain ⟨u1, u2⟩ := m_cond (k0 := k1) hsd b2 k21 h4 (c1.fr f2 (fun k j z => by omega)) (by rw [f2.i1 (by decide)]; exact o1) n1 (by rw [f2.i1 (by decide)]; exact q1) t1
    cases hc : pCn (tk By n) (vI By n) 401 (j + 1) true [] with
    | inr x =>
      obtain ⟨m3, e3, r3, f3⟩ := u2 x.1 x.2 hc
      have s3 : hI m3 56 27 = nI (54 * sd + B) := by rw [f3.iL (by omega)]; exact s2
      rw [e3, bind_s, s3, bI_n _ 71 _ hix (by omega), bind_s]
      have f4 : Fr (fun k j => k = 71 ∧ j = 54 * sd + B) m3 (tI m3 71 (54 * sd + B) (hI m3 56 41)) := Fr.rf.tI _ ⟨rfl, rfl⟩
      generalize tI m3 71 (54 * sd + B) (hI m3 56 41) = m4 at f4 ⊢
      have r4 := r3.fr f4 (fun k j z => by omega)
      rw [mf_must r4, bind_s]
      exact bad x.1 x.2 m4 _ rfl r4 (by rw [f4.i1 (by decide)]; exact s3) ((ff2.tr (f3.mono (fun k j z => SBr.lt z))).tr (f4.mono (fun k j z => SBr.p (by omega) hB z)))
    | inl z =>
      dsimp only
      obtain ⟨m3, D2, e3, b3, c3, n3, o3, q3, t3, l3, ne3, ij3, f3⟩ := u1 z.1 z.2 hc
      clear u1 u2
      have hzt := b3.2.2.1
      have s3 : hI m3 56 27 = nI (54 * sd + B) := by rw [f3.iL (by omega)]; exact s2
      have w70' : hI m3 70 (54 * sd + B) = nI (150 * sd + k1) := by rw [f3.iL (by omega)]; exact w70
      rw [e3, bind_s, s3, q3, bI_n _ 71 _ hix (by omega), bind_s]
      have f4 : Fr (fun k j => k = 71 ∧ j = 54 * sd + B) m3 (tI m3 71 (54 * sd + B) (nI (150 * sd + (k1 + z.2.length)))) := Fr.rf.tI _ ⟨rfl, rfl⟩
      have w71 : hI (tI m3 71 (54 * sd + B) (nI (150 * sd + (k1 + z.2.length)))) 71 (54 * sd + B) = nI (150 * sd + (k1 + z.2.length)) := by rw [hI_tI, if_pos ⟨rfl, rfl⟩]
      generalize tI m3 71 (54 * sd + B) (nI (150 * sd + (k1 + z.2.length))) = m4 at f4 w71 ⊢
      have b4 := b3.fr f4 (fun k j z => by omega)
      have ff4 : Fr (SBr sd k1 B) m m4 := (ff2.tr (f3.mono (fun k j z => SBr.lt z))).tr (f4.mono (fun k j z => SBr.p (by omega) hB z))
      have s4 : hI m4 56 27 = nI (54 * sd + B) := by rw [f4.i1 (by decide)]; exact s3
      rw [show (23 : Int32) = nI (mkd 22) from rfl]
      obtain ⟨u1, u2, u3⟩ := m_must b4 (w := 22) (by omega) (by omega)
      by_cases k22 : tk By n z.1 = 22
      · rw [if_pos k22]
        by_cases hz4 : z.1 < 400
        · rw [if_pos hz4]
          obtain ⟨m5, e5, b5, f5⟩ := u1 k22 hz4
          have ff5 : Fr (SBr sd k1 B) m m5 := ff4.tr (f5.mono (fun k j z => SBr.s z))
          have c5 := (c3.fr f4 (fun k j z => by omega)).fr f5 (fun k j z => by omega)
          rw [e5, bind_s]
          obtain ⟨v1, v2'⟩ := m_term hsd hB (by rw [f5.j56 (by decide)]; exact s4) b5 c5 (by rw [f5.j56 (by decide), f4.i1 (by decide)]; exact o3) (by omega)
          cases hx : pX (tk By n) (vI By n) 24 0 0 (z.1 + 1) with
          | inr x =>
            obtain ⟨m6, e6, r6, s6, f6⟩ := v2' x.1 x.2 hx
            rw [e6, bind_s, mf_must r6, bind_s]
            exact ⟨m6, rfl, s6, ff5.tr (f6.mono (fun k j z => SBr.t hB z)), Or.inr ⟨x.1, x.2, rfl, r6⟩⟩
          | inl y =>
            dsimp only
            obtain ⟨m6, e6, b6, c6, o6, s6, w72, w73, f6⟩ := v1 y.1 y.2 hx
            clear v1 v2' u1 u2 u3 bad
            have gy := pX_good hKV 24 0 0 (z.1 + 1) y.1 y.2 (by omega) (by omega) hx
            have ly := gy.2.2.1
            have hyt := b6.2.2.1
            have ff6 : Fr (SBr sd k1 B) m m6 := ff5.tr (f6.mono (fun k j z => SBr.t hB z))
            rw [e6, bind_s, show (24 : Int32) = nI (mkd 23) from rfl]
            obtain ⟨x1', x2', x3'⟩ := m_must b6 (w := 23) (by omega) (by omega)
            by_cases k23 : tk By n y.1 = 23
            · rw [if_pos k23]
              by_cases hy4 : y.1 < 400
              · rw [if_pos hy4]
                obtain ⟨m7, e7, b7, f7⟩ := x1' k23 hy4
                rw [e7, bind_s]
                have eC : C ++ D2 ++ y.2 = C ++ (D2 ++ y.2) := List.append_assoc ..
                have lc : (C ++ D2 ++ y.2).length = (C ++ D2).length + y.2.length := List.length_append
                refine ⟨m7, rfl, by rw [f7.j56 (by decide)]; exact s6, ff6.tr (f7.mono (fun k j z => SBr.s z)), Or.inl ⟨y.1 + 1, (z.2, y.2), D2 ++ y.2, k1 + z.2.length, rfl, b7, by rw [← eC]; exact c6.fr f7 (fun k j z => by omega), by rw [← eC, lc]; omega, by rw [f7.j56 (by decide)]; exact o6, by rw [f7.j56 (by decide), f6.iT (by omega), f5.j56 (by decide), f4.i1 (by decide)]; exact q3, by omega, by omega, ?_, ne3, by omega⟩⟩
                rw [← eC]
                refine ⟨k1, (C ++ D2).length, fun q l hq => (l3 q l hq).mono GC.pre (fun p g1 g2 => ?_), Nat.le_refl _, ?_, ⟨_, _, _, _, gy⟩, ?_, ?_, ?_, ?_⟩
                · rw [f7.i56 (by omega), f6.iT (by omega), f5.i56 (by omega), f4.i1 (by omega)]
                · have := GC.at (C := C ++ D2) (L := y.2) (X := [])
                  rw [List.append_nil] at this
                  exact this
                · rw [f7.i56 (by decide), f6.iT (by omega), f5.i56 (by decide), f4.i1 (by decide)]; exact w70'
                · rw [f7.i56 (by decide), f6.iT (by omega), f5.i56 (by decide), w71]; exact congrArg nI (by show 150 * sd + (k1 + z.2.length) = 150 * sd + k1 + z.2.length; omega)
                · rw [f7.i56 (by decide)]; exact w72
                · rw [f7.i56 (by decide)]; exact w73
              · rw [if_neg hy4]
                obtain ⟨m7, e7, r7, f7⟩ := x2' k23 hy4
                rw [e7, bind_s]
                exact ⟨m7, rfl, by rw [f7.j56 (by decide)]; exact s6, ff6.tr (f7.mono (fun k j z => SBr.s z)), Or.inr ⟨2, y.1, rfl, r7⟩⟩
            · rw [if_neg k23]
              obtain ⟨m7, e7, r7, f7⟩ := x3' k23
              rw [e7, bind_s]
              exact ⟨m7, rfl, by rw [f7.j56 (by decide)]; exact s6, ff6.tr (f7.mono (fun k j z => SBr.s z)), Or.inr ⟨1, y.1, rfl, r7⟩⟩
        · rw [if_neg hz4]
          obtain ⟨m5, e5, r5, f5⟩ := u2 k22 hz4
          rw [e5, bind_s]
          exact bad 2 z.1 m5 _ rfl r5 (by rw [f5.j56 (by decide)]; exact s4) (ff4.tr (f5.mono (fun k j z => SBr.s z)))
      · rw [if_neg k22]
        obtain ⟨m5, e5, r5, f5⟩ := u3 k22
        rw [e5, bind_s]
        exact bad 1 z.1 m5 _ rfl r5 (by rw [f5.j56 (by decide)]; exact s4) (ff4.tr (f5.mono (fun k j z => SBr.s z)))
  · rw [if_neg h4]
    obtain ⟨m3, e3, r3, f3⟩ := m_cond_no b2 k21 h4
    have s3 : hI m3 56 27 = nI (54 * sd + B) := by rw [f3.j56 (by decide)]; exact s2
    rw [e3, bind_s, s3, bI_n _ 71 _ hix (by omega), bind_s]
    have f4 : Fr (fun k j => k = 71 ∧ j = 54 * sd + B) m3 (tI m3 71 (54 * sd + B) (hI m3 56 41)) := Fr.rf.tI _ ⟨rfl, rfl⟩
    generalize tI m3 71 (54 * sd + B) (hI m3 56 41) = m4 at f4 ⊢
    have r4 := r3.fr f4 (fun k j z => by omega)
    rw [mf_must r4, bind_s]
    exact bad 2 j m4 _ rfl r4 (by rw [f4.i1 (by decide)]; exact s3) ((ff2.tr (f3.mono (fun k j z => SBr.s z))).tr (f4.mono (fun k j z => SBr.p (by omega) hB z)))
theorem m_branches {i k0 b0 : Nat} {C : List Op} {x1 x2 : Int32} (hsd : sd < 2) (hb : b0 ≤ 45) (hB : MBs m By n i) (hC : CdM m sd C) (h12 : hI m 56 12 = 0) (hl : C.length ≤ i) (h41 : hI m 56 41 = nI (150 * sd + k0)) (hk : 3 * k0 ≤ i) (h27 : hI m 56 27 = nI (54 * sd + b0)) : ∃ e, loop (g_X12_tellLaw_40 x1 x2) ((0 : Int32), m) = some e ∧ ((∃ m' j bs C2 k1, e = Sum.inr m' ∧ pBr (tk By n) (vI By n) 9 i [] = .inl (j, bs) ∧ bs.length ≤ 8 ∧ BOK m m' By n sd C C2 i j k0 k1 b0 bs) ∨ (∃ m' f t, (e = Sum.inl m' ∨ e = Sum.inr m') ∧ pBr (tk By n) (vI By n) 9 i [] = .inr (f, t) ∧ FOK m m' By n sd k0 b0 f t)) := by
  have hte := te_le By n
  generalize hpz : pBr (tk By n) (vI By n) 9 i [] = PZ
  refine loop_ex 9 (fun k z => (z.1 = nI k ∧ k ≤ 8 ∧ ∃ j bs C2 k1, PZ = pBr (tk By n) (vI By n) (9 - k) j bs ∧ bs.length = k ∧ BOK m z.2 By n sd C C2 i j k0 k1 b0 bs) ∨ (∃ f t, PZ = .inr (f, t) ∧ FOK m z.2 By n sd k0 b0 f t)) _ (by omega) ?_ ?_ (Or.inl ⟨rfl, by omega, i, [], [], k0, hpz.symm, rfl, ⟨hB, by rw [List.append_nil]; exact hC, by rw [List.append_nil]; exact hl, h12, h41, hk, Nat.le_refl _, h27, fun q b hq => (by cases hq), fun b hq => (by cases hq), Nat.le_refl _, Fr.rf⟩⟩)
  · rintro k ⟨z1, m1⟩ hk9 i3
    dsimp only at i3
    show (∃ s', f_X12_tellLaw_40 x1 x2 z1 m1 = some (Sum.inl s') ∧ _) ∨ ∃ z, f_X12_tellLaw_40 x1 x2 z1 m1 = some (Sum.inr z) ∧ _
    unfold f_X12_tellLaw_40
    rcases i3 with ⟨rfl, hk8, j, bs, C2, k1, ep, hbl, hO⟩ | ⟨f, t, ep, r1⟩
    · have hO0 := hO
      obtain ⟨a1, a2, a3, a4, a5, a6, a7, a8, a9, a10, a11, a12⟩ := hO
      have hkj := tk_lt (By := By) (n := n) j
      obtain ⟨q, hq⟩ : ∃ q, 9 - k = q + 1 := ⟨8 - k, by omega⟩
      rw [hq, pBr_1] at ep
      rw [if_pos a1.1, show (22 : Int32) = nI (mkd 21) from rfl, m_is a1 (by omega), bind_s]
      dsimp only
      by_cases k21 : tk By n j = 21
      · rw [if_pos k21] at ep
        rw [decide_eq_true k21, if_neg (show ¬ bI1 true = 0 by decide)]
        by_cases k8 : k = 8
        · right
          rw [if_pos (show q = 0 by omega)] at ep
          obtain ⟨m2, e2, r2, f2⟩ := m_fail a1 (f := 2) (by omega)
          rw [if_pos (show nI k = 8 by rw [k8]; rfl), lit_2, e2, bind_s]
          unfold f_X12_tellLaw_67
          rw [if_neg r2.nl]
          exact ⟨_, rfl, Or.inr ⟨m2, 2, j, Or.inl rfl, ep, r2, ⟨b0 + bs.length, by rw [f2.I _ _ (by omega)]; exact a8, by omega⟩, a12.tr (f2.mono (fun k j z => SBr.s (by omega)))⟩⟩
        · left
          rw [if_neg (show ¬ q = 0 by omega)] at ep
          rw [if_neg (show ¬ nI k = 8 from eq_nI (d := 8) (by omega) (by omega) k8)]
          unfold f_X12_tellLaw_67
          rw [if_pos a1.le, nmI_e, bind_s, nI_1]
          obtain ⟨m2, e2, s2, f2, r2⟩ := m_br1 (v2 := nI (k + 1)) hsd (show b0 + bs.length < 54 by omega) a1 k21 a2 a3 a4 a5 a6 a8
          rw [e2]
          have ff2 : Fr (SBr sd k0 b0) m m2 := a12.tr (f2.mono (fun k j z => SBr.up a7 (by omega) z))
          rcases r2 with ⟨i2, br, D2, k2, ep2, y1, y2, y3, y4, y5, y6, y7, y8, y9, y10⟩ | ⟨f, t, ep2, y1⟩
          · rw [ep2] at ep
            dsimp only at ep
            have lb : (bs ++ [br]).length = bs.length + 1 := by rw [List.length_append, List.length_singleton]
            have eC : C ++ C2 ++ D2 = C ++ (C2 ++ D2) := List.append_assoc ..
            refine ⟨_, rfl, Or.inl ⟨rfl, by omega, i2, bs ++ [br], C2 ++ D2, k2, by rw [ep, show 9 - (k + 1) = q by omega], by omega, y1, by rw [← eC]; exact y2, by rw [← eC]; exact y3, y4, y5, y6, by omega, by rw [lb]; exact s2, fun p b hp => ?_, fun b hb2 => ?_, by omega, ff2⟩⟩
            · rw [← eC]
              by_cases hpl : p < bs.length
              · rw [List.getElem?_append_left hpl] at hp
                exact (a9 p b hp).sbr y7 (by omega) GC.pre f2
              · have hp2 := lt_of_get hp
                rw [lb] at hp2
                have eq : p = bs.length := by omega
                subst eq
                rw [List.getElem?_append_right (Nat.le_refl _), Nat.sub_self] at hp
                cases hp
                exact y8
            · rw [List.mem_append, List.mem_singleton] at hb2
              rcases hb2 with hb2 | hb2
              · exact a10 b hb2
              · rw [hb2]; exact y9
          · rw [ep2] at ep
            exact ⟨_, rfl, Or.inr ⟨f, t, ep, y1, ⟨b0 + bs.length + 1, s2, by omega⟩, ff2⟩⟩
      · right
        rw [if_neg k21] at ep
        rw [decide_eq_false k21, if_pos (show bI1 false = 0 from rfl)]
        exact ⟨_, rfl, Or.inl ⟨m1, j, bs, C2, k1, rfl, ep, by omega, hO0⟩⟩
    · right
      rw [if_neg r1.1.ne]
      exact ⟨_, rfl, Or.inr ⟨m1, f, t, Or.inr rfl, ep, r1⟩⟩
  · rintro ⟨z1, m1⟩ i3
    dsimp only at i3
    show ∃ z, f_X12_tellLaw_40 x1 x2 z1 m1 = some (Sum.inr z) ∧ _
    unfold f_X12_tellLaw_40
    rcases i3 with ⟨rfl, hk8, _⟩ | ⟨f, t, ep, r1⟩
    · omega
    · rw [if_neg r1.1.ne]
      exact ⟨_, rfl, Or.inr ⟨m1, f, t, Or.inr rfl, ep, r1⟩⟩
end KZ
