/-! ===== the reference reads what a text tells, but laws ===== -/
def lwL (N : Nat → Nat) (t : Nat) : List (Nat × Int32) → Int32 → Int32
  | [], a => a
  | p :: ps, a => lwL N t ps (if N p.1 = N t ∧ ¬ p.2 < 0 then p.2 else a)
theorem lwL_no {N : Nat → Nat} {t : Nat} : ∀ {ns : List (Nat × Int32)} {a : Int32}, (∀ p, p ∈ ns → ¬ N p.1 = N t) → lwL N t ns a = a ∧ lwN N t ns = -1
  | [], a, _ => ⟨rfl, rfl⟩
  | p :: ps, a, h => by
    have h1 := h p (List.mem_cons_self ..)
    obtain ⟨i1, i2⟩ := lwL_no (N := N) (t := t) (ns := ps) (a := a) (fun q hq => h q (List.mem_cons_of_mem _ hq))
    refine ⟨?_, ?_⟩
    · show lwL N t ps (if N p.1 = N t ∧ ¬ p.2 < 0 then p.2 else a) = a
      rw [if_neg (fun z => h1 z.1)]
      exact i1
    · show (if N p.1 = N t ∧ ¬ p.2 = -1 then p.2 else lwN N t ps) = -1
      rw [if_neg (fun z => h1 z.1)]
      exact i2
theorem DsN.tl {N : Nat → Nat} {p : Nat × Int32} {ps : List (Nat × Int32)} (h : DsN N (p :: ps)) : DsN N ps ∧ ∀ q, q ∈ ps → ¬ N q.1 = N p.1 := by
  refine ⟨fun i j a b ha hb e => ?_, fun q hq z => ?_⟩
  · have := h (i + 1) (j + 1) a b ha hb e
    omega
  · obtain ⟨j, hj, e⟩ := List.mem_iff_getElem.mp hq
    have hq' : ps[j]? = some q := by rw [List.getElem?_eq_getElem hj, e]
    have := h (j + 1) 0 q p hq' rfl z
    omega
theorem lwL_eq {N : Nat → Nat} {t : Nat} : ∀ {ns : List (Nat × Int32)}, DsN N ns → (∀ p, p ∈ ns → (p.2 < 0 ↔ p.2 = -1)) → lwL N t ns (-1) = lwN N t ns
  | [], _, _ => rfl
  | p :: ps, hd, hm => by
    obtain ⟨d1, d2⟩ := hd.tl
    have hp := hm p (List.mem_cons_self ..)
    show lwL N t ps (if N p.1 = N t ∧ ¬ p.2 < 0 then p.2 else -1) = (if N p.1 = N t ∧ ¬ p.2 = -1 then p.2 else lwN N t ps)
    by_cases q : N p.1 = N t
    · have hno : ∀ x, x ∈ ps → ¬ N x.1 = N t := fun x hx z => d2 x hx (by rw [z, q])
      by_cases q2 : p.2 = -1
      · rw [if_neg (fun z => z.2 (hp.mpr q2)), if_neg (fun z => z.2 q2), (lwL_no hno).1, (lwL_no (a := -1) hno).2]
      · rw [if_pos ⟨q, fun z => q2 (hp.mp z)⟩, if_pos ⟨q, q2⟩, (lwL_no hno).1]
    · rw [if_neg (fun z => q z.1), if_neg (fun z => q z.1)]
      exact lwL_eq d1 (fun x hx => hm x (List.mem_cons_of_mem _ hx))
section KJ
variable {m : M2} {By : Nat → Nat} {n sd : Nat}
def MK (m : M2) (sd : Nat) (C : List Op) (k1 b1 : Nat) (ls : List (List Br × List Op)) : Prop := CdM m sd C ∧ hI m 56 12 = 0 ∧ hI m 56 41 = nI (150 * sd + k1) ∧ hI m 56 27 = nI (54 * sd + b1) ∧ hI m 67 sd = nI ls.length ∧ b1 ≤ 9 * ls.length ∧ ∀ q w, ls[q]? = some w → LwK (GC C) k1 b1 m sd q w
theorem MK.fr {S : Nat → Nat → Prop} {m' : M2} {C : List Op} {k1 b1 : Nat} {ls : List (List Br × List Op)} (h : MK m sd C k1 b1 ls) (hf : Fr S m m') (hs : ∀ k j, (k = 56 ∧ (j = 12 ∨ j = 27 ∨ j = 41 ∨ j = 48)) ∨ (67 ≤ k ∧ k ≤ 73) ∨ (83 ≤ k ∧ k ≤ 90) → ¬ S k j) : MK m' sd C k1 b1 ls := by
  obtain ⟨h1, h2, h3, h4, h5, h6, h7⟩ := h
  exact ⟨h1.fr hf (fun k j z => hs k j (by omega)), (hf.I _ _ (hs _ _ (by omega))).trans h2, (hf.I _ _ (hs _ _ (by omega))).trans h3, (hf.I _ _ (hs _ _ (by omega))).trans h4, (hf.I _ _ (hs _ _ (by omega))).trans h5, h6, fun q w hw => (h7 q w hw).mono (Nat.le_refl _) (Nat.le_refl _) (fun _ _ z => z) (fun q j a1 a2 _ _ => hf.I _ _ (hs _ _ (by omega))) (fun q j a1 a2 _ _ => hf.I _ _ (hs _ _ (by omega))) (fun p a => hf.I _ _ (hs _ _ (by omega)))⟩
def MG (m : M2) (sd : Nat) (s : IS) : Prop := (hI m 74 sd = nI (ttM s).length ∧ hI m 77 sd = ttD s ∧ hI m 78 sd = nI (ttG s) ∧ hI m 79 sd = ttS s ∧ hI m 80 sd = nI (ttF s).length ∧ (ttW s = none → hI m 66 sd = nI (ttP s))) ∧ (∀ b p, (ttM s)[b]? = some p → hI m 76 (12 * sd + b) = nI p.2 ∧ (ttW s = none → hI m 75 (12 * sd + b) = p.1)) ∧ ∀ q p, (ttF s)[q]? = some p → hI m 81 (4 * sd + q) = nI p.1 ∧ hI m 82 (4 * sd + q) = nI p.2
theorem MG.fr {S : Nat → Nat → Prop} {m' : M2} {s : IS} (h : MG m sd s) (hf : Fr S m m') (hs : ∀ k j, k = 66 ∨ (74 ≤ k ∧ k ≤ 82) → ¬ S k j) : MG m' sd s := by
  obtain ⟨⟨a1, a2, a3, a4, a5, a6⟩, b1, b2⟩ := h
  have I : ∀ k j, k = 66 ∨ (74 ≤ k ∧ k ≤ 82) → hI m' k j = hI m k j := fun k j z => hf.I _ _ (hs k j z)
  exact ⟨⟨(I _ _ (by omega)).trans a1, (I _ _ (by omega)).trans a2, (I _ _ (by omega)).trans a3, (I _ _ (by omega)).trans a4, (I _ _ (by omega)).trans a5, fun z => (I _ _ (by omega)).trans (a6 z)⟩, fun b p hp => ⟨(I _ _ (by omega)).trans (b1 b p hp).1, fun z => (I _ _ (by omega)).trans ((b1 b p hp).2 z)⟩, fun q p hp => ⟨(I _ _ (by omega)).trans (b2 q p hp).1, (I _ _ (by omega)).trans (b2 q p hp).2⟩⟩
def MI (m : M2) (sd : Nat) (By : Nat → Nat) (n i : Nat) (s : IS) : Prop := ∃ C k1 b1, MBs m By n i ∧ hI m 56 19 = nI sd ∧ MK m sd C k1 b1 (ttL s) ∧ (C.length ≤ i ∧ 3 * k1 ≤ i) ∧ MG m sd s ∧ MNm m By n (ttN s) ∧ MW m By n i (ttW s) ∧ MU2 m (ttU s) ∧ 3 * (ttU s).length ≤ i
def SRm (sd k j : Nat) : Prop := (k = 56 ∧ ((11 ≤ j ∧ j ≤ 16) ∨ j = 20 ∨ j = 27 ∨ j = 41 ∨ j = 48 ∨ j = 51 ∨ j = 54)) ∨ k = 64 ∨ k = 65 ∨ k = 91 ∨ k = 92 ∨ (lvs sd k j ∧ ¬ k = 56)
def IM (m : M2) (sd : Nat) (By : Nat → Nat) (n : Nat) (r : Option M2) (pr : IR) : Prop := (∀ j s', pr = .inl (j, s') → ∃ m', r = some m' ∧ MI m' sd By n j s' ∧ Fr (SRm sd) m m') ∧ (∀ f t, pr = .inr (f, t) → ∃ m', r = some m' ∧ MFt m' By n f t ∧ Fr (SRm sd) m m')
theorem IM.ok {m' : M2} {r : Option M2} {j : Nat} {s' : IS} (h1 : r = some m') (h2 : MI m' sd By n j s') (h4 : Fr (SRm sd) m m') : IM m sd By n r (.inl (j, s')) := ⟨fun _ _ z => by cases z; exact ⟨m', h1, h2, h4⟩, fun _ _ z => by cases z⟩
theorem IM.no {m' : M2} {r : Option M2} {f t : Nat} (h1 : r = some m') (h2 : MFt m' By n f t) (h3 : Fr (SRm sd) m m') : IM m sd By n r (.inr (f, t)) := ⟨fun _ _ z => (by cases z), fun _ _ z => by cases z; exact ⟨m', h1, h2, h3⟩⟩
theorem SRm.s {k j : Nat} (z : S56 k j) : SRm sd k j := Or.inl ⟨z.1, by have := z.2; omega⟩
theorem SRm.w {k j : Nat} (z : S5W k j) : SRm sd k j := Or.inl ⟨z.1, by have := z.2; omega⟩
theorem SRm.p {k j : Nat} (z : S5P k j) : SRm sd k j := by
  rcases z with z | z
  · exact Or.inl ⟨z.1, by have := z.2; omega⟩
  · exact Or.inr (Or.inr (Or.inr (Or.inl z)))
theorem SRm.l {k j : Nat} (z : lvs sd k j) (hk : ¬ k = 56) : SRm sd k j := Or.inr (Or.inr (Or.inr (Or.inr (Or.inr ⟨z, hk⟩))))
theorem SRm.v {k j K : Nat} (hK : K = 66 ∨ K = 67 ∨ K = 74 ∨ (77 ≤ K ∧ K ≤ 80)) (z : k = K ∧ j = sd) : SRm sd k j := SRm.l (Or.inr (Or.inl ⟨by have := z.1; omega, z.2⟩)) (by have := z.1; omega)
theorem SRm.mm {k j b K : Nat} (hK : K = 75 ∨ K = 76) (hb : b < 12) (z : k = K ∧ j = 12 * sd + b) : SRm sd k j := SRm.l (Or.inr (Or.inr (Or.inr (Or.inr (Or.inl ⟨by have := z.1; omega, by have := z.2; omega, by have := z.2; omega⟩))))) (by have := z.1; omega)
theorem SRm.f {k j b K : Nat} (hK : K = 81 ∨ K = 82) (hb : b < 4) (z : k = K ∧ j = 4 * sd + b) : SRm sd k j := SRm.l (Or.inr (Or.inr (Or.inr (Or.inr (Or.inr (Or.inl ⟨by have := z.1; omega, by have := z.2; omega, by have := z.2; omega⟩)))))) (by have := z.1; omega)
theorem SRm.q {k j b K : Nat} (hK : K = 68 ∨ K = 69) (hb : b < 6) (z : k = K ∧ j = 6 * sd + b) : SRm sd k j := SRm.l (Or.inr (Or.inr (Or.inl ⟨by have := z.1; omega, by have := z.2; omega, by have := z.2; omega⟩))) (by have := z.1; omega)
theorem SRm.nn {k j : Nat} (z : (k = 56 ∧ j = 20) ∨ k = 64 ∨ k = 65) : SRm sd k j := by
  rcases z with z | z | z
  · exact Or.inl ⟨z.1, by have := z.2; omega⟩
  · exact Or.inr (Or.inl z)
  · exact Or.inr (Or.inr (Or.inl z))
theorem SRm.b {k j k0 b0 : Nat} (z : SBr sd k0 b0 k j) : SRm sd k j := by
  rcases z with (z | z | z) | z | z
  · rcases z with z | z | z
    · exact Or.inl ⟨z.1, by have := z.2; omega⟩
    · exact SRm.l (Or.inr (Or.inr (Or.inr (Or.inr (Or.inr (Or.inr (Or.inr z))))))) (by have := z.1; omega)
    · exact Or.inr (Or.inr (Or.inr (Or.inr (Or.inl z))))
  · exact Or.inl ⟨z.1, by have := z.2; omega⟩
  · exact SRm.l (Or.inr (Or.inr (Or.inr (Or.inr (Or.inr (Or.inr (Or.inl ⟨z.1, by have := z.2; omega, z.2.2⟩))))))) (by have := z.1; omega)
  · exact Or.inl ⟨z.1, by have := z.2; omega⟩
  · exact SRm.l (Or.inr (Or.inr (Or.inr (Or.inl ⟨z.1, by have := z.2; omega, z.2.2⟩)))) (by have := z.1; omega)
theorem m_go {i w : Nat} (h : MBs m By n i) (hw : 2 ≤ w) (hk : tk By n i = w) : (∃ m', F_X12_goesOn m = some m' ∧ MBs m' By n (i + 1) ∧ Fr S56 m m' ∧ i < 400) ∨ (∃ m', F_X12_goesOn m = some m' ∧ MFt m' By n 2 i ∧ Fr S56 m m' ∧ ∀ ws, sqk (tk By n) (w :: ws) i = .inr (2, i)) := by
  obtain ⟨g1, g2⟩ := m_goesOn h (by omega)
  by_cases h4 : i < 400
  · obtain ⟨m', e1, b1, f1⟩ := g1 h4
    exact Or.inl ⟨m', e1, b1, f1.mono (fun k j z => by omega), h4⟩
  · obtain ⟨m', e1, b1, f1⟩ := g2 h4
    refine Or.inr ⟨m', e1, b1, f1.mono (fun k j z => by omega), fun ws => ?_⟩
    show (if tk By n i = w then (if i < 400 then sqk (tk By n) ws (i + 1) else .inr (2, i)) else .inr (1, i)) = _
    rw [if_pos hk, if_neg h4]
theorem m_mk {i w : Nat} (h : MBs m By n i) (hw : 2 ≤ w) (hw2 : w < 34) : (∃ m', F_X12_must (nI (mkd w)) m = some m' ∧ MBs m' By n (i + 1) ∧ Fr S56 m m' ∧ tk By n i = w ∧ i < 400) ∨ (∃ m' f, F_X12_must (nI (mkd w)) m = some m' ∧ MFt m' By n f i ∧ Fr S56 m m' ∧ ∀ ws, sqk (tk By n) (w :: ws) i = .inr (f, i)) := by
  obtain ⟨t1, t2, t3⟩ := m_must h hw hw2
  by_cases hk : tk By n i = w
  · by_cases h4 : i < 400
    · obtain ⟨m', e1, r1, f1⟩ := t1 hk h4
      exact Or.inl ⟨m', e1, r1, f1, hk, h4⟩
    · obtain ⟨m', e1, r1, f1⟩ := t2 hk h4
      refine Or.inr ⟨m', 2, e1, r1, f1, fun ws => ?_⟩
      show (if tk By n i = w then (if i < 400 then sqk (tk By n) ws (i + 1) else .inr (2, i)) else .inr (1, i)) = _
      rw [if_pos hk, if_neg h4]
  · obtain ⟨m', e1, r1, f1⟩ := t3 hk
    refine Or.inr ⟨m', 1, e1, r1, f1, fun ws => ?_⟩
    show (if tk By n i = w then (if i < 400 then sqk (tk By n) ws (i + 1) else .inr (2, i)) else .inr (1, i)) = _
    rw [if_neg hk]
/-! parts -/
theorem m_parts {i : Nat} {s : IS} (hsd : sd < 2) (hn : n ≤ 2000) (hM : MI m sd By n i s) (hk : tk By n i = 17) : IM m sd By n ((F_X12_goesOn m).bind fun c4 => (F_X12_bounded (3 : Int32) (24 : Int32) c4).bind fun c6 => (bI c6.2 66 2 (hI c4 56 19) c6.1).bind fun m8 => (F_X12_must (4 : Int32) m8).bind fun c10 => f_X12_tell_245 c10) (sqR (sqk (tk By n) [17, 3, 4] i) (iParts (vI By n) i s)) := by
  obtain ⟨C, k1, b1, hB, h19, hK, ⟨hl1, hl2⟩, hG, hN, hW, hU, hl3⟩ := hM
  unfold f_X12_tell_245
  rw [show (3 : Int32) = nI 3 from rfl, show (24 : Int32) = nI 24 from rfl, show (4 : Int32) = nI (mkd 4) from rfl]
  rcases m_go hB (by omega) hk with ⟨m1, e1, B1, f1, h1⟩ | ⟨m1, e1, r1, f1, q1⟩
  · have s1 : hI m1 56 19 = nI sd := by rw [f1.j56 (by decide)]; exact h19
    rw [sqk_y hk h1, e1, bind_s, s1]
    rcases m_bounded (a := 3) (b := 24) B1 hn (hW.fr f1 (fun k j z => by omega) (show i ≤ i + 1 by omega)) (by omega) (by omega) with ⟨m2, e2, B2, w2, f2, k2, h2⟩ | ⟨m2, f, x, e2, r2, f2, q2⟩
    · rw [sqk_y k2 h2, e2, bind_s]
      dsimp only
      rw [bI_n _ 66 _ hsd (by omega), bind_s]
      have f3 : Fr (fun k j => k = 66 ∧ j = sd) m2 (tI m2 66 sd (nI (vI By n (i + 1)))) := Fr.rf.tI _ ⟨rfl, rfl⟩
      have w3 : hI (tI m2 66 sd (nI (vI By n (i + 1)))) 66 sd = nI (vI By n (i + 1)) := by rw [hI_tI, if_pos ⟨rfl, rfl⟩]
      generalize tI m2 66 sd (nI (vI By n (i + 1))) = m3 at f3 w3 ⊢
      have ff3 : Fr (SRm sd) m m3 := ((f1.mono (fun k j z => SRm.s z)).tr (f2.mono (fun k j z => SRm.w z))).tr (f3.mono (fun k j z => SRm.v (by omega) z))
      rcases m_mk (B2.fr f3 (fun k j z => by omega)) (w := 4) (by omega) (by omega) with ⟨m4, e4, B4, f4, k4, h4⟩ | ⟨m4, f, e4, r4, f4, q4⟩
      · rw [sqk_y k4 h4, e4, bind_s]
        have f04 : Fr (fun k j => S5W k j ∨ (k = 66 ∧ j = sd)) m m4 := (((f1.mono (fun k j z => by omega)).tr (f2.mono (fun k j z => by omega))).tr (f3.mono (fun k j z => by omega))).tr (f4.mono (fun k j z => by omega))
        have ew : ttW (iParts (vI By n) i s) = slp (ttW s) (!okP (vI By n (i + 1))) 5 (i + 1) := rfl
        have eo : (!okP (vI By n (i + 1))) = decide (vI By n (i + 1) < 3 ∨ 24 < vI By n (i + 1)) := by
          unfold okP
          by_cases q : 3 ≤ vI By n (i + 1) ∧ vI By n (i + 1) ≤ 24
          · rw [decide_eq_true q, decide_eq_false (by omega)]; rfl
          · rw [decide_eq_false q, decide_eq_true (by omega)]; rfl
        obtain ⟨⟨a1, a2, a3, a4, a5, a6⟩, c1, c2⟩ := hG
        refine IM.ok rfl ⟨C, k1, b1, B4, (f04.I _ _ (by omega)).trans h19, hK.fr f04 (fun k j z => by omega), ⟨by omega, by omega⟩, ⟨⟨(f04.I _ _ (by omega)).trans a1, (f04.I _ _ (by omega)).trans a2, (f04.I _ _ (by omega)).trans a3, (f04.I _ _ (by omega)).trans a4, (f04.I _ _ (by omega)).trans a5, fun z => ?_⟩, fun b p hp => ⟨(f04.I _ _ (by omega)).trans (c1 b p hp).1, fun z => (f04.I _ _ (by omega)).trans ((c1 b p hp).2 (slp_none z).1)⟩, fun q p hp => ⟨(f04.I _ _ (by omega)).trans (c2 q p hp).1, (f04.I _ _ (by omega)).trans (c2 q p hp).2⟩⟩, hN.fr f04 (fun k j z => by omega), ?_, hU.fr f04 (fun k j z => by omega), by show 3 * (ttU s).length ≤ _; omega⟩ (ff3.tr (f4.mono (fun k j z => SRm.s z)))
        · have ok : okP (vI By n (i + 1)) = true := by
            have := (slp_none z).2
            cases hh : okP (vI By n (i + 1)) with
            | true => rfl
            | false => rw [hh] at this; cases this
          show hI m4 66 sd = nI (if okP (vI By n (i + 1)) = true then vI By n (i + 1) else ttP s)
          rw [if_pos ok, f4.i56 (by decide)]
          exact w3
        · rw [ew, eo]
          exact (w2.fr f3 (fun k j z => by omega) (Nat.le_refl _)).fr f4 (fun k j z => by omega) (by omega)
      · rw [q4, e4, bind_s]
        exact IM.no rfl r4 (ff3.tr (f4.mono (fun k j z => SRm.s z)))
    · rw [q2, e2, bind_s]
      dsimp only
      rw [bI_n _ 66 _ hsd (by omega), bind_s]
      have f3 : Fr (fun k j => k = 66 ∧ j = sd) m2 (tI m2 66 sd x) := Fr.rf.tI _ ⟨rfl, rfl⟩
      have r3 := r2.fr f3 (fun k j z => by omega)
      rw [mf_must r3, bind_s]
      exact IM.no rfl r3 (((f1.mono (fun k j z => SRm.s z)).tr (f2.mono (fun k j z => SRm.w z))).tr (f3.mono (fun k j z => SRm.v (by omega) z)))
  · have s1 : hI m1 56 19 = nI sd := by rw [f1.j56 (by decide)]; exact h19
    rw [q1, e1, bind_s, s1, mf_bounded r1, bind_s]
    dsimp only
    rw [bI_n _ 66 _ hsd (by omega), bind_s]
    have f3 : Fr (fun k j => k = 66 ∧ j = sd) m1 (tI m1 66 sd (nI 3)) := Fr.rf.tI _ ⟨rfl, rfl⟩
    have r3 := r1.fr f3 (fun k j z => by omega)
    rw [mf_must r3, bind_s]
    exact IM.no rfl r3 ((f1.mono (fun k j z => SRm.s z)).tr (f3.mono (fun k j z => SRm.v (by omega) z)))
/-! song -/
theorem m_song {i : Nat} {s : IS} (hsd : sd < 2) (hn : n ≤ 2000) (hM : MI m sd By n i s) (hk : tk By n i = 33) : IM m sd By n ((F_X12_goesOn m).bind fun c51 => (F_X12_part c51).bind fun c53 => (bI c53.2 79 2 (hI c51 56 19) c53.1).bind fun m55 => (F_X12_must (4 : Int32) m55).bind fun c57 => f_X12_tell_245 c57) (sqR (sqk (tk By n) [33, 3, 4] i) (iSong (vI By n) i s)) := by
  obtain ⟨C, k1, b1, hB, h19, hK, ⟨hl1, hl2⟩, hG, hN, hW, hU, hl3⟩ := hM
  have hit := hB.2.2.1
  have hte := te_le By n
  unfold f_X12_tell_245
  rw [show (4 : Int32) = nI (mkd 4) from rfl]
  rcases m_go hB (by omega) hk with ⟨m1, e1, B1, f1, h1⟩ | ⟨m1, e1, r1, f1, q1⟩
  · have s1 : hI m1 56 19 = nI sd := by rw [f1.j56 (by decide)]; exact h19
    rw [sqk_y hk h1, e1, bind_s, s1]
    rcases m_part B1 hn (hW.fr f1 (fun k j z => by omega) (show i ≤ i + 1 by omega)) (hU.fr f1 (fun k j z => by omega)) (by omega) with ⟨m2, e2, B2, w2, u2, f2, k2, h2⟩ | ⟨m2, f, x, e2, r2, f2, q2⟩
    · rw [sqk_y k2 h2, e2, bind_s]
      dsimp only
      rw [bI_n _ 79 _ hsd (by omega), bind_s]
      have f3 : Fr (fun k j => k = 79 ∧ j = sd) m2 (tI m2 79 sd (nI (vI By n (i + 1)))) := Fr.rf.tI _ ⟨rfl, rfl⟩
      have w3 : hI (tI m2 79 sd (nI (vI By n (i + 1)))) 79 sd = nI (vI By n (i + 1)) := by rw [hI_tI, if_pos ⟨rfl, rfl⟩]
      generalize tI m2 79 sd (nI (vI By n (i + 1))) = m3 at f3 w3 ⊢
      have ff3 : Fr (SRm sd) m m3 := ((f1.mono (fun k j z => SRm.s z)).tr (f2.mono (fun k j z => SRm.p z))).tr (f3.mono (fun k j z => SRm.v (by omega) z))
      rcases m_mk (B2.fr f3 (fun k j z => by omega)) (w := 4) (by omega) (by omega) with ⟨m4, e4, B4, f4, k4, h4⟩ | ⟨m4, f, e4, r4, f4, q4⟩
      · rw [sqk_y k4 h4, e4, bind_s]
        have f04 : Fr (fun k j => S5P k j ∨ (k = 79 ∧ j = sd)) m m4 := (((f1.mono (fun k j z => by omega)).tr (f2.mono (fun k j z => by omega))).tr (f3.mono (fun k j z => by omega))).tr (f4.mono (fun k j z => by omega))
        obtain ⟨⟨a1, a2, a3, a4, a5, a6⟩, c1, c2⟩ := hG
        refine IM.ok rfl ⟨C, k1, b1, B4, (f04.I _ _ (by omega)).trans h19, hK.fr f04 (fun k j z => by omega), ⟨by omega, by omega⟩, ⟨⟨(f04.I _ _ (by omega)).trans a1, (f04.I _ _ (by omega)).trans a2, (f04.I _ _ (by omega)).trans a3, (f4.i56 (by decide)).trans w3, (f04.I _ _ (by omega)).trans a5, fun z => (f04.I _ _ (by omega)).trans (a6 z)⟩, fun b p hp => ⟨(f04.I _ _ (by omega)).trans (c1 b p hp).1, fun z => (f04.I _ _ (by omega)).trans ((c1 b p hp).2 z)⟩, fun q p hp => ⟨(f04.I _ _ (by omega)).trans (c2 q p hp).1, (f04.I _ _ (by omega)).trans (c2 q p hp).2⟩⟩, hN.fr f04 (fun k j z => by omega), (w2.fr f3 (fun k j z => by omega) (Nat.le_refl _)).fr f4 (fun k j z => by omega) (by omega), (u2.fr f3 (fun k j z => by omega)).fr f4 (fun k j z => by omega), ?_⟩ (ff3.tr (f4.mono (fun k j z => SRm.s z)))
        show 3 * (ttU s ++ [i + 1]).length ≤ _
        rw [List.length_append, List.length_singleton]
        omega
      · rw [q4, e4, bind_s]
        exact IM.no rfl r4 (ff3.tr (f4.mono (fun k j z => SRm.s z)))
    · rw [q2, e2, bind_s]
      dsimp only
      rw [bI_n _ 79 _ hsd (by omega), bind_s]
      have f3 : Fr (fun k j => k = 79 ∧ j = sd) m2 (tI m2 79 sd x) := Fr.rf.tI _ ⟨rfl, rfl⟩
      have r3 := r2.fr f3 (fun k j z => by omega)
      rw [mf_must r3, bind_s]
      exact IM.no rfl r3 (((f1.mono (fun k j z => SRm.s z)).tr (f2.mono (fun k j z => SRm.p z))).tr (f3.mono (fun k j z => SRm.v (by omega) z)))
  · have s1 : hI m1 56 19 = nI sd := by rw [f1.j56 (by decide)]; exact h19
    rw [q1, e1, bind_s, s1, mf_part r1, bind_s]
    dsimp only
    rw [bI_n _ 79 _ hsd (by omega), bind_s]
    have f3 : Fr (fun k j => k = 79 ∧ j = sd) m1 (tI m1 79 sd 0) := Fr.rf.tI _ ⟨rfl, rfl⟩
    have r3 := r1.fr f3 (fun k j z => by omega)
    rw [mf_must r3, bind_s]
    exact IM.no rfl r3 ((f1.mono (fun k j z => SRm.s z)).tr (f3.mono (fun k j z => SRm.v (by omega) z)))
/-! drum -/
theorem m_drum {i : Nat} {s : IS} (hsd : sd < 2) (hn : n ≤ 2000) (hM : MI m sd By n i s) (hk : tk By n i = 31) : IM m sd By n ((F_X12_goesOn m).bind fun c38 => (F_X12_part c38).bind fun c40 => (bI c40.2 77 2 (hI c38 56 19) c40.1).bind fun m42 => (F_X12_bounded (0 : Int32) (23 : Int32) m42).bind fun c44 => (bI c44.2 78 2 (hI m42 56 19) c44.1).bind fun m46 => (F_X12_must (4 : Int32) m46).bind fun c48 => f_X12_tell_245 c48) (sqR (sqk (tk By n) [31, 3, 3, 4] i) (iDrum (vI By n) i s)) := by
  obtain ⟨C, k1, b1, hB, h19, hK, ⟨hl1, hl2⟩, hG, hN, hW, hU, hl3⟩ := hM
  have hit := hB.2.2.1
  have hte := te_le By n
  unfold f_X12_tell_245
  rw [show (4 : Int32) = nI (mkd 4) from rfl, show (0 : Int32) = nI 0 from rfl, show (23 : Int32) = nI 23 from rfl]
  have ss : ∀ {m' : M2} {S : Nat → Nat → Prop}, Fr S m m' → ¬ S 56 19 → hI m' 56 19 = nI sd := fun hf hs => (hf.I _ _ hs).trans h19
  have tail : ∀ (f t : Nat) (m2 : M2) (x : Int32), MFt m2 By n f t → Fr (SRm sd) m m2 → hI m2 56 19 = nI sd → ∃ m', ((bI m2 77 2 (nI sd) x).bind fun m42 => (F_X12_bounded (nI 0) (nI 23) m42).bind fun c44 => (bI c44.2 78 2 (hI m42 56 19) c44.1).bind fun m46 => (F_X12_must (nI (mkd 4)) m46).bind fun c48 => some c48) = some m' ∧ MFt m' By n f t ∧ Fr (SRm sd) m m' := by
    intro f t m2 x r2 ff2 s2
    rw [bI_n _ 77 _ hsd (by omega), bind_s]
    have f3 : Fr (fun k j => k = 77 ∧ j = sd) m2 (tI m2 77 sd x) := Fr.rf.tI _ ⟨rfl, rfl⟩
    have s3 : hI (tI m2 77 sd x) 56 19 = nI sd := by rw [f3.i1 (by decide)]; exact s2
    generalize tI m2 77 sd x = m3 at f3 s3 ⊢
    have r3 := r2.fr f3 (fun k j z => by omega)
    rw [mf_bounded r3, bind_s]
    dsimp only
    rw [s3, bI_n _ 78 _ hsd (by omega), bind_s]
    have f4 : Fr (fun k j => k = 78 ∧ j = sd) m3 (tI m3 78 sd (nI 0)) := Fr.rf.tI _ ⟨rfl, rfl⟩
    have r4 := r3.fr f4 (fun k j z => by omega)
    rw [mf_must r4, bind_s]
    exact ⟨_, rfl, r4, (ff2.tr (f3.mono (fun k j z => SRm.v (by omega) z))).tr (f4.mono (fun k j z => SRm.v (by omega) z))⟩
  rcases m_go hB (by omega) hk with ⟨m1, e1, B1, f1, h1⟩ | ⟨m1, e1, r1, f1, q1⟩
  · have s1 : hI m1 56 19 = nI sd := ss f1 (by omega)
    rw [sqk_y hk h1, e1, bind_s, s1]
    rcases m_part B1 hn (hW.fr f1 (fun k j z => by omega) (show i ≤ i + 1 by omega)) (hU.fr f1 (fun k j z => by omega)) (by omega) with ⟨m2, e2, B2, w2, u2, f2, k2, h2⟩ | ⟨m2, f, x, e2, r2, f2, q2⟩
    · rw [sqk_y k2 h2, e2, bind_s]
      dsimp only
      rw [bI_n _ 77 _ hsd (by omega), bind_s]
      have f3 : Fr (fun k j => k = 77 ∧ j = sd) m2 (tI m2 77 sd (nI (vI By n (i + 1)))) := Fr.rf.tI _ ⟨rfl, rfl⟩
      have w3 : hI (tI m2 77 sd (nI (vI By n (i + 1)))) 77 sd = nI (vI By n (i + 1)) := by rw [hI_tI, if_pos ⟨rfl, rfl⟩]
      generalize tI m2 77 sd (nI (vI By n (i + 1))) = m3 at f3 w3 ⊢
      have f03 : Fr (fun k j => S5P k j ∨ (k = 77 ∧ j = sd)) m m3 := ((f1.mono (fun k j z => by omega)).tr (f2.mono (fun k j z => by omega))).tr (f3.mono (fun k j z => by omega))
      have ff3 : Fr (SRm sd) m m3 := ((f1.mono (fun k j z => SRm.s z)).tr (f2.mono (fun k j z => SRm.p z))).tr (f3.mono (fun k j z => SRm.v (by omega) z))
      have s3 : hI m3 56 19 = nI sd := ss f03 (by omega)
      rcases m_bounded (a := 0) (b := 23) (B2.fr f3 (fun k j z => by omega)) hn (w2.fr f3 (fun k j z => by omega) (Nat.le_refl _)) (by omega) (by omega) with ⟨m4, e4, B4, w4, f4, k4, h4⟩ | ⟨m4, f, x, e4, r4, f4, q4⟩
      · rw [sqk_y k4 h4, e4, bind_s]
        dsimp only
        rw [s3, bI_n _ 78 _ hsd (by omega), bind_s]
        have f5 : Fr (fun k j => k = 78 ∧ j = sd) m4 (tI m4 78 sd (nI (vI By n (i + 1 + 1)))) := Fr.rf.tI _ ⟨rfl, rfl⟩
        have w5 : hI (tI m4 78 sd (nI (vI By n (i + 1 + 1)))) 78 sd = nI (vI By n (i + 1 + 1)) := by rw [hI_tI, if_pos ⟨rfl, rfl⟩]
        generalize tI m4 78 sd (nI (vI By n (i + 1 + 1))) = m5 at f5 w5 ⊢
        have ff5 : Fr (SRm sd) m m5 := (ff3.tr (f4.mono (fun k j z => SRm.w z))).tr (f5.mono (fun k j z => SRm.v (by omega) z))
        rcases m_mk (B4.fr f5 (fun k j z => by omega)) (w := 4) (by omega) (by omega) with ⟨m6, e6, B6, f6, k6, h6⟩ | ⟨m6, f, e6, r6, f6, q6⟩
        · rw [sqk_y k6 h6, e6, bind_s]
          have f36 : Fr (fun k j => S5W k j ∨ (k = 78 ∧ j = sd)) m3 m6 := ((f4.mono (fun k j z => by omega)).tr (f5.mono (fun k j z => by omega))).tr (f6.mono (fun k j z => by omega))
          have f06 : Fr (fun k j => S5P k j ∨ ((k = 77 ∨ k = 78) ∧ j = sd)) m m6 := (f03.mono (fun k j z => by omega)).tr (f36.mono (fun k j z => by omega))
          obtain ⟨⟨a1, a2, a3, a4, a5, a6⟩, c1, c2⟩ := hG
          refine IM.ok rfl ⟨C, k1, b1, B6, (f06.I _ _ (by omega)).trans h19, hK.fr f06 (fun k j z => by omega), ⟨by omega, by omega⟩, ⟨⟨(f06.I _ _ (by omega)).trans a1, (f36.I _ _ (by omega)).trans w3, (f6.i56 (by decide)).trans w5, (f06.I _ _ (by omega)).trans a4, (f06.I _ _ (by omega)).trans a5, fun z => (f06.I _ _ (by omega)).trans (a6 (slp_none z).1)⟩, fun b p hp => ⟨(f06.I _ _ (by omega)).trans (c1 b p hp).1, fun z => (f06.I _ _ (by omega)).trans ((c1 b p hp).2 (slp_none z).1)⟩, fun q p hp => ⟨(f06.I _ _ (by omega)).trans (c2 q p hp).1, (f06.I _ _ (by omega)).trans (c2 q p hp).2⟩⟩, hN.fr f06 (fun k j z => by omega), ?_, (u2.fr f3 (fun k j z => by omega)).fr f36 (fun k j z => by omega), ?_⟩ (ff5.tr (f6.mono (fun k j z => SRm.s z)))
          · have ed : decide (vI By n (i + 1 + 1) < 0 ∨ 23 < vI By n (i + 1 + 1)) = decide (23 < vI By n (i + 2)) := by
              by_cases q : 23 < vI By n (i + 2)
              · rw [decide_eq_true q, decide_eq_true (Or.inr q)]
              · rw [decide_eq_false q, decide_eq_false (by intro z; rcases z with z | z; exact absurd z (Nat.not_lt_zero _); exact q z)]
            rw [ed] at w4
            exact (w4.fr f5 (fun k j z => by omega) (Nat.le_refl _)).fr f6 (fun k j z => by omega) (by omega)
          · show 3 * (ttU s ++ [i + 1]).length ≤ _
            rw [List.length_append, List.length_singleton]
            omega
        · rw [q6, e6, bind_s]
          exact IM.no rfl r6 (ff5.tr (f6.mono (fun k j z => SRm.s z)))
      · rw [q4, e4, bind_s]
        dsimp only
        rw [s3, bI_n _ 78 _ hsd (by omega), bind_s]
        have f5 : Fr (fun k j => k = 78 ∧ j = sd) m4 (tI m4 78 sd x) := Fr.rf.tI _ ⟨rfl, rfl⟩
        have r5 := r4.fr f5 (fun k j z => by omega)
        rw [mf_must r5, bind_s]
        exact IM.no rfl r5 ((ff3.tr (f4.mono (fun k j z => SRm.w z))).tr (f5.mono (fun k j z => SRm.v (by omega) z)))
    · rw [q2, e2, bind_s]
      have f02 : Fr S5P m m2 := (f1.mono (fun k j z => by omega)).tr f2
      obtain ⟨m9, e9, r9, f9⟩ := tail f (i + 1) m2 x r2 (f02.mono (fun k j z => SRm.p z)) (ss f02 (by omega))
      exact IM.no e9 r9 f9
  · have s1 : hI m1 56 19 = nI sd := ss f1 (by omega)
    rw [q1, e1, bind_s, s1, mf_part r1, bind_s]
    obtain ⟨m9, e9, r9, f9⟩ := tail 2 i m1 0 r1 (f1.mono (fun k j z => SRm.s z)) s1
    exact IM.no e9 r9 f9
end KJ
