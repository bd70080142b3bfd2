/-! ===== the reference reads laws ===== -/
section KL
variable {m : M2} {By : Nat → Nat} {n sd : Nat}
theorem mf_l127 {x2 : Int32} {f t b q : Nat} (hsd : sd < 2) (hb : b < 54) (hq : q < 6) (h27 : hI m 56 27 = nI (54 * sd + b)) (h : MFt m By n f t) : ∃ m', f_X12_tellLaw_127 (nI (6 * sd + q)) x2 m = some m' ∧ MFt m' By n f t ∧ Fr (SRm sd) m m' := by
  unfold f_X12_tellLaw_127
  have hix : 54 * sd + b < 108 := by omega
  rw [h27, bI_n _ 70 _ hix (by omega), bind_s, hI_tI, if_neg (by omega), h27, bI_n _ 71 _ hix (by omega), bind_s]
  have f1 : Fr (fun k j => (k = 70 ∨ k = 71) ∧ j = 54 * sd + b) m (tI (tI m 70 (54 * sd + b) (hI m 56 41)) 71 (54 * sd + b) (hI (tI m 70 (54 * sd + b) (hI m 56 41)) 56 41)) := (Fr.rf.tI _ (by omega)).tI _ (by omega)
  generalize tI (tI m 70 (54 * sd + b) (hI m 56 41)) 71 (54 * sd + b) (hI (tI m 70 (54 * sd + b) (hI m 56 41)) 56 41) = m1 at f1 ⊢
  have r1 := h.fr f1 (fun k j z => by omega)
  obtain ⟨m2, e2, r2, s2, f2⟩ := mf_term hsd hb (by rw [f1.I _ _ (by omega)]; exact h27) r1
  rw [e2, bind_s, bI_n _ 69 _ (show 6 * sd + q < 12 by omega) (by omega), bind_s]
  have f3 : Fr (fun k j => k = 69 ∧ j = 6 * sd + q) m2 (tI m2 69 (6 * sd + q) (hI m2 56 27)) := Fr.rf.tI _ ⟨rfl, rfl⟩
  have r3 := r2.fr f3 (fun k j z => by omega)
  rw [mf_must r3, bind_s, if_neg r3.nl]
  refine ⟨_, rfl, r3, ((f1.mono (fun k j z => ?_)).tr (f2.mono (fun k j z => SRm.b (k0 := 0) (b0 := b) (SBr.t2 hb z)))).tr (f3.mono (fun k j z => SRm.q (by omega) hq z))⟩
  exact SRm.b (k0 := 0) (b0 := b) (Or.inr (Or.inr (by omega)))
theorem mf_l40 {x1 x2 : Int32} {f t : Nat} (h : MFt m By n f t) : loop (g_X12_tellLaw_40 x1 x2) ((0 : Int32), m) = some (Sum.inr m) := by
  have key : ∃ z, loop (g_X12_tellLaw_40 x1 x2) ((0 : Int32), m) = some z ∧ z = Sum.inr m := by
    refine loop_to 0 (fun _ z => z = ((0 : Int32), m)) _ (by omega) (fun k s hk => by omega) ?_ rfl
    rintro z rfl
    show ∃ z, f_X12_tellLaw_40 x1 x2 0 m = some (Sum.inr z) ∧ _
    unfold f_X12_tellLaw_40
    rw [if_neg h.ne]
    exact ⟨_, rfl, rfl⟩
  obtain ⟨z, e1, rfl⟩ := key
  exact e1
/-- a fault ahead of the branches -/
theorem mf_law {x2 : Int32} {f t b q : Nat} (hsd : sd < 2) (hb : b < 54) (hq : q < 6) (h27 : hI m 56 27 = nI (54 * sd + b)) (h : MFt m By n f t) : ∃ m', ((bI m 68 12 (nI (6 * sd + q)) (hI m 56 27)).bind fun m9 => (loop (g_X12_tellLaw_40 (nI (6 * sd + q)) x2) ((0 : Int32), m9)).bind fun e11 => (Sum.elim (fun e11_0 => some e11_0) (fun e11_1 => f_X12_tellLaw_127 (nI (6 * sd + q)) x2 e11_1)) e11) = some m' ∧ MFt m' By n f t ∧ Fr (SRm sd) m m' := by
  rw [bI_n _ 68 _ (show 6 * sd + q < 12 by omega) (by omega), bind_s]
  have f3 : Fr (fun k j => k = 68 ∧ j = 6 * sd + q) m (tI m 68 (6 * sd + q) (hI m 56 27)) := Fr.rf.tI _ ⟨rfl, rfl⟩
  generalize tI m 68 (6 * sd + q) (hI m 56 27) = m1 at f3 ⊢
  have r3 := h.fr f3 (fun k j z => by omega)
  rw [mf_l40 r3, bind_s, Sum.elim_inr]
  obtain ⟨m2, e2, r2, f2⟩ := mf_l127 (x2 := x2) hsd hb hq (by rw [f3.i1 (by decide)]; exact h27) r3
  exact ⟨m2, e2, r2, (f3.mono (fun k j z => SRm.q (by omega) hq z)).tr f2⟩
theorem m_law {i : Nat} {s : IS} (hsd : sd < 2) (hn : n ≤ 2000) (hM : MI m sd By n i s) (hL6 : (ttL s).length < 6) (hN18 : (ttN s).length < 18) (hk : tk By n i = 18) (h4 : i < 400) {m1 : M2} (B1 : MBs m1 By n (i + 1)) (f1 : Fr S56 m m1) : IM m sd By n (F_X12_tellLaw m1) (pLaw (tk By n) (vI By n) (v5 By n) i s) := by
  obtain ⟨C, k1, b1, hB, h19, hK, ⟨hl1, hl2⟩, hG, hN, hW, hU, hl3⟩ := hM
  have hKV : ∀ i, tk By n i = 3 → vI By n i < 10000 := fun i hi => vI_lt hi
  have hit := hB.2.2.1
  have hte := te_le By n
  have s1 : hI m1 56 19 = nI sd := by rw [f1.j56 (by decide)]; exact h19
  have g67 : hI m1 67 sd = nI (ttL s).length := by rw [f1.i56 (by decide)]; exact hK.2.2.2.2.1
  have hb45 : b1 ≤ 45 := by have := hK.2.2.2.2.2.1; omega
  unfold F_X12_tellLaw pLaw
  rw [sqk_y hk h4, s1, aI_n _ 67 hsd (by omega), bind_s, g67, lit_6, pk_mul, nI_add, nmI_e, bind_s]
  generalize hq : (ttL s).length = q at hL6 g67
  rcases m_named B1 hn (hW.fr f1 (fun k j z => by omega) (show i ≤ i + 1 by omega)) (hN.fr f1 (fun k j z => by omega)) (by omega) with ⟨m2, e2, B2, w2, f2, k2, h2⟩ | ⟨m2, f, x, e2, r2, f2, q2⟩
  · rw [sqk_y k2 h2, e2, bind_s]
    dsimp only
    rw [show F_X12_must (5 : Int32) m2 = F_X12_must (nI (mkd 5)) m2 from rfl]
    have f02 : Fr S5W m m2 := (f1.mono (fun k j z => by omega)).tr f2
    rcases m_mk B2 (w := 5) (by omega) (by omega) with ⟨m3, e3, B3, f3, k3, h3⟩ | ⟨m3, f, e3, r3, f3, q3⟩
    · have f03 : Fr S5W m m3 := f02.tr (f3.mono (fun k j z => by omega))
      obtain ⟨hC, h12, h41, h27, h67, hb9, hLw⟩ := hK
      have g27 : hI m3 56 27 = nI (54 * sd + b1) := (f03.I _ _ (by omega)).trans h27
      rw [sqk_y k3 h3, e3, bind_s, g27, bI_n _ 68 _ (show 6 * sd + q < 12 by omega) (by omega), bind_s]
      have f4 : Fr (fun k j => k = 68 ∧ j = 6 * sd + q) m3 (tI m3 68 (6 * sd + q) (nI (54 * sd + b1))) := Fr.rf.tI _ ⟨rfl, rfl⟩
      have w4 : hI (tI m3 68 (6 * sd + q) (nI (54 * sd + b1))) 68 (6 * sd + q) = nI (54 * sd + b1) := by rw [hI_tI, if_pos ⟨rfl, rfl⟩]
      generalize tI m3 68 (6 * sd + q) (nI (54 * sd + b1)) = m4 at f4 w4 ⊢
      have f04 : Fr (fun k j => S5W k j ∨ (k = 68 ∧ j = 6 * sd + q)) m m4 := (f03.mono (fun k j z => Or.inl z)).tr (f4.mono (fun k j z => Or.inr z))
      have ff4 : Fr (SRm sd) m m4 := (f03.mono (fun k j z => SRm.w z)).tr (f4.mono (fun k j z => SRm.q (by omega) hL6 z))
      have B4 := B3.fr f4 (fun k j z => by omega)
      have W4 := (w2.fr f3 (fun k j z => by omega) (show i + 1 + 1 ≤ i + 1 + 1 + 1 by omega)).fr f4 (fun k j z => by omega) (Nat.le_refl _)
      show IM m sd By n ((loop (g_X12_tellLaw_40 (nI (6 * sd + q)) (nI (i + 1))) ((0 : Int32), m4)).bind fun e11 => (Sum.elim (fun e11_0 => some e11_0) (fun e11_1 => f_X12_tellLaw_127 (nI (6 * sd + q)) (nI (i + 1)) e11_1)) e11) (match pBr (tk By n) (vI By n) 9 (i + 1 + 1 + 1) [] with
          | .inr e => .inr e
          | .inl z => match pX (tk By n) (vI By n) 24 0 0 z.1 with
            | .inr e => .inr e
            | .inl y => sqR (sqk (tk By n) [4] y.1) (iLaw (v5 By n) i (z.2, y.2) s))
      obtain ⟨ez, e5, o5⟩ := m_branches (x1 := nI (6 * sd + q)) (x2 := nI (i + 1)) (k0 := k1) (b0 := b1) hsd hb45 B4 (hC.fr f04 (fun k j z => by omega)) ((f04.I _ _ (by omega)).trans h12) (show C.length ≤ i + 1 + 1 + 1 by omega) ((f04.I _ _ (by omega)).trans h41) (by omega) ((f04.I _ _ (by omega)).trans h27)
      rw [e5, bind_s]
      rcases o5 with ⟨m5, j, bs, C2, k2', rfl, p5, hbl, hO⟩ | ⟨m5, f, t, hez, p5, hF⟩
      · obtain ⟨a1, a2, a3, a4, a5, a6, a7, a8, a9, a10, a11, a12⟩ := hO
        rw [p5, Sum.elim_inr]
        dsimp only
        have hjt := a1.2.2.1
        have hbk : b1 + bs.length < 54 := by omega
        have hix : 54 * sd + (b1 + bs.length) < 108 := by omega
        unfold f_X12_tellLaw_127
        rw [a8, a5, bI_n _ 70 _ hix (by omega), bind_s, hI_tI, if_neg (by omega), a8, hI_tI, if_neg (by omega), a5, bI_n _ 71 _ hix (by omega), bind_s]
        have f6 : Fr (fun k j => (k = 70 ∨ k = 71) ∧ j = 54 * sd + (b1 + bs.length)) m5 (tI (tI m5 70 (54 * sd + (b1 + bs.length)) (nI (150 * sd + k2'))) 71 (54 * sd + (b1 + bs.length)) (nI (150 * sd + k2'))) := (Fr.rf.tI _ (by omega)).tI _ (by omega)
        have w6 : hI (tI (tI m5 70 (54 * sd + (b1 + bs.length)) (nI (150 * sd + k2'))) 71 (54 * sd + (b1 + bs.length)) (nI (150 * sd + k2'))) 70 (54 * sd + (b1 + bs.length)) = nI (150 * sd + k2') ∧ hI (tI (tI m5 70 (54 * sd + (b1 + bs.length)) (nI (150 * sd + k2'))) 71 (54 * sd + (b1 + bs.length)) (nI (150 * sd + k2'))) 71 (54 * sd + (b1 + bs.length)) = nI (150 * sd + k2') := by
          refine ⟨?_, ?_⟩
          · rw [hI_tI, if_neg (by omega), hI_tI, if_pos ⟨rfl, rfl⟩]
          · rw [hI_tI, if_pos ⟨rfl, rfl⟩]
        generalize tI (tI m5 70 (54 * sd + (b1 + bs.length)) (nI (150 * sd + k2'))) 71 (54 * sd + (b1 + bs.length)) (nI (150 * sd + k2')) = m6 at f6 w6 ⊢
        have F6 : Fr (SBr sd k2' (b1 + bs.length)) m5 m6 := f6.mono (fun k j z => Or.inr (Or.inr (by omega)))
        have B6 := a1.fr f6 (fun k j z => by omega)
        obtain ⟨t1, t2⟩ := m_term hsd hbk (by rw [f6.I _ _ (by omega)]; exact a8) B6 (a2.fr f6 (fun k j z => by omega)) (by rw [f6.I _ _ (by omega)]; exact a4) a3
        have ff5 : Fr (SRm sd) m m5 := ff4.tr (a12.mono (fun k j z => SRm.b z))
        have ff6 : Fr (SRm sd) m m6 := ff5.tr (F6.mono (fun k j z => SRm.b z))
        cases hx : pX (tk By n) (vI By n) 24 0 0 j with
        | inr x =>
          obtain ⟨m7, e7, r7, s7, f7⟩ := t2 x.1 x.2 hx
          rw [e7, bind_s, bI_n _ 69 _ (show 6 * sd + q < 12 by omega) (by omega), bind_s]
          have f8 : Fr (fun k j => k = 69 ∧ j = 6 * sd + q) m7 (tI m7 69 (6 * sd + q) (hI m7 56 27)) := Fr.rf.tI _ ⟨rfl, rfl⟩
          have r8 := r7.fr f8 (fun k j z => by omega)
          rw [mf_must r8, bind_s, if_neg r8.nl]
          exact IM.no rfl r8 ((ff6.tr (f7.mono (fun k j z => SRm.b (k0 := k2') (SBr.t hbk z)))).tr (f8.mono (fun k j z => SRm.q (by omega) hL6 z)))
        | inl y =>
          obtain ⟨m7, e7, B7, C7, o7, s7, w72, w73, f7⟩ := t1 y.1 y.2 hx
          clear t1 t2
          have gy := pX_good hKV 24 0 0 j y.1 y.2 (by omega) (by omega) hx
          have ly := gy.2.2.1
          have hyt := B7.2.2.1
          have F7 : Fr (SBr sd k2' (b1 + bs.length)) m5 m7 := F6.tr (f7.mono (fun k j z => SBr.t hbk z))
          have ff7 : Fr (SRm sd) m m7 := ff5.tr (F7.mono (fun k j z => SRm.b z))
          dsimp only
          rw [e7, bind_s, s7, bI_n _ 69 _ (show 6 * sd + q < 12 by omega) (by omega), bind_s]
          have f8 : Fr (fun k j => k = 69 ∧ j = 6 * sd + q) m7 (tI m7 69 (6 * sd + q) (nI (54 * sd + (b1 + bs.length) + 1))) := Fr.rf.tI _ ⟨rfl, rfl⟩
          have w8 : hI (tI m7 69 (6 * sd + q) (nI (54 * sd + (b1 + bs.length) + 1))) 69 (6 * sd + q) = nI (54 * sd + (b1 + bs.length) + 1) := by rw [hI_tI, if_pos ⟨rfl, rfl⟩]
          generalize tI m7 69 (6 * sd + q) (nI (54 * sd + (b1 + bs.length) + 1)) = m8 at f8 w8 ⊢
          have ff8 : Fr (SRm sd) m m8 := ff7.tr (f8.mono (fun k j z => SRm.q (by omega) hL6 z))
          rw [show (4 : Int32) = nI (mkd 4) from rfl]
          rcases m_mk (B7.fr f8 (fun k j z => by omega)) (w := 4) (by omega) (by omega) with ⟨m9, e9, B9, f9, k9, h9⟩ | ⟨m9, f, e9, r9, f9, q9⟩
          · rw [sqk_y k9 h9, e9, bind_s, if_pos B9.le]
            -- from the branches on; from the beginning on
            have F49 : Fr (fun k j => SBr sd k1 b1 k j ∨ S56 k j ∨ (k = 69 ∧ j = 6 * sd + q)) m4 m9 := (((a12.mono (fun k j z => Or.inl z)).tr (F7.mono (fun k j z => Or.inl (SBr.up a7 (by omega) z)))).tr (f8.mono (fun k j z => Or.inr (Or.inr z)))).tr (f9.mono (fun k j z => Or.inr (Or.inl z)))
            have I49 : ∀ k j, ¬ SBr sd k1 b1 k j → ¬ k = 56 → ¬ k = 69 → hI m9 k j = hI m4 k j := fun k j z1 z2 z3 => F49.I _ _ (fun z => by rcases z with z | z | z; exact z1 z; exact z2 z.1; exact z3 z.1)
            have n20 : hI m9 56 20 = hI m4 56 20 := F49.I _ _ (fun z => by rcases z with z | z | z <;> omega)
            have n19 : hI m9 56 19 = nI sd := (F49.I _ _ (fun z => by rcases z with z | z | z <;> omega)).trans ((f04.I _ _ (by omega)).trans h19)
            have n67 : hI m9 67 sd = nI q := (I49 _ _ (fun z => by omega) (by omega) (by omega)).trans ((f04.I _ _ (by omega)).trans (by rw [h67, hq]))
            have N9 : MNm m9 By n (ttN s) := by
              have N4 := hN.fr f04 (fun k j z => by omega)
              exact ⟨n20.trans N4.1, fun k p hp => ⟨(F49.J _ _ (fun z => by rcases z with z | z | z <;> omega)).trans (N4.2 k p hp).1, (I49 _ _ (fun z => by omega) (by omega) (by omega)).trans (N4.2 k p hp).2.1, (N4.2 k p hp).2.2⟩⟩
            rw [n19, aI_n _ 67 hsd (by omega), bind_s, n67]
            obtain ⟨ma, ea, Na, fa⟩ := m_notes (t := i + 1) (a := nI q) N9 (by omega) B9.2.2.2 (by have := B2.2.2.1; omega) k2
            rw [ea, bind_s, show hI ma 56 19 = nI sd from (fa.I _ _ (by omega)).trans n19, aI_n _ 67 hsd (by omega), bind_s, show hI ma 67 sd = nI q from (fa.I _ _ (by omega)).trans n67, nI_1, bI_n _ 67 _ hsd (by omega), bind_s]
            have fb : Fr (fun k j => k = 67 ∧ j = sd) ma (tI ma 67 sd (nI (q + 1))) := Fr.rf.tI _ ⟨rfl, rfl⟩
            have wb : hI (tI ma 67 sd (nI (q + 1))) 67 sd = nI (q + 1) := by rw [hI_tI, if_pos ⟨rfl, rfl⟩]
            generalize tI ma 67 sd (nI (q + 1)) = mb at fb wb ⊢
            have f9b : Fr (fun k j => (k = 56 ∧ j = 20) ∨ k = 64 ∨ k = 65 ∨ (k = 67 ∧ j = sd)) m9 mb := (fa.mono (fun k j z => by omega)).tr (fb.mono (fun k j z => by omega))
            have ll : (ttL s ++ [(bs, y.2)]).length = q + 1 := by rw [List.length_append, List.length_singleton, hq]
            have eC : C ++ C2 ++ y.2 = C ++ (C2 ++ y.2) := List.append_assoc ..
            have lc : (C ++ C2 ++ y.2).length = (C ++ C2).length + y.2.length := List.length_append
            -- what isn't of the law
            have O : ∀ k j, ¬ k = 56 → k = 66 ∨ (74 ≤ k ∧ k ≤ 82) ∨ k = 91 → hI mb k j = hI m k j := fun k j z1 z2 => (f9b.I _ _ (by omega)).trans ((I49 _ _ (fun z => by omega) z1 (by omega)).trans (f04.I _ _ (by omega)))
            have O56 : ∀ j, j = 15 ∨ j = 16 ∨ j = 51 → hI mb 56 j = hI m4 56 j := fun j z1 => (f9b.I _ _ (by omega)).trans (F49.I _ _ (fun z => by rcases z with z | z | z <;> omega))
            have f7b : Fr (fun k j => (k = 69 ∧ j = 6 * sd + q) ∨ S56 k j ∨ (k = 56 ∧ j = 20) ∨ k = 64 ∨ k = 65 ∨ (k = 67 ∧ j = sd)) m7 mb := ((f8.mono (fun k j z => Or.inl z)).tr (f9.mono (fun k j z => Or.inr (Or.inl z)))).tr (f9b.mono (fun k j z => Or.inr (Or.inr z)))
            have c7b : ∀ k j, ¬ k = 56 → ¬ (k = 69 ∧ j = 6 * sd + q) → ¬ k = 64 → ¬ k = 65 → ¬ k = 67 → hI mb k j = hI m7 k j := fun k j z1 z2 z3 z4 z5 => f7b.I _ _ (by omega)
            have d56 : ∀ j, j = 12 ∨ j = 27 ∨ j = 41 ∨ j = 48 → hI mb 56 j = hI m7 56 j := fun j z1 => f7b.I _ _ (by omega)
            refine IM.ok rfl ⟨C ++ C2 ++ y.2, k2', b1 + bs.length + 1, B9.fr f9b (fun k j z => by omega), (f9b.I _ _ (by omega)).trans n19, ⟨C7.fr f7b (fun k j z => by omega), (d56 12 (by omega)).trans o7, ?_, (d56 27 (by omega)).trans s7, by rw [wb]; exact congrArg nI ll.symm, ?_, fun p w hp => ?_⟩, ⟨by rw [lc]; omega, by omega⟩, ?_, (by
              show MNm mb By n (ttN s ++ [(i + 1, nI (ttL s).length)])
              rw [hq]
              exact Na.fr fb (fun k j z => by omega)), ?_, ?_, by show 3 * (ttU s).length ≤ _; omega⟩ (((ff8.tr (f9.mono (fun k j z => SRm.s z))).tr (fa.mono (fun k j z => SRm.nn z))).tr (fb.mono (fun k j z => SRm.v (by omega) z)))
            · rw [d56 41 (by omega), f7.iT (by omega), f6.I _ _ (by omega)]; exact a5
            · show b1 + bs.length + 1 ≤ 9 * (ttL s ++ [(bs, y.2)]).length
              rw [ll]
              omega
            · have hp' : (ttL s ++ [(bs, y.2)])[p]? = some w := hp
              by_cases hpq : p < (ttL s).length
              · rw [List.getElem?_append_left hpq] at hp'
                refine (hLw p w hp').mono a7 (by omega) (fun a L h => GC.pre _ _ (GC.pre _ _ h)) (fun k j g1 g2 g3 g4 => ?_) (fun k j g1 g2 g3 g4 => ?_) (fun k g => ?_)
                · rw [f9b.I _ _ (by omega), I49 _ _ (fun z => by omega) (by omega) (by omega), f04.I _ _ (by omega)]
                · rw [f9b.I _ _ (by omega), I49 _ _ (fun z => by omega) (by omega) (by omega), f04.I _ _ (by omega)]
                · have nb : ¬ SBr sd k1 b1 k (6 * sd + p) := fun z => by omega
                  have e49 : hI m9 k (6 * sd + p) = hI m4 k (6 * sd + p) := F49.I _ _ (fun z => by rcases z with z | z | z; exact nb z; omega; omega)
                  rw [f9b.I _ _ (by omega), e49, f04.I _ _ (by omega)]
              · have hp2 := lt_of_get hp'
                rw [ll] at hp2
                have eq : p = (ttL s).length := by omega
                rw [eq, List.getElem?_append_right (Nat.le_refl _), Nat.sub_self] at hp'
                cases hp'
                have eq' : p = q := by omega
                subst eq'
                refine ⟨b1, by show b1 + bs.length < _; omega, a10, ?_, ?_, fun x b hb2 => ?_⟩
                · rw [f9b.I _ _ (by omega), I49 _ _ (fun z => by omega) (by omega) (by omega)]; exact w4
                · rw [f9b.I _ _ (by omega), f9.i56 (by decide), w8]; exact congrArg nI (by show 54 * sd + (b1 + bs.length) + 1 = 54 * sd + b1 + bs.length + 1; omega)
                · by_cases hxb : x < bs.length
                  · have hb2' : (bs ++ [(([] : List Lit), y.2)])[x]? = some b := hb2
                    rw [List.getElem?_append_left hxb] at hb2'
                    refine (((a9 x b hb2').sbr (K' := k2') (Nat.le_refl _) (show b1 + x < b1 + bs.length by omega) GC.pre F7)).mono (Nat.le_refl _) (fun _ _ z => z) (fun k j g1 g2 _ _ => c7b _ _ (by omega) (by omega) (by omega) (by omega) (by omega)) (fun k g1 g2 => c7b _ _ (by omega) (by omega) (by omega) (by omega) (by omega))
                  · have hb2' : (bs ++ [(([] : List Lit), y.2)])[x]? = some b := hb2
                    have hx2 := lt_of_get hb2'
                    rw [List.length_append, List.length_singleton] at hx2
                    have ex : x = bs.length := by omega
                    subst ex
                    rw [List.getElem?_append_right (Nat.le_refl _), Nat.sub_self] at hb2'
                    cases hb2'
                    refine ⟨k2', (C ++ C2).length, fun q l hq => (by cases hq), by show k2' + 0 ≤ k2'; omega, ?_, ⟨_, _, _, _, gy⟩, ?_, ?_, ?_, ?_⟩
                    · have := GC.at (C := C ++ C2) (L := y.2) (X := [])
                      rw [List.append_nil] at this
                      exact this
                    · rw [c7b _ _ (by omega) (by omega) (by omega) (by omega) (by omega), f7.iT (by omega)]; exact w6.1
                    · rw [c7b _ _ (by omega) (by omega) (by omega) (by omega) (by omega), f7.iT (by omega)]; exact w6.2
                    · rw [c7b _ _ (by omega) (by omega) (by omega) (by omega) (by omega)]; exact w72
                    · rw [c7b _ _ (by omega) (by omega) (by omega) (by omega) (by omega)]; exact w73
            · have nn : ttW (iLaw (v5 By n) i (bs, y.2) s) = none → ttW s = none := fun z => (slp_none z).1
              obtain ⟨⟨g1, g2, g3, g4, g5, g6⟩, c1, c2⟩ := hG
              exact ⟨⟨(O _ _ (by omega) (by omega)).trans g1, (O _ _ (by omega) (by omega)).trans g2, (O _ _ (by omega) (by omega)).trans g3, (O _ _ (by omega) (by omega)).trans g4, (O _ _ (by omega) (by omega)).trans g5, fun z => (O _ _ (by omega) (by omega)).trans (g6 (nn z))⟩, fun b p hp => ⟨(O _ _ (by omega) (by omega)).trans (c1 b p hp).1, fun z => (O _ _ (by omega) (by omega)).trans ((c1 b p hp).2 (nn z))⟩, fun x p hp => ⟨(O _ _ (by omega) (by omega)).trans (c2 x p hp).1, (O _ _ (by omega) (by omega)).trans (c2 x p hp).2⟩⟩
            · show MW mb By n (y.1 + 1) (slp (ttW s) (twc (v5 By n) (i + 1) (ttN s)) 3 (i + 1))
              revert W4
              cases slp (ttW s) (twc (v5 By n) (i + 1) (ttN s)) 3 (i + 1) with
              | none => intro W4; exact (O56 15 (by omega)).trans W4
              | some w => intro W4; exact ⟨(O56 15 (by omega)).trans W4.1, W4.2.1, (O56 16 (by omega)).trans W4.2.2.1, by have := W4.2.2.2; omega⟩
            · have U4 := hU.fr f04 (fun k j z => by omega)
              exact ⟨(O56 51 (by omega)).trans U4.1, fun k t ht => (O _ _ (by omega) (by omega)).trans (hU.2 k t ht)⟩
          · rw [q9, e9, bind_s, if_neg r9.nl]
            exact IM.no rfl r9 (ff8.tr (f9.mono (fun k j z => SRm.s z)))
      · obtain ⟨r5, ⟨b2, s5, hb2⟩, f5⟩ := hF
        rw [p5]
        have ff5 : Fr (SRm sd) m m5 := ff4.tr (f5.mono (fun k j z => SRm.b z))
        rcases hez with rfl | rfl
        · rw [Sum.elim_inl]
          exact IM.no rfl r5 ff5
        · rw [Sum.elim_inr]
          obtain ⟨m6, e6, r6, f6⟩ := mf_l127 (x2 := nI (i + 1)) hsd (show b2 < 54 by omega) hL6 s5 r5
          exact IM.no e6 r6 (ff5.tr f6)
    · rw [q3, e3, bind_s]
      obtain ⟨m9, e9, r9, f9⟩ := mf_law (x2 := nI (i + 1)) (q := q) (b := b1) hsd (by omega) hL6 (by rw [f3.j56 (by decide), f02.I _ _ (by omega)]; exact hK.2.2.2.1) r3
      exact IM.no e9 r9 (((f02.mono (fun k j z => SRm.w z)).tr (f3.mono (fun k j z => SRm.s z))).tr f9)
  · rw [q2, e2, bind_s]
    dsimp only
    rw [mf_must r2, bind_s]
    have f02 : Fr S5W m m2 := (f1.mono (fun k j z => by omega)).tr f2
    obtain ⟨m9, e9, r9, f9⟩ := mf_law (x2 := x) (q := q) (b := b1) hsd (by omega) hL6 (by rw [f02.I _ _ (by omega)]; exact hK.2.2.2.1) r2
    exact IM.no e9 r9 ((f02.mono (fun k j z => SRm.w z)).tr f9)
end KL
