/-! ===== the reference reads fogs and men ===== -/
section KK
variable {m : M2} {By : Nat → Nat} {n sd : Nat}
theorem m_fogT {i : Nat} {s : IS} {m0 : M2} (hsd : sd < 2) (hn : n ≤ 2000) (hM : MI m sd By n i s) (hk : tk By n i = 20) (hF : (ttF s).length < 4) (h4 : i < 400) {m1 : M2} (B1 : MBs m1 By n (i + 1)) (f1 : Fr S56 m m1) : IM m sd By n (F_X12_tellFog m1) (sqR (sqk (tk By n) [3, 3, 4] (i + 1)) (iFog (vI By n) i s)) := by
  obtain ⟨C, k1, b1, hB, h19, hK, ⟨hl1, hl2⟩, hG, hN, hW, hU, hl3⟩ := hM
  have hit := hB.2.2.1
  have hte := te_le By n
  have s1 : hI m1 56 19 = nI sd := by rw [f1.j56 (by decide)]; exact h19
  have g80 : hI m1 80 sd = nI (ttF s).length := by rw [f1.i56 (by decide)]; exact hG.1.2.2.2.2.1
  unfold F_X12_tellFog f_X12_tellFog_75
  rw [s1, aI_n _ 80 hsd (by omega), bind_s, g80, lit_4, pk_mul, nI_add, nmI_e, bind_s, show (0 : Int32) = nI 0 from rfl, show (999 : Int32) = nI 999 from rfl, show nI 4 = nI (mkd 4) from rfl]
  have hix : 4 * sd + (ttF s).length < 8 := by omega
  have tail : ∀ (f t : Nat) (m4 : M2) (x : Int32), MFt m4 By n f t → Fr (SRm sd) m m4 → ∃ m', ((bI m4 82 8 (nI (4 * sd + (ttF s).length)) x).bind fun m13 => (F_X12_must (nI (mkd 4)) m13).bind fun c15 => if (hI c15 56 13) = nI 0 then (aI c15 80 2 (hI c15 56 19)).bind fun v18 => (bI c15 80 2 (hI c15 56 19) (v18 + (1 : Int32))).bind fun m20 => some m20 else some c15) = some m' ∧ MFt m' By n f t ∧ Fr (SRm sd) m m' := by
    intro f t m4 x r4 ff4
    rw [bI_n _ 82 _ hix (by omega), bind_s]
    have f5 : Fr (fun k j => k = 82 ∧ j = 4 * sd + (ttF s).length) m4 (tI m4 82 (4 * sd + (ttF s).length) x) := Fr.rf.tI _ ⟨rfl, rfl⟩
    have r5 := r4.fr f5 (fun k j z => by omega)
    rw [mf_must r5, bind_s, if_neg (show ¬ hI (tI m4 82 (4 * sd + (ttF s).length) x) 56 13 = nI 0 from r5.ne)]
    exact ⟨_, rfl, r5, ff4.tr (f5.mono (fun k j z => SRm.f (by omega) hF z))⟩
  rcases m_bounded (a := 0) (b := 999) B1 hn (hW.fr f1 (fun k j z => by omega) (show i ≤ i + 1 by omega)) (by omega) (by omega) with ⟨m2, e2, B2, w2, f2, k2, h2⟩ | ⟨m2, f, x, e2, r2, f2, q2⟩
  · have hv := vI_lt k2
    rw [sqk_y k2 h2, e2, bind_s]
    dsimp only
    rw [bI_n _ 81 _ hix (by omega), bind_s]
    have f3 : Fr (fun k j => k = 81 ∧ j = 4 * sd + (ttF s).length) m2 (tI m2 81 (4 * sd + (ttF s).length) (nI (vI By n (i + 1)))) := Fr.rf.tI _ ⟨rfl, rfl⟩
    have w3 : hI (tI m2 81 (4 * sd + (ttF s).length) (nI (vI By n (i + 1)))) 81 (4 * sd + (ttF s).length) = nI (vI By n (i + 1)) := by rw [hI_tI, if_pos ⟨rfl, rfl⟩]
    generalize tI m2 81 (4 * sd + (ttF s).length) (nI (vI By n (i + 1))) = m3 at f3 w3 ⊢
    have ff3 : Fr (SRm sd) m m3 := ((f1.mono (fun k j z => SRm.s z)).tr (f2.mono (fun k j z => SRm.w z))).tr (f3.mono (fun k j z => SRm.f (by omega) hF z))
    rw [aI_n _ 81 hix (by omega), bind_s, w3]
    rcases m_bounded (a := vI By n (i + 1)) (b := 999) (B2.fr f3 (fun k j z => by omega)) hn (w2.fr f3 (fun k j z => by omega) (Nat.le_refl _)) (by omega) (by omega) with ⟨m4, e4, B4, w4, f4, k4, h4'⟩ | ⟨m4, f, x, e4, r4, f4, q4⟩
    · rw [sqk_y k4 h4', e4, bind_s]
      dsimp only
      rw [bI_n _ 82 _ hix (by omega), bind_s]
      have f5 : Fr (fun k j => k = 82 ∧ j = 4 * sd + (ttF s).length) m4 (tI m4 82 (4 * sd + (ttF s).length) (nI (vI By n (i + 1 + 1)))) := Fr.rf.tI _ ⟨rfl, rfl⟩
      have w5 : hI (tI m4 82 (4 * sd + (ttF s).length) (nI (vI By n (i + 1 + 1)))) 82 (4 * sd + (ttF s).length) = nI (vI By n (i + 1 + 1)) := by rw [hI_tI, if_pos ⟨rfl, rfl⟩]
      generalize tI m4 82 (4 * sd + (ttF s).length) (nI (vI By n (i + 1 + 1))) = m5 at f5 w5 ⊢
      have ff5 : Fr (SRm sd) m m5 := (ff3.tr (f4.mono (fun k j z => SRm.w z))).tr (f5.mono (fun k j z => SRm.f (by omega) hF z))
      rcases m_mk (B4.fr f5 (fun k j z => by omega)) (w := 4) (by omega) (by omega) with ⟨m6, e6, B6, f6, k6, h6⟩ | ⟨m6, f, e6, r6, f6, q6⟩
      · have f36 : Fr (fun k j => S5W k j ∨ (k = 82 ∧ j = 4 * sd + (ttF s).length)) m3 m6 := ((f4.mono (fun k j z => by omega)).tr (f5.mono (fun k j z => by omega))).tr (f6.mono (fun k j z => by omega))
        have f06 : Fr (fun k j => S5W k j ∨ ((k = 81 ∨ k = 82) ∧ j = 4 * sd + (ttF s).length)) m m6 := (((f1.mono (fun k j z => by omega)).tr (f2.mono (fun k j z => by omega))).tr (f3.mono (fun k j z => by omega))).tr (f36.mono (fun k j z => by omega))
        have s6 : hI m6 56 19 = nI sd := (f06.I _ _ (by omega)).trans h19
        have g6 : hI m6 80 sd = nI (ttF s).length := (f06.I _ _ (by omega)).trans hG.1.2.2.2.2.1
        rw [sqk_y k6 h6, e6, bind_s, if_pos (show hI m6 56 13 = nI 0 from B6.1), s6, aI_n _ 80 hsd (by omega), bind_s, g6, nI_1, bI_n _ 80 _ hsd (by omega), bind_s]
        have f7 : Fr (fun k j => k = 80 ∧ j = sd) m6 (tI m6 80 sd (nI ((ttF s).length + 1))) := Fr.rf.tI _ ⟨rfl, rfl⟩
        have w7 : hI (tI m6 80 sd (nI ((ttF s).length + 1))) 80 sd = nI ((ttF s).length + 1) := by rw [hI_tI, if_pos ⟨rfl, rfl⟩]
        generalize tI m6 80 sd (nI ((ttF s).length + 1)) = m7 at f7 w7 ⊢
        have ll : (ttF s ++ [(vI By n (i + 1), vI By n (i + 2))]).length = (ttF s).length + 1 := by rw [List.length_append, List.length_singleton]
        obtain ⟨⟨a1, a2, a3, a4, a5, a6⟩, c1, c2⟩ := hG
        have I : ∀ k j, ¬ k = 56 → ¬ (k = 80 ∧ j = sd) → ¬ ((k = 81 ∨ k = 82) ∧ j = 4 * sd + (ttF s).length) → hI m7 k j = hI m k j := fun k j z1 z2 z3 => (f7.I _ _ z2).trans (f06.I _ _ (by omega))
        have nn : ttW (iFog (vI By n) i s) = none → ttW s = none := fun z => (slp_none (slp_none z).1).1
        refine IM.ok rfl ⟨C, k1, b1, B6.fr f7 (fun k j z => by omega), (f7.i1 (by decide)).trans s6, (hK.fr f06 (fun k j z => by omega)).fr f7 (fun k j z => by omega), ⟨by omega, by omega⟩, ⟨⟨(I _ _ (by omega) (by omega) (by omega)).trans a1, (I _ _ (by omega) (by omega) (by omega)).trans a2, (I _ _ (by omega) (by omega) (by omega)).trans a3, (I _ _ (by omega) (by omega) (by omega)).trans a4, by rw [w7]; exact congrArg nI ll.symm, fun z => (I _ _ (by omega) (by omega) (by omega)).trans (a6 (nn z))⟩, fun b p hp => ⟨(I _ _ (by omega) (by omega) (by omega)).trans (c1 b p hp).1, fun z => (I _ _ (by omega) (by omega) (by omega)).trans ((c1 b p hp).2 (nn z))⟩, fun q p hp => ?_⟩, (hN.fr f06 (fun k j z => by omega)).fr f7 (fun k j z => by omega), ?_, (hU.fr f06 (fun k j z => by omega)).fr f7 (fun k j z => by omega), by show 3 * (ttU s).length ≤ _; omega⟩ ((ff5.tr (f6.mono (fun k j z => SRm.s z))).tr (f7.mono (fun k j z => SRm.v (by omega) z)))
        · have hp' : (ttF s ++ [(vI By n (i + 1), vI By n (i + 2))])[q]? = some p := hp
          by_cases hq : q < (ttF s).length
          · rw [List.getElem?_append_left hq] at hp'
            exact ⟨(I _ _ (by omega) (by omega) (by omega)).trans (c2 q p hp').1, (I _ _ (by omega) (by omega) (by omega)).trans (c2 q p hp').2⟩
          · have hq2 := lt_of_get hp'
            rw [ll] at hq2
            have eq : q = (ttF s).length := by omega
            subst eq
            rw [List.getElem?_append_right (Nat.le_refl _), Nat.sub_self] at hp'
            cases hp'
            exact ⟨by rw [f7.i1 (by decide), f36.I _ _ (by omega)]; exact w3, by rw [f7.i1 (by decide), f6.i56 (by decide)]; exact w5⟩
        · have ed : decide (vI By n (i + 1) < 0 ∨ 999 < vI By n (i + 1)) = decide (999 < vI By n (i + 1)) := by
            by_cases q : 999 < vI By n (i + 1)
            · rw [decide_eq_true q, decide_eq_true (Or.inr q)]
            · rw [decide_eq_false q, decide_eq_false (by intro z; rcases z with z | z; exact absurd z (Nat.not_lt_zero _); exact q z)]
          have ed2 : decide (vI By n (i + 1 + 1) < vI By n (i + 1) ∨ 999 < vI By n (i + 1 + 1)) = decide (999 < vI By n (i + 2) ∨ vI By n (i + 2) < vI By n (i + 1)) := by
            by_cases q : 999 < vI By n (i + 2) ∨ vI By n (i + 2) < vI By n (i + 1)
            · rw [decide_eq_true q, decide_eq_true (show vI By n (i + 1 + 1) < vI By n (i + 1) ∨ 999 < vI By n (i + 1 + 1) from q.symm)]
            · rw [decide_eq_false q, decide_eq_false (show ¬ (vI By n (i + 1 + 1) < vI By n (i + 1) ∨ 999 < vI By n (i + 1 + 1)) from fun z => q z.symm)]
          rw [ed, ed2] at w4
          exact ((w4.fr f5 (fun k j z => by omega) (Nat.le_refl _)).fr f6 (fun k j z => by omega) (by omega)).fr f7 (fun k j z => by omega) (Nat.le_refl _)
      · rw [q6, e6, bind_s, if_neg (show ¬ hI m6 56 13 = nI 0 from r6.ne)]
        exact IM.no rfl r6 (ff5.tr (f6.mono (fun k j z => SRm.s z)))
    · rw [q4, e4, bind_s]
      obtain ⟨m9, e9, r9, f9⟩ := tail f (i + 1 + 1) m4 x r4 (ff3.tr (f4.mono (fun k j z => SRm.w z)))
      exact IM.no e9 r9 f9
  · rw [q2, e2, bind_s]
    dsimp only
    rw [bI_n _ 81 _ hix (by omega), bind_s]
    have f3 : Fr (fun k j => k = 81 ∧ j = 4 * sd + (ttF s).length) m2 (tI m2 81 (4 * sd + (ttF s).length) x) := Fr.rf.tI _ ⟨rfl, rfl⟩
    generalize tI m2 81 (4 * sd + (ttF s).length) x = m3 at f3 ⊢
    have r3 := r2.fr f3 (fun k j z => by omega)
    rw [aI_n _ 81 hix (by omega), bind_s, mf_bounded r3, bind_s]
    obtain ⟨m9, e9, r9, f9⟩ := tail f (i + 1) m3 (hI m3 81 (4 * sd + (ttF s).length)) r3 (((f1.mono (fun k j z => SRm.s z)).tr (f2.mono (fun k j z => SRm.w z))).tr (f3.mono (fun k j z => SRm.f (by omega) hF z)))
    exact IM.no e9 r9 f9
/-! men -/
theorem m_lawOf {k i t : Nat} {ns : List (Nat × Int32)} {x2 : Int32} (hB : MBs m By n i) (hN : MNm m By n ns) (hl : ns.length ≤ 20) (hk : k < 24) (ht : t ≤ te By n) (kt : tk By n t = 2) (h75 : hI m 75 k = -1) : ∃ m', loop (g_X12_tellMan_43 (nI k) x2 (nI t)) ((0 : Int32), m) = some m' ∧ hI m' 75 k = lwL (v5 By n) t ns (-1) ∧ Fr (fun a b => a = 75 ∧ b = k) m m' := by
  have hte := te_le By n
  have hv := v27_lt kt
  refine loop_to ns.length (fun q z => z.1 = nI q ∧ lwL (v5 By n) t (ns.drop q) (hI z.2 75 k) = lwL (v5 By n) t ns (-1) ∧ Fr (fun a b => a = 75 ∧ b = k) m z.2) _ (by omega) ?_ ?_ ⟨rfl, by show lwL (v5 By n) t ns (hI m 75 k) = _; rw [h75], Fr.rf⟩
  · rintro q ⟨z1, m1⟩ hq ⟨i1, i2, i3⟩
    dsimp only at i1 i2 i3
    subst i1
    show ∃ s', f_X12_tellMan_43 (nI k) x2 (nI t) (nI q) m1 = some (Sum.inl s') ∧ _
    have B1 := hB.fr i3 (fun a b z => by omega)
    have N1 := hN.fr i3 (fun a b z => by omega)
    obtain ⟨p, hp⟩ : ∃ p, ns[q]? = some p := ⟨ns[q], List.getElem?_eq_getElem hq⟩
    have hN2 := N1.2 q p hp
    have hpv := v27_lt hN2.2.2
    rw [drop_c hp] at i2
    have i2' : lwL (v5 By n) t (ns.drop (q + 1)) (if v5 By n p.1 = v5 By n t ∧ ¬ p.2 < 0 then p.2 else hI m1 75 k) = lwL (v5 By n) t ns (-1) := i2
    unfold f_X12_tellMan_43 f_X12_tellMan_99
    rw [N1.1, if_neg (nI_ge hq (by omega)), if_pos B1.1, aJ_n _ 64 (show q < 20 by omega) (by omega), bind_s, aJ_n _ 62 (show t < 403 by omega) (by omega), bind_s, hN2.1, (B1.2.2.2 t (by omega)).2.2.2 kt]
    by_cases c : v5 By n p.1 = v5 By n t
    · rw [if_pos ((lg_cmp_eq _ _).mpr (by rw [v_same.mpr c])), aI_n _ 65 (show q < 20 by omega) (by omega), bind_s, hN2.2.1]
      by_cases c2 : p.2 < 0
      · rw [if_neg (fun z => z.2 c2)] at i2'
        rw [if_pos c2, nmI_e, bind_s, nI_1]
        exact ⟨_, rfl, rfl, i2', i3⟩
      · rw [if_pos ⟨c, c2⟩] at i2'
        rw [if_neg c2, bind_s, bI_n _ 75 _ hk (by omega), bind_s, nmI_e, bind_s, nI_1]
        refine ⟨_, rfl, rfl, ?_, i3.tI _ ⟨rfl, rfl⟩⟩
        show lwL (v5 By n) t (ns.drop (q + 1)) (hI (tI m1 75 k p.2) 75 k) = _
        rw [hI_tI, if_pos ⟨rfl, rfl⟩]
        exact i2'
    · rw [if_neg (fun z => c z.1)] at i2'
      rw [if_neg (fun z => c (v_same.mp ((lN_eq60 (by omega) (by omega)).mp ((lg_cmp_eq _ _).mp z)))), nmI_e, bind_s, nI_1]
      exact ⟨_, rfl, rfl, i2', i3⟩
  · rintro ⟨z1, m1⟩ ⟨i1, i2, i3⟩
    dsimp only at i1 i2 i3
    subst i1
    show ∃ z, f_X12_tellMan_43 (nI k) x2 (nI t) (nI ns.length) m1 = some (Sum.inr z) ∧ _
    have N1 := hN.fr i3 (fun a b z => by omega)
    unfold f_X12_tellMan_43
    rw [N1.1, if_pos (nI_le (Nat.le_refl _) (by omega))]
    rw [List.drop_length] at i2
    exact ⟨_, rfl, i2, i3⟩
theorem mf_43 {x1 x2 x3 : Int32} {f t : Nat} (h : MFt m By n f t) : loop (g_X12_tellMan_43 x1 x2 x3) ((0 : Int32), m) = some m := by
  have key : ∃ z, loop (g_X12_tellMan_43 x1 x2 x3) ((0 : Int32), m) = some z ∧ z = m := by
    refine loop_to 0 (fun _ z => z = ((0 : Int32), m)) _ (by omega) (fun k s hk => by omega) ?_ rfl
    rintro z rfl
    show ∃ z, f_X12_tellMan_43 x1 x2 x3 0 m = some (Sum.inr z) ∧ _
    unfold f_X12_tellMan_43
    rw [if_neg h.ne]
    split
    · exact ⟨_, rfl, rfl⟩
    · exact ⟨_, rfl, rfl⟩
  obtain ⟨z, e1, rfl⟩ := key
  exact e1
theorem mf_127 {x2 : Int32} {f t b : Nat} (hsd : sd < 2) (hb : b < 12) (h : MFt m By n f t) : ∃ m', f_X12_tellMan_127 (nI (12 * sd + b)) x2 m = some m' ∧ MFt m' By n f t ∧ Fr (SRm sd) m m' := by
  unfold f_X12_tellMan_127
  rw [mf_part h, bind_s]
  dsimp only
  rw [bI_n _ 76 _ (show 12 * sd + b < 24 by omega) (by omega), bind_s]
  have f1 : Fr (fun k j => k = 76 ∧ j = 12 * sd + b) m (tI m 76 (12 * sd + b) 0) := Fr.rf.tI _ ⟨rfl, rfl⟩
  have h1 := h.fr f1 (fun k j z => by omega)
  rw [mf_must h1, bind_s, if_neg h1.nl]
  exact ⟨_, rfl, h1, f1.mono (fun k j z => SRm.mm (by omega) hb z)⟩
theorem mf_man {x2 x3 : Int32} {f t b : Nat} (hsd : sd < 2) (hb : b < 12) (h : MFt m By n f t) : ∃ m', ((bI m 75 24 (nI (12 * sd + b)) (-1 : Int32)).bind fun m11 => (loop (g_X12_tellMan_43 (nI (12 * sd + b)) x2 x3) ((0 : Int32), m11)).bind fun e13 => f_X12_tellMan_105 (nI (12 * sd + b)) x2 x3 e13) = some m' ∧ MFt m' By n f t ∧ Fr (SRm sd) m m' := by
  rw [bI_n _ 75 _ (show 12 * sd + b < 24 by omega) (by omega), bind_s]
  have f1 : Fr (fun k j => k = 75 ∧ j = 12 * sd + b) m (tI m 75 (12 * sd + b) (-1)) := Fr.rf.tI _ ⟨rfl, rfl⟩
  generalize tI m 75 (12 * sd + b) (-1) = m1 at f1 ⊢
  have h1 := h.fr f1 (fun k j z => by omega)
  rw [mf_43 h1, bind_s]
  unfold f_X12_tellMan_105
  rw [if_neg h1.ne]
  obtain ⟨m2, e2, r2, f2⟩ := mf_127 (x2 := x2) hsd hb h1
  exact ⟨m2, e2, r2, (f1.mono (fun k j z => SRm.mm (by omega) hb z)).tr f2⟩
theorem m_man {i : Nat} {s : IS} (hsd : sd < 2) (hn : n ≤ 2000) (hM : MI m sd By n i s) (hA : AV (tk By n) (vI By n) (v5 By n) s) (hM12 : (ttM s).length < 12) (hN18 : (ttN s).length < 18) (hL6 : (ttL s).length ≤ 6) (h4 : i < 400) {m1 : M2} (B1 : MBs m1 By n (i + 1)) (f1 : Fr S56 m m1) : IM m sd By n (F_X12_tellMan m1) (sqR (sqk (tk By n) [2, 2, 3, 4] (i + 1)) (iMan (vI By n) (v5 By n) i s)) := by
  obtain ⟨C, k1, b1, hB, h19, hK, ⟨hl1, hl2⟩, hG, hN, hW, hU, hl3⟩ := hM
  have hit := hB.2.2.1
  have hte := te_le By n
  have s1 : hI m1 56 19 = nI sd := by rw [f1.j56 (by decide)]; exact h19
  have g74 : hI m1 74 sd = nI (ttM s).length := by rw [f1.i56 (by decide)]; exact hG.1.1
  unfold F_X12_tellMan
  rw [s1, aI_n _ 74 hsd (by omega), bind_s, g74, lit_12, pk_mul, nI_add, nmI_e, bind_s]
  have hix : 12 * sd + (ttM s).length < 24 := by omega
  rcases m_named B1 hn (hW.fr f1 (fun k j z => by omega) (show i ≤ i + 1 by omega)) (hN.fr f1 (fun k j z => by omega)) (by omega) with ⟨m2, e2, B2, w2, f2, k2, h2⟩ | ⟨m2, f, x, e2, r2, f2, q2⟩
  · rw [sqk_y k2 h2, e2, bind_s]
    dsimp only
    rw [B2.2.1, nmI_e, bind_s, show F_X12_must (1 : Int32) m2 = F_X12_must (nI (mkd 2)) m2 from rfl]
    have f02 : Fr S5W m m2 := (f1.mono (fun k j z => by omega)).tr f2
    rcases m_mk B2 (w := 2) (by omega) (by omega) with ⟨m3, e3, B3, f3, k3, h3⟩ | ⟨m3, f, e3, r3, f3, q3⟩
    · rw [sqk_y k3 h3, e3, bind_s, bI_n _ 75 _ hix (by omega), bind_s]
      have f4 : Fr (fun k j => k = 75 ∧ j = 12 * sd + (ttM s).length) m3 (tI m3 75 (12 * sd + (ttM s).length) (-1)) := Fr.rf.tI _ ⟨rfl, rfl⟩
      have w4 : hI (tI m3 75 (12 * sd + (ttM s).length) (-1)) 75 (12 * sd + (ttM s).length) = -1 := by rw [hI_tI, if_pos ⟨rfl, rfl⟩]
      generalize tI m3 75 (12 * sd + (ttM s).length) (-1) = m4 at f4 w4 ⊢
      have f03 : Fr S5W m m3 := f02.tr (f3.mono (fun k j z => by omega))
      have B4 := B3.fr f4 (fun k j z => by omega)
      have N4 := (hN.fr f03 (fun k j z => by omega)).fr f4 (fun k j z => by omega)
      have W4 := (w2.fr f3 (fun k j z => by omega) (show i + 1 + 1 ≤ i + 1 + 1 + 1 by omega)).fr f4 (fun k j z => by omega) (Nat.le_refl _)
      obtain ⟨m5, e5, w5, f5⟩ := m_lawOf (x2 := nI (i + 1)) (t := i + 1 + 1) B4 N4 (by omega) hix (by have := B2.2.2.1; omega) k3 w4
      rw [e5, bind_s]
      have f35 : Fr (fun k j => k = 75 ∧ j = 12 * sd + (ttM s).length) m3 m5 := f4.tr f5
      have B5 := B4.fr f5 (fun k j z => by omega)
      have W5 := W4.fr f5 (fun k j z => by omega) (Nat.le_refl _)
      generalize hlw : lwN (v5 By n) (i + 2) (ttN s) = lw
      -- the slip, and on
      have next : ∀ m6 : M2, Fr (fun k j => k = 56 ∧ (j = 15 ∨ j = 16)) m5 m6 → MW m6 By n (i + 3) (slp (slp (ttW s) (twc (v5 By n) (i + 1) (ttN s)) 3 (i + 1)) (decide (lw = -1)) 4 (i + 2)) → (slp (slp (ttW s) (twc (v5 By n) (i + 1) (ttN s)) 3 (i + 1)) (decide (lw = -1)) 4 (i + 2) = none → hI m5 75 (12 * sd + (ttM s).length) = lw) → IM m sd By n (f_X12_tellMan_127 (nI (12 * sd + (ttM s).length)) (nI (i + 1)) m6) (sqR (sqk (tk By n) [3, 4] (i + 1 + 1 + 1)) (iMan (vI By n) (v5 By n) i s)) := by
        intro m6 f6 w6 v6
        unfold f_X12_tellMan_127
        have B6 := B5.fr f6 (fun k j z => by omega)
        have f06 : Fr (fun k j => S5W k j ∨ (k = 75 ∧ j = 12 * sd + (ttM s).length)) m m6 := ((f03.mono (fun k j z => by omega)).tr (f35.mono (fun k j z => by omega))).tr (f6.mono (fun k j z => by omega))
        have ff6 : Fr (SRm sd) m m6 := ((f03.mono (fun k j z => SRm.w z)).tr (f35.mono (fun k j z => SRm.mm (by omega) hM12 z))).tr (f6.mono (fun k j z => SRm.w (by omega)))
        have U6 := hU.fr f06 (fun k j z => by omega)
        rcases m_part B6 hn w6 U6 (by omega) with ⟨m7, e7, B7, w7, u7, f7, k7, h7⟩ | ⟨m7, f, x, e7, r7, f7, q7⟩
        · rw [sqk_y k7 h7, e7, bind_s]
          dsimp only
          rw [bI_n _ 76 _ hix (by omega), bind_s]
          have f8 : Fr (fun k j => k = 76 ∧ j = 12 * sd + (ttM s).length) m7 (tI m7 76 (12 * sd + (ttM s).length) (nI (vI By n (i + 3)))) := Fr.rf.tI _ ⟨rfl, rfl⟩
          have w8 : hI (tI m7 76 (12 * sd + (ttM s).length) (nI (vI By n (i + 3)))) 76 (12 * sd + (ttM s).length) = nI (vI By n (i + 3)) := by rw [hI_tI, if_pos ⟨rfl, rfl⟩]
          generalize tI m7 76 (12 * sd + (ttM s).length) (nI (vI By n (i + 3))) = m8 at f8 w8 ⊢
          have ff8 : Fr (SRm sd) m m8 := (ff6.tr (f7.mono (fun k j z => SRm.p z))).tr (f8.mono (fun k j z => SRm.mm (by omega) hM12 z))
          rw [show (4 : Int32) = nI (mkd 4) from rfl]
          rcases m_mk (B7.fr f8 (fun k j z => by omega)) (w := 4) (by omega) (by omega) with ⟨m9, e9, B9, f9, k9, h9⟩ | ⟨m9, f, e9, r9, f9, q9⟩
          · have f09 : Fr (fun k j => S5P k j ∨ ((k = 75 ∨ k = 76) ∧ j = 12 * sd + (ttM s).length)) m m9 := (((f06.mono (fun k j z => by omega)).tr (f7.mono (fun k j z => by omega))).tr (f8.mono (fun k j z => by omega))).tr (f9.mono (fun k j z => by omega))
            have s9 : hI m9 56 19 = nI sd := (f09.I _ _ (by omega)).trans h19
            rw [sqk_y k9 h9, e9, bind_s, if_pos B9.le]
            obtain ⟨ma, ea, Na, fa⟩ := m_notes (t := i + 1) (a := -1) (hN.fr f09 (fun k j z => by omega)) (by omega) B9.2.2.2 (by have := B2.2.2.1; omega) k2
            have sa : hI ma 56 19 = nI sd := (fa.I _ _ (by omega)).trans s9
            have ga : hI ma 74 sd = nI (ttM s).length := (fa.I _ _ (by omega)).trans ((f09.I _ _ (by omega)).trans hG.1.1)
            rw [ea, bind_s, sa, aI_n _ 74 hsd (by omega), bind_s, ga, nI_1, bI_n _ 74 _ hsd (by omega), bind_s]
            have fb : Fr (fun k j => k = 74 ∧ j = sd) ma (tI ma 74 sd (nI ((ttM s).length + 1))) := Fr.rf.tI _ ⟨rfl, rfl⟩
            have wb : hI (tI ma 74 sd (nI ((ttM s).length + 1))) 74 sd = nI ((ttM s).length + 1) := by rw [hI_tI, if_pos ⟨rfl, rfl⟩]
            generalize tI ma 74 sd (nI ((ttM s).length + 1)) = mb at fb wb ⊢
            have f9b : Fr (fun k j => (k = 56 ∧ j = 20) ∨ k = 64 ∨ k = 65 ∨ (k = 74 ∧ j = sd)) m9 mb := (fa.mono (fun k j z => by omega)).tr (fb.mono (fun k j z => by omega))
            have ll : (ttM s ++ [(lw, vI By n (i + 3))]).length = (ttM s).length + 1 := by rw [List.length_append, List.length_singleton]
            have eM : ttM (iMan (vI By n) (v5 By n) i s) = ttM s ++ [(lw, vI By n (i + 3))] := by
              show ttM s ++ [(lwN (v5 By n) (i + 2) (ttN s), vI By n (i + 3))] = _
              rw [hlw]
            have eW : ttW (iMan (vI By n) (v5 By n) i s) = slp (slp (ttW s) (twc (v5 By n) (i + 1) (ttN s)) 3 (i + 1)) (decide (lw = -1)) 4 (i + 2) := by
              show slp (slp (ttW s) (twc (v5 By n) (i + 1) (ttN s)) 3 (i + 1)) (decide (lwN (v5 By n) (i + 2) (ttN s) = -1)) 4 (i + 2) = _
              rw [hlw]
            have nn : ttW (iMan (vI By n) (v5 By n) i s) = none → ttW s = none := fun z => (slp_none (slp_none z).1).1
            obtain ⟨⟨a1, a2, a3, a4, a5, a6⟩, c1, c2⟩ := hG
            have I : ∀ k j, ¬ k = 56 → ¬ (k = 74 ∧ j = sd) → ¬ ((k = 75 ∨ k = 76) ∧ j = 12 * sd + (ttM s).length) → ¬ k = 64 → ¬ k = 65 → ¬ k = 91 → hI mb k j = hI m k j := fun k j z1 z2 z3 z4 z5 z6 => (f9b.I _ _ (by omega)).trans (f09.I _ _ (by omega))
            refine IM.ok rfl ⟨C, k1, b1, B9.fr f9b (fun k j z => by omega), (f9b.I _ _ (by omega)).trans s9, (hK.fr f09 (fun k j z => by omega)).fr f9b (fun k j z => by omega), ⟨by omega, by omega⟩, ⟨⟨by rw [eM, ll]; exact wb, (I _ _ (by omega) (by omega) (by omega) (by omega) (by omega) (by omega)).trans a2, (I _ _ (by omega) (by omega) (by omega) (by omega) (by omega) (by omega)).trans a3, (I _ _ (by omega) (by omega) (by omega) (by omega) (by omega) (by omega)).trans a4, (I _ _ (by omega) (by omega) (by omega) (by omega) (by omega) (by omega)).trans a5, fun z => (I _ _ (by omega) (by omega) (by omega) (by omega) (by omega) (by omega)).trans (a6 (nn z))⟩, fun b p hp => ?_, fun q p hp => ⟨(I _ _ (by omega) (by omega) (by omega) (by omega) (by omega) (by omega)).trans (c2 q p hp).1, (I _ _ (by omega) (by omega) (by omega) (by omega) (by omega) (by omega)).trans (c2 q p hp).2⟩⟩, Na.fr fb (fun k j z => by omega), ?_, ((u7.fr f8 (fun k j z => by omega)).fr f9 (fun k j z => by omega)).fr f9b (fun k j z => by omega), ?_⟩ (((ff8.tr (f9.mono (fun k j z => SRm.s z))).tr (fa.mono (fun k j z => SRm.nn z))).tr (fb.mono (fun k j z => SRm.v (by omega) z)))
            · rw [eM] at hp
              by_cases hq : b < (ttM s).length
              · rw [List.getElem?_append_left hq] at hp
                exact ⟨(I _ _ (by omega) (by omega) (by omega) (by omega) (by omega) (by omega)).trans (c1 b p hp).1, fun z => (I _ _ (by omega) (by omega) (by omega) (by omega) (by omega) (by omega)).trans ((c1 b p hp).2 (nn z))⟩
              · have hq2 := lt_of_get hp
                rw [ll] at hq2
                have eq : b = (ttM s).length := by omega
                subst eq
                rw [List.getElem?_append_right (Nat.le_refl _), Nat.sub_self] at hp
                cases hp
                refine ⟨by rw [f9b.I _ _ (by omega), f9.i56 (by decide)]; exact w8, fun z => ?_⟩
                rw [eW] at z
                rw [f9b.I _ _ (by omega), f9.i56 (by decide), f8.i1 (by decide), f7.I _ _ (by omega), f6.I _ _ (by omega)]
                exact v6 z
            · rw [eW]
              exact (((w7.fr f8 (fun k j z => by omega) (Nat.le_refl _)).fr f9 (fun k j z => by omega) (Nat.le_refl _)).fr f9b (fun k j z => by omega) (by omega))
            · show 3 * (ttU s ++ [i + 3]).length ≤ _
              rw [List.length_append, List.length_singleton]
              omega
          · rw [q9, e9, bind_s, if_neg r9.nl]
            exact IM.no rfl r9 (ff8.tr (f9.mono (fun k j z => SRm.s z)))
        · rw [q7, e7, bind_s]
          dsimp only
          rw [bI_n _ 76 _ hix (by omega), bind_s]
          have f8 : Fr (fun k j => k = 76 ∧ j = 12 * sd + (ttM s).length) m7 (tI m7 76 (12 * sd + (ttM s).length) x) := Fr.rf.tI _ ⟨rfl, rfl⟩
          have r8 := r7.fr f8 (fun k j z => by omega)
          rw [mf_must r8, bind_s, if_neg r8.nl]
          exact IM.no rfl r8 ((ff6.tr (f7.mono (fun k j z => SRm.p z))).tr (f8.mono (fun k j z => SRm.mm (by omega) hM12 z)))
      unfold f_X12_tellMan_105
      rw [if_pos B5.1, aI_n _ 75 hix (by omega), bind_s, w5]
      have hpm : ∀ p, p ∈ ttN s → (p.2 < 0 ↔ p.2 = -1) := by
        intro p hp
        rcases hA.2.2.2.2.2.2.1 p hp with a | ⟨q, a, b⟩
        · rw [a]; exact ⟨fun _ => rfl, fun _ => by decide⟩
        · rw [b]; exact ⟨fun z => absurd z (nI_pos (by omega)), fun z => absurd z (nI_m1 (by omega))⟩
      cases hs1 : slp (ttW s) (twc (v5 By n) (i + 1) (ttN s)) 3 (i + 1) with
      | some w =>
        rw [hs1] at W5
        have hfin : ∀ m6 : M2, Fr (fun k j => k = 56 ∧ (j = 15 ∨ j = 16)) m5 m6 → MW m6 By n (i + 3) (some w) → IM m sd By n (f_X12_tellMan_127 (nI (12 * sd + (ttM s).length)) (nI (i + 1)) m6) (sqR (sqk (tk By n) [3, 4] (i + 1 + 1 + 1)) (iMan (vI By n) (v5 By n) i s)) := fun m6 f6 w6 => next m6 f6 (by rw [hs1]; exact w6) (fun z => by rw [hs1] at z; cases z)
        by_cases hx : 0 ≤ lwL (v5 By n) (i + 1 + 1) (ttN s) (-1)
        · rw [if_pos hx]
          exact hfin m5 Fr.rf W5
        · rw [if_neg hx]
          obtain ⟨m6, e6, w6, f6⟩ := m_wrong (k := 4) (t := i + 1 + 1) (i := i + 3) B5.1 B5.2.2.2 (by have := B2.2.2.1; omega) hn (by omega) W5 (fun w' hw' => by
            cases hw'
            cases hW' : ttW s with
            | some w'' =>
              rw [hW'] at hs1 hW
              cases hs1
              have := hW.2.2.2
              exact Or.inl (by omega)
            | none =>
              rw [hW'] at hs1
              cases htw : twc (v5 By n) (i + 1) (ttN s) with
              | true => rw [htw] at hs1; cases hs1; exact Or.inl (show i + 1 < i + 1 + 1 by omega)
              | false => rw [htw] at hs1; cases hs1) (by omega)
          rw [lit_4, e6, bind_s]
          exact hfin m6 f6 w6
      | none =>
        rw [hs1] at W5
        obtain ⟨hWn, htw⟩ := slp_none hs1
        have ex : lwL (v5 By n) (i + 1 + 1) (ttN s) (-1) = lw := (lwL_eq (hA.2.2.2.2.2.2.2.2.1 hWn) hpm).trans hlw
        rw [ex]
        rw [ex] at w5
        by_cases hl : lw = -1
        · rw [if_neg (show ¬ 0 ≤ lw by rw [hl]; decide)]
          obtain ⟨m6, e6, w6, f6⟩ := m_wrong (k := 4) (t := i + 1 + 1) (i := i + 3) B5.1 B5.2.2.2 (by have := B2.2.2.1; omega) hn (by omega) W5 (fun w' hw' => (by cases hw')) (by omega)
          rw [lit_4, e6, bind_s]
          exact next m6 f6 (by rw [hs1, decide_eq_true hl]; exact w6) (fun _ => w5)
        · have hp0 : (0 : Int32) ≤ lw := by
            rw [← hlw] at hl ⊢
            obtain ⟨x, x1, x2, x3⟩ := lwN_in hl
            rw [x2]
            rcases hA.2.2.2.2.2.2.1 x x1 with a | ⟨q, a, b⟩
            · exact absurd a x3
            · rw [b]; exact nI_le (a := 0) (Nat.zero_le _) (by omega)
          rw [if_pos hp0]
          exact next m5 Fr.rf (by rw [hs1, decide_eq_false hl, slp_f]; exact W5) (fun _ => w5)
    · rw [q3, e3, bind_s]
      obtain ⟨m9, e9, r9, f9⟩ := mf_man (x2 := nI (i + 1)) (x3 := nI (i + 1 + 1)) hsd hM12 r3
      exact IM.no e9 r9 (((f02.mono (fun k j z => SRm.w z)).tr (f3.mono (fun k j z => SRm.s z))).tr f9)
  · rw [q2, e2, bind_s]
    dsimp only
    rw [nmI_e, bind_s, mf_must r2, bind_s]
    obtain ⟨m9, e9, r9, f9⟩ := mf_man (x2 := x) (x3 := hI m2 56 11) hsd hM12 r2
    exact IM.no e9 r9 (((f1.mono (fun k j z => SRm.s z)).tr (f2.mono (fun k j z => SRm.w z))).tr f9)
end KK
