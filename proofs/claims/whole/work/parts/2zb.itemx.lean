/-! ===== the class reads what a text tells, but laws ===== -/
def tmN (M : List (Int32 × Nat)) (b : Nat) : Nat := (M.getD b (0, 0)).2 % 32
section KB
variable {m : M2} {e : Nat} {By : Nat → Nat} {n : Nat}
def XF (m : M2) (e : Nat) (s : IS) : Prop := (hI m e 0 = nI (ttP s) ∧ hI m e 1 = nI (ttL s).length ∧ hI m e 5 = nI (ttM s).length ∧ hI m e 8 = ttD s ∧ hI m e 9 = nI (ttG s) ∧ hI m e 10 = ttS s ∧ hI m e 11 = nI (ttF s).length) ∧ hJ m e 7 = lN (pk (tmN (ttM s)) (ttM s).length) ∧ (∀ b p, (ttM s)[b]? = some p → hI m (e + 3) b = p.1) ∧ ∀ i p, (ttF s)[i]? = some p → hI m (e + 4) i = nI p.1 ∧ hI m (e + 5) i = nI p.2
theorem XF.fr {S : Nat → Nat → Prop} {m' : M2} {s : IS} (h : XF m e s) (hf : Fr S m m') (hs : ∀ k j, (k = e ∧ ¬ j = 4) ∨ k = e + 3 ∨ k = e + 4 ∨ k = e + 5 → ¬ S k j) : XF m' e s := by
  obtain ⟨⟨a0, a1, a5, a8, a9, a10, a11⟩, a7, b3, b4⟩ := h
  have I : ∀ k j, (k = e ∧ ¬ j = 4) ∨ k = e + 3 ∨ k = e + 4 ∨ k = e + 5 → hI m' k j = hI m k j := fun k j z => hf.I _ _ (hs k j z)
  exact ⟨⟨(I _ _ (by omega)).trans a0, (I _ _ (by omega)).trans a1, (I _ _ (by omega)).trans a5, (I _ _ (by omega)).trans a8, (I _ _ (by omega)).trans a9, (I _ _ (by omega)).trans a10, (I _ _ (by omega)).trans a11⟩, (hf.J _ _ (hs _ _ (by omega))).trans a7, fun b p hp => (I _ _ (by omega)).trans (b3 b p hp), fun i p hp => ⟨(I _ _ (by omega)).trans (b4 i p hp).1, (I _ _ (by omega)).trans (b4 i p hp).2⟩⟩
def XO (m : M2) (e : Nat) (By : Nat → Nat) (n : Nat) (s : IS) : Prop := XF m e s ∧ XNm m By n (ttN s) ∧ XW m By n (ttW s) ∧ XBy m By n (ttU s)
abbrev SRy (e : Nat) : Nat → Nat → Prop := fun k j => SRx e k j ∧ ¬ k = e + 1 ∧ ¬ k = e + 2
theorem XO.fr {S : Nat → Nat → Prop} {m' : M2} {s : IS} (h : XO m e By n s) (hf : Fr S m m') (hs : ∀ k j, (k = e ∧ ¬ j = 4) ∨ k = e + 3 ∨ k = e + 4 ∨ k = e + 5 ∨ (k = 14 ∧ (j = 6 ∨ j = 7 ∨ j = 11)) ∨ k = 15 ∨ k = 16 ∨ k = 17 → ¬ S k j) : XO m' e By n s := ⟨h.1.fr hf (fun k j z => hs k j (by omega)), h.2.1.fr hf (fun k j z => hs k j (by omega)), h.2.2.1.fr hf (fun k j z => hs k j (by omega)), h.2.2.2.fr hf (fun j => hs 15 j (by omega))⟩
abbrev S12 : Nat → Nat → Prop := fun k j => k = 14 ∧ (j = 1 ∨ j = 2)
theorem XO.s12 {m' : M2} {s : IS} (he : tx e) (h : XO m e By n s) (hf : Fr S12 m m') : XO m' e By n s := h.fr hf (fun k j z => by unfold tx at he; omega)
def IX (m : M2) (e : Nat) (By : Nat → Nat) (n : Nat) (C : List Op) (r : Option M2) (pr : IR) : Prop := (∀ j s', pr = .inl (j, s') → ∃ m', r = some m' ∧ XRd m' e By n j C ∧ XO m' e By n s' ∧ Fr (SRy e) m m') ∧ (∀ f t, pr = .inr (f, t) → ∃ m', r = some m' ∧ XFt m' By n f t ∧ Fr (SRx e) m m')
theorem IX.ok {m' : M2} {C : List Op} {r : Option M2} {j : Nat} {s' : IS} (h1 : r = some m') (h2 : XRd m' e By n j C) (h3 : XO m' e By n s') (h4 : Fr (SRy e) m m') : IX m e By n C r (.inl (j, s')) := ⟨fun _ _ z => by cases z; exact ⟨m', h1, h2, h3, h4⟩, fun _ _ z => by cases z⟩
theorem IX.no {m' : M2} {C : List Op} {r : Option M2} {f t : Nat} (h1 : r = some m') (h2 : XFt m' By n f t) (h3 : Fr (SRx e) m m') : IX m e By n C r (.inr (f, t)) := ⟨fun _ _ z => (by cases z), fun _ _ z => by cases z; exact ⟨m', h1, h2, h3⟩⟩
theorem x_tk {i w : Nat} {Cd : List Op} (he : tx e) (h : XRd m e By n i Cd) (hw : 2 ≤ w) (hw6 : w < 64) : (∃ m', F_X4_take e (nI w) m = some (1, m') ∧ XRd m' e By n (i + 1) Cd ∧ Fr S12 m m' ∧ tk By n i = w ∧ i < 400) ∨ (∃ m' f, F_X4_take e (nI w) m = some (0, m') ∧ XFt m' By n f i ∧ Fr (SRx e) m m' ∧ ∀ ws, sqk (tk By n) (w :: ws) i = .inr (f, i)) := by
  obtain ⟨t1, t2, t3⟩ := x_take_t (c := 0) he h hw hw6
  have he' := he
  unfold tx at he'
  by_cases hk : tk By n i = w
  · by_cases h4 : i < 400
    · obtain ⟨m', e1, r1, f1⟩ := t1 hk h4
      exact Or.inl ⟨m', e1, r1, f1, hk, h4⟩
    · obtain ⟨m', e1, r1, f1⟩ := t2 hk h4
      refine Or.inr ⟨m', 2, e1, r1, f1.mono (fun k j z => by omega), fun ws => ?_⟩
      show (if tk By n i = w then (if i < 400 then sqk (tk By n) ws (i + 1) else .inr (2, i)) else .inr (1, i)) = _
      rw [if_pos hk, if_neg h4]
  · obtain ⟨m', e1, r1, f1⟩ := t3 hk
    refine Or.inr ⟨m', 1, e1, r1, f1.mono (fun k j z => by omega), fun ws => ?_⟩
    show (if tk By n i = w then (if i < 400 then sqk (tk By n) ws (i + 1) else .inr (2, i)) else .inr (1, i)) = _
    rw [if_neg hk]
theorem SRy.s12 {k j : Nat} (he : tx e) (z : S12 k j) : SRy e k j := by unfold tx at he; omega
theorem SRy.x {k j : Nat} (z : SRy e k j) : SRx e k j := z.1
theorem SRy.ee {k j p : Nat} (he : tx e) (z : k = e ∧ j = p) : SRy e k j := by unfold tx at he; omega
theorem SRy.b {k j p : Nat} (he : tx e) (hp : p = 3 ∨ p = 4 ∨ p = 5) (z : k = e + p ∧ j = j) : SRy e k j := by unfold tx at he; omega
theorem XFt.ee {m' : M2} {f t p : Nat} (he : tx e) (h : XFt m By n f t) (hf : Fr (fun k j => k = e ∧ j = p) m m') : XFt m' By n f t := h.fr hf (fun k j z => by unfold tx at he; omega)
theorem XRd.ee {m' : M2} {i p : Nat} {C : List Op} (he : tx e) (hp : ¬ p = 4) (h : XRd m e By n i C) (hf : Fr (fun k j => k = e ∧ j = p) m m') : XRd m' e By n i C := h.fr hf (fun k j z => by unfold tx at he; omega)
/-! song -/
theorem x_song {i : Nat} {C : List Op} {s : IS} (he : tx e) (hn : n ≤ 2000) (hX : XRd m e By n i C) (hO : XO m e By n s) : IX m e By n C (F_X4_readSong e m) (sqR (sqk (tk By n) [33, 3, 4] i) (iSong (vI By n) i s)) := by
  have he' := he
  unfold tx at he'
  unfold F_X4_readSong f_X4_readSong_31
  rw [show (33 : Int32) = nI 33 from rfl, lit_3, lit_4]
  rcases x_tk he hX (w := 33) (by omega) (by omega) with ⟨m1, e1, r1, f1, k1, h1⟩ | ⟨m1, f, e1, r1, f1, q1⟩
  · rw [sqk_y k1 h1, e1, bind_s]
    dsimp only
    have O1 := hO.s12 he f1
    rcases x_tk he r1 (w := 3) (by omega) (by omega) with ⟨m2, e2, r2, f2, k2, h2⟩ | ⟨m2, f, e2, r2, f2, q2⟩
    · rw [sqk_y k2 h2, e2, bind_s]
      dsimp only
      have O2 := O1.s12 he f2
      obtain ⟨m3, e3, u3, f3⟩ := x_noteBeyond r2 k2 hn O2.2.2.2
      have r3 := r2.fr f3 (fun k j z => by omega)
      rw [if_neg (by decide), e3, bind_s, x_taken r3 k2, bind_s]
      dsimp only
      rw [lN_i, qI_e, bind_s]
      have f4 : Fr (fun k j => k = e ∧ j = 10) m3 (tI m3 e 10 (nI (vI By n (i + 1)))) := Fr.rf.tI _ ⟨rfl, rfl⟩
      have w4 : hI (tI m3 e 10 (nI (vI By n (i + 1)))) e 10 = nI (vI By n (i + 1)) := by rw [hI_tI, if_pos ⟨rfl, rfl⟩]
      generalize tI m3 e 10 (nI (vI By n (i + 1))) = m4 at f4 w4 ⊢
      have r4 := r3.ee he (by omega) f4
      have ff4 : Fr (SRy e) m m4 := (((f1.mono (fun k j z => SRy.s12 he z)).tr (f2.mono (fun k j z => SRy.s12 he z))).tr (f3.mono (fun k j z => by omega))).tr (f4.mono (fun k j z => SRy.ee he z))
      have O4 : XO m4 e By n (iSong (vI By n) i s) := by
        obtain ⟨⟨⟨a0, a1, a5, a8, a9, a10, a11⟩, a7, b3, b4⟩, N2, W2, U2⟩ := O2
        have I : ∀ k j, ¬ (k = e ∧ j = 10) → ¬ k = 15 → hI m4 k j = hI m2 k j := fun k j z1 z2 => (f4.I _ _ z1).trans (f3.I _ _ z2)
        refine ⟨⟨⟨(I _ _ (by omega) (by omega)).trans a0, (I _ _ (by omega) (by omega)).trans a1, (I _ _ (by omega) (by omega)).trans a5, (I _ _ (by omega) (by omega)).trans a8, (I _ _ (by omega) (by omega)).trans a9, w4, (I _ _ (by omega) (by omega)).trans a11⟩, (f4.J _ _ (by omega)).trans ((f3.J _ _ (by omega)).trans a7), fun b p hp => (I _ _ (by omega) (by omega)).trans (b3 b p hp), fun i p hp => ⟨(I _ _ (by omega) (by omega)).trans (b4 i p hp).1, (I _ _ (by omega) (by omega)).trans (b4 i p hp).2⟩⟩, (N2.fr f3 (fun k j z => by omega)).fr f4 (fun k j z => by omega), (W2.fr f3 (fun k j z => by omega)).fr f4 (fun k j z => by omega), u3.fr f4 (fun j => by omega)⟩
      rcases x_tk he r4 (w := 4) (by omega) (by omega) with ⟨m5, e5, r5, f5, k5, h5⟩ | ⟨m5, f, e5, r5, f5, q5⟩
      · rw [sqk_y k5 h5, e5, bind_s]
        exact IX.ok rfl r5 (O4.s12 he f5) (ff4.tr (f5.mono (fun k j z => SRy.s12 he z)))
      · rw [q5, e5, bind_s]
        exact IX.no rfl r5 ((ff4.mono (fun k j z => z.x)).tr f5)
    · rw [q2, e2, bind_s]
      dsimp only
      rw [if_pos rfl, xf_take r2.ne, bind_s]
      exact IX.no rfl r2 ((f1.mono (fun k j z => (SRy.s12 he z).x)).tr f2)
  · rw [q1, e1, bind_s]
    dsimp only
    rw [xf_take r1.ne, bind_s]
    dsimp only
    rw [if_pos rfl, xf_take r1.ne, bind_s]
    exact IX.no rfl r1 f1
/-! parts -/
theorem x_parts {i : Nat} {C : List Op} {s : IS} (he : tx e) (hX : XRd m e By n i C) (hO : XO m e By n s) : IX m e By n C (F_X4_readParts e m) (sqR (sqk (tk By n) [17, 3, 4] i) (iParts (vI By n) i s)) := by
  have he' := he
  unfold tx at he'
  unfold F_X4_readParts f_X4_readParts_37 f_X4_readParts_57
  rw [show (17 : Int32) = nI 17 from rfl, lit_3, lit_4, lit_5]
  rcases x_tk he hX (w := 17) (by omega) (by omega) with ⟨m1, e1, r1, f1, k1, h1⟩ | ⟨m1, f, e1, r1, f1, q1⟩
  · rw [sqk_y k1 h1, e1, bind_s]
    dsimp only
    have O1 := hO.s12 he f1
    rcases x_tk he r1 (w := 3) (by omega) (by omega) with ⟨m2, e2, r2, f2, k2, h2⟩ | ⟨m2, f, e2, r2, f2, q2⟩
    · rw [sqk_y k2 h2, e2, bind_s]
      dsimp only
      have O2 := O1.s12 he f2
      have hv := vI_lt k2
      rw [if_neg (by decide), x_taken r2 k2, bind_s]
      dsimp only
      have ff2 : Fr (SRy e) m m2 := (f1.mono (fun k j z => SRy.s12 he z)).tr (f2.mono (fun k j z => SRy.s12 he z))
      have fin : ∀ m4 : M2, XRd m4 e By n (i + 1 + 1) C → Fr (SRy e) m m4 → XO m4 e By n (iParts (vI By n) i s) → IX m e By n C ((F_X4_take e (nI 4) m4).bind fun c1 => some c1.2) (sqR (sqk (tk By n) [4] (i + 1 + 1)) (iParts (vI By n) i s)) := by
        intro m4 r4 ff4 O4
        rcases x_tk he r4 (w := 4) (by omega) (by omega) with ⟨m5, e5, r5, f5, k5, h5⟩ | ⟨m5, f, e5, r5, f5, q5⟩
        · rw [sqk_y k5 h5, e5, bind_s]
          exact IX.ok rfl r5 (O4.s12 he f5) (ff4.tr (f5.mono (fun k j z => SRy.s12 he z)))
        · rw [q5, e5, bind_s]
          exact IX.no rfl r5 ((ff4.mono (fun k j z => z.x)).tr f5)
      obtain ⟨F2, N2, W2, U2⟩ := O2
      have bad : ¬ (3 ≤ vI By n (i + 1) ∧ vI By n (i + 1) ≤ 24) → IX m e By n C ((F_X4_slipAtTaken e (nI 5) m2).bind fun c1 => (F_X4_take e (nI 4) c1).bind fun c1 => some c1.2) (sqR (sqk (tk By n) [4] (i + 1 + 1)) (iParts (vI By n) i s)) := by
        intro hb
        obtain ⟨m3, e3, w3, f3⟩ := xf_slip (k := 5) r2 W2 (by omega)
        rw [e3, bind_s]
        refine fin m3 (r2.fr f3 (fun k j z => by omega)) (ff2.tr (f3.mono (fun k j z => by omega))) ⟨?_, N2.fr f3 (fun k j z => by omega), ?_, U2.fr f3 (fun j => by omega)⟩
        · have := F2.fr f3 (fun k j z => by omega)
          have e : (if okP (vI By n (i + 1)) = true then vI By n (i + 1) else ttP s) = ttP s := by
            unfold okP
            rw [decide_eq_false hb]
            rfl
          obtain ⟨⟨a0, ar⟩, br⟩ := this
          exact ⟨⟨by show _ = nI (if okP (vI By n (i + 1)) = true then vI By n (i + 1) else ttP s); rw [e]; exact a0, ar⟩, br⟩
        · show XW m3 By n (slp (ttW s) (!okP (vI By n (i + 1))) 5 (i + 1))
          unfold okP
          rw [decide_eq_false hb]
          exact w3
      by_cases c1 : vI By n (i + 1) < 3
      · rw [if_pos (show lg_cmp (lN (vI By n (i + 1))) 3 < 0 from (lg_cmp_lt _ _).mpr ((lN_lt (b := 3) (by omega) (by omega)).mpr c1))]
        exact bad (by omega)
      · rw [if_neg (show ¬ lg_cmp (lN (vI By n (i + 1))) 3 < 0 from fun z => c1 ((lN_lt (b := 3) (by omega) (by omega)).mp ((lg_cmp_lt _ _).mp z))), x_taken r2 k2, bind_s]
        dsimp only
        by_cases c2 : vI By n (i + 1) ≤ 24
        · rw [if_pos (show lg_cmp (lN (vI By n (i + 1))) 24 ≤ 0 from (lg_cmp_le _ _).mpr ((lN_le (b := 24) (by omega) (by omega)).mpr c2)), x_taken r2 k2, bind_s]
          dsimp only
          rw [lN_i, qI_e, bind_s]
          have f4 : Fr (fun k j => k = e ∧ j = 0) m2 (tI m2 e 0 (nI (vI By n (i + 1)))) := Fr.rf.tI _ ⟨rfl, rfl⟩
          have w4 : hI (tI m2 e 0 (nI (vI By n (i + 1)))) e 0 = nI (vI By n (i + 1)) := by rw [hI_tI, if_pos ⟨rfl, rfl⟩]
          generalize tI m2 e 0 (nI (vI By n (i + 1))) = m4 at f4 w4 ⊢
          have ok : okP (vI By n (i + 1)) = true := decide_eq_true (by omega)
          refine fin m4 (r2.ee he (by omega) f4) (ff2.tr (f4.mono (fun k j z => SRy.ee he z))) ⟨?_, N2.fr f4 (fun k j z => by omega), ?_, U2.fr f4 (fun j => by omega)⟩
          · obtain ⟨⟨a0, a1, a5, a8, a9, a10, a11⟩, a7, b3, b4⟩ := F2
            exact ⟨⟨by show _ = nI (if okP (vI By n (i + 1)) = true then vI By n (i + 1) else ttP s); rw [if_pos ok]; exact w4, (f4.I _ _ (by omega)).trans a1, (f4.I _ _ (by omega)).trans a5, (f4.I _ _ (by omega)).trans a8, (f4.I _ _ (by omega)).trans a9, (f4.I _ _ (by omega)).trans a10, (f4.I _ _ (by omega)).trans a11⟩, (f4.J _ _ (by omega)).trans a7, fun b p hp => (f4.I _ _ (by omega)).trans (b3 b p hp), fun i p hp => ⟨(f4.I _ _ (by omega)).trans (b4 i p hp).1, (f4.I _ _ (by omega)).trans (b4 i p hp).2⟩⟩
          · show XW m4 By n (slp (ttW s) (!okP (vI By n (i + 1))) 5 (i + 1))
            rw [ok, show (!true) = false from rfl, slp_f]
            exact W2.fr f4 (fun k j z => by omega)
        · rw [if_neg (show ¬ lg_cmp (lN (vI By n (i + 1))) 24 ≤ 0 from fun z => c2 ((lN_le (b := 24) (by omega) (by omega)).mp ((lg_cmp_le _ _).mp z)))]
          exact bad (by omega)
    · rw [q2, e2, bind_s]
      dsimp only
      rw [if_pos rfl, xf_take r2.ne, bind_s]
      exact IX.no rfl r2 ((f1.mono (fun k j z => (SRy.s12 he z).x)).tr f2)
  · rw [q1, e1, bind_s]
    dsimp only
    rw [xf_take r1.ne, bind_s]
    dsimp only
    rw [if_pos rfl, xf_take r1.ne, bind_s]
    exact IX.no rfl r1 f1
/-! drum -/
theorem x_drum {i : Nat} {C : List Op} {s : IS} (he : tx e) (hn : n ≤ 2000) (hX : XRd m e By n i C) (hO : XO m e By n s) : IX m e By n C (F_X4_readDrum e m) (sqR (sqk (tk By n) [31, 3, 3, 4] i) (iDrum (vI By n) i s)) := by
  have he' := he
  unfold tx at he'
  unfold F_X4_readDrum f_X4_readDrum_31 f_X4_readDrum_55 f_X4_readDrum_67
  rw [lit_31, lit_3, lit_4, lit_5]
  rcases x_tk he hX (w := 31) (by omega) (by omega) with ⟨m1, e1, r1, f1, k1, h1⟩ | ⟨m1, f, e1, r1, f1, q1⟩
  · rw [sqk_y k1 h1, e1, bind_s]
    dsimp only
    have O1 := hO.s12 he f1
    rcases x_tk he r1 (w := 3) (by omega) (by omega) with ⟨m2, e2, r2, f2, k2, h2⟩ | ⟨m2, f, e2, r2, f2, q2⟩
    · rw [sqk_y k2 h2, e2, bind_s]
      dsimp only
      have O2 := O1.s12 he f2
      obtain ⟨m3, e3, u3, f3⟩ := x_noteBeyond r2 k2 hn O2.2.2.2
      have r3 := r2.fr f3 (fun k j z => by omega)
      rw [if_neg (by decide), e3, bind_s, x_taken r3 k2, bind_s]
      dsimp only
      rw [lN_i, qI_e, bind_s]
      have f4 : Fr (fun k j => k = e ∧ j = 8) m3 (tI m3 e 8 (nI (vI By n (i + 1)))) := Fr.rf.tI _ ⟨rfl, rfl⟩
      have w4 : hI (tI m3 e 8 (nI (vI By n (i + 1)))) e 8 = nI (vI By n (i + 1)) := by rw [hI_tI, if_pos ⟨rfl, rfl⟩]
      generalize tI m3 e 8 (nI (vI By n (i + 1))) = m4 at f4 w4 ⊢
      have r4 := r3.ee he (by omega) f4
      have ff4 : Fr (SRy e) m m4 := (((f1.mono (fun k j z => SRy.s12 he z)).tr (f2.mono (fun k j z => SRy.s12 he z))).tr (f3.mono (fun k j z => by omega))).tr (f4.mono (fun k j z => SRy.ee he z))
      obtain ⟨⟨⟨a0, a1, a5, a8, a9, a10, a11⟩, a7, b3, b4⟩, N2, W2, U2⟩ := O2
      have N4 := (N2.fr f3 (fun k j z => by omega)).fr f4 (fun k j z => by omega)
      have W4 := (W2.fr f3 (fun k j z => by omega)).fr f4 (fun k j z => by omega)
      have U4 := u3.fr f4 (fun j => by omega)
      have f24 : Fr (fun k j => (k = e ∧ j = 8) ∨ k = 15) m2 m4 := (f3.mono (fun k j z => Or.inr z)).tr (f4.mono (fun k j z => Or.inl z))
      rcases x_tk he r4 (w := 3) (by omega) (by omega) with ⟨m5, e5, r5, f5, k5, h5⟩ | ⟨m5, f, e5, r5, f5, q5⟩
      · rw [sqk_y k5 h5, e5, bind_s]
        dsimp only
        have hv := vI_lt k5
        have ff5 : Fr (SRy e) m m5 := ff4.tr (f5.mono (fun k j z => SRy.s12 he z))
        rw [if_neg (by decide), x_taken r5 k5, bind_s]
        dsimp only
        have fin : ∀ m6 : M2, Fr (fun k j => k = 14 ∧ (j = 6 ∨ j = 7)) m5 m6 → XW m6 By n (slp (ttW s) (decide (23 < vI By n (i + 1 + 1))) 5 (i + 1 + 1)) → IX m e By n C ((F_X4_taken e m6).bind fun c1 => (qI c1.2 e 9 c1.1.toInt32).bind fun m3 => (F_X4_take e (nI 4) m3).bind fun c1 => some c1.2) (sqR (sqk (tk By n) [4] (i + 1 + 1 + 1)) (iDrum (vI By n) i s)) := by
          intro m6 f6 w6
          have r6 := r5.fr f6 (fun k j z => by omega)
          rw [x_taken r6 k5, bind_s]
          dsimp only
          rw [lN_i, qI_e, bind_s]
          have f7 : Fr (fun k j => k = e ∧ j = 9) m6 (tI m6 e 9 (nI (vI By n (i + 1 + 1)))) := Fr.rf.tI _ ⟨rfl, rfl⟩
          have w7 : hI (tI m6 e 9 (nI (vI By n (i + 1 + 1)))) e 9 = nI (vI By n (i + 1 + 1)) := by rw [hI_tI, if_pos ⟨rfl, rfl⟩]
          generalize tI m6 e 9 (nI (vI By n (i + 1 + 1))) = m7 at f7 w7 ⊢
          have r7 := r6.ee he (by omega) f7
          have ff7 : Fr (SRy e) m m7 := (ff5.tr (f6.mono (fun k j z => by omega))).tr (f7.mono (fun k j z => SRy.ee he z))
          have f47 : Fr (fun k j => (k = 14 ∧ (j = 1 ∨ j = 2 ∨ j = 6 ∨ j = 7)) ∨ (k = e ∧ j = 9)) m4 m7 := ((f5.mono (fun k j z => by omega)).tr (f6.mono (fun k j z => by omega))).tr (f7.mono (fun k j z => Or.inr z))
          have I : ∀ k j, ¬ (k = e ∧ (j = 8 ∨ j = 9)) → ¬ k = 15 → ¬ k = 14 → hI m7 k j = hI m2 k j := fun k j z1 z2 z3 => (f47.I _ _ (by omega)).trans (f24.I _ _ (by omega))
          have O7 : XO m7 e By n (iDrum (vI By n) i s) := ⟨⟨⟨(I _ _ (by omega) (by omega) (by omega)).trans a0, (I _ _ (by omega) (by omega) (by omega)).trans a1, (I _ _ (by omega) (by omega) (by omega)).trans a5, (f47.I _ _ (by omega)).trans w4, w7, (I _ _ (by omega) (by omega) (by omega)).trans a10, (I _ _ (by omega) (by omega) (by omega)).trans a11⟩, (f47.J _ _ (by omega)).trans ((f24.J _ _ (by omega)).trans a7), fun b p hp => (I _ _ (by omega) (by omega) (by omega)).trans (b3 b p hp), fun i p hp => ⟨(I _ _ (by omega) (by omega) (by omega)).trans (b4 i p hp).1, (I _ _ (by omega) (by omega) (by omega)).trans (b4 i p hp).2⟩⟩, N4.fr f47 (fun k j z => by omega), w6.fr f7 (fun k j z => by omega), U4.fr f47 (fun j => by omega)⟩
          rcases x_tk he r7 (w := 4) (by omega) (by omega) with ⟨m8, e8, r8, f8, k8, h8⟩ | ⟨m8, f, e8, r8, f8, q8⟩
          · rw [sqk_y k8 h8, e8, bind_s]
            exact IX.ok rfl r8 (O7.s12 he f8) (ff7.tr (f8.mono (fun k j z => SRy.s12 he z)))
          · rw [q8, e8, bind_s]
            exact IX.no rfl r8 ((ff7.mono (fun k j z => z.x)).tr f8)
        have W5 := W4.fr f5 (fun k j z => by omega)
        by_cases c2 : vI By n (i + 1 + 1) ≤ 23
        · rw [if_pos (show lg_cmp (lN (vI By n (i + 1 + 1))) 23 ≤ 0 from (lg_cmp_le _ _).mpr ((lN_le (b := 23) (by omega) (by omega)).mpr c2))]
          refine fin m5 Fr.rf ?_
          rw [decide_eq_false (by omega), slp_f]
          exact W5
        · rw [if_neg (show ¬ lg_cmp (lN (vI By n (i + 1 + 1))) 23 ≤ 0 from fun z => c2 ((lN_le (b := 23) (by omega) (by omega)).mp ((lg_cmp_le _ _).mp z)))]
          obtain ⟨m6, e6, w6, f6⟩ := xf_slip (k := 5) r5 W5 (by omega)
          rw [e6, bind_s]
          refine fin m6 f6 ?_
          rw [decide_eq_true (by omega)]
          exact w6
      · rw [q5, e5, bind_s]
        dsimp only
        rw [if_pos rfl, xf_take r5.ne, bind_s]
        exact IX.no rfl r5 ((ff4.mono (fun k j z => z.x)).tr f5)
    · rw [q2, e2, bind_s]
      dsimp only
      rw [if_pos rfl, xf_take r2.ne, bind_s]
      dsimp only
      rw [if_pos rfl, xf_take r2.ne, bind_s]
      exact IX.no rfl r2 ((f1.mono (fun k j z => (SRy.s12 he z).x)).tr f2)
  · rw [q1, e1, bind_s]
    dsimp only
    rw [xf_take r1.ne, bind_s]
    dsimp only
    rw [if_pos rfl, xf_take r1.ne, bind_s]
    dsimp only
    rw [if_pos rfl, xf_take r1.ne, bind_s]
    exact IX.no rfl r1 f1
end KB
