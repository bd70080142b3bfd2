/-! ===== the class reads a whole text ===== -/
section KE
variable {m : M2} {e : Nat} {By : Nat → Nat} {n : Nat}
theorem bind_163 {r : Option M2} {m' : M2} {k : Nat} (h : r = some m') : (r.bind fun c => f_X4_readTape_163 e (nI k) c) = some (Sum.inl (nI (k + 1), m')) := by
  rw [h, bind_s]
  unfold f_X4_readTape_163
  rw [nmI_e, bind_s, nI_1]
theorem x_item {i k : Nat} {s : IS} (he : tx e) (hn : n ≤ 2000) (hX : XI m e By n i s) (hT : TB s) (h0 : ¬ tk By n i = 0) (hk : k ≤ 400) : ∃ r, f_X4_readTape_8 e (nI k) m = (r.bind fun c => f_X4_readTape_163 e (nI k) c) ∧ IL m e By n r (pItem (tk By n) (vI By n) (v5 By n) i s) := by
  have hX0 := hX
  obtain ⟨C, hR, hO, hCB, hLw⟩ := hX
  have hkl := tk_lt (By := By) (n := n) i
  unfold f_X4_readTape_8 pItem
  rw [show (400 : Int32) = nI 400 from rfl, if_neg (nI_nlt hk (by omega)), if_pos hR.1, hR.2.2.1, if_neg (show ¬ nI (tk By n i) = 0 from nI_ne0 (by omega) (by omega))]
  have N : ∀ d : Nat, d < 64 → ¬ tk By n i = d → ¬ nI (tk By n i) = nI d := fun d hd z => eq_nI (by omega) (by omega) z
  rw [show (17 : Int32) = nI 17 from rfl, show (18 : Int32) = nI 18 from rfl, show (19 : Int32) = nI 19 from rfl, show (20 : Int32) = nI 20 from rfl, show (21 : Int32) = nI 21 from rfl, show (22 : Int32) = nI 22 from rfl, show (23 : Int32) = nI 23 from rfl, show (24 : Int32) = nI 24 from rfl, show (25 : Int32) = nI 25 from rfl, show (26 : Int32) = nI 26 from rfl, show (27 : Int32) = nI 27 from rfl, show (28 : Int32) = nI 28 from rfl, show (29 : Int32) = nI 29 from rfl, show (30 : Int32) = nI 30 from rfl, show (31 : Int32) = nI 31 from rfl, show (32 : Int32) = nI 32 from rfl, show (33 : Int32) = nI 33 from rfl]
  have fl : ∀ f, 0 < f → f < 7 → IL m e By n (F_X4_fail e (nI f) m) (.inr (f, i)) := by
    intro f h1 h2
    obtain ⟨m', e1, r1, f1⟩ := x_failAt (c := 0) he hR (f := f) ⟨h1, h2⟩
    exact IL.no e1 r1 (f1.mono (fun k j z => SRx.s he z))
  by_cases k17 : tk By n i = 17
  · rw [if_pos (show nI (tk By n i) = nI 17 by rw [k17]), if_pos k17]
    exact ⟨_, rfl, (x_parts he hR hO).l (s := s) hCB hLw (fun j s' z => by obtain ⟨_, rfl⟩ := sqR_in z; rfl)⟩
  rw [if_neg (N 17 (by omega) k17), if_neg k17]
  by_cases k18 : tk By n i = 18
  · rw [if_pos (show nI (tk By n i) = nI 18 by rw [k18]), if_pos k18]
    by_cases h6 : 6 ≤ (ttL s).length
    · rw [if_pos h6]
      refine ⟨_, rfl, ?_⟩
      unfold F_X4_readLaw
      rw [show hI m e 1 = nI (ttL s).length from hO.1.1.2.1, if_neg (show ¬ nI (ttL s).length < 6 from nI_nlt (b := 6) h6 (by have := hT.1; omega))]
      have := fl 2 (by omega) (by omega)
      have bs : ∀ r : Option M2, (r.bind fun c => some c) = r := fun r => by cases r <;> rfl
      rw [bs, lit_2]
      exact this
    · rw [if_neg h6]
      exact ⟨_, rfl, x_law he hX0 hT (by omega)⟩
  rw [if_neg (N 18 (by omega) k18), if_neg k18]
  by_cases k19 : tk By n i = 19
  · rw [if_pos (show nI (tk By n i) = nI 19 by rw [k19]), if_pos k19]
    by_cases h6 : 12 ≤ (ttM s).length
    · rw [if_pos h6]
      refine ⟨_, rfl, ?_⟩
      unfold F_X4_readMan
      rw [show hI m e 5 = nI (ttM s).length from hO.1.1.2.2.1, if_neg (show ¬ nI (ttM s).length < 12 from nI_nlt (b := 12) h6 (by have := hT.2.1; omega))]
      have := fl 2 (by omega) (by omega)
      have bs : ∀ r : Option M2, (r.bind fun c => some c) = r := fun r => by cases r <;> rfl
      rw [bs, lit_2]
      exact this
    · rw [if_neg h6]
      exact ⟨_, rfl, (x_man he hn hR hO (by omega) (by have := hT.1; have := hT.2.2.2; omega)).l (s := s) hCB hLw (fun j s' z => by obtain ⟨_, rfl⟩ := sqR_in z; rfl)⟩
  rw [if_neg (N 19 (by omega) k19), if_neg k19]
  by_cases k20 : tk By n i = 20
  · rw [if_pos (show nI (tk By n i) = nI 20 by rw [k20]), if_neg (show ¬ tk By n i = 31 by omega), if_neg (show ¬ tk By n i = 33 by omega), if_pos k20]
    by_cases h6 : 4 ≤ (ttF s).length
    · rw [if_pos h6]
      refine ⟨_, rfl, ?_⟩
      unfold F_X4_readFog
      rw [show hI m e 11 = nI (ttF s).length from hO.1.1.2.2.2.2.2.2, if_neg (show ¬ nI (ttF s).length < 4 from nI_nlt (b := 4) h6 (by have := hT.2.2.1; omega))]
      have := fl 2 (by omega) (by omega)
      have bs : ∀ r : Option M2, (r.bind fun c => some c) = r := fun r => by cases r <;> rfl
      rw [bs, lit_2]
      exact this
    · rw [if_neg h6]
      exact ⟨_, rfl, (x_fog he hR hO (by omega)).l (s := s) hCB hLw (fun j s' z => by obtain ⟨_, rfl⟩ := sqR_in z; rfl)⟩
  rw [if_neg (N 20 (by omega) k20)]
  by_cases k31 : tk By n i = 31
  · rw [if_neg (N 21 (by omega) (by omega)), if_neg (N 22 (by omega) (by omega)), if_neg (N 23 (by omega) (by omega)), if_neg (N 24 (by omega) (by omega)), if_neg (N 25 (by omega) (by omega)), if_neg (N 26 (by omega) (by omega)), if_neg (N 27 (by omega) (by omega)), if_neg (N 28 (by omega) (by omega)), if_neg (N 29 (by omega) (by omega)), if_neg (N 30 (by omega) (by omega)), if_pos (show nI (tk By n i) = nI 31 by rw [k31]), if_pos k31]
    exact ⟨_, rfl, (x_drum he hn hR hO).l (s := s) hCB hLw (fun j s' z => by obtain ⟨_, rfl⟩ := sqR_in z; rfl)⟩
  by_cases k33 : tk By n i = 33
  · rw [if_neg (N 21 (by omega) (by omega)), if_neg (N 22 (by omega) (by omega)), if_neg (N 23 (by omega) (by omega)), if_neg (N 24 (by omega) (by omega)), if_neg (N 25 (by omega) (by omega)), if_neg (N 26 (by omega) (by omega)), if_neg (N 27 (by omega) (by omega)), if_neg (N 28 (by omega) (by omega)), if_neg (N 29 (by omega) (by omega)), if_neg (N 30 (by omega) (by omega)), if_neg (N 31 (by omega) k31), if_neg (N 32 (by omega) (by omega)), if_pos (show nI (tk By n i) = nI 33 by rw [k33]), if_neg k31, if_pos k33]
    exact ⟨_, rfl, (x_song he hn hR hO).l (s := s) hCB hLw (fun j s' z => by obtain ⟨_, rfl⟩ := sqR_in z; rfl)⟩
  rw [if_neg k31, if_neg k33, if_neg k20]
  refine ⟨F_X4_fail e (nI 1) m, ?_, fl 1 (by omega) (by omega)⟩
  simp only [if_neg (N 31 (by omega) k31), if_neg (N 33 (by omega) k33), ite_self]
  rfl
theorem x_text (he : tx e) (hn : n ≤ 2000) (hX : XI m e By n 0 is0) : ∃ z, loop (g_X4_readTape_8 e) ((0 : Int32), m) = some z ∧ Fr (SRx e) m z ∧ ((∃ i s, pT (tk By n) (vI By n) (v5 By n) 401 0 is0 = .inl (i, s) ∧ XI z e By n i s ∧ TB s) ∨ (∃ f t, pT (tk By n) (vI By n) (v5 By n) 401 0 is0 = .inr (f, t) ∧ XFt z By n f t)) := by
  have hte := te_le By n
  have hKV : ∀ i, tk By n i = 3 → vI By n i < 10000 := fun i hi => vI_lt hi
  generalize hpz : pT (tk By n) (vI By n) (v5 By n) 401 0 is0 = PZ
  refine loop_ex 401 (fun k z => z.1 = nI k ∧ Fr (SRx e) m z.2 ∧ ((∃ i s, PZ = pT (tk By n) (vI By n) (v5 By n) (401 - k) i s ∧ XI z.2 e By n i s ∧ TB s ∧ k ≤ i) ∨ (∃ f t, PZ = .inr (f, t) ∧ XFt z.2 By n f t))) _ (by omega) ?_ ?_ ⟨rfl, Fr.rf, Or.inl ⟨0, is0, hpz.symm, hX, ⟨by decide, by decide, by decide, rfl⟩, Nat.le_refl _⟩⟩
  · rintro k ⟨z1, m1⟩ hk ⟨i1, i2, i3⟩
    dsimp only at i1 i2 i3
    subst i1
    show (∃ s', f_X4_readTape_8 e (nI k) m1 = some (Sum.inl s') ∧ _) ∨ ∃ z, f_X4_readTape_8 e (nI k) m1 = some (Sum.inr z) ∧ _
    rcases i3 with ⟨i, s, ep, hI1, hT1, hki⟩ | ⟨f, t, ep, r1⟩
    · obtain ⟨q, hq⟩ : ∃ q, 401 - k = q + 1 := ⟨400 - k, by omega⟩
      rw [hq] at ep
      have ep' : PZ = if tk By n i = 0 then .inl (i, s) else match pItem (tk By n) (vI By n) (v5 By n) i s with
        | .inr e => .inr e
        | .inl z => pT (tk By n) (vI By n) (v5 By n) q z.1 z.2 := ep
      by_cases h0 : tk By n i = 0
      · right
        rw [if_pos h0] at ep'
        have hI2 := hI1
        obtain ⟨C, hR, _⟩ := hI1
        unfold f_X4_readTape_8
        rw [show (400 : Int32) = nI 400 from rfl, if_neg (nI_nlt (by omega) (by omega)), if_pos hR.1, hR.2.2.1, if_pos (by rw [h0]; rfl)]
        exact ⟨_, rfl, i2, Or.inl ⟨i, s, ep', hI2, hT1⟩⟩
      · left
        rw [if_neg h0] at ep'
        obtain ⟨r, er, hr⟩ := x_item he hn hI1 hT1 h0 (show k ≤ 400 by omega)
        rw [er]
        cases hp : pItem (tk By n) (vI By n) (v5 By n) i s with
        | inr x =>
          rw [hp] at ep' hr
          obtain ⟨m2, e2, r2, f2⟩ := hr.2 x.1 x.2 rfl
          rw [bind_163 e2]
          exact ⟨_, rfl, rfl, i2.tr f2, Or.inr ⟨x.1, x.2, ep', r2⟩⟩
        | inl z =>
          rw [hp] at ep' hr
          obtain ⟨m2, e2, r2, f2⟩ := hr.1 z.1 z.2 rfl
          have ht := pItem_TB hKV hp hT1
          rw [bind_163 e2]
          exact ⟨_, rfl, rfl, i2.tr f2, Or.inl ⟨z.1, z.2, by rw [ep', show 401 - (k + 1) = q by omega], r2, ht.1, by have := ht.2; omega⟩⟩
    · right
      unfold f_X4_readTape_8
      rw [show (400 : Int32) = nI 400 from rfl, if_neg (nI_nlt (by omega) (by omega)), if_neg r1.ne]
      exact ⟨_, rfl, i2, Or.inr ⟨f, t, ep, r1⟩⟩
  · rintro ⟨z1, m1⟩ ⟨i1, i2, i3⟩
    dsimp only at i1 i2 i3
    subst i1
    show ∃ z, f_X4_readTape_8 e (nI 401) m1 = some (Sum.inr z) ∧ _
    unfold f_X4_readTape_8
    rw [show (400 : Int32) = nI 400 from rfl, if_pos (nI_lt (by omega) (by omega))]
    refine ⟨_, rfl, i2, ?_⟩
    rcases i3 with ⟨i, s, ep, ⟨C, hR, _⟩, hT1, hki⟩ | h
    · have := hR.2.2.2.1
      omega
    · exact Or.inr h
abbrev SRt (e : Nat) : Nat → Nat → Prop := fun k _ => (e ≤ k ∧ k ≤ e + 5) ∨ (14 ≤ k ∧ k ≤ 18) ∨ (20 ≤ k ∧ k ≤ 22)
theorem x_begin (he : tx e) (hn : n ≤ 2000) (hB : ∀ i, i < n → hI m 1 i &&& (255 : Int32) = nI (By i)) (hB2 : ∀ i, By i < 256) (hW : ∀ w, w < 17 → hJ m 19 w = lN (W5 w)) : ∃ m', F_X4_begin e (nI n) e m = some m' ∧ XI m' e By n 0 is0 ∧ Fr (SRt e) m m' := by
  have he' := he
  unfold tx at he'
  unfold F_X4_begin
  have clr : ∃ m1, F_X7_clear e m = some m1 ∧ (hI m1 e 0 = nI 24 ∧ hI m1 e 1 = 0 ∧ hI m1 e 4 = 0 ∧ hI m1 e 5 = 0 ∧ hJ m1 e 7 = 0 ∧ hI m1 e 8 = -1 ∧ hI m1 e 9 = 0 ∧ hI m1 e 10 = -1 ∧ hI m1 e 11 = 0) ∧ Fr (fun k _ => k = e) m m1 := by
    unfold F_X7_clear
    rw [qI_e, bind_s, qI_e, bind_s, qI_e, bind_s, qI_e, bind_s, qJ_e, bind_s, qI_e, bind_s, qI_e, bind_s, qI_e, bind_s, qI_e, bind_s]
    refine ⟨_, rfl, ?_, ((((((((Fr.rf.tI _ (by omega)).tI _ (by omega)).tI _ (by omega)).tI _ (by omega)).tJ _ (by omega)).tI _ (by omega)).tI _ (by omega)).tI _ (by omega)).tI _ (by omega)⟩
    simp [hI_tI, hI_tJ, hJ_tI, hJ_tJ]
    rfl
  obtain ⟨m1, e1, ⟨c0, c1, c4, c5, c7, c8, c9, c10, c11⟩, f1⟩ := clr
  rw [e1, bind_s]
  obtain ⟨m2, e2, t2, f2⟩ := x_cut (m := m1) hn (fun i hi => by rw [f1.I _ _ (by omega)]; exact hB i hi) hB2 (fun w hw => by rw [f1.J _ _ (by omega)]; exact hW w hw)
  rw [e2, bind_s, qI_e, bind_s, aI_e _ 20 (i := 0) (j := 0) rfl (by omega) (by omega), bind_s, hI_tI, if_neg (by omega), (t2 0 (by omega)).1, qI_e, bind_s, qI_e, bind_s, qI_e, bind_s, qI_e, bind_s, qI_e, bind_s]
  have g3 : ∃ m3, m3 = tI (tI (tI (tI (tI (tI m2 14 1 0) 14 2 (nI (tk By n 0))) 14 4 0) 14 5 (-1)) 14 6 0) 14 11 0 := ⟨_, rfl⟩
  obtain ⟨m3, h3⟩ := g3
  have f3 : Fr (fun k _ => k = 14) m2 m3 := by rw [h3]; exact (((((Fr.rf.tI _ (by omega)).tI _ (by omega)).tI _ (by omega)).tI _ (by omega)).tI _ (by omega)).tI _ (by omega)
  have v3 : hI m3 14 1 = 0 ∧ hI m3 14 2 = nI (tk By n 0) ∧ hI m3 14 4 = 0 ∧ hI m3 14 5 = -1 ∧ hI m3 14 6 = 0 ∧ hI m3 14 11 = 0 := by rw [h3]; simp [hI_tI]
  rw [← h3]
  obtain ⟨m4, e4, b4, f4⟩ := x_fill (m := m3) 15 25 (-1) (by omega)
  rw [e4, bind_s]
  have f24 : Fr (fun k _ => k = 14 ∨ k = 15) m2 m4 := (f3.mono (fun k j z => Or.inl z)).tr (f4.mono (fun k j z => Or.inr z))
  have f14 : Fr (fun k j => SCt k j ∨ k = 14 ∨ k = 15) m1 m4 := (f2.mono (fun k j z => Or.inl z)).tr (f24.mono (fun k j z => Or.inr z))
  have I : ∀ j, hI m4 e j = hI m1 e j := fun j => f14.I _ _ (by omega)
  refine ⟨m4, rfl, ⟨[], ⟨?_, ?_, ?_, Nat.zero_le _, Nat.le_refl _, ⟨?_, fun j o ho => (by cases ho)⟩, t2.fr f24 (fun k j z => by omega), ?_⟩, ⟨⟨⟨(I 0).trans c0, (I 1).trans c1, (I 5).trans c5, (I 8).trans c8, (I 9).trans c9, (I 10).trans c10, (I 11).trans c11⟩, (f14.J _ _ (by omega)).trans c7, fun b p hp => (by cases hp), fun b p hp => (by cases hp)⟩, ⟨?_, fun k p hp => (by cases hp)⟩, ?_, ⟨fun p a1 a2 => b4 p (by omega), fun t ht => (by cases ht)⟩⟩, fun o ho => (by cases ho), fun q w hw => (by cases hw)⟩, (f1.mono (fun k j z => by omega)).tr (f14.mono (fun k j z => by omega))⟩
  · rw [f4.I _ _ (by omega)]; exact v3.2.2.1
  · rw [f4.I _ _ (by omega)]; exact v3.1
  · rw [f4.I _ _ (by omega)]; exact v3.2.1
  · exact (I 4).trans c4
  · rw [f4.I _ _ (by omega)]; exact v3.2.2.2.1
  · rw [f4.I _ _ (by omega)]; exact v3.2.2.2.2.2
  · show hI m4 14 6 = 0
    rw [f4.I _ _ (by omega)]; exact v3.2.2.2.2.1
end KE
/-- a slip, an INT beyond -/
def rdW (V : Nat → Nat) (s : IS) : Option (Nat × Nat) := match ttW s with
  | some w => some w
  | none => (fbl V (ttP s) (ttU s)).map (fun t => (6, t))
def rdA (K V N : Nat → Nat) : IS ⊕ (Nat × Nat) := match pT K V N 401 0 is0 with
  | .inr e => .inr e
  | .inl z => match rdW V z.2 with
    | some e => .inr e
    | none => .inl z.2
