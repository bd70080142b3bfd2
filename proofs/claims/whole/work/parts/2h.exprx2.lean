/-! ===== the class reads expressions: the whole ===== -/
section KH2
variable {m : M2} {e c : Nat} {By : Nat → Nat} {n : Nat}
def XOut (m : M2) (e c : Nat) (By : Nat → Nat) (n : Nat) (Cd : List Op) (r : Option M2) (pr : PR) : Prop := (∀ j L, pr = .inl (j, L) → ∃ m', r = some m' ∧ XRd m' e By n j (Cd ++ L) ∧ Fr (SXe e c) m m') ∧ (∀ f t, pr = .inr (f, t) → ∃ m', r = some m' ∧ XFt m' By n f t ∧ Fr (SXe e c) m m')
theorem XOut.ok {m' : M2} {Cd L : List Op} {r : Option M2} {j : Nat} (h1 : r = some m') (h2 : XRd m' e By n j (Cd ++ L)) (h3 : Fr (SXe e c) m m') : XOut m e c By n Cd r (.inl (j, L)) := ⟨fun j' L' z => by cases z; exact ⟨m', h1, h2, h3⟩, fun f t z => by cases z⟩
theorem XOut.no {m' : M2} {Cd : List Op} {r : Option M2} {f t : Nat} (h1 : r = some m') (h2 : XFt m' By n f t) (h3 : Fr (SXe e c) m m') : XOut m e c By n Cd r (.inr (f, t)) := ⟨fun j' L' z => (by cases z), fun f' t' z => by cases z; exact ⟨m', h1, h2, h3⟩⟩
theorem xf_taken {f t : Nat} (h : XFt m By n f t) : ∃ v, F_X4_taken e m = some (v, m) := by
  obtain ⟨a1, a2, a3, ⟨i, i1, i2, i3⟩, a5⟩ := h
  have hte := te_le By n
  unfold F_X4_taken
  by_cases q : i = 0
  · rw [i2, q, if_pos (by decide)]
    exact ⟨_, rfl⟩
  · rw [i2, if_neg (nI_nle (by omega) (by omega)), nI_m1s (by omega), aJ_n _ 21 (show i - 1 < 401 by omega) (by omega), bind_s]
    exact ⟨_, rfl⟩
theorem x_take_t {i w : Nat} {Cd : List Op} (he : tx e) (h : XRd m e By n i Cd) (hw : 2 ≤ w) (hw6 : w < 64) : (tk By n i = w → i < 400 → ∃ m', F_X4_take e (nI w) m = some (1, m') ∧ XRd m' e By n (i + 1) Cd ∧ Fr (fun k j => k = 14 ∧ (j = 1 ∨ j = 2)) m m') ∧ (tk By n i = w → ¬ i < 400 → ∃ m', F_X4_take e (nI w) m = some (0, m') ∧ XFt m' By n 2 i ∧ Fr (SXe e c) m m') ∧ (¬ tk By n i = w → ∃ m', F_X4_take e (nI w) m = some (0, m') ∧ XFt m' By n 1 i ∧ Fr (SXe e c) m m') := by
  refine ⟨fun h1 h2 => ?_, fun h1 h2 => ?_, fun h1 => ?_⟩
  · have := x_take_ok he h (by omega) h2
    rw [h1] at this
    exact this
  · have := x_take_no (c := c) he h hw6 (fun z => h2 z.2)
    rw [if_pos h1] at this
    exact this
  · have := x_take_no (c := c) he h hw6 (fun z => h1 z.1)
    rw [if_neg h1] at this
    exact this
theorem xf_87 {f : Nat} {x1 x2 : Int32} (h : ¬ hI m 14 4 = 0) : f_X4_readUnit_87 (F_X4_readExpression (f + 1)) e x1 x2 m = some m := by
  unfold f_X4_readUnit_87 f_X4_readUnit_131
  rw [xf_take h, bind_s]
  dsimp only
  rw [xf_expr h, bind_s]
  split
  · rw [xf_take h, bind_s]
    dsimp only
    rw [xf_expr h, bind_s, xf_emit h, bind_s]
    dsimp only
    rw [xf_take h, bind_s]
  · rw [xf_take h, bind_s]
theorem XRd.fr1 {m' : M2} {i : Nat} {Cd : List Op} (f1 : Fr (fun k j => k = 14 ∧ (j = 1 ∨ j = 2)) m m') : Fr (SXe e c) m m' := f1.mono (fun k j z => by omega)
theorem x_close {i : Nat} {m0 : M2} {Cd L : List Op} (he : tx e) (f0 : Fr (SXe e c) m0 m) (h : XRd m e By n i (Cd ++ L)) (E : Nat → Int32 → Int32 → M2 → Option M2) : XOut m0 e c By n Cd (f_X4_readUnit_131 E e m) (pCl (tk By n) i L) := by
  unfold f_X4_readUnit_131 pCl
  obtain ⟨t1, t2, t3⟩ := x_take_t he h (w := 16) (by omega) (by omega)
  by_cases q : tk By n i = 16
  · rw [if_pos q]
    by_cases h4 : i < 400
    · obtain ⟨m1, e1, r1, f1⟩ := t1 q h4
      rw [if_pos h4, lit_16, e1, bind_s]
      exact XOut.ok rfl r1 (f0.tr (f1.mono (fun k j z => by omega)))
    · obtain ⟨m1, e1, r1, f1⟩ := t2 q h4
      rw [if_neg h4, lit_16, e1, bind_s]
      exact XOut.no rfl r1 (f0.tr f1)
  · obtain ⟨m1, e1, r1, f1⟩ := t3 q
    rw [if_neg q, lit_16, e1, bind_s]
    exact XOut.no rfl r1 (f0.tr f1)
theorem xf_131 {E : Nat → Int32 → Int32 → M2 → Option M2} (h : ¬ hI m 14 4 = 0) : f_X4_readUnit_131 E e m = some m := by
  unfold f_X4_readUnit_131
  rw [xf_take h, bind_s]
theorem gap_len {a b c d : List Op} (h : (a ++ b).length ≤ d.length) : a.length + b.length ≤ d.length := by rw [← List.length_append]; exact h
theorem x_expr (he : tx e) : ∀ (f lv d i : Nat) (Cd : List Op) (m : M2), c ≤ Cd.length → lv ≤ 2 → d ≤ 6 → Nd lv d + 1 ≤ f → XRd m e By n i Cd → XOut m e c By n Cd (F_X4_readExpression f e (nI lv) (nI d) m) (pX (tk By n) (vI By n) f lv d i) := by
  have hte := te_le By n
  have hKV : ∀ i, tk By n i = 3 → vI By n i < 10000 := fun i hi => vI_lt hi
  have hkl : ∀ i, tk By n i < 34 := fun i => lexK_lt By n _
  have he' := he
  unfold tx at he'
  intro f
  induction f with
  | zero => intro lv d i Cd m h0 h1 h2 h3; omega
  | succ f ih =>
    intro lv d i Cd m hcl hlv hd hf hX
    obtain ⟨f', ef⟩ : ∃ f', f = f' + 1 := ⟨f - 1, by unfold Nd at hf; omega⟩
    show XOut m e c By n Cd (B_X4_readExpression (F_X4_readExpression f) e (nI lv) (nI d) m) (if 2 ≤ lv then pUn (tk By n) (vI By n) (pX (tk By n) (vI By n) f 0 (d + 1)) d i else _)
    unfold B_X4_readExpression
    rw [if_pos hX.1, lit_2]
    by_cases h2 : 2 ≤ lv
    · have elv : lv = 2 := by omega
      subst elv
      rw [if_neg (fun z => absurd (nI_le (Nat.le_refl 2) (by omega)) (lt_nle z)), if_pos h2]
      unfold F_X4_readUnit pUn
      rw [hX.2.2.1, nmI_e, bind_s]
      have hk := hkl i
      by_cases k3 : tk By n i = 3
      · rw [if_pos k3, if_pos (by rw [k3]; rfl)]
        obtain ⟨t1, t2, t3⟩ := x_take_t he hX (w := 3) (by omega) (by omega)
        by_cases h4 : i < 400
        · obtain ⟨m1, e1, r1, f1⟩ := t1 k3 h4
          have hl := hX.2.2.2.2.1
          have hv := hKV i k3
          obtain ⟨m2, e2, r2, f2⟩ := x_emit (a := 3) (b := vI By n i) he r1 (by omega) (by omega) (by omega)
          rw [if_pos h4, lit_3, e1, bind_s]
          dsimp only
          rw [x_taken r1 k3, bind_s]
          dsimp only
          rw [lN_i, e2, bind_s, bind_s]
          exact XOut.ok rfl r2 ((f1.mono (fun k j z => by omega)).tr (f2.mono (fun k j z => by omega)))
        · obtain ⟨m1, e1, r1, f1⟩ := t2 k3 h4
          obtain ⟨v, ev⟩ := xf_taken (e := e) r1
          rw [if_neg h4, lit_3, e1, bind_s]
          dsimp only
          rw [ev, bind_s]
          dsimp only
          rw [xf_emit r1.ne, bind_s, bind_s]
          exact XOut.no rfl r1 f1
      · rw [if_neg k3, if_neg (show ¬ nI (tk By n i) = 3 from eq_nI (d := 3) (by omega) (by omega) k3)]
        by_cases kv : 28 ≤ tk By n i ∧ tk By n i ≤ 33
        · rw [if_pos kv, if_neg (show ¬ nI (tk By n i) < 28 from fun z => absurd (nI_le kv.1 (by omega)) (lt_nle z)), if_neg (show ¬ (33 : Int32) < nI (tk By n i) from fun z => absurd (nI_le kv.2 (by omega)) (lt_nle z))]
          obtain ⟨t1, t2, t3⟩ := x_take_t he hX (w := tk By n i) (by omega) (by omega)
          by_cases h4 : i < 400
          · obtain ⟨m1, e1, r1, f1⟩ := t1 rfl h4
            have hl := hX.2.2.2.2.1
            obtain ⟨m2, e2, r2, f2⟩ := x_emit (a := tk By n i) (b := 0) he r1 (by omega) (by omega) (by omega)
            rw [if_pos h4, e1, bind_s]
            dsimp only
            rw [lit_0, e2, bind_s, bind_s]
            exact XOut.ok rfl r2 ((f1.mono (fun k j z => by omega)).tr (f2.mono (fun k j z => by omega)))
          · obtain ⟨m1, e1, r1, f1⟩ := t2 rfl h4
            rw [if_neg h4, e1, bind_s]
            dsimp only
            rw [xf_emit r1.ne, bind_s, bind_s]
            exact XOut.no rfl r1 f1
        · rw [if_neg kv]
          have go : ∀ r : Option M2, (if nI (tk By n i) < (28 : Int32) then r else if (33 : Int32) < nI (tk By n i) then r else (F_X4_take e (nI (tk By n i)) m).bind fun c6 => (F_X4_emit e (nI (tk By n i)) (0 : Int32) c6.2).bind fun c8 => some c8.2) = r := by
            intro r
            by_cases a : tk By n i < 28
            · rw [if_pos (show nI (tk By n i) < 28 from nI_lt (b := 28) a (by omega))]
            · rw [if_neg (show ¬ nI (tk By n i) < 28 from fun z => absurd (nI_le (show 28 ≤ tk By n i by omega) (by omega)) (lt_nle z)), if_pos (show (33 : Int32) < nI (tk By n i) from nI_lt (a := 33) (show 33 < tk By n i by omega) (by omega))]
          rw [go]
          -- a bracket
          have par : ∀ (g : Bool) (x2 : Int32) (i0 : Nat) (m1 : M2), (x2 = 27 ↔ g = true) → XRd m1 e By n i0 Cd → Fr (SXe e c) m m1 → XOut m e c By n Cd (f_X4_readUnit_67 (F_X4_readExpression f) e (nI d) x2 m1) (pPa (tk By n) (pX (tk By n) (vI By n) f 0 (d + 1)) d g i0) := by
            intro g x2 i0 m1 hg h1 ff1
            have hk0 := hkl i0
            unfold f_X4_readUnit_67 pPa
            rw [h1.2.2.1]
            by_cases k15 : tk By n i0 = 15
            · rw [if_pos k15, if_pos (by rw [k15]; rfl)]
              by_cases h6 : 6 ≤ d
              · rw [if_pos h6, if_neg (show ¬ nI d < 6 from fun z => absurd (nI_le h6 (by omega)) (lt_nle z))]
                obtain ⟨m2, e2, r2, f2⟩ := x_failAt he h1 (f := 2) (by omega)
                rw [lit_2, e2, bind_s, ef, xf_87 r2.ne]
                exact XOut.no rfl r2 (ff1.tr f2)
              · rw [if_neg h6, if_pos (show nI d < 6 from nI_lt (b := 6) (show d < 6 by omega) (by omega))]
                obtain ⟨t1, t2, t3⟩ := x_take_t he h1 (w := 15) (by omega) (by omega)
                unfold f_X4_readUnit_87
                by_cases h4 : i0 < 400
                · obtain ⟨m2, e2, r2, f2⟩ := t1 k15 h4
                  have ff2 : Fr (SXe e c) m m2 := ff1.tr (f2.mono (fun k j z => by omega))
                  rw [if_pos h4, lit_15, e2, bind_s]
                  dsimp only
                  have o3 := ih 0 (d + 1) (i0 + 1) Cd m2 hcl (by omega) (by omega) (by unfold Nd at hf ⊢; omega) r2
                  rw [nI_1, lit_0]
                  cases hr : pX (tk By n) (vI By n) f 0 (d + 1) (i0 + 1) with
                  | inr x =>
                    rw [hr] at o3
                    obtain ⟨m3, e3, r3, f3⟩ := o3.2 x.1 x.2 rfl
                    rw [e3, bind_s, xf_take r3.ne, bind_s]
                    dsimp only
                    rw [ef, xf_expr r3.ne, bind_s, xf_emit r3.ne, bind_s]
                    dsimp only
                    rw [xf_131 r3.ne]
                    have : (if x2 = 27 then some m3 else some m3) = some m3 := by split <;> rfl
                    rw [this]
                    exact XOut.no rfl r3 (ff2.tr f3)
                  | inl z =>
                    rw [hr] at o3
                    obtain ⟨m3, e3, r3, f3⟩ := o3.1 z.1 z.2 rfl
                    have g1 := pX_good hKV f 0 (d + 1) (i0 + 1) z.1 z.2 (by omega) (by omega) hr
                    have ff3 : Fr (SXe e c) m m3 := ff2.tr f3
                    rw [e3, bind_s]
                    dsimp only
                    by_cases hgt : g = true
                    · rw [if_pos (hg.mpr hgt), if_pos hgt]
                      unfold pGp
                      obtain ⟨u1, u2, u3⟩ := x_take_t he r3 (w := 6) (by omega) (by omega)
                      by_cases k6 : tk By n z.1 = 6
                      · rw [if_pos k6]
                        by_cases h44 : z.1 < 400
                        · obtain ⟨m4, e4, r4, f4⟩ := u1 k6 h44
                          have ff4 : Fr (SXe e c) m m4 := ff3.tr (f4.mono (fun k j z => by omega))
                          have o5 := ih 0 (d + 1) (z.1 + 1) (Cd ++ z.2) m4 (by rw [List.length_append]; omega) (by omega) (by omega) (by unfold Nd at hf ⊢; omega) r4
                          rw [if_pos h44, lit_6, e4, bind_s]
                          dsimp only
                          cases hr2 : pX (tk By n) (vI By n) f 0 (d + 1) (z.1 + 1) with
                          | inr x =>
                            rw [hr2] at o5
                            obtain ⟨m5, e5, r5, f5⟩ := o5.2 x.1 x.2 rfl
                            rw [e5, bind_s, xf_emit r5.ne, bind_s]
                            dsimp only
                            rw [xf_131 r5.ne]
                            exact XOut.no rfl r5 (ff4.tr f5)
                          | inl z2 =>
                            rw [hr2] at o5
                            obtain ⟨m5, e5, r5, f5⟩ := o5.1 z2.1 z2.2 rfl
                            have g2 := pX_good hKV f 0 (d + 1) (z.1 + 1) z2.1 z2.2 (by omega) (by omega) hr2
                            have l1 := h1.2.2.2.2.1
                            have l2 := g1.2.2.1
                            have l3 := g2.2.2.1
                            obtain ⟨m6, e6, r6, f6⟩ := x_emit (a := 27) (b := 0) he r5 (by rw [List.length_append, List.length_append]; omega) (by omega) (by omega)
                            rw [e5, bind_s, show (27 : Int32) = nI 27 from rfl, e6, bind_s]
                            dsimp only
                            rw [List.append_assoc, List.append_assoc, ← List.append_assoc z.2] at r6
                            exact x_close he ((ff4.tr f5).tr (f6.mono (fun k j z => by simp only [List.length_append] at z; omega))) r6 _
                        · obtain ⟨m4, e4, r4, f4⟩ := u2 k6 h44
                          rw [if_neg h44, lit_6, e4, bind_s]
                          dsimp only
                          rw [ef, xf_expr r4.ne, bind_s, xf_emit r4.ne, bind_s]
                          dsimp only
                          rw [xf_131 r4.ne]
                          exact XOut.no rfl r4 (ff3.tr f4)
                      · obtain ⟨m4, e4, r4, f4⟩ := u3 k6
                        rw [if_neg k6, lit_6, e4, bind_s]
                        dsimp only
                        rw [ef, xf_expr r4.ne, bind_s, xf_emit r4.ne, bind_s]
                        dsimp only
                        rw [xf_131 r4.ne]
                        exact XOut.no rfl r4 (ff3.tr f4)
                    · rw [if_neg (fun z => hgt (hg.mp z)), if_neg hgt]
                      exact x_close he ff3 r3 _
                · obtain ⟨m2, e2, r2, f2⟩ := t2 k15 h4
                  have := xf_87 (m := m2) (e := e) (f := f') (x1 := nI d) (x2 := x2) r2.ne
                  unfold f_X4_readUnit_87 at this
                  rw [xf_take r2.ne, bind_s] at this
                  rw [if_neg h4, lit_15, e2, bind_s, ef]
                  dsimp only at this ⊢
                  rw [this]
                  exact XOut.no rfl r2 (ff1.tr f2)
            · rw [if_neg k15, if_neg (show ¬ nI (tk By n i0) = 15 from eq_nI (d := 15) (by omega) (by omega) k15)]
              obtain ⟨t1, t2, t3⟩ := x_take_t he h1 (w := 15) (by omega) (by omega)
              obtain ⟨m2, e2, r2, f2⟩ := t3 k15
              have := xf_87 (m := m2) (e := e) (f := f') (x1 := nI d) (x2 := x2) r2.ne
              unfold f_X4_readUnit_87 at this ⊢
              rw [xf_take r2.ne, bind_s] at this
              rw [lit_15, e2, bind_s, ef]
              dsimp only at this ⊢
              rw [this]
              exact XOut.no rfl r2 (ff1.tr f2)
          have bs : ∀ r : Option M2, (r.bind fun c7 => some c7) = r := fun r => by cases r <;> rfl
          rw [bs]
          unfold f_X4_readUnit_54
          by_cases k27 : tk By n i = 27
          · rw [if_pos k27, if_pos (by rw [k27]; rfl)]
            obtain ⟨t1, t2, t3⟩ := x_take_t he hX (w := 27) (by omega) (by omega)
            by_cases h4 : i < 400
            · obtain ⟨m1, e1, r1, f1⟩ := t1 k27 h4
              rw [if_pos h4, show (27 : Int32) = nI 27 from rfl, e1, bind_s]
              dsimp only
              exact par true _ _ m1 ⟨fun _ => rfl, fun _ => by rw [k27]; rfl⟩ r1 (f1.mono (fun k j z => by omega))
            · obtain ⟨m1, e1, r1, f1⟩ := t2 k27 h4
              rw [if_neg h4, show (27 : Int32) = nI 27 from rfl, e1, bind_s]
              dsimp only
              unfold f_X4_readUnit_67
              rw [xf_fail r1.ne, bind_s, ef, xf_87 r1.ne]
              have : (if hI m1 14 2 = 15 then if nI d < 6 then some m1 else some m1 else some m1) = some m1 := by
                split
                · split <;> rfl
                · rfl
              rw [this]
              exact XOut.no rfl r1 f1
          · rw [if_neg k27, if_neg (show ¬ nI (tk By n i) = 27 from eq_nI (d := 27) (by omega) (by omega) k27)]
            exact par false _ _ m ⟨fun z => absurd z (show ¬ nI (tk By n i) = 27 from eq_nI (d := 27) (by omega) (by omega) k27), fun z => by cases z⟩ hX Fr.rf
    · rw [if_pos (show nI lv < nI 2 from nI_lt (by omega) (by omega)), if_neg h2, nI_1]
      have o1 := ih (lv + 1) d i Cd m hcl (by omega) hd (by unfold Nd at hf ⊢; omega) hX
      cases hr : pX (tk By n) (vI By n) f (lv + 1) d i with
      | inr x =>
        rw [hr] at o1
        obtain ⟨m1, e1, r1, f1⟩ := o1.2 x.1 x.2 rfl
        rw [e1, bind_s]
        have key : ∃ z, loop (g_X4_readExpression_29 (F_X4_readExpression f) e (nI lv) (nI d)) ((0 : Int32), m1) = some z ∧ z = m1 := by
          refine loop_to 0 (fun _ z => z = ((0 : Int32), m1)) _ (by omega) (fun k s hk => by omega) ?_ rfl
          rintro z rfl
          show ∃ z, f_X4_readExpression_29 (F_X4_readExpression f) e (nI lv) (nI d) 0 m1 = some (Sum.inr z) ∧ _
          unfold f_X4_readExpression_29
          rw [if_neg (by decide), if_neg r1.ne]
          exact ⟨_, rfl, rfl⟩
        obtain ⟨z, e2, rfl⟩ := key
        rw [e2, bind_s]
        exact XOut.no rfl r1 f1
      | inl z0 =>
        rw [hr] at o1
        obtain ⟨m1, e1, r1, f1⟩ := o1.1 z0.1 z0.2 rfl
        rw [e1, bind_s]
        dsimp only
        generalize hpz : pLp (tk By n) (pX (tk By n) (vI By n) f (lv + 1) d) (joins lv) 400 z0.1 z0.2 = PZ
        have key : ∃ z, loop (g_X4_readExpression_29 (F_X4_readExpression f) e (nI lv) (nI d)) ((0 : Int32), m1) = some z ∧ XOut m e c By n Cd (some z) (PZ) := by
          refine loop_ex 400 (fun k z => z.1 = nI k ∧ Fr (SXe e c) m z.2 ∧ ((∃ j L, XRd z.2 e By n j (Cd ++ L) ∧ PZ = pLp (tk By n) (pX (tk By n) (vI By n) f (lv + 1) d) (joins lv) (400 - k) j L) ∨ (∃ g t, XFt z.2 By n g t ∧ PZ = .inr (g, t)))) _ (by omega) ?_ ?_ ⟨rfl, f1, Or.inl ⟨_, _, r1, hpz.symm⟩⟩
          · rintro k ⟨x, m2⟩ hk ⟨i1, i2, i3⟩
            dsimp only at i1 i2 i3
            subst i1
            show (∃ s', f_X4_readExpression_29 (F_X4_readExpression f) e (nI lv) (nI d) (nI k) m2 = some (Sum.inl s') ∧ _) ∨ ∃ z, f_X4_readExpression_29 (F_X4_readExpression f) e (nI lv) (nI d) (nI k) m2 = some (Sum.inr z) ∧ _
            unfold f_X4_readExpression_29
            rw [show (400 : Int32) = nI 400 from rfl, if_neg (nI_ge hk (by omega))]
            rcases i3 with ⟨j, L, r2, ep⟩ | ⟨g, t, r2, ep⟩
            · obtain ⟨q, hq⟩ : ∃ q, 400 - k = q + 1 := ⟨399 - k, by omega⟩
              have hkj := hkl j
              rw [if_pos r2.1, r2.2.2.1, joins_ok (by omega) (by omega), bind_s]
              dsimp only
              rw [hq] at ep
              unfold pLp at ep
              by_cases hj : joins lv (tk By n j) = true
              · left
                rw [if_pos hj] at ep
                rw [b1_1 hj, if_neg (by decide), r2.2.2.1, nmI_e, bind_s, nI_1]
                have hb2 : 2 ≤ tk By n j := by
                  unfold joins at hj
                  split at hj
                  · have := of_decide_eq_true hj; omega
                  · have := of_decide_eq_true hj; omega
                obtain ⟨t1, t2, t3⟩ := x_take_t he r2 (w := tk By n j) hb2 (by omega)
                by_cases h4 : j < 400
                · obtain ⟨m3, e3, r3, f3⟩ := t1 rfl h4
                  have ff3 : Fr (SXe e c) m m3 := i2.tr (f3.mono (fun k j z => by omega))
                  rw [e3, bind_s]
                  dsimp only
                  rw [if_pos h4] at ep
                  have o4 := ih (lv + 1) d (j + 1) (Cd ++ L) m3 (by rw [List.length_append]; omega) (by omega) hd (by unfold Nd at hf ⊢; omega) r3
                  cases hr2 : pX (tk By n) (vI By n) f (lv + 1) d (j + 1) with
                  | inr x =>
                    rw [hr2] at o4 ep
                    obtain ⟨m4, e4, r4, f4⟩ := o4.2 x.1 x.2 rfl
                    rw [e4, bind_s, xf_emit r4.ne, bind_s, nmI_e, bind_s, nI_1]
                    exact ⟨_, rfl, rfl, ff3.tr f4, Or.inr ⟨_, _, r4, ep⟩⟩
                  | inl z2 =>
                    rw [hr2] at o4 ep
                    obtain ⟨m4, e4, r4, f4⟩ := o4.1 z2.1 z2.2 rfl
                    have g2 := pX_good hKV f (lv + 1) d (j + 1) z2.1 z2.2 (by omega) hd hr2
                    have l1 := r2.2.2.2.2.1
                    have l3 := g2.2.2.1
                    rw [List.length_append] at l1
                    obtain ⟨m5, e5, r5, f5⟩ := x_emit (a := tk By n j) (b := 0) he r4 (by rw [List.length_append, List.length_append]; omega) (by omega) (by omega)
                    rw [e4, bind_s, lit_0, e5, bind_s, nmI_e, bind_s, nI_1]
                    rw [List.append_assoc, List.append_assoc, ← List.append_assoc L] at r5
                    refine ⟨_, rfl, rfl, (ff3.tr f4).tr (f5.mono (fun k j z => by simp only [List.length_append] at z; omega)), Or.inl ⟨_, _, r5, ?_⟩⟩
                    rw [ep, show 400 - (k + 1) = q by omega]
                · obtain ⟨m3, e3, r3, f3⟩ := t2 rfl h4
                  rw [if_neg h4] at ep
                  rw [e3, bind_s]
                  dsimp only
                  rw [ef, xf_expr r3.ne, bind_s, xf_emit r3.ne, bind_s, nmI_e, bind_s, nI_1]
                  exact ⟨_, rfl, rfl, i2.tr f3, Or.inr ⟨_, _, r3, ep⟩⟩
              · right
                rw [if_neg hj] at ep
                rw [b1_f (Bool.eq_false_iff.mpr hj), if_pos rfl]
                refine ⟨_, rfl, ?_⟩
                rw [ep]
                exact XOut.ok rfl r2 i2
            · right
              rw [if_neg r2.ne]
              refine ⟨_, rfl, ?_⟩
              rw [ep]
              exact XOut.no rfl r2 i2
          · rintro ⟨x, m2⟩ ⟨i1, i2, i3⟩
            dsimp only at i1 i2 i3
            subst i1
            show ∃ z, f_X4_readExpression_29 (F_X4_readExpression f) e (nI lv) (nI d) (nI 400) m2 = some (Sum.inr z) ∧ _
            unfold f_X4_readExpression_29
            rw [show (400 : Int32) = nI 400 from rfl, if_pos (nI_le (Nat.le_refl _) (by omega))]
            refine ⟨_, rfl, ?_⟩
            rcases i3 with ⟨j, L, r2, ep⟩ | ⟨g, t, r2, ep⟩
            · rw [ep, Nat.sub_self]
              exact XOut.ok rfl r2 i2
            · rw [ep]
              exact XOut.no rfl r2 i2
        obtain ⟨z, e2, o2⟩ := key
        rw [e2, bind_s]
        exact o2
end KH2
