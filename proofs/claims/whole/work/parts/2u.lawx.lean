/-! ===== the class reads a law's branches ===== -/
section KU
variable {m : M2} {e c : Nat} {By : Nat → Nat} {n : Nat}
theorem x_landOk {p k y : Nat} (hp : p < 400) (hk : k < 64) (hy : y < 2 ^ 20) (h : hI m (e + 2) p = nI (cwN (k, y))) : ∃ m', F_X4_land e (nI p) m = some m' ∧ (∀ j, j ∈ [p] → hI m' (e + 2) j = ((hI m e 4) <<< ((6 : Int32) &&& 31)) ||| nI k) ∧ Fr (fun x j => x = e + 2 ∧ j ∈ [p]) m m' := by
  unfold F_X4_land
  rw [if_neg (nI_m1 (by omega)), aI_n _ (e + 2) hp (by omega), bind_s, h, cw_and hy hk, bI_n _ (e + 2) _ hp (by omega), bind_s]
  refine ⟨_, rfl, fun j hj => ?_, Fr.rf.tI _ ⟨rfl, List.mem_singleton.mpr rfl⟩⟩
  rw [List.mem_singleton] at hj
  rw [hI_tI, if_pos ⟨rfl, hj⟩]
theorem mem1 {j p : Nat} (h : j ∈ [p]) : j = p := List.mem_singleton.mp h
theorem x_branches {i : Nat} {Cd : List Op} (he : tx e) (hcl : c ≤ Cd.length) (hCB : ∀ o, o ∈ Cd → OpB o) (hX : XRd m e By n i Cd) : ∃ m', loop (g_X4_readLaw_74 e) ((0 : Int32), m) = some m' ∧ Fr (SXe e c) m m' ∧ ((∃ j bs C, pBr (tk By n) (vI By n) 9 i [] = .inl (j, bs) ∧ XRd m' e By n j C ∧ Cd.length ≤ C.length ∧ (∀ q, q < Cd.length → C[q]? = Cd[q]?) ∧ (∀ o, o ∈ C → OpB o) ∧ SemB C Cd.length bs) ∨ (∃ f t, pBr (tk By n) (vI By n) 9 i [] = .inr (f, t) ∧ XFt m' By n f t)) := by
  have hte := te_le By n
  have hKV : ∀ i, tk By n i = 3 → vI By n i < 10000 := fun i hi => vI_lt hi
  have he' := he
  unfold tx at he'
  generalize hpz : pBr (tk By n) (vI By n) 9 i [] = PZ
  refine loop_ex 9 (fun k z => z.1 = nI k ∧ Fr (SXe e c) m z.2 ∧ ((∃ j bs C, k ≤ 8 ∧ PZ = pBr (tk By n) (vI By n) (9 - k) j bs ∧ XRd z.2 e By n j C ∧ Cd.length ≤ C.length ∧ (∀ q, q < Cd.length → C[q]? = Cd[q]?) ∧ (∀ o, o ∈ C → OpB o) ∧ SemB C Cd.length bs) ∨ (∃ f t, PZ = .inr (f, t) ∧ XFt z.2 By n f t))) _ (by omega) ?_ ?_ ⟨rfl, Fr.rf, Or.inl ⟨i, [], Cd, by omega, hpz.symm, hX, Nat.le_refl _, fun q _ => rfl, hCB, SemB.nil _⟩⟩
  · rintro k ⟨z1, m1⟩ hk ⟨i1, i2, i3⟩
    dsimp only at i1 i2 i3
    subst i1
    show (∃ s', f_X4_readLaw_74 e (nI k) m1 = some (Sum.inl s') ∧ _) ∨ ∃ z, f_X4_readLaw_74 e (nI k) m1 = some (Sum.inr z) ∧ _
    unfold f_X4_readLaw_74
    rw [lit_8, if_neg (fun z => absurd (nI_le (show k ≤ 8 by omega) (by omega)) (lt_nle z))]
    rcases i3 with ⟨j, bs, C, hk8, ep, r1, c1, c2, c3, c4⟩ | ⟨f, t, ep, r1⟩
    · have hkj := tk_lt (By := By) (n := n) j
      obtain ⟨q, hq⟩ : ∃ q, 9 - k = q + 1 := ⟨8 - k, by omega⟩
      rw [hq] at ep
      unfold pBr at ep
      rw [if_pos r1.1, r1.2.2.1]
      have lC := r1.2.2.2.2.1
      have hjt := r1.2.2.2.1
      by_cases k21 : tk By n j = 21
      · left
        rw [if_pos k21] at ep
        rw [if_pos (show nI (tk By n j) = 21 by rw [k21]; rfl)]
        have flt : ∀ (f t : Nat) (m9 : M2), PZ = .inr (f, t) → XFt m9 By n f t → Fr (SXe e c) m m9 → ∃ s', (some (Sum.inl (nI (k + 1), m9)) : Option ((Int32 × M2) ⊕ M2)) = some (Sum.inl s') ∧ s'.1 = nI (k + 1) ∧ Fr (SXe e c) m s'.2 ∧ ((∃ j bs C, k + 1 ≤ 8 ∧ PZ = pBr (tk By n) (vI By n) (9 - (k + 1)) j bs ∧ XRd s'.2 e By n j C ∧ Cd.length ≤ C.length ∧ (∀ q, q < Cd.length → C[q]? = Cd[q]?) ∧ (∀ o, o ∈ C → OpB o) ∧ SemB C Cd.length bs) ∨ (∃ f t, PZ = .inr (f, t) ∧ XFt s'.2 By n f t)) := fun f t m9 h1 h2 h3 => ⟨_, rfl, rfl, h3, Or.inr ⟨f, t, h1, h2⟩⟩
        by_cases k8 : k = 8
        · rw [if_pos (show q = 0 by omega)] at ep
          obtain ⟨m2, e2, r2, f2⟩ := x_failAt (c := c) he r1 (f := 2) (by omega)
          rw [if_pos (show nI k = nI 8 by rw [k8]), lit_2, e2, bind_s, xf_107 r2.ne]
          exact flt 2 j m2 ep r2 (i2.tr f2)
        · rw [if_neg (show ¬ q = 0 by omega)] at ep
          rw [if_neg (show ¬ nI k = nI 8 from eq_nI (by omega) (by omega) k8)]
          unfold f_X4_readLaw_107
          obtain ⟨t1, t2, t3⟩ := x_take_t (c := c) he r1 (w := 21) (by omega) (by omega)
          by_cases h4 : j < 400
          · rw [if_pos h4] at ep
            obtain ⟨m2, e2, r2, f2⟩ := t1 k21 h4
            have ff2 : Fr (SXe e c) m m2 := i2.tr (f2.mono (fun k j z => by omega))
            rw [show (21 : Int32) = nI 21 from rfl, e2, bind_s]
            dsimp only
            have o3 := x_cond (c := c) he (show c ≤ C.length by omega) c3 r2
            cases hc : pCn (tk By n) (vI By n) 401 (j + 1) true [] with
            | inr x =>
              rw [hc] at ep
              obtain ⟨m3, e3, r3, f3⟩ := o3.2 x.1 x.2 hc
              rw [e3, bind_s, xf_take r3.ne, bind_s]
              dsimp only
              rw [xf_emit r3.ne, bind_s]
              dsimp only
              rw [xf_expr r3.ne, bind_s, xf_take r3.ne, bind_s]
              dsimp only
              rw [xf_emit r3.ne, bind_s]
              unfold F_X4_land f_X4_land_37
              rw [if_pos rfl, bind_s, nmI_e, bind_s, nI_1]
              exact flt x.1 x.2 m3 ep r3 (ff2.tr f3)
            | inl z =>
              rw [hc] at ep
              dsimp only at ep
              obtain ⟨m3, C1, e3, r3, g1, g2, g3, g4, f3⟩ := o3.1 z.1 z.2 hc
              have ff3 := ff2.tr f3
              have lC1 := r3.2.2.2.2.1
              have hzt := r3.2.2.2.1
              have hkz := tk_lt (By := By) (n := n) z.1
              rw [e3, bind_s]
              obtain ⟨u1, u2, u3⟩ := x_take_t (c := c) he r3 (w := 22) (by omega) (by omega)
              have bad : ∀ (f : Nat) (m4 : M2), PZ = .inr (f, z.1) → F_X4_take e (nI 22) m3 = some (0, m4) → XFt m4 By n f z.1 → Fr (SXe e c) m3 m4 → ∃ s', ((F_X4_take e (22 : Int32) m3).bind (β := (Int32 × M2) ⊕ M2) fun c5 => (F_X4_emit e (nI 21) (0 : Int32) c5.2).bind fun c7 => (F_X4_readExpression 24 e (0 : Int32) (0 : Int32) c7.2).bind fun c9 => (F_X4_take e (23 : Int32) c9).bind fun c11 => (F_X4_emit e (23 : Int32) (0 : Int32) c11.2).bind fun c13 => (F_X4_land e c7.1 c13.2).bind fun c15 => (nmI (nI k + (1 : Int32))).bind fun v17 => some (Sum.inl (v17, c15))) = some (Sum.inl s') ∧ s'.1 = nI (k + 1) ∧ Fr (SXe e c) m s'.2 ∧ ((∃ j bs C, k + 1 ≤ 8 ∧ PZ = pBr (tk By n) (vI By n) (9 - (k + 1)) j bs ∧ XRd s'.2 e By n j C ∧ Cd.length ≤ C.length ∧ (∀ q, q < Cd.length → C[q]? = Cd[q]?) ∧ (∀ o, o ∈ C → OpB o) ∧ SemB C Cd.length bs) ∨ (∃ f t, PZ = .inr (f, t) ∧ XFt s'.2 By n f t)) := by
                intro f m4 hp e4 r4 f4
                rw [show (22 : Int32) = nI 22 from rfl, e4, bind_s]
                dsimp only
                rw [xf_emit r4.ne, bind_s]
                dsimp only
                rw [xf_expr r4.ne, bind_s, xf_take r4.ne, bind_s]
                dsimp only
                rw [xf_emit r4.ne, bind_s]
                unfold F_X4_land f_X4_land_37
                rw [if_pos rfl, bind_s, nmI_e, bind_s, nI_1]
                exact flt f z.1 m4 hp r4 (ff3.tr f4)
              by_cases k22 : tk By n z.1 = 22
              · rw [if_pos k22] at ep
                by_cases hz4 : z.1 < 400
                · rw [if_pos hz4] at ep
                  obtain ⟨m4, e4, r4, f4⟩ := u1 k22 hz4
                  have ff4 : Fr (SXe e c) m m4 := ff3.tr (f4.mono (fun k j z => by omega))
                  obtain ⟨m5, e5, r5, f5⟩ := x_emit (a := 21) (b := 0) he r4 (by omega) (by omega) (by omega)
                  have ff5 : Fr (SXe e c) m m5 := ff4.tr (f5.mono (fun k j z => by omega))
                  have l5 : (C1 ++ [((21, 0) : Op)]).length = C1.length + 1 := by rw [List.length_append, List.length_singleton]
                  rw [show (22 : Int32) = nI 22 from rfl, e4, bind_s]
                  dsimp only
                  rw [lit_0, e5, bind_s]
                  dsimp only
                  have o6 := x_expr (c := C1.length + 1) he 24 0 0 (z.1 + 1) (C1 ++ [(21, 0)]) m5 (by omega) (by omega) (by omega) (by unfold Nd; omega) r5
                  have dn : ∀ {m6 : M2}, Fr (SXe e (C1.length + 1)) m5 m6 → Fr (SXe e c) m m6 := fun hf => ff5.tr (hf.mono (fun k j z => by omega))
                  -- a fault behind the jump's word
                  have bad2 : ∀ (f t : Nat) (m6 : M2), PZ = .inr (f, t) → XFt m6 By n f t → Fr (SXe e c) m m6 → ∃ s', ((F_X4_emit e (23 : Int32) (nI 0) m6).bind (β := (Int32 × M2) ⊕ M2) fun c13 => (F_X4_land e (nI C1.length) c13.2).bind fun c15 => (nmI (nI k + (1 : Int32))).bind fun v17 => some (Sum.inl (v17, c15))) = some (Sum.inl s') ∧ s'.1 = nI (k + 1) ∧ Fr (SXe e c) m s'.2 ∧ ((∃ j bs C, k + 1 ≤ 8 ∧ PZ = pBr (tk By n) (vI By n) (9 - (k + 1)) j bs ∧ XRd s'.2 e By n j C ∧ Cd.length ≤ C.length ∧ (∀ q, q < Cd.length → C[q]? = Cd[q]?) ∧ (∀ o, o ∈ C → OpB o) ∧ SemB C Cd.length bs) ∨ (∃ f t, PZ = .inr (f, t) ∧ XFt s'.2 By n f t)) := by
                    intro f t m6 hp r6 f6
                    obtain ⟨m7, e7, f7⟩ := x_landF (m := m6) (e := e) (p := C1.length) (by omega)
                    rw [xf_emit r6.ne, bind_s]
                    dsimp only
                    rw [e7, bind_s, nmI_e, bind_s, nI_1]
                    exact flt f t m7 hp (r6.fr f7 (fun k j z => by omega)) (f6.tr (f7.mono (fun k j z => by omega)))
                  cases hx : pX (tk By n) (vI By n) 24 0 0 (z.1 + 1) with
                  | inr x =>
                    rw [hx] at ep o6
                    obtain ⟨m6, e6, r6, f6⟩ := o6.2 x.1 x.2 rfl
                    rw [e6, bind_s, xf_take r6.ne, bind_s]
                    exact bad2 x.1 x.2 m6 ep r6 (dn f6)
                  | inl y =>
                    rw [hx] at ep o6
                    dsimp only at ep
                    obtain ⟨m6, e6, r6, f6⟩ := o6.1 y.1 y.2 rfl
                    have gy := pX_good hKV 24 0 0 (z.1 + 1) y.1 y.2 (by omega) (by omega) hx
                    have ly := gy.2.2.1
                    have hyt := r6.2.2.2.1
                    have hky := tk_lt (By := By) (n := n) y.1
                    rw [e6, bind_s]
                    obtain ⟨w1, w2, w3⟩ := x_take_t (c := c) he r6 (w := 23) (by omega) (by omega)
                    by_cases k23 : tk By n y.1 = 23
                    · rw [if_pos k23] at ep
                      by_cases hy4 : y.1 < 400
                      · rw [if_pos hy4] at ep
                        obtain ⟨m7, e7, r7, f7⟩ := w1 k23 hy4
                        have l7 : (C1 ++ [((21, 0) : Op)] ++ y.2).length = C1.length + 1 + y.2.length := by rw [List.length_append, l5]
                        obtain ⟨m8, e8, r8, f8⟩ := x_emit (a := 23) (b := 0) he r7 (by omega) (by omega) (by omega)
                        have l8 : (C1 ++ [((21, 0) : Op)] ++ y.2 ++ [(23, 0)]).length = C1.length + 1 + y.2.length + 1 := by rw [List.length_append, l7, List.length_singleton]
                        have hw8 : hI m8 (e + 2) C1.length = nI (cwN (21, 0)) := r8.2.2.2.2.2.1.2 C1.length (21, 0) (by
                          rw [List.append_assoc, List.append_assoc, List.getElem?_append_right (Nat.le_refl _), Nat.sub_self]
                          rfl)
                        obtain ⟨m9, e9, a9, f9⟩ := x_landOk (k := 21) (y := 0) (p := C1.length) (by omega) (by omega) (by omega) hw8
                        have r9 := r8.land (k := 21) (by omega) he (fun j hj => by rw [mem1 hj, l8]; omega) a9 f9
                        rw [l8] at r9
                        rw [show (23 : Int32) = nI 23 from rfl, e7, bind_s]
                        dsimp only
                        rw [e8, bind_s]
                        dsimp only
                        rw [e9, bind_s, nmI_e, bind_s, nI_1]
                        have lp := ptc_len 21 (C1.length + 1 + y.2.length + 1) [C1.length] (C1 ++ [((21, 0) : Op)] ++ y.2 ++ [(23, 0)])
                        rw [l8] at lp
                        have ln : ∀ x, ¬ x = C1.length → (ptc 21 (C1.length + 1 + y.2.length + 1) (C1 ++ [((21, 0) : Op)] ++ y.2 ++ [(23, 0)]) [C1.length])[x]? = (C1 ++ [((21, 0) : Op)] ++ y.2 ++ [(23, 0)])[x]? := fun x hx => ptc_n _ _ _ _ _ (fun z => hx (mem1 z))
                        have lpre : ∀ x, x < C1.length → (ptc 21 (C1.length + 1 + y.2.length + 1) (C1 ++ [((21, 0) : Op)] ++ y.2 ++ [(23, 0)]) [C1.length])[x]? = C1[x]? := fun x hx => by
                          rw [ln x (by omega), List.append_assoc, List.append_assoc, List.getElem?_append_left hx]
                        refine ⟨_, rfl, rfl, (((dn f6).tr (f7.mono (fun k j z => by omega))).tr (f8.mono (fun k j z => by omega))).tr (f9.mono (fun k j z => Or.inr (Or.inr ⟨z.1, by rw [mem1 z.2]; omega⟩))), Or.inl ⟨y.1 + 1, bs ++ [(z.2, y.2)], _, by omega, by rw [ep, show 9 - (k + 1) = q by omega], r9, by rw [lp]; omega, fun x hx => ?_, fun x hx => ?_, ?_⟩⟩
                        · rw [lpre x (by omega), g2 x (by omega)]
                          exact c2 x hx
                        · rcases ptc_m _ _ _ _ _ hx with hx | hx
                          · rw [List.mem_append, List.mem_append, List.mem_append, List.mem_singleton, List.mem_singleton] at hx
                            rcases hx with ((hx | hx) | hx) | hx
                            · exact g3 x hx
                            · rw [hx]; unfold OpB; dsimp only; omega
                            · exact (gy.2.2.2.2.2.2 x hx).b
                            · rw [hx]; unfold OpB; dsimp only; omega
                          · rw [hx]; unfold OpB; dsimp only; omega
                        · refine c4.step c1 g1 g2 g4 gy (by rw [lp]; omega) lpre ?_ (fun x hx => ?_)
                          · rw [lp]
                            exact ptc_y _ _ _ _ _ (List.mem_singleton.mpr rfl) (by rw [l8]; omega)
                          · rw [ln _ (by omega), show C1 ++ [((21, 0) : Op)] ++ y.2 ++ [(23, 0)] = (C1 ++ [((21, 0) : Op)]) ++ (y.2 ++ [(23, 0)]) by rw [List.append_assoc (C1 ++ [((21, 0) : Op)])], List.getElem?_append_right (by rw [l5]; omega), l5, Nat.add_sub_cancel_left]
                      · rw [if_neg hy4] at ep
                        obtain ⟨m7, e7, r7, f7⟩ := w2 k23 hy4
                        rw [show F_X4_take e 23 m6 = F_X4_take e (nI 23) m6 from rfl, e7, bind_s]
                        exact bad2 2 y.1 m7 ep r7 ((dn f6).tr f7)
                    · rw [if_neg k23] at ep
                      obtain ⟨m7, e7, r7, f7⟩ := w3 k23
                      rw [show F_X4_take e 23 m6 = F_X4_take e (nI 23) m6 from rfl, e7, bind_s]
                      exact bad2 1 y.1 m7 ep r7 ((dn f6).tr f7)
                · rw [if_neg hz4] at ep
                  obtain ⟨m4, e4, r4, f4⟩ := u2 k22 hz4
                  exact bad 2 m4 ep e4 r4 f4
              · rw [if_neg k22] at ep
                obtain ⟨m4, e4, r4, f4⟩ := u3 k22
                exact bad 1 m4 ep e4 r4 f4
          · rw [if_neg h4] at ep
            obtain ⟨m2, e2, r2, f2⟩ := t2 k21 h4
            have q := xf_107 (e := e) (k := k) r2.ne
            unfold f_X4_readLaw_107 at q
            rw [xf_take r2.ne, bind_s] at q
            dsimp only at q
            rw [show F_X4_take e 21 m1 = F_X4_take e (nI 21) m1 from rfl, e2, bind_s]
            dsimp only
            rw [q]
            exact flt 2 j m2 ep r2 (i2.tr f2)
      · right
        rw [if_neg k21] at ep
        rw [if_neg (show ¬ nI (tk By n j) = 21 from eq_nI (d := 21) (by omega) (by omega) k21)]
        exact ⟨_, rfl, i2, Or.inl ⟨j, bs, C, ep, r1, c1, c2, c3, c4⟩⟩
    · right
      rw [if_neg r1.ne]
      exact ⟨_, rfl, i2, Or.inr ⟨f, t, ep, r1⟩⟩
  · rintro ⟨z1, m1⟩ ⟨i1, i2, i3⟩
    dsimp only at i1 i2 i3
    subst i1
    show ∃ z, f_X4_readLaw_74 e (nI 9) m1 = some (Sum.inr z) ∧ _
    unfold f_X4_readLaw_74
    rw [lit_8, if_pos (nI_lt (by omega) (by omega))]
    refine ⟨_, rfl, i2, ?_⟩
    rcases i3 with ⟨j, bs, C, hk8, ep, r1, c1, c2, c3, c4⟩ | ⟨f, t, ep, r1⟩
    · omega
    · exact Or.inr ⟨f, t, ep, r1⟩
end KU
