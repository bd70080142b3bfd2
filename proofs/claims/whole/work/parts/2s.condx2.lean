/-! ===== the class reads conditions ===== -/
def pCt (K V : Nat → Nat) (f j : Nat) (ls : List Lit) : (Nat × List Lit) ⊕ (Nat × Nat) := if K j = 24 ∨ K j = 25 then (if j < 400 then pCn K V f (j + 1) (decide (K j = 24)) ls else .inr (2, j)) else .inl (j, ls)
theorem pCn_s (K V : Nat → Nat) (f i : Nat) (o : Bool) (ls : List Lit) : pCn K V (f + 1) i o ls = (match pRl K V i with
    | .inr e => .inr e
    | .inl z => pCt K V f z.1 (ls ++ [(o, z.2)])) := rfl
theorem OpK.b {o : Op} (h : OpK o) : OpB o := by
  unfold OpK isBn at h
  unfold OpB
  omega
theorem RlO.b {r : Rel} (h : RlO r) : ∀ o, o ∈ rC r → OpB o := by
  obtain ⟨hk, ⟨_, _, _, _, g1⟩, ⟨_, _, _, _, g2⟩⟩ := h
  intro o ho
  unfold rC at ho
  rw [List.mem_append, List.mem_append, List.mem_append, List.mem_singleton] at ho
  rcases ho with ((ho | ho) | ho) | ho
  · exact (g1.2.2.2.2.2.2 o ho).b
  · exact (g2.2.2.2.2.2.2 o ho).b
  · rw [ho]; unfold OpB; dsimp only; omega
  · split at ho
    · rw [List.mem_singleton] at ho
      rw [ho]; unfold OpB; dsimp only; omega
    · cases ho
theorem ptc_m (k t : Nat) : ∀ (ps : List Nat) (C : List Op) (o : Op), o ∈ ptc k t C ps → o ∈ C ∨ o = (k, t)
  | [], _, _, h => Or.inl h
  | p :: ps, C, o, h => by
    rcases ptc_m k t ps (C.set p (k, t)) o h with z | z
    · rcases List.mem_or_eq_of_mem_set z with y | y
      · exact Or.inl y
      · exact Or.inr y
    · exact Or.inr z
section KS
variable {m : M2} {e c : Nat} {By : Nat → Nat} {n : Nat}
theorem hd_lnk (ps : List Nat) : hdI ps + (1 : Int32) = nI (lnk ps) := by
  cases ps with
  | nil => rfl
  | cons p ps => exact nI_1 p
theorem XRd.land {i k : Nat} {C : List Op} {ps : List Nat} {m' : M2} (hk : k < 64) (he : tx e) (h : XRd m e By n i C) (hp : ∀ j, j ∈ ps → j < C.length) (h1 : ∀ j, j ∈ ps → hI m' (e + 2) j = ((hI m e 4) <<< ((6 : Int32) &&& 31)) ||| nI k) (hf : Fr (fun x j => x = e + 2 ∧ j ∈ ps) m m') : XRd m' e By n i (ptc k C.length C ps) := by
  obtain ⟨a1, a2, a3, a4, a5, a6, a7, a8⟩ := h
  have hte := te_le By n
  unfold tx at he
  refine ⟨by rw [hf.I _ _ (by omega)]; exact a1, by rw [hf.I _ _ (by omega)]; exact a2, by rw [hf.I _ _ (by omega)]; exact a3, a4, by rw [ptc_len]; exact a5, ⟨by rw [ptc_len, hf.I _ _ (by omega)]; exact a6.1, fun j o ho => ?_⟩, a7.fr hf (fun k j z => by omega), (hf.I _ _ (by omega)).trans a8⟩
  by_cases q : j ∈ ps
  · rw [ptc_y _ _ _ _ _ q (hp j q)] at ho
    cases ho
    rw [h1 j q, a6.1, cw_ok (by omega) hk]
  · rw [ptc_n _ _ _ _ _ q] at ho
    rw [hf.I _ _ (fun z => q z.2)]
    exact a6.2 j o ho
theorem ChM.of {k : Nat} : ∀ {ps : List Nat}, (∀ j, j ∈ ps → True) → ChM m e k ps → ChM m e k ps
  | _, _, h => h
theorem x_cond {i : Nat} {Cd : List Op} (he : tx e) (hcl : c ≤ Cd.length) (hCB : ∀ o, o ∈ Cd → OpB o) (hX : XRd m e By n i Cd) : (∀ j ls, pCn (tk By n) (vI By n) 401 i true [] = .inl (j, ls) → ∃ m' C', F_X4_readCondition e m = some m' ∧ XRd m' e By n j C' ∧ Cd.length ≤ C'.length ∧ (∀ q, q < Cd.length → C'[q]? = Cd[q]?) ∧ (∀ o, o ∈ C' → OpB o) ∧ SemE C' Cd.length (fun P v => cF P v (some 0) ls) ∧ Fr (SXe e c) m m') ∧ (∀ f t, pCn (tk By n) (vI By n) 401 i true [] = .inr (f, t) → ∃ m', F_X4_readCondition e m = some m' ∧ XFt m' By n f t ∧ Fr (SXe e c) m m') := by
  have hte := te_le By n
  have hKV : ∀ i, tk By n i = 3 → vI By n i < 10000 := fun i hi => vI_lt hi
  have he' := he
  unfold tx at he'
  unfold F_X4_readCondition
  generalize hpz : pCn (tk By n) (vI By n) 401 i true [] = PZ
  rw [pCn_s] at hpz
  have o1 := x_rel (c := c) he hcl hX
  -- from the first relation on
  have start : ∃ m1, F_X4_readRelation e m = some m1 ∧ Fr (SXe e c) m m1 ∧ ((∃ j ls C, PZ = pCt (tk By n) (vI By n) 400 j ls ∧ 2 ≤ j ∧ XRd m1 e By n j C ∧ Cd.length ≤ C.length ∧ (∀ q, q < Cd.length → C[q]? = Cd[q]?) ∧ (∀ o, o ∈ C → OpB o) ∧ SemC C Cd.length [] [] (fun P v => cF P v (some 0) ls) ∧ (∀ P v s, cF P v (some 0) ls = some s → s ≤ 3)) ∨ (∃ f t, PZ = .inr (f, t) ∧ XFt m1 By n f t)) := by
    cases hr : pRl (tk By n) (vI By n) i with
    | inr x =>
      rw [hr] at hpz
      obtain ⟨m1, e1, r1, f1⟩ := o1.2 x.1 x.2 hr
      exact ⟨m1, e1, f1, Or.inr ⟨x.1, x.2, hpz.symm, r1⟩⟩
    | inl z =>
      rw [hr] at hpz
      obtain ⟨m1, e1, r1, f1⟩ := o1.1 z.1 z.2 hr
      have g := pRl_good hKV hr
      refine ⟨m1, e1, f1, Or.inl ⟨z.1, [(true, z.2)], Cd ++ rC z.2, hpz.symm, by omega, r1, by rw [List.length_append]; omega, fun q hq => List.getElem?_append_left hq, fun o ho => ?_, ?_, ?_⟩⟩
      · rw [List.mem_append] at ho
        rcases ho with ho | ho
        · exact hCB o ho
        · exact g.1.b o ho
      · exact SemC.first g.1
      · intro P v s hs
        exact cs_le (s := 0) (by omega) (show cs P v 0 (true, z.2) = some s from by
          have : cF P v (some 0) [(true, z.2)] = cs P v 0 (true, z.2) := by
            show cF P v (cs P v 0 (true, z.2)) [] = _
            cases cs P v 0 (true, z.2) <;> rfl
          rw [← this]; exact hs)
  obtain ⟨m1, e1, ff1, r⟩ := start
  rw [e1, bind_s]
  have key : ∃ z, loop (g_X4_readCondition_10 e) ((-1 : Int32), (-1 : Int32), (0 : Int32), m1) = some z ∧ Fr (SXe e c) m z.2.2 ∧ ((∃ j ls C ps qs, PZ = .inl (j, ls) ∧ z.1 = hdI ps ∧ z.2.1 = hdI qs ∧ XRd z.2.2 e By n j C ∧ Cd.length ≤ C.length ∧ (∀ q, q < Cd.length → C[q]? = Cd[q]?) ∧ (∀ o, o ∈ C → OpB o) ∧ SemC C Cd.length ps qs (fun P v => cF P v (some 0) ls) ∧ (∀ P v s, cF P v (some 0) ls = some s → s ≤ 3) ∧ ChM z.2.2 e 25 ps ∧ ChM z.2.2 e 24 qs ∧ (∀ p, p ∈ ps → Cd.length ≤ p ∧ p < C.length ∧ ¬ p ∈ qs) ∧ (∀ q, q ∈ qs → Cd.length ≤ q ∧ q < C.length)) ∨ (∃ f t ps qs, PZ = .inr (f, t) ∧ XFt z.2.2 By n f t ∧ z.1 = hdI ps ∧ z.2.1 = hdI qs ∧ ChM z.2.2 e 25 ps ∧ ChM z.2.2 e 24 qs ∧ (∀ p, p ∈ ps → Cd.length ≤ p ∧ ¬ p ∈ qs) ∧ (∀ q, q ∈ qs → Cd.length ≤ q))) := by
    refine loop_ex 400 (fun k z => z.2.2.1 = nI k ∧ Fr (SXe e c) m z.2.2.2 ∧ ((∃ j ls C ps qs, PZ = pCt (tk By n) (vI By n) (400 - k) j ls ∧ 2 + k ≤ j ∧ z.1 = hdI ps ∧ z.2.1 = hdI qs ∧ XRd z.2.2.2 e By n j C ∧ Cd.length ≤ C.length ∧ (∀ q, q < Cd.length → C[q]? = Cd[q]?) ∧ (∀ o, o ∈ C → OpB o) ∧ SemC C Cd.length ps qs (fun P v => cF P v (some 0) ls) ∧ (∀ P v s, cF P v (some 0) ls = some s → s ≤ 3) ∧ ChM z.2.2.2 e 25 ps ∧ ChM z.2.2.2 e 24 qs ∧ (∀ p, p ∈ ps → Cd.length ≤ p ∧ p < C.length ∧ ¬ p ∈ qs) ∧ (∀ q, q ∈ qs → Cd.length ≤ q ∧ q < C.length)) ∨ (∃ f t ps qs, PZ = .inr (f, t) ∧ XFt z.2.2.2 By n f t ∧ z.1 = hdI ps ∧ z.2.1 = hdI qs ∧ ChM z.2.2.2 e 25 ps ∧ ChM z.2.2.2 e 24 qs ∧ (∀ p, p ∈ ps → Cd.length ≤ p ∧ ¬ p ∈ qs) ∧ (∀ q, q ∈ qs → Cd.length ≤ q)))) _ (by omega) ?_ ?_ ⟨rfl, ff1, ?_⟩
    · clear r
      rintro k ⟨z1, z2, z3, m2⟩ hk ⟨i1, i2, i3⟩
      dsimp only at i1 i2 i3
      subst i1
      show (∃ s', f_X4_readCondition_10 e z1 z2 (nI k) m2 = some (Sum.inl s') ∧ _) ∨ ∃ z, f_X4_readCondition_10 e z1 z2 (nI k) m2 = some (Sum.inr z) ∧ _
      unfold f_X4_readCondition_10
      rw [show (400 : Int32) = nI 400 from rfl, if_neg (nI_ge hk (by omega))]
      rcases i3 with ⟨j, ls, C, ps, qs, ep, hj, rfl, rfl, r1, c1, c2, c3, c4, c5, c6, c7, c8, c9⟩ | ⟨f, t, ps, qs, ep, r1, rfl, rfl, c6, c7, c8, c9⟩
      · have hkj := tk_lt (By := By) (n := n) j
        obtain ⟨q, hq⟩ : ∃ q, 400 - k = q + 1 := ⟨399 - k, by omega⟩
        rw [hq] at ep
        unfold pCt at ep
        rw [if_pos r1.1, r1.2.2.1]
        have lC := r1.2.2.2.2.1
        have hjt := r1.2.2.2.1
        -- behind the jump's word: a relation
        have rel : ∀ (o : Bool) (C1 : List Op) (ps1 qs1 : List Nat) (m3 : M2), C1.length = C.length + 1 → PZ = pCn (tk By n) (vI By n) (q + 1) (j + 1) o ls → XRd m3 e By n (j + 1) C1 → Fr (SXe e c) m m3 → (∀ q, q < Cd.length → C1[q]? = Cd[q]?) → (∀ o, o ∈ C1 → OpB o) → ChM m3 e 25 ps1 → ChM m3 e 24 qs1 → (∀ p, p ∈ ps1 → Cd.length ≤ p ∧ p < C1.length ∧ ¬ p ∈ qs1) → (∀ q, q ∈ qs1 → Cd.length ≤ q ∧ q < C1.length) → (∀ r, RlO r → SemC (C1 ++ rC r) Cd.length ps1 qs1 (fun P v => (cF P v (some 0) ls).bind (fun s => cs P v s (o, r)))) → ∃ s', f_X4_readCondition_95 e (hdI ps1) (hdI qs1) (nI k) m3 = some (Sum.inl s') ∧ s'.2.2.1 = nI (k + 1) ∧ Fr (SXe e c) m s'.2.2.2 ∧ ((∃ j ls C ps qs, PZ = pCt (tk By n) (vI By n) (400 - (k + 1)) j ls ∧ 2 + (k + 1) ≤ j ∧ s'.1 = hdI ps ∧ s'.2.1 = hdI qs ∧ XRd s'.2.2.2 e By n j C ∧ Cd.length ≤ C.length ∧ (∀ q, q < Cd.length → C[q]? = Cd[q]?) ∧ (∀ o, o ∈ C → OpB o) ∧ SemC C Cd.length ps qs (fun P v => cF P v (some 0) ls) ∧ (∀ P v s, cF P v (some 0) ls = some s → s ≤ 3) ∧ ChM s'.2.2.2 e 25 ps ∧ ChM s'.2.2.2 e 24 qs ∧ (∀ p, p ∈ ps → Cd.length ≤ p ∧ p < C.length ∧ ¬ p ∈ qs) ∧ (∀ q, q ∈ qs → Cd.length ≤ q ∧ q < C.length)) ∨ (∃ f t ps qs, PZ = .inr (f, t) ∧ XFt s'.2.2.2 By n f t ∧ s'.1 = hdI ps ∧ s'.2.1 = hdI qs ∧ ChM s'.2.2.2 e 25 ps ∧ ChM s'.2.2.2 e 24 qs ∧ (∀ p, p ∈ ps → Cd.length ≤ p ∧ ¬ p ∈ qs) ∧ (∀ q, q ∈ qs → Cd.length ≤ q))) := by
          intro o C1 ps1 qs1 m3 hlen ez r3 ff3 d2 d3 d6 d7 d8 d9 sem
          have o4 := x_rel (c := C1.length) he (Nat.le_refl _) r3
          have frc : ∀ {m4 : M2}, Fr (SXe e C1.length) m3 m4 → Fr (SXe e c) m m4 := fun hf => ff3.tr (hf.mono (fun k j z => by omega))
          unfold f_X4_readCondition_95
          rw [pCn_s] at ez
          cases hr : pRl (tk By n) (vI By n) (j + 1) with
          | inr x =>
            rw [hr] at ez
            obtain ⟨m4, e4, r4, f4⟩ := o4.2 x.1 x.2 hr
            rw [e4, bind_s, nmI_e, bind_s, nI_1]
            exact ⟨_, rfl, rfl, frc f4, Or.inr ⟨x.1, x.2, ps1, qs1, ez, r4, rfl, rfl, d6.fr f4 (fun j hj => by have := (d8 j hj).2.1; omega), d7.fr f4 (fun j hj => by have := (d9 j hj).2; omega), fun p hp => ⟨(d8 p hp).1, (d8 p hp).2.2⟩, fun q hq => (d9 q hq).1⟩⟩
          | inl z =>
            rw [hr] at ez
            obtain ⟨m4, e4, r4, f4⟩ := o4.1 z.1 z.2 hr
            have g := pRl_good hKV hr
            rw [e4, bind_s, nmI_e, bind_s, nI_1]
            refine ⟨_, rfl, rfl, frc f4, Or.inl ⟨z.1, ls ++ [(o, z.2)], C1 ++ rC z.2, ps1, qs1, by rw [ez, show 400 - (k + 1) = q by omega], by omega, rfl, rfl, r4, by rw [List.length_append]; omega, fun x hx => by rw [List.getElem?_append_left (by omega)]; exact d2 x hx, fun x hx => ?_, ?_, ?_, d6.fr f4 (fun j hj => by have := (d8 j hj).2.1; omega), d7.fr f4 (fun j hj => by have := (d9 j hj).2; omega), fun p hp => ⟨(d8 p hp).1, by rw [List.length_append]; have := (d8 p hp).2.1; omega, (d8 p hp).2.2⟩, fun q hq => ⟨(d9 q hq).1, by rw [List.length_append]; have := (d9 q hq).2; omega⟩⟩⟩
            · rw [List.mem_append] at hx
              rcases hx with hx | hx
              · exact d3 x hx
              · exact g.1.b x hx
            · have := sem z.2 g.1
              intro D tA tB hD P v st hst
              dsimp only
              rw [cF_app]
              exact this D tA tB hD P v st hst
            · intro P v s hs
              rw [cF_app] at hs
              cases hc : cF P v (some 0) ls with
              | none => rw [hc] at hs; cases hs
              | some s0 =>
                rw [hc] at hs
                exact cs_le (c5 P v s0 hc) hs
        by_cases k25 : tk By n j = 25
        · left
          rw [if_pos (show nI (tk By n j) = 25 by rw [k25]; rfl)]
          rw [if_pos (Or.inr k25)] at ep
          unfold f_X4_readCondition_42
          rw [r1.2.2.1, if_pos (show nI (tk By n j) = 25 by rw [k25]; rfl)]
          obtain ⟨t1, t2, t3⟩ := x_take_t (c := c) he r1 (w := 25) (by omega) (by omega)
          by_cases h4 : j < 400
          · rw [if_pos h4, decide_eq_false (show ¬ tk By n j = 24 by omega)] at ep
            obtain ⟨m3, e3, r3, f3⟩ := t1 k25 h4
            have hlk : lnk ps < 2 ^ 20 := by
              cases ps with
              | nil => show 0 < _; omega
              | cons p r => have := c6.1.1; show p + 1 < _; omega
            obtain ⟨m4, e4, r4, f4⟩ := x_emit (a := 25) (b := lnk ps) he r3 (by omega) (by omega) (by omega)
            rw [show (25 : Int32) = nI 25 from rfl, e3, bind_s]
            dsimp only
            rw [hd_lnk, e4, bind_s]
            dsimp only
            have c6' : ChM m4 e 25 (C.length :: ps) := ⟨⟨by omega, r4.2.2.2.2.2.1.2 C.length (25, lnk ps) (by rw [List.getElem?_append_right (Nat.le_refl _), Nat.sub_self]; rfl), fun q hq => (c8 q hq).2.1⟩, (c6.fr f3 (fun j hj => by omega)).fr f4 (fun j hj => by have := (c8 j hj).2.1; omega)⟩
            refine rel false (C ++ [(25, lnk ps)]) (C.length :: ps) qs m4 (by rw [List.length_append, List.length_singleton]) ep r4 ((i2.tr (f3.mono (fun k j z => by omega))).tr (f4.mono (fun k j z => by omega))) (fun x hx => by rw [List.getElem?_append_left (by omega)]; exact c2 x hx) (fun x hx => ?_) c6' ((c7.fr f3 (fun j hj => by omega)).fr f4 (fun j hj => by have := (c9 j hj).2; omega)) (fun p hp => ?_) (fun x hx => ⟨(c9 x hx).1, by rw [List.length_append]; have := (c9 x hx).2; omega⟩) (fun r hr => ?_)
            · rw [List.mem_append, List.mem_singleton] at hx
              rcases hx with hx | hx
              · exact c3 x hx
              · rw [hx]; unfold OpB; dsimp only; omega
            · rw [List.mem_cons] at hp
              rw [List.length_append, List.length_singleton]
              rcases hp with hp | hp
              · rw [hp]
                exact ⟨c1, by omega, fun z => by have := (c9 _ z).2; omega⟩
              · exact ⟨(c8 p hp).1, by have := (c8 p hp).2.1; omega, (c8 p hp).2.2⟩
            · exact c4.and c1 c5 (fun p hp => (c8 p hp).2.1) (fun x hx => (c9 x hx).2) hr
          · rw [if_neg h4] at ep
            obtain ⟨m3, e3, r3, f3⟩ := t2 k25 h4
            rw [show (25 : Int32) = nI 25 from rfl, e3, bind_s]
            dsimp only
            rw [xf_emit r3.ne, bind_s]
            unfold f_X4_readCondition_95
            dsimp only
            rw [xf_rel r3.ne, bind_s, nmI_e, bind_s, nI_1]
            exact ⟨_, rfl, rfl, i2.tr f3, Or.inr ⟨2, j, [], qs, ep, r3, rfl, rfl, trivial, c7.fr (S := fun k j => (k = 14 ∧ (j = 1 ∨ j = 2 ∨ j = 4 ∨ j = 5)) ∨ (k = e ∧ j = 4) ∨ (k = e + 2 ∧ 400 ≤ j)) (by
              obtain ⟨m3', e3', _, f3'⟩ := (x_take_t (c := 400) he r1 (w := 25) (by omega) (by omega)).2.1 k25 h4
              rw [e3] at e3'
              cases e3'
              exact f3') (fun j hj => by have := c7.lt j hj; omega), fun p hp => (by cases hp), fun x hx => (c9 x hx).1⟩⟩
        · rw [if_neg (show ¬ nI (tk By n j) = 25 from eq_nI (d := 25) (by omega) (by omega) k25)]
          by_cases k24 : tk By n j = 24
          · left
            rw [if_pos (show nI (tk By n j) = 24 by rw [k24]; rfl)]
            rw [if_pos (Or.inl k24)] at ep
            unfold f_X4_readCondition_42
            rw [r1.2.2.1, if_neg (show ¬ nI (tk By n j) = 25 from eq_nI (d := 25) (by omega) (by omega) k25)]
            obtain ⟨t1, t2, t3⟩ := x_take_t (c := 400) he r1 (w := 24) (by omega) (by omega)
            by_cases h4 : j < 400
            · rw [if_pos h4, decide_eq_true k24] at ep
              obtain ⟨m3, e3, r3, f3⟩ := t1 k24 h4
              obtain ⟨m4, e4, a4, f4⟩ := x_landChain (k := 25) (by omega) he (c6.fr f3 (fun j hj => by omega))
              have r4 := r3.land (k := 25) (by omega) he (fun j hj => (c8 j hj).2.1) a4 f4
              have hlk : lnk qs < 2 ^ 20 := by
                cases qs with
                | nil => show 0 < _; omega
                | cons p r => have := c7.1.1; show p + 1 < _; omega
              have lp : (ptc 25 C.length C ps).length = C.length := ptc_len _ _ _ _
              obtain ⟨m5, e5, r5, f5⟩ := x_emit (a := 24) (b := lnk qs) he r4 (by rw [lp]; omega) (by omega) (by omega)
              rw [show (24 : Int32) = nI 24 from rfl, e3, bind_s]
              dsimp only
              rw [e4, bind_s, hd_lnk, e5, bind_s]
              dsimp only
              rw [lp] at f5 ⊢
              have c7' : ChM m5 e 24 (C.length :: qs) := ⟨⟨by omega, r5.2.2.2.2.2.1.2 C.length (24, lnk qs) (by rw [List.getElem?_append_right (by omega), lp, Nat.sub_self]; rfl), fun q hq => (c9 q hq).2⟩, ((c7.fr f3 (fun j hj => by omega)).fr f4 (fun j hj z => (c8 j z.2).2.2 hj)).fr f5 (fun j hj => by have := (c9 j hj).2; omega)⟩
              have ff5 : Fr (SXe e c) m m5 := ((i2.tr (f3.mono (fun k j z => by omega))).tr (f4.mono (fun k j z => Or.inr (Or.inr ⟨z.1, by have := (c8 j z.2).1; omega⟩)))).tr (f5.mono (fun k j z => by omega))
              refine rel true (ptc 25 C.length C ps ++ [(24, lnk qs)]) [] (C.length :: qs) m5 (by rw [List.length_append, List.length_singleton, lp]) ep r5 ff5 (fun x hx => ?_) (fun x hx => ?_) trivial c7' (fun p hp => (by cases hp)) (fun x hx => ?_) (fun r hr => ?_)
              · rw [List.getElem?_append_left (by omega), ptc_n _ _ _ _ _ (fun z => by have := (c8 x z).1; omega)]
                exact c2 x hx
              · rw [List.mem_append, List.mem_singleton] at hx
                rcases hx with hx | hx
                · rcases ptc_m _ _ _ _ _ hx with hx | hx
                  · exact c3 x hx
                  · rw [hx]; unfold OpB; dsimp only; omega
                · rw [hx]; unfold OpB; dsimp only; omega
              · rw [List.mem_cons] at hx
                rw [List.length_append, List.length_singleton, lp]
                rcases hx with hx | hx
                · rw [hx]; exact ⟨c1, by omega⟩
                · exact ⟨(c9 x hx).1, by have := (c9 x hx).2; omega⟩
              · exact c4.or c1 c5 (fun p hp => ⟨(c8 p hp).2.1, (c8 p hp).2.2⟩) (fun x hx => (c9 x hx).2) hr lp (fun x hx => ptc_n _ _ _ _ _ hx) (fun x hx => ptc_y _ _ _ _ _ hx (c8 x hx).2.1)
            · rw [if_neg h4] at ep
              obtain ⟨m3, e3, r3, f3⟩ := t2 k24 h4
              obtain ⟨m4, e4, a4, f4⟩ := x_landChain (k := 25) (by omega) he (c6.fr f3 (fun j hj => by have := c6.lt j hj; omega))
              have r4 : XFt m4 By n 2 j := by
                obtain ⟨b1, b2, b3, ⟨i', b4, b5, b6⟩, b7⟩ := r3
                exact ⟨by rw [f4.I _ _ (by omega)]; exact b1, b2, by rw [f4.I _ _ (by omega)]; exact b3, ⟨i', b4, by rw [f4.I _ _ (by omega)]; exact b5, by rw [f4.I _ _ (by omega)]; exact b6⟩, b7.fr f4 (fun k j z => by omega)⟩
              rw [show (24 : Int32) = nI 24 from rfl, e3, bind_s]
              dsimp only
              rw [e4, bind_s, xf_emit r4.ne, bind_s]
              unfold f_X4_readCondition_95
              dsimp only
              rw [xf_rel r4.ne, bind_s, nmI_e, bind_s, nI_1]
              exact ⟨_, rfl, rfl, (i2.tr (f3.mono (fun k j z => by omega))).tr (f4.mono (fun k j z => Or.inr (Or.inr ⟨z.1, by have := (c8 j z.2).1; omega⟩))), Or.inr ⟨2, j, [], [], ep, r4, rfl, rfl, trivial, trivial, fun p hp => (by cases hp), fun x hx => (by cases hx)⟩⟩
          · right
            rw [if_neg (show ¬ nI (tk By n j) = 24 from eq_nI (d := 24) (by omega) (by omega) k24)]
            rw [if_neg (by omega)] at ep
            exact ⟨_, rfl, i2, Or.inl ⟨j, ls, C, ps, qs, ep, rfl, rfl, r1, c1, c2, c3, c4, c5, c6, c7, c8, c9⟩⟩
      · right
        rw [if_neg r1.ne]
        exact ⟨_, rfl, i2, Or.inr ⟨f, t, ps, qs, ep, r1, rfl, rfl, c6, c7, c8, c9⟩⟩
    · clear r
      rintro ⟨z1, z2, z3, m2⟩ ⟨i1, i2, i3⟩
      dsimp only at i1 i2 i3
      subst i1
      show ∃ z, f_X4_readCondition_10 e z1 z2 (nI 400) m2 = some (Sum.inr z) ∧ _
      unfold f_X4_readCondition_10
      rw [show (400 : Int32) = nI 400 from rfl, if_pos (nI_le (Nat.le_refl _) (by omega))]
      refine ⟨_, rfl, i2, ?_⟩
      rcases i3 with ⟨j, ls, C, ps, qs, ep, hj, rfl, rfl, r1, c1, c2, c3, c4, c5, c6, c7, c8, c9⟩ | ⟨f, t, ps, qs, ep, r1, rfl, rfl, c6, c7, c8, c9⟩
      · exfalso
        have := r1.2.2.2.1
        omega
      · exact Or.inr ⟨f, t, ps, qs, ep, r1, rfl, rfl, c6, c7, c8, c9⟩
    · rcases r with ⟨j, ls, C, ep, hj, r1, c1, c2, c3, c4, c5⟩ | ⟨f, t, ep, r1⟩
      · exact Or.inl ⟨j, ls, C, [], [], ep, hj, rfl, rfl, r1, c1, c2, c3, c4, c5, trivial, trivial, fun p hp => (by cases hp), fun x hx => (by cases hx)⟩
      · exact Or.inr ⟨f, t, [], [], ep, r1, rfl, rfl, trivial, trivial, fun p hp => (by cases hp), fun x hx => (by cases hx)⟩
  clear r
  obtain ⟨⟨z1, z2, m2⟩, e2, ff2, r⟩ := key
  dsimp only at ff2 r
  rw [e2, bind_s]
  unfold f_X4_readCondition_105
  dsimp only
  rcases r with ⟨j, ls, C, ps, qs, ep, rfl, rfl, r1, c1, c2, c3, c4, c5, c6, c7, c8, c9⟩ | ⟨f, t, ps, qs, ep, r1, rfl, rfl, c6, c7, c8, c9⟩
  · have lC := r1.2.2.2.2.1
    have hj4 := r1.2.2.2.1
    obtain ⟨m3, e3, a3, f3⟩ := x_landChain (k := 25) (by omega) he c6
    have r3 := r1.land (k := 25) (by omega) he (fun j hj => (c8 j hj).2.1) a3 f3
    obtain ⟨m4, e4, a4, f4⟩ := x_landChain (k := 24) (by omega) he (c7.fr f3 (fun j hj z => (c8 j z.2).2.2 hj))
    have lp : (ptc 25 C.length C ps).length = C.length := ptc_len _ _ _ _
    have r4 := r3.land (k := 24) (by omega) he (fun j hj => by rw [lp]; exact (c9 j hj).2) a4 f4
    rw [lp] at r4
    have lp2 : (ptc 24 C.length (ptc 25 C.length C ps) qs).length = C.length := by rw [ptc_len, ptc_len]
    rw [e3, bind_s, e4, bind_s]
    refine ⟨fun j' ls' z => ?_, fun f t z => by rw [ep] at z; cases z⟩
    rw [ep] at z
    cases z
    refine ⟨m4, _, rfl, r4, by rw [lp2]; exact c1, fun x hx => ?_, fun x hx => ?_, ?_, (ff2.tr (f3.mono (fun k j z => Or.inr (Or.inr ⟨z.1, by have := (c8 j z.2).1; omega⟩)))).tr (f4.mono (fun k j z => Or.inr (Or.inr ⟨z.1, by have := (c9 j z.2).1; omega⟩)))⟩
    · rw [ptc_n _ _ _ _ _ (fun z => by have := (c9 x z).1; omega), ptc_n _ _ _ _ _ (fun z => by have := (c8 x z).1; omega)]
      exact c2 x hx
    · rcases ptc_m _ _ _ _ _ hx with hx | hx
      · rcases ptc_m _ _ _ _ _ hx with hx | hx
        · exact c3 x hx
        · rw [hx]; unfold OpB; dsimp only; omega
      · rw [hx]; unfold OpB; dsimp only; omega
    · refine c4.fin c5 (fun p hp => (c8 p hp).2.2) lp2 (fun x h1 h2 => by rw [ptc_n _ _ _ _ _ h2, ptc_n _ _ _ _ _ h1]) (fun x h1 => ?_) (fun x h1 => ptc_y _ _ _ _ _ h1 (by rw [lp]; exact (c9 x h1).2))
      rw [ptc_n _ _ _ _ _ (c8 x h1).2.2]
      exact ptc_y _ _ _ _ _ h1 (c8 x h1).2.1
  · obtain ⟨m3, e3, a3, f3⟩ := x_landChain (k := 25) (by omega) he c6
    obtain ⟨m4, e4, a4, f4⟩ := x_landChain (k := 24) (by omega) he (c7.fr f3 (fun j hj z => (c8 j z.2).2 hj))
    rw [e3, bind_s, e4, bind_s]
    refine ⟨fun j' ls' z => (by rw [ep] at z; cases z), fun f' t' z => ?_⟩
    rw [ep] at z
    cases z
    refine ⟨m4, rfl, ?_, (ff2.tr (f3.mono (fun k j z => Or.inr (Or.inr ⟨z.1, by have := (c8 j z.2).1; omega⟩)))).tr (f4.mono (fun k j z => Or.inr (Or.inr ⟨z.1, by have := c9 j z.2; omega⟩)))⟩
    obtain ⟨b1, b2, b3, ⟨i', b4, b5, b6⟩, b7⟩ := r1
    exact ⟨by rw [f4.I _ _ (by omega), f3.I _ _ (by omega)]; exact b1, b2, by rw [f4.I _ _ (by omega), f3.I _ _ (by omega)]; exact b3, ⟨i', b4, by rw [f4.I _ _ (by omega), f3.I _ _ (by omega)]; exact b5, by rw [f4.I _ _ (by omega), f3.I _ _ (by omega)]; exact b6⟩, (b7.fr f3 (fun k j z => by omega)).fr f4 (fun k j z => by omega)⟩
end KS
