/-! ===== the class reads relations; chains of jumps ===== -/
def lnk : List Nat → Nat
  | [] => 0
  | p :: _ => p + 1
def hdI : List Nat → Int32
  | [] => -1
  | p :: _ => nI p
def ptc (k t : Nat) : List Op → List Nat → List Op
  | C, [] => C
  | C, p :: ps => ptc k t (C.set p (k, t)) ps
theorem ptc_len (k t : Nat) : ∀ (ps : List Nat) (C : List Op), (ptc k t C ps).length = C.length
  | [], _ => rfl
  | p :: ps, C => by
    show (ptc k t (C.set p (k, t)) ps).length = C.length
    rw [ptc_len k t ps, List.length_set]
theorem ptc_n (k t : Nat) : ∀ (ps : List Nat) (C : List Op) (j : Nat), ¬ j ∈ ps → (ptc k t C ps)[j]? = C[j]?
  | [], _, _, _ => rfl
  | p :: ps, C, j, h => by
    rw [List.mem_cons] at h
    show (ptc k t (C.set p (k, t)) ps)[j]? = C[j]?
    rw [ptc_n k t ps _ j (fun z => h (Or.inr z)), List.getElem?_set_ne (fun z => h (Or.inl z.symm))]
theorem ptc_y (k t : Nat) : ∀ (ps : List Nat) (C : List Op) (j : Nat), j ∈ ps → j < C.length → (ptc k t C ps)[j]? = some (k, t)
  | [], _, _, h, _ => by cases h
  | p :: ps, C, j, h, hj => by
    show (ptc k t (C.set p (k, t)) ps)[j]? = some (k, t)
    by_cases q : j ∈ ps
    · exact ptc_y k t ps _ j q (by rw [List.length_set]; exact hj)
    · rw [List.mem_cons] at h
      rcases h with h | h
      · subst h
        rw [ptc_n k t ps _ j q, List.getElem?_set_self hj]
      · exact absurd h q
section KR
variable {m : M2} {e c : Nat} {By : Nat → Nat} {n : Nat}
def ChM (m : M2) (e k : Nat) : List Nat → Prop
  | [] => True
  | p :: ps => (p < 400 ∧ hI m (e + 2) p = nI (cwN (k, lnk ps)) ∧ ∀ q, q ∈ ps → q < p) ∧ ChM m e k ps
theorem ChM.fr {k : Nat} {S : Nat → Nat → Prop} {m' : M2} : ∀ {ps : List Nat}, ChM m e k ps → Fr S m m' → (∀ j, j ∈ ps → ¬ S (e + 2) j) → ChM m' e k ps
  | [], _, _, _ => trivial
  | p :: ps, h, hf, hs => ⟨⟨h.1.1, by rw [hf.I _ _ (hs p (List.mem_cons_self ..))]; exact h.1.2.1, h.1.2.2⟩, ChM.fr h.2 hf (fun j hj => hs j (List.mem_cons_of_mem _ hj))⟩
theorem ChM.lt {k : Nat} : ∀ {ps : List Nat}, ChM m e k ps → ∀ j, j ∈ ps → j < 400
  | [], _, j, h => by cases h
  | p :: ps, h, j, hj => by
    rw [List.mem_cons] at hj
    rcases hj with hj | hj
    · rw [hj]; exact h.1.1
    · exact ChM.lt h.2 j hj
theorem ChM.len {k : Nat} : ∀ {ps : List Nat}, ChM m e k ps → ps.length ≤ (match ps with
    | [] => 0
    | p :: _ => p + 1)
  | [], _ => Nat.le_refl _
  | [p], _ => by show 1 ≤ p + 1; omega
  | p :: q :: ps, h => by
    have a := ChM.len h.2
    have b := h.1.2.2 q (List.mem_cons_self ..)
    show (q :: ps).length + 1 ≤ p + 1
    have : (q :: ps).length ≤ q + 1 := a
    omega
theorem x_landChain {k : Nat} {ps : List Nat} (hk : k < 64) (he : tx e) (h : ChM m e k ps) : ∃ m', F_X4_landChain e (hdI ps) m = some m' ∧ (∀ j, j ∈ ps → hI m' (e + 2) j = ((hI m e 4) <<< ((6 : Int32) &&& 31)) ||| nI k) ∧ Fr (fun x j => x = e + 2 ∧ j ∈ ps) m m' := by
  have he' := he
  unfold tx at he'
  unfold F_X4_landChain
  have hlen : ps.length ≤ 400 := by
    have := h.len
    cases ps with
    | nil => exact Nat.zero_le _
    | cons p ps =>
      have h1 := h.1.1
      have : (p :: ps).length ≤ p + 1 := this
      omega
  have key : ∃ z, loop (g_X4_landChain_4 e) (hdI ps, (0 : Int32), m) = some z ∧ (∀ j, j ∈ ps → hI z (e + 2) j = ((hI m e 4) <<< ((6 : Int32) &&& 31)) ||| nI k) ∧ Fr (fun x j => x = e + 2 ∧ j ∈ ps) m z := by
    refine loop_to ps.length (fun q z => z.1 = hdI (ps.drop q) ∧ z.2.1 = nI q ∧ ChM z.2.2 e k (ps.drop q) ∧ (∀ j, j ∈ ps.take q → hI z.2.2 (e + 2) j = ((hI m e 4) <<< ((6 : Int32) &&& 31)) ||| nI k) ∧ Fr (fun x j => x = e + 2 ∧ j ∈ ps.take q) m z.2.2) _ (by omega) ?_ ?_ ⟨rfl, rfl, h, fun j hj => (by cases hj), Fr.rf⟩
    · rintro q ⟨z1, z2, m1⟩ hq ⟨i1, i2, i3, i4, i5⟩
      dsimp only at i1 i2 i3 i4 i5
      obtain ⟨p, hp⟩ : ∃ p, ps[q]? = some p := ⟨ps[q], List.getElem?_eq_getElem hq⟩
      have hd : ps.drop q = p :: ps.drop (q + 1) := by
        rw [List.drop_eq_getElem_cons hq]
        congr 1
        have := List.getElem?_eq_getElem hq
        rw [hp] at this
        cases this
        rfl
      have ht : ps.take (q + 1) = ps.take q ++ [p] := by
        rw [List.take_add_one, hp]
        rfl
      rw [hd] at i1 i3
      subst i1 i2
      show ∃ s', f_X4_landChain_4 e (nI p) (nI q) m1 = some (Sum.inl s') ∧ _
      have hp4 := i3.1.1
      have hwp := i3.1.2.1
      have e4 : hI m1 e 4 = hI m e 4 := i5.I _ _ (by omega)
      have hlk : lnk (ps.drop (q + 1)) < 2 ^ 20 := by
        cases hc : ps.drop (q + 1) with
        | nil => show 0 < _; omega
        | cons p2 r =>
          have h3 := i3.2
          rw [hc] at h3
          have := h3.1.1
          show p2 + 1 < _
          omega
      unfold f_X4_landChain_4
      rw [show (400 : Int32) = nI 400 from rfl, if_neg (nI_ge (by omega) (by omega)), if_neg (nI_m1 (by omega)), aI_n _ (e + 2) hp4 (by omega), bind_s, hwp, cw_shr hlk hk, nmI_e, bind_s]
      unfold F_X4_land
      rw [if_neg (nI_m1 (by omega)), aI_n _ (e + 2) hp4 (by omega), bind_s, hwp, cw_and hlk hk, e4, bI_n _ (e + 2) _ hp4 (by omega), bind_s]
      unfold f_X4_land_37
      rw [bind_s, nmI_e, bind_s, nI_1]
      have nh : nI (lnk (ps.drop (q + 1))) - (1 : Int32) = hdI (ps.drop (q + 1)) := by
        cases ps.drop (q + 1) with
        | nil => rfl
        | cons p2 r => exact nI_m1s (by show 1 ≤ p2 + 1; omega)
      refine ⟨_, rfl, nh, rfl, ?_, fun j hj => ?_, ?_⟩
      · exact i3.2.fr (S := fun x j => x = e + 2 ∧ j = p) (Fr.rf.tI _ (by omega)) (fun j hj => by have := i3.1.2.2 j hj; omega)
      · show hI (tI m1 (e + 2) p _) (e + 2) j = _
        rw [ht, List.mem_append, List.mem_singleton] at hj
        rw [hI_tI]
        by_cases hjp : j = p
        · rw [if_pos ⟨rfl, hjp⟩]
        · rw [if_neg (fun z => hjp z.2)]
          exact i4 j (by rcases hj with z | z; · exact z
                         · exact absurd z hjp)
      · rw [ht]
        exact (i5.mono (fun x j z => ⟨z.1, List.mem_append_left _ z.2⟩)).tI _ ⟨rfl, List.mem_append_right _ (List.mem_singleton.mpr rfl)⟩
    · rintro ⟨z1, z2, m1⟩ ⟨i1, i2, i3, i4, i5⟩
      dsimp only at i1 i2 i3 i4 i5
      rw [List.drop_length] at i1
      rw [List.take_length] at i4 i5
      subst i1 i2
      show ∃ z, f_X4_landChain_4 e (-1) (nI ps.length) m1 = some (Sum.inr z) ∧ _
      unfold f_X4_landChain_4
      by_cases h4 : 400 ≤ ps.length
      · rw [show (400 : Int32) = nI 400 from rfl, if_pos (nI_le h4 (by omega))]
        exact ⟨_, rfl, i4, i5⟩
      · rw [show (400 : Int32) = nI 400 from rfl, if_neg (nI_ge (by omega) (by omega)), if_pos rfl]
        exact ⟨_, rfl, i4, i5⟩
  obtain ⟨m', e1, r1, r2⟩ := key
  rw [e1, bind_s]
  exact ⟨m', rfl, r1, r2⟩
/-! relations -/
theorem xf_78 {x1 x2 : Int32} (h : ¬ hI m 14 4 = 0) : f_X4_readRelation_78 e x1 x2 m = some m := by
  unfold f_X4_readRelation_78 f_X4_readRelation_109
  rw [xf_take h, bind_s]
  dsimp only
  rw [xf_expr h, bind_s, xf_emit h, bind_s]
  dsimp only
  rw [xf_emit h, bind_s]
  split <;> rfl
theorem xf_50 {x1 : Int32} (h : ¬ hI m 14 4 = 0) : f_X4_readRelation_50 e x1 m = some m := by
  unfold f_X4_readRelation_50 f_X4_readRelation_73
  rw [xf_expr h, bind_s, nmI_e, bind_s, xf_fail h, bind_s, xf_78 h]
  split
  · rfl
  · split <;> rfl
theorem xf_rel (h : ¬ hI m 14 4 = 0) : F_X4_readRelation e m = some m := by
  unfold F_X4_readRelation
  have key : ∃ z, loop (g_X4_readRelation_4 e) ((0 : Int32), (0 : Int32), m) = some z ∧ z = (0, m) := by
    refine loop_to 0 (fun _ z => z = ((0 : Int32), (0 : Int32), m)) _ (by omega) (fun k s hk => by omega) ?_ rfl
    rintro z rfl
    show ∃ z, f_X4_readRelation_4 e 0 0 m = some (Sum.inr z) ∧ _
    unfold f_X4_readRelation_4
    rw [if_neg (by decide), if_neg h]
    exact ⟨_, rfl, rfl⟩
  obtain ⟨z, e1, rfl⟩ := key
  rw [e1, bind_s]
  exact xf_50 h
theorem x_rel {i : Nat} {Cd : List Op} (he : tx e) (hcl : c ≤ Cd.length) (hX : XRd m e By n i Cd) : (∀ j r, pRl (tk By n) (vI By n) i = .inl (j, r) → ∃ m', F_X4_readRelation e m = some m' ∧ XRd m' e By n j (Cd ++ rC r) ∧ Fr (SXe e c) m m') ∧ (∀ f t, pRl (tk By n) (vI By n) i = .inr (f, t) → ∃ m', F_X4_readRelation e m = some m' ∧ XFt m' By n f t ∧ Fr (SXe e c) m m') := by
  have hte := te_le By n
  have hKV : ∀ i, tk By n i = 3 → vI By n i < 10000 := fun i hi => vI_lt hi
  have he' := he
  unfold tx at he'
  unfold F_X4_readRelation
  have key : ∃ z, loop (g_X4_readRelation_4 e) ((0 : Int32), (0 : Int32), m) = some z ∧ Fr (SXe e c) m z.2 ∧ ((∃ j b, pNo (tk By n) 400 i false = .inl (j, b) ∧ z.1 = bI1 b ∧ XRd z.2 e By n j Cd) ∨ (∃ f t, pNo (tk By n) 400 i false = .inr (f, t) ∧ XFt z.2 By n f t)) := by
    generalize hpz : pNo (tk By n) 400 i false = PZ
    refine loop_ex 400 (fun k z => z.2.1 = nI k ∧ Fr (SXe e c) m z.2.2 ∧ ((∃ j b, PZ = pNo (tk By n) (400 - k) j b ∧ z.1 = bI1 b ∧ XRd z.2.2 e By n j Cd) ∨ (∃ f t, PZ = .inr (f, t) ∧ XFt z.2.2 By n f t))) _ (by omega) ?_ ?_ ⟨rfl, Fr.rf, Or.inl ⟨i, false, hpz.symm, rfl, hX⟩⟩
    · rintro k ⟨z1, z2, m1⟩ hk ⟨i1, i2, i3⟩
      dsimp only at i1 i2 i3
      subst i1
      show (∃ s', f_X4_readRelation_4 e z1 (nI k) m1 = some (Sum.inl s') ∧ _) ∨ ∃ z, f_X4_readRelation_4 e z1 (nI k) m1 = some (Sum.inr z) ∧ _
      unfold f_X4_readRelation_4
      rw [show (400 : Int32) = nI 400 from rfl, if_neg (nI_ge hk (by omega))]
      rcases i3 with ⟨j, b, ep, rfl, r1⟩ | ⟨f, t, ep, r1⟩
      · have hkj := tk_lt (By := By) (n := n) j
        obtain ⟨q, hq⟩ : ∃ q, 400 - k = q + 1 := ⟨399 - k, by omega⟩
        rw [hq] at ep
        unfold pNo at ep
        rw [if_pos r1.1, r1.2.2.1]
        by_cases k26 : tk By n j = 26
        · left
          rw [if_pos k26] at ep
          rw [if_pos (show nI (tk By n j) = 26 by rw [k26]; rfl)]
          obtain ⟨t1, t2, t3⟩ := x_take_t (c := c) he r1 (w := 26) (by omega) (by omega)
          by_cases h4 : j < 400
          · rw [if_pos h4] at ep
            obtain ⟨m2, e2, r2, f2⟩ := t1 k26 h4
            rw [show (26 : Int32) = nI 26 from rfl, e2, bind_s]
            dsimp only
            unfold f_X4_readRelation_43
            rw [nmI_e, bind_s, nI_1]
            cases b with
            | false =>
              rw [if_pos (show bI1 false = 0 from rfl)]
              exact ⟨_, rfl, rfl, i2.tr (f2.mono (fun k j z => by omega)), Or.inl ⟨j + 1, true, by rw [ep, show 400 - (k + 1) = q by omega]; rfl, rfl, r2⟩⟩
            | true =>
              rw [if_neg (show ¬ bI1 true = 0 by decide)]
              exact ⟨_, rfl, rfl, i2.tr (f2.mono (fun k j z => by omega)), Or.inl ⟨j + 1, false, by rw [ep, show 400 - (k + 1) = q by omega]; rfl, rfl, r2⟩⟩
          · rw [if_neg h4] at ep
            obtain ⟨m2, e2, r2, f2⟩ := t2 k26 h4
            rw [show (26 : Int32) = nI 26 from rfl, e2, bind_s]
            dsimp only
            unfold f_X4_readRelation_43
            rw [nmI_e, bind_s, nI_1]
            split
            · exact ⟨_, rfl, rfl, i2.tr f2, Or.inr ⟨2, j, ep, r2⟩⟩
            · exact ⟨_, rfl, rfl, i2.tr f2, Or.inr ⟨2, j, ep, r2⟩⟩
        · right
          rw [if_neg k26] at ep
          rw [if_neg (show ¬ nI (tk By n j) = 26 from eq_nI (d := 26) (by omega) (by omega) k26)]
          exact ⟨_, rfl, i2, Or.inl ⟨j, b, ep, rfl, r1⟩⟩
      · right
        rw [if_neg r1.ne]
        exact ⟨_, rfl, i2, Or.inr ⟨f, t, ep, r1⟩⟩
    · rintro ⟨z1, z2, m1⟩ ⟨i1, i2, i3⟩
      dsimp only at i1 i2 i3
      subst i1
      show ∃ z, f_X4_readRelation_4 e z1 (nI 400) m1 = some (Sum.inr z) ∧ _
      unfold f_X4_readRelation_4
      rw [show (400 : Int32) = nI 400 from rfl, if_pos (nI_le (Nat.le_refl _) (by omega))]
      refine ⟨_, rfl, i2, ?_⟩
      rcases i3 with ⟨j, b, ep, hz, r1⟩ | ⟨f, t, ep, r1⟩
      · exact Or.inl ⟨j, b, by rw [ep, Nat.sub_self]; rfl, hz, r1⟩
      · exact Or.inr ⟨f, t, ep, r1⟩
  obtain ⟨⟨z1, m1⟩, e1, ff1, r⟩ := key
  rw [e1, bind_s]
  dsimp only at ff1 r ⊢
  unfold pRl
  rcases r with ⟨j, b, ep, hz, r1⟩ | ⟨f, t, ep, r1⟩
  · subst hz
    rw [ep]
    dsimp only
    have hnb := pNo_i ep
    have o2 := x_expr (c := c) he 24 0 0 j Cd m1 hcl (by omega) (by omega) (by unfold Nd; omega) r1
    unfold f_X4_readRelation_50
    cases h2 : pX (tk By n) (vI By n) 24 0 0 j with
    | inr x =>
      rw [h2] at o2
      obtain ⟨m2, e2, r2, f2⟩ := o2.2 x.1 x.2 rfl
      have e3 := xf_50 (e := e) (x1 := bI1 b) r2.ne
      unfold f_X4_readRelation_50 at e3
      rw [xf_expr r2.ne, bind_s] at e3
      rw [lit_0, e2, bind_s, e3]
      refine ⟨fun j' r' z => (by cases z), fun f' t' z => ?_⟩
      cases z
      exact ⟨m2, rfl, r2, ff1.tr f2⟩
    | inl y =>
      rw [h2] at o2
      obtain ⟨m2, e2, r2, f2⟩ := o2.1 y.1 y.2 rfl
      have ff2 := ff1.tr f2
      have hky := tk_lt (By := By) (n := n) y.1
      have g1 := pX_good hKV 24 0 0 j y.1 y.2 (by omega) (by omega) h2
      rw [lit_0, e2, bind_s, r2.2.2.1, nmI_e, bind_s]
      dsimp only
      by_cases hk : 11 ≤ tk By n y.1 ∧ tk By n y.1 ≤ 14
      · rw [if_pos hk, if_neg (show ¬ nI (tk By n y.1) < 11 from fun z => absurd (nI_le hk.1 (by omega)) (lt_nle z)), if_pos (show nI (tk By n y.1) ≤ 14 from nI_le (b := 14) hk.2 (by omega))]
        unfold f_X4_readRelation_78
        obtain ⟨t1, t2, t3⟩ := x_take_t (c := c) he r2 (w := tk By n y.1) (by omega) (by omega)
        by_cases h4 : y.1 < 400
        · obtain ⟨m3, e3, r3, f3⟩ := t1 rfl h4
          have ff3 : Fr (SXe e c) m m3 := ff2.tr (f3.mono (fun k j z => by omega))
          rw [if_pos h4, e3, bind_s]
          dsimp only
          have o4 := x_expr (c := c) he 24 0 0 (y.1 + 1) (Cd ++ y.2) m3 (by rw [List.length_append]; omega) (by omega) (by omega) (by unfold Nd; omega) r3
          cases h3 : pX (tk By n) (vI By n) 24 0 0 (y.1 + 1) with
          | inr x =>
            rw [h3] at o4
            obtain ⟨m4, e4, r4, f4⟩ := o4.2 x.1 x.2 rfl
            unfold f_X4_readRelation_109
            rw [lit_0, e4, bind_s, xf_emit r4.ne, bind_s]
            dsimp only
            rw [xf_emit r4.ne, bind_s]
            have : (if bI1 b = nI 0 then some m4 else some m4) = some m4 := by split <;> rfl
            rw [this]
            refine ⟨fun j' r' z => (by cases z), fun f' t' z => ?_⟩
            cases z
            exact ⟨m4, rfl, r4, ff3.tr f4⟩
          | inl w =>
            rw [h3] at o4
            obtain ⟨m4, e4, r4, f4⟩ := o4.1 w.1 w.2 rfl
            have g2 := pX_good hKV 24 0 0 (y.1 + 1) w.1 w.2 (by omega) (by omega) h3
            have l0 := r1.2.2.2.2.1
            have l1 := g1.2.2.1
            have l2 := g2.2.2.1
            obtain ⟨m5, e5, r5, f5⟩ := x_emit (a := tk By n y.1) (b := 0) he r4 (by rw [List.length_append, List.length_append]; omega) (by omega) (by omega)
            have ff5 : Fr (SXe e c) m m5 := (ff3.tr f4).tr (f5.mono (fun k j z => by simp only [List.length_append] at z; omega))
            rw [lit_0, e4, bind_s, e5, bind_s]
            dsimp only
            refine ⟨fun j' r' z => ?_, fun f' t' z => (by cases z)⟩
            cases z
            unfold f_X4_readRelation_109
            have erc : Cd ++ y.2 ++ w.2 ++ [(tk By n y.1, 0)] = Cd ++ (y.2 ++ w.2 ++ [(tk By n y.1, 0)]) := by rw [List.append_assoc, List.append_assoc, ← List.append_assoc y.2]
            rw [erc] at r5
            cases b with
            | false =>
              rw [if_pos (show bI1 false = nI 0 from rfl)]
              refine ⟨m5, rfl, ?_, ff5⟩
              have : rC (false, tk By n y.1, y.2, w.2) = y.2 ++ w.2 ++ [(tk By n y.1, 0)] := by
                show y.2 ++ w.2 ++ [(tk By n y.1, 0)] ++ [] = _
                rw [List.append_nil]
              rw [this]
              exact r5
            | true =>
              have nb := hnb.2 (by decide)
              have l00 := hX.2.2.2.2.1
              obtain ⟨m6, e6, r6, f6⟩ := x_emit (a := 26) (b := 0) he r5 (by simp only [List.length_append, List.length_singleton]; omega) (by omega) (by omega)
              rw [if_neg (show ¬ bI1 true = nI 0 by decide), show (26 : Int32) = nI 26 from rfl, e6, bind_s]
              refine ⟨m6, rfl, ?_, ff5.tr (f6.mono (fun k j z => by simp only [List.length_append] at z; omega))⟩
              rw [List.append_assoc] at r6
              exact r6
        · obtain ⟨m3, e3, r3, f3⟩ := t2 rfl h4
          have q := xf_78 (e := e) (x1 := bI1 b) (x2 := nI (tk By n y.1)) r3.ne
          unfold f_X4_readRelation_78 at q
          rw [xf_take r3.ne, bind_s] at q
          dsimp only at q
          rw [if_neg h4, e3, bind_s]
          dsimp only
          rw [q]
          refine ⟨fun j' r' z => (by cases z), fun f' t' z => ?_⟩
          cases z
          exact ⟨m3, rfl, r3, ff2.tr f3⟩
      · rw [if_neg hk]
        obtain ⟨m3, e3, r3, f3⟩ := x_failAt (c := c) he r2 (f := 1) (by omega)
        unfold f_X4_readRelation_73
        rw [lit_1, e3, bind_s, xf_78 r3.ne]
        have : (if nI (tk By n y.1) < 11 then some m3 else if nI (tk By n y.1) ≤ 14 then f_X4_readRelation_78 e (bI1 b) (nI (tk By n y.1)) m2 else some m3) = some m3 := by
          by_cases q : tk By n y.1 < 11
          · rw [if_pos (show nI (tk By n y.1) < 11 from nI_lt (b := 11) q (by omega))]
          · rw [if_neg (show ¬ nI (tk By n y.1) < 11 from fun z => absurd (nI_le (show 11 ≤ tk By n y.1 by omega) (by omega)) (lt_nle z)), if_neg (show ¬ nI (tk By n y.1) ≤ 14 from nI_ge (a := 14) (by omega) (by omega))]
        rw [this]
        refine ⟨fun j' r' z => (by cases z), fun f' t' z => ?_⟩
        cases z
        exact ⟨m3, rfl, r3, ff2.tr f3⟩
  · rw [ep, xf_50 r1.ne]
    refine ⟨fun j' r' z => (by cases z), fun f' t' z => ?_⟩
    cases z
    exact ⟨m1, rfl, r1, ff1⟩
end KR
