/-! ===== the class's code, run ===== -/
def b01 (p : Bool) : Int32 := if p = true then 1 else 0
def rlV (k : Nat) (a b : Int32) : Bool := if k = 11 then decide (a = b) else if k = 12 then decide (¬ a = b) else if k = 13 then decide (a < b) else decide (a ≤ b)
def jnR (P k : Nat) (a b : Int32) : Option Int32 := if 11 ≤ k ∧ k ≤ 14 then some (b01 (rlV k a b)) else jnV P k a b
def ex (P : Nat) (D : List Op) (v : Nat → Int32) : Nat → Nat → List Int32 → Option (Option Int32)
  | 0, _, _ => none
  | f + 1, a, st => if 60 < st.length then none else match D[a]? with
    | none => none
    | some o => if o.1 = 3 then ex P D v f (a + 1) (nI o.2 :: st) else if 28 ≤ o.1 then ex P D v f (a + 1) (v (o.1 - 28) :: st) else match st with
      | [] => none
      | x :: st1 => if o.1 = 23 then some (some x) else if o.1 = 26 then ex P D v f (a + 1) ((1 - x) :: st1) else if o.1 = 21 then (if x = 0 then ex P D v f o.2 st1 else ex P D v f (a + 1) st1) else if o.1 = 25 then (if x = 0 then ex P D v f o.2 (x :: st1) else ex P D v f (a + 1) st1) else if o.1 = 24 then (if x = 0 then ex P D v f (a + 1) st1 else ex P D v f o.2 (x :: st1)) else match st1 with
        | [] => none
        | y :: st2 => match jnR P o.1 y x with
          | none => some none
          | some z => ex P D v f (a + 1) (z :: st2)
def OpB (o : Op) : Prop := o.1 < 34 ∧ o.2 < 2 ^ 20 ∧ (o.1 = 3 ∨ 7 ≤ o.1) ∧ ¬ (15 ≤ o.1 ∧ o.1 ≤ 20) ∧ ¬ o.1 = 22
section KN2
variable {m : M2} {c P : Nat} {D : List Op} {v : Nat → Int32}
theorem cw_and {a b : Nat} (ha : a < 2 ^ 20) (hb : b < 64) : nI (cwN (b, a)) &&& (63 : Int32) = nI b := by
  apply Int32.toBitVec_inj.mp
  apply BitVec.eq_of_toNat_eq
  rw [Int32.toBitVec_and, BitVec.toNat_and, show (63 : Int32).toBitVec.toNat = 2 ^ 6 - 1 from rfl, Nat.and_two_pow_sub_one_eq_mod]
  show (Int32.ofNat (64 * a + b)).toBitVec.toNat % 2 ^ 6 = (Int32.ofNat b).toBitVec.toNat
  rw [Int32.toBitVec_ofNat', BitVec.toNat_ofNat, Int32.toBitVec_ofNat', BitVec.toNat_ofNat]
  omega
theorem cw_shr {a b : Nat} (ha : a < 2 ^ 20) (hb : b < 64) : nI (cwN (b, a)) >>> ((6 : Int32) &&& 31) = nI a := by
  have h : (cwN (b, a)) < 2 ^ 31 := by show 64 * a + b < 2 ^ 31; omega
  have e := shr_n (k := 6) h (by omega)
  rw [show (6 : Int32) = nI 6 from rfl, e]
  congr 1
  show (64 * a + b) / 2 ^ 6 = a
  omega
def StX (m : M2) : List Int32 → Prop
  | [] => True
  | x :: st => hI m 24 (st.length + 1) = x ∧ StX m st
theorem StX.fr {m' : M2} {S : Nat → Nat → Prop} : ∀ {st : List Int32}, StX m st → Fr S m m' → (∀ j, j ≤ st.length → ¬ S 24 j) → StX m' st
  | [], _, _, _ => trivial
  | x :: st, h, hf, hs => ⟨by rw [hf.I _ _ (hs _ (by rw [List.length_cons]; omega))]; exact h.1, StX.fr h.2 hf (fun j hj => hs j (by rw [List.length_cons]; omega))⟩
theorem StX.push {st : List Int32} (h : StX m st) (x : Int32) : StX (tI m 24 (st.length + 1) x) (x :: st) := ⟨by rw [hI_tI, if_pos ⟨rfl, rfl⟩], h.fr (S := fun k j => k = 24 ∧ j = st.length + 1) (Fr.rf.tI _ (by omega)) (fun j hj => by omega)⟩
theorem and63 {k : Nat} (h : k < 64) : nI k &&& (63 : Int32) = nI k := by
  have := cw_and (a := 0) (b := k) (by omega) h
  rwa [show cwN (k, 0) = k by show 64 * 0 + k = k; omega] at this
theorem x_joined {k : Nat} {a b x : Int32} (hp : hI m c 0 = nI P) (hP : 3 ≤ P ∧ P ≤ 24) (hk : (7 ≤ k ∧ k ≤ 14) ∨ k = 27) (hb : k = 10 → ¬ b = 0) (h : jnR P k a b = some x) : F_X5_joined c (nI k) a b m = some (x, m) := by
  unfold F_X5_joined
  unfold jnR jnV rlV at h
  have E : ∀ d : Nat, d < 64 → (nI k = nI d ↔ k = d) := fun d hd => nI_eq (by omega) (by omega)
  rw [show (7 : Int32) = nI 7 from rfl, show (8 : Int32) = nI 8 from rfl, show (9 : Int32) = nI 9 from rfl, show (10 : Int32) = nI 10 from rfl, show (11 : Int32) = nI 11 from rfl, show (12 : Int32) = nI 12 from rfl, show (13 : Int32) = nI 13 from rfl, show (14 : Int32) = nI 14 from rfl]
  simp only [E 7 (by omega), E 8 (by omega), E 9 (by omega), E 10 (by omega), E 11 (by omega), E 12 (by omega), E 13 (by omega), E 14 (by omega)]
  by_cases h27 : k = 27
  · subst h27
    rw [if_neg (by omega), if_neg (by omega), if_neg (by omega), if_neg (by omega), if_neg (by omega)] at h
    cases h
    rw [if_neg (by omega), if_neg (by omega), if_neg (by omega), if_neg (by omega), if_neg (by omega), if_neg (by omega), if_neg (by omega), if_neg (by omega), x_gap hp (by omega) (by omega), bind_s]
  by_cases h7 : k = 7
  · subst h7; cases h; rfl
  by_cases h8 : k = 8
  · subst h8; cases h; rfl
  by_cases h9 : k = 9
  · subst h9; cases h; rfl
  by_cases h10 : k = 10
  · subst h10
    have hb' := hb rfl
    rw [if_neg (by omega), if_neg (by omega), if_neg (by omega), if_neg (by omega), if_pos rfl, if_neg hb'] at h
    cases h
    rw [if_neg (by omega), if_neg (by omega), if_neg (by omega), if_pos rfl, if_neg hb', dvI_of hb', bind_s]
    rfl
  by_cases h11 : k = 11
  · subst h11
    rw [if_pos (by omega), if_pos rfl] at h
    cases h
    rw [if_neg (by omega), if_neg (by omega), if_neg (by omega), if_neg (by omega), if_pos rfl]
    by_cases q : a = b
    · rw [if_pos q, decide_eq_true q]; rfl
    · rw [if_neg q, decide_eq_false q]; rfl
  by_cases h12 : k = 12
  · subst h12
    rw [if_pos (by omega), if_neg (by omega), if_pos rfl] at h
    cases h
    rw [if_neg (by omega), if_neg (by omega), if_neg (by omega), if_neg (by omega), if_neg (by omega), if_pos rfl]
    by_cases q : a = b
    · rw [if_pos q, decide_eq_false (fun z => z q)]; rfl
    · rw [if_neg q, decide_eq_true q]; rfl
  by_cases h13 : k = 13
  · subst h13
    rw [if_pos (by omega), if_neg (by omega), if_neg (by omega), if_pos rfl] at h
    cases h
    rw [if_neg (by omega), if_neg (by omega), if_neg (by omega), if_neg (by omega), if_neg (by omega), if_neg (by omega), if_pos rfl]
    by_cases q : b ≤ a
    · rw [if_pos q, decide_eq_false (fun z => lt_nle z q)]; rfl
    · rw [if_neg q, decide_eq_true (by
        rw [Int32.lt_iff_toInt_lt]
        rw [Int32.le_iff_toInt_le] at q
        omega)]; rfl
  · have h14 : k = 14 := by omega
    subst h14
    rw [if_pos (by omega), if_neg (by omega), if_neg (by omega), if_neg (by omega)] at h
    cases h
    rw [if_neg (by omega), if_neg (by omega), if_neg (by omega), if_neg (by omega), if_neg (by omega), if_neg (by omega), if_neg (by omega), if_pos rfl]
    by_cases q : b < a
    · rw [if_pos q, decide_eq_false (lt_nle q)]; rfl
    · rw [if_neg q, decide_eq_true (nlt_le q)]; rfl
theorem x_worked {f a : Nat} {own : Int32} {r : Option Int32} (hp : hI m c 0 = nI P) (hP : 3 ≤ P ∧ P ≤ 24) (hc : c < 14) (hD : CdX m c D) (hl : D.length ≤ 400) (hB : ∀ o, o ∈ D → OpB o) (hv : ∀ i, i < 6 → hI m 25 i = v i) (he : ex P D v f a [] = some r) (hf : f ≤ D.length) : ∃ w m', F_X5_worked c (nI a) own m = some (w, m') ∧ w = r.getD own ∧ Fr (fun k _ => k = 24) m m' := by
  unfold F_X5_worked
  have key : ∃ e, loop (g_X5_worked_8 c own) (nI a, (0 : Int32), (0 : Int32), m) = some e ∧ ((∃ k m' x, e = Sum.inl (nI k, m') ∧ k < 64 ∧ hI m' 24 k = x ∧ r = some x ∧ Fr (fun k _ => k = 24) m m') ∨ (∃ m', (e = Sum.inr (Sum.inl m') ∨ e = Sum.inr (Sum.inr m')) ∧ r = none ∧ Fr (fun k _ => k = 24) m m')) := by
    refine loop_wf (fun z => ∃ a' st k f', z.1 = nI a' ∧ z.2.1 = nI st.length ∧ z.2.2.1 = nI k ∧ ex P D v f' a' st = some r ∧ k + f' ≤ D.length ∧ StX z.2.2.2 st ∧ Fr (fun k _ => k = 24) m z.2.2.2) (fun z => 1000 - z.2.2.1.toNatClampNeg) _ ?_ (s := (nI a, (0 : Int32), (0 : Int32), m)) ⟨a, [], 0, f, rfl, rfl, rfl, he, by omega, trivial, Fr.rf⟩ (by omega)
    rintro ⟨z1, z2, z3, m1⟩ ⟨a', st, k, f', i1, i2, i3, i4, i5, i6, i7⟩
    dsimp only at i1 i2 i3 i6 i7
    subst i1 i2 i3
    show (∃ s', f_X5_worked_8 c own (nI a') (nI st.length) (nI k) m1 = some (Sum.inl s') ∧ _) ∨ ∃ e, f_X5_worked_8 c own (nI a') (nI st.length) (nI k) m1 = some (Sum.inr e) ∧ _
    cases f' with
    | zero => cases i4
    | succ f' =>
      unfold ex at i4
      by_cases hst : 60 < st.length
      · rw [if_pos hst] at i4; cases i4
      rw [if_neg hst] at i4
      cases ho : D[a']? with
      | none => rw [ho] at i4; cases i4
      | some o =>
        rw [ho] at i4
        dsimp only at i4
        have ha : a' < D.length := by
          apply Classical.byContradiction
          intro z
          rw [List.getElem?_eq_none (by omega)] at ho
          cases ho
        obtain ⟨b1, b2, b3, b4, b5⟩ := hB o (List.mem_of_getElem? ho)
        have hw : hI m1 (c + 2) a' = nI (cwN o) := by rw [i7.I _ _ (by omega)]; exact hD.2 a' o ho
        have hlen : hI m1 c 4 = nI D.length := by rw [i7.I _ _ (by omega)]; exact hD.1
        have hp1 : hI m1 c 0 = nI P := by rw [i7.I _ _ (by omega)]; exact hp
        -- going on
        have on : ∀ (a2 : Nat) (st2 : List Int32) (m2 : M2), ex P D v f' a2 st2 = some r → StX m2 st2 → Fr (fun k _ => k = 24) m m2 → ∃ s', f_X5_worked_340 c own (nI a2) (nI st2.length) (nI k) m2 = some (Sum.inl s') ∧ (∃ a' st k f', s'.1 = nI a' ∧ s'.2.1 = nI st.length ∧ s'.2.2.1 = nI k ∧ ex P D v f' a' st = some r ∧ k + f' ≤ D.length ∧ StX s'.2.2.2 st ∧ Fr (fun k _ => k = 24) m s'.2.2.2) ∧ 1000 - s'.2.2.1.toNatClampNeg < 1000 - (nI k).toNatClampNeg := by
          intro a2 st2 m2 e1 e2 e3
          unfold f_X5_worked_340
          rw [nmI_e, bind_s, nI_1]
          refine ⟨_, rfl, ⟨a2, st2, k + 1, f', rfl, rfl, rfl, e1, by omega, e2, e3⟩, ?_⟩
          show 1000 - (nI (k + 1)).toNatClampNeg < 1000 - (nI k).toNatClampNeg
          rw [nI_clamp (by omega), nI_clamp (by omega)]
          omega
        have c1 : nI (cwN o) &&& (63 : Int32) = nI o.1 := cw_and b2 (by omega)
        have c2 : nI (cwN o) >>> ((6 : Int32) &&& 31) = nI o.2 := cw_shr b2 (by omega)
        have E : ∀ d : Nat, d < 64 → (nI o.1 = nI d ↔ o.1 = d) := fun d hd => nI_eq (by omega) (by omega)
        have N : ∀ d : Nat, d < 64 → ¬ o.1 = d → ¬ nI o.1 = nI d := fun d hd z y => z ((E d hd).mp y)
        unfold f_X5_worked_8
        rw [hlen, if_neg (nI_ge (by omega) (by omega)), if_neg (nI_ge ha (by omega)), aI_n _ (c + 2) (show a' < 400 by omega) (by omega), bind_s, hw, c1, nmI_e, bind_s, c2, nmI_e, bind_s, nmI_e, bind_s, nI_1 a']
        by_cases k3 : o.1 = 3
        · left
          rw [if_pos k3] at i4
          rw [if_pos (show nI o.1 = 3 by rw [k3]; rfl), nI_1 st.length, nmI_e, bind_s, and63 (by omega), bI_n _ 24 _ (show st.length + 1 < 64 by omega) (by omega), bind_s]
          exact on _ (nI o.2 :: st) _ i4 (i6.push _) (i7.tI _ rfl)
        rw [if_neg (show ¬ nI o.1 = 3 from N 3 (by omega) k3)]
        rw [if_neg k3] at i4
        by_cases k28 : 28 ≤ o.1
        · left
          rw [if_pos k28] at i4
          rw [if_neg (show ¬ nI o.1 < 28 from fun z => absurd (nI_le k28 (by omega)) (lt_nle z)), nI_1 st.length, nmI_e, bind_s, show (28 : Int32) = nI 28 from rfl, pk_sub k28, aI_n _ 25 (show o.1 - 28 < 6 by omega) (by omega), bind_s, i7.I 25 _ (by omega), hv _ (by omega), and63 (by omega), bI_n _ 24 _ (show st.length + 1 < 64 by omega) (by omega), bind_s]
          exact on _ (v (o.1 - 28) :: st) _ i4 (i6.push _) (i7.tI _ rfl)
        rw [if_neg k28] at i4
        rw [if_pos (show nI o.1 < 28 from nI_lt (b := 28) (by omega) (by omega))]
        match st, i4, i6, hst with
        | [], i4, i6, hst => cases i4
        | x :: st1, i4, i6, hst =>
          dsimp only at i4
          rw [List.length_cons] at hst ⊢
          have tx : hI m1 24 (st1.length + 1) = x := i6.1
          by_cases k23 : o.1 = 23
          · right
            rw [if_pos k23] at i4
            rw [if_pos (show nI o.1 = 23 by rw [k23]; rfl)]
            cases i4
            exact ⟨_, rfl, Or.inl ⟨st1.length + 1, m1, x, rfl, by omega, tx, rfl, i7⟩⟩
          rw [if_neg k23] at i4
          rw [if_neg (show ¬ nI o.1 = 23 from N 23 (by omega) k23)]
          have popm : ∀ (y : Int32), StX (tI m1 24 (st1.length + 1) y) (y :: st1) := fun y => i6.2.push y
          have am : nI (st1.length + 1) &&& (63 : Int32) = nI (st1.length + 1) := and63 (by omega)
          have pm1 : nI (st1.length + 1) + (-1 : Int32) = nI st1.length := by rw [iI_pred, nI_m1']
          by_cases k26 : o.1 = 26
          · left
            rw [if_pos k26] at i4
            rw [if_pos (show nI o.1 = 26 by rw [k26]; rfl), am, aI_n _ 24 (show st1.length + 1 < 64 by omega) (by omega), bind_s, bI_n _ 24 _ (show st1.length + 1 < 64 by omega) (by omega), bind_s, tx]
            exact on _ ((1 - x) :: st1) _ i4 (popm _) (i7.tI _ rfl)
          rw [if_neg k26] at i4
          rw [if_neg (show ¬ nI o.1 = 26 from N 26 (by omega) k26)]
          by_cases k21 : o.1 = 21
          · left
            rw [if_pos k21] at i4
            rw [if_pos (show nI o.1 = 21 by rw [k21]; rfl), am, aI_n _ 24 (show st1.length + 1 < 64 by omega) (by omega), bind_s, tx]
            unfold f_X5_worked_192
            rw [pm1, nmI_e, bind_s]
            by_cases x0 : x = 0
            · rw [if_pos x0] at i4 ⊢
              exact on _ st1 _ i4 i6.2 i7
            · rw [if_neg x0] at i4 ⊢
              rw [bind_s]
              exact on _ st1 _ i4 i6.2 i7
          rw [if_neg k21] at i4
          rw [if_neg (show ¬ nI o.1 = 21 from N 21 (by omega) k21)]
          have m0e : nI (st1.length + 1) - (0 : Int32) = nI (st1.length + 1) := by rw [Int32.sub_zero]
          have m1e : nI (st1.length + 1) - (1 : Int32) = nI st1.length := nI_m1s (by omega)
          by_cases k25 : o.1 = 25
          · left
            rw [if_pos k25] at i4
            rw [if_pos (show nI o.1 = 25 by rw [k25]; rfl)]
            unfold f_X5_worked_213 f_X5_worked_231 f_X5_worked_243 f_X5_worked_251 f_X5_worked_264 f_X5_worked_277
            rw [am, aI_n _ 24 (show st1.length + 1 < 64 by omega) (by omega), bind_s, tx]
            by_cases x0 : x = 0
            · rw [if_pos x0] at i4
              rw [if_pos x0, if_pos (show nI o.1 = 25 by rw [k25]; rfl), if_pos rfl, if_neg (by decide), if_neg (by decide), m0e, nmI_e, bind_s]
              exact on _ (x :: st1) _ i4 i6 i7
            · rw [if_neg x0] at i4
              rw [if_neg x0, if_pos (show nI o.1 = 25 by rw [k25]; rfl), if_neg (by decide), if_pos rfl, if_pos rfl, m1e, nmI_e, bind_s]
              exact on _ st1 _ i4 i6.2 i7
          rw [if_neg k25] at i4
          rw [if_neg (show ¬ nI o.1 = 25 from N 25 (by omega) k25)]
          by_cases k24 : o.1 = 24
          · left
            rw [if_pos k24] at i4
            rw [if_pos (show nI o.1 = 24 by rw [k24]; rfl)]
            unfold f_X5_worked_213 f_X5_worked_231 f_X5_worked_243 f_X5_worked_251 f_X5_worked_264 f_X5_worked_277
            rw [am, aI_n _ 24 (show st1.length + 1 < 64 by omega) (by omega), bind_s, tx]
            by_cases x0 : x = 0
            · rw [if_pos x0] at i4
              rw [if_pos x0, if_neg (show ¬ nI o.1 = 25 from N 25 (by omega) k25), if_neg (by decide), if_pos rfl, if_pos rfl, m1e, nmI_e, bind_s]
              exact on _ st1 _ i4 i6.2 i7
            · rw [if_neg x0] at i4
              rw [if_neg x0, if_neg (show ¬ nI o.1 = 25 from N 25 (by omega) k25), if_pos rfl, if_neg (by decide), if_neg (by decide), m0e, nmI_e, bind_s]
              exact on _ (x :: st1) _ i4 i6 i7
          rw [if_neg k24] at i4
          rw [if_neg (show ¬ nI o.1 = 24 from N 24 (by omega) k24), am, aI_n _ 24 (show st1.length + 1 < 64 by omega) (by omega), bind_s, tx, pm1, nmI_e, bind_s]
          cases st1 with
          | nil => cases i4
          | cons y st2 =>
            dsimp only at i4
            rw [List.length_cons] at hst ⊢
            have ty : hI m1 24 (st2.length + 1) = y := i6.2.1
            have am2 : nI (st2.length + 1) &&& (63 : Int32) = nI (st2.length + 1) := and63 (by omega)
            have hk : (7 ≤ o.1 ∧ o.1 ≤ 14) ∨ o.1 = 27 := by omega
            have fin : ∀ z, jnR P o.1 y x = some z → (o.1 = 10 → ¬ x = 0) → ex P D v f' (a' + 1) (z :: st2) = some r → ∃ s', f_X5_worked_312 c own (nI (a' + 1)) (nI (st2.length + 1)) (nI k) (nI o.1) x m1 = some (Sum.inl s') ∧ (∃ a' st k f', s'.1 = nI a' ∧ s'.2.1 = nI st.length ∧ s'.2.2.1 = nI k ∧ ex P D v f' a' st = some r ∧ k + f' ≤ D.length ∧ StX s'.2.2.2 st ∧ Fr (fun k _ => k = 24) m s'.2.2.2) ∧ 1000 - s'.2.2.1.toNatClampNeg < 1000 - (nI k).toNatClampNeg := by
              intro z hz hx e1
              unfold f_X5_worked_312
              rw [am2, aI_n _ 24 (show st2.length + 1 < 64 by omega) (by omega), bind_s, ty, x_joined hp1 hP hk hx hz, bind_s]
              dsimp only
              rw [bI_n _ 24 _ (show st2.length + 1 < 64 by omega) (by omega), bind_s]
              exact on _ (z :: st2) _ e1 (i6.2.2.push z) (i7.tI _ rfl)
            cases hz : jnR P o.1 y x with
            | none =>
              right
              rw [hz] at i4
              have hx : o.1 = 10 ∧ x = 0 := by
                unfold jnR jnV at hz
                by_cases q1 : 11 ≤ o.1 ∧ o.1 ≤ 14
                · rw [if_pos q1] at hz; cases hz
                rw [if_neg q1] at hz
                by_cases q7 : o.1 = 7
                · rw [if_pos q7] at hz; cases hz
                rw [if_neg q7] at hz
                by_cases q8 : o.1 = 8
                · rw [if_pos q8] at hz; cases hz
                rw [if_neg q8] at hz
                by_cases q9 : o.1 = 9
                · rw [if_pos q9] at hz; cases hz
                rw [if_neg q9] at hz
                by_cases q10 : o.1 = 10
                · rw [if_pos q10] at hz
                  by_cases qx : x = 0
                  · exact ⟨q10, qx⟩
                  · rw [if_neg qx] at hz; cases hz
                · rw [if_neg q10] at hz; cases hz
              cases i4
              rw [if_pos (show nI o.1 = 10 by rw [hx.1]; rfl), if_pos hx.2]
              exact ⟨_, rfl, Or.inr ⟨m1, Or.inl rfl, rfl, i7⟩⟩
            | some z =>
              left
              rw [hz] at i4
              have hx : o.1 = 10 → ¬ x = 0 := by
                intro q qx
                unfold jnR jnV at hz
                rw [q, qx] at hz
                cases hz
              by_cases q10 : o.1 = 10
              · rw [if_pos (show nI o.1 = 10 by rw [q10]; rfl), if_neg (hx q10)]
                exact fin z hz hx i4
              · rw [if_neg (show ¬ nI o.1 = 10 from N 10 (by omega) q10)]
                exact fin z hz hx i4
  obtain ⟨e, e1, q⟩ := key
  rw [e1, bind_s]
  rcases q with ⟨k, m1, x, rfl, hk, hx, rfl, ff⟩ | ⟨m1, rfl | rfl, rfl, ff⟩
  · dsimp only [Sum.elim]
    rw [and63 hk, aI_n _ 24 hk (by omega), bind_s, hx]
    exact ⟨_, m1, rfl, rfl, ff⟩
  · exact ⟨_, m1, rfl, rfl, ff⟩
  · exact ⟨_, m1, rfl, rfl, ff⟩
end KN2
