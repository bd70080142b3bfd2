/-! ===== the reference runs conditions and laws ===== -/
section KW
variable {m : M2} {l P : Nat} {v : Nat → Int32}
theorem LtAt.fr {S : Nat → Nat → Prop} {m' : M2} {k : Nat} {lt : Lit} (h : LtAt (GS m l) m l k lt) (hk : k < 150) (hf : Fr S m m') (hs : ∀ k j, lvs l k j → ¬ S k j) : LtAt (GS m' l) m' l k lt := by
  obtain ⟨a, g1, g2, h3, c83, c84, c85, c86, c87, c88⟩ := h
  have I : ∀ k j, lvs l k j → hI m' k j = hI m k j := fun k j z => hf.I _ _ (hs k j z)
  have b1 := g1.2
  have b2 := g2.2
  exact ⟨a, ⟨g1.1.fr hf (fun k j z => hs k j (by unfold lvs; omega)), g1.2⟩, ⟨g2.1.fr hf (fun k j z => hs k j (by unfold lvs; omega)), g2.2⟩, h3, (I _ _ (by unfold lvs; omega)).trans c83, (I _ _ (by unfold lvs; omega)).trans c84, (I _ _ (by unfold lvs; omega)).trans c85, (I _ _ (by unfold lvs; omega)).trans c86, (I _ _ (by unfold lvs; omega)).trans c87, (I _ _ (by unfold lvs; omega)).trans c88⟩
theorem BrK.fr {S : Nat → Nat → Prop} {m' : M2} {b : Nat} {br : Br} (h : BrAt (GS m l) m l b br) (hb : b < 54) (hf : Fr S m m') (hs : ∀ k j, lvs l k j → ¬ S k j) : BrAt (GS m' l) m' l b br := by
  obtain ⟨x, a, h1, h2, h3, h4, c70, c71, c72, c73⟩ := h
  have I : ∀ k j, lvs l k j → hI m' k j = hI m k j := fun k j z => hf.I _ _ (hs k j z)
  have b1 := h3.2
  exact ⟨x, a, fun j lt hj => (h1 j lt hj).fr (by have := lt_of_get hj; omega) hf hs, h2, ⟨h3.1.fr hf (fun k j z => hs k j (by unfold lvs; omega)), h3.2⟩, h4, (I _ _ (by unfold lvs; omega)).trans c70, (I _ _ (by unfold lvs; omega)).trans c71, (I _ _ (by unfold lvs; omega)).trans c72, (I _ _ (by unfold lvs; omega)).trans c73⟩
theorem lvs_sto {k j : Nat} (h : lvs l k j) : ¬ STo k j := by
  unfold lvs at h
  omega
theorem m_holds {x b : Nat} {ls : List Lit} (t1 : hI m 56 18 = nI l) (t2 : l < 2) (t3 : hI m 66 l = nI P) (hP : 3 ≤ P ∧ P ≤ 24) (hb : b < 54) (hG : ∀ j lt, ls[j]? = some lt → LtAt (GS m l) m l (x + j) lt) (hx : x + ls.length ≤ 150) (c70 : hI m 70 (54 * l + b) = nI (150 * l + x)) (c71 : hI m 71 (54 * l + b) = nI (150 * l + x + ls.length)) (hv : ∀ i, i < 6 → hI m 100 i = v i) (h71 : hI m 56 71 = 0) : ∃ m' t, F_X12_holds (nI (54 * l + b)) m = some (bI1 t, m') ∧ Fr STo m m' ∧ ((hV P v false ls = some t ∧ hI m' 56 71 = 0) ∨ (hV P v false ls = none ∧ hI m' 56 71 = 1)) := by
  have hi : 54 * l + b < 108 := by omega
  unfold F_X12_holds
  rw [aI_n _ 70 hi (by omega), bind_s, c70]
  have key : ∃ e, loop (g_X12_holds_9 (nI (54 * l + b))) ((0 : Int32), nI (150 * l + x), m) = some e ∧ ((∃ m1, e = Sum.inl m1 ∧ hV P v false ls = some true ∧ hI m1 56 71 = 0 ∧ Fr STo m m1) ∨ (∃ m1 t, e = Sum.inr (bI1 t, m1) ∧ Fr STo m m1 ∧ ((hV P v false ls = some t ∧ hI m1 56 71 = 0) ∨ (hV P v false ls = none ∧ hI m1 56 71 = 1)))) := by
    refine loop_ex ls.length (fun k z => ∃ t, z.1 = bI1 t ∧ z.2.1 = nI (150 * l + x + k) ∧ Fr STo m z.2.2 ∧ ((hV P v t (ls.drop k) = hV P v false ls ∧ hI z.2.2 56 71 = 0) ∨ (hV P v false ls = none ∧ hI z.2.2 56 71 = 1))) _ (by omega) ?_ ?_ ⟨false, rfl, rfl, Fr.rf, Or.inl ⟨rfl, h71⟩⟩
    · rintro k ⟨z1, z2, m1⟩ hk ⟨t, i1, i2, i3, i4⟩
      dsimp only at i1 i2 i3 i4
      subst i1 i2
      show (∃ s', f_X12_holds_9 (nI (54 * l + b)) (bI1 t) (nI (150 * l + x + k)) m1 = some (Sum.inl s') ∧ _) ∨ ∃ e, f_X12_holds_9 (nI (54 * l + b)) (bI1 t) (nI (150 * l + x + k)) m1 = some (Sum.inr e) ∧ _
      unfold f_X12_holds_9
      rw [aI_n _ 71 hi (by omega), bind_s, i3.I 71 _ (by omega), c71, if_neg (nI_ge (by omega) (by omega))]
      rcases i4 with ⟨i4, i5⟩ | ⟨i4, i5⟩
      · obtain ⟨lt, ho⟩ : ∃ o, ls[k]? = some o := ⟨ls[k], List.getElem?_eq_getElem hk⟩
        have hl := (hG k lt ho).fr (by omega) i3 (fun k j z => lvs_sto z)
        have c85 : hI m1 85 (150 * l + x + k) = bI1 lt.1 := by
          obtain ⟨_, _, _, _, _, _, c, _⟩ := hl
          rw [Nat.add_assoc]; exact c
        rw [drop_c ho] at i4
        have i4' : (if lt.1 = true ∧ t = true then some true else if lt.1 = true ∨ t = true then (match rV P v lt.2 with
          | none => none
          | some t => hV P v t (ls.drop (k + 1))) else hV P v false (ls.drop (k + 1))) = hV P v false ls := i4
        have h300 : 150 * l + x + k < 300 := by omega
        rw [if_pos i5, aI_n _ 85 h300 (by omega), bind_s, c85]
        -- the relation is looked at
        have see : (match rV P v lt.2 with
          | none => none
          | some t => hV P v t (ls.drop (k + 1))) = hV P v false ls → ∃ s', f_X12_holds_52 (nI (54 * l + b)) (1 : Int32) (nI (150 * l + x + k)) m1 = some (Sum.inl s') ∧ ∃ t, s'.1 = bI1 t ∧ s'.2.1 = nI (150 * l + x + (k + 1)) ∧ Fr STo m s'.2.2 ∧ ((hV P v t (ls.drop (k + 1)) = hV P v false ls ∧ hI s'.2.2 56 71 = 0) ∨ (hV P v false ls = none ∧ hI s'.2.2 56 71 = 1)) := by
          intro hh
          obtain ⟨m2, t2', e2, f2, q2⟩ := m_isTrue (v := v) (by rw [i3.I _ _ (by omega)]; exact t1) t2 (by rw [i3.I _ _ (by omega)]; exact t3) hP (show x + k < 150 by omega) hl (fun i hi => by rw [i3.I _ _ (by omega)]; exact hv i hi) i5
          unfold f_X12_holds_52 f_X12_holds_62
          rw [if_neg (by decide), Nat.add_assoc, e2, bind_s]
          dsimp only
          rw [nmI_e, bind_s, nI_1]
          refine ⟨_, rfl, t2', rfl, show nI (150 * l + (x + k) + 1) = nI (150 * l + x + (k + 1)) from congrArg nI (by omega), i3.tr f2, ?_⟩
          rcases q2 with ⟨q2, r2⟩ | ⟨q2, r2⟩
          · rw [q2] at hh
            exact Or.inl ⟨hh, r2⟩
          · rw [q2] at hh
            exact Or.inr ⟨hh.symm, r2⟩
        cases hlt : lt.1 with
        | true =>
          rw [hlt] at i4'
          rw [if_neg (by decide)]
          cases t with
          | true =>
            right
            rw [if_pos ⟨rfl, rfl⟩] at i4'
            rw [if_neg (by decide)]
            exact ⟨_, rfl, Or.inl ⟨m1, rfl, i4'.symm, i5, i3⟩⟩
          | false =>
            left
            rw [if_neg (fun z => by cases z.2), if_pos (Or.inl rfl)] at i4'
            rw [if_pos (show bI1 false = 0 from rfl)]
            unfold f_X12_holds_41
            rw [aI_n _ 85 h300 (by omega), bind_s, c85, hlt, if_neg (by decide)]
            exact see i4'
        | false =>
          left
          rw [hlt] at i4'
          rw [if_pos (show bI1 false = 0 from rfl)]
          rw [if_neg (fun z => by cases z.1)] at i4'
          unfold f_X12_holds_41
          rw [aI_n _ 85 h300 (by omega), bind_s, c85, hlt, if_pos (show bI1 false = 0 from rfl)]
          cases t with
          | true =>
            rw [if_pos (Or.inr rfl)] at i4'
            exact see i4'
          | false =>
            rw [if_neg (fun z => by rcases z with z | z <;> cases z)] at i4'
            unfold f_X12_holds_52 f_X12_holds_62
            rw [if_pos (show bI1 false = 0 from rfl), nmI_e, bind_s, nI_1]
            exact ⟨_, rfl, false, rfl, rfl, i3, Or.inl ⟨i4', i5⟩⟩
      · right
        rw [if_neg (by rw [i5]; decide)]
        exact ⟨_, rfl, Or.inr ⟨m1, t, rfl, i3, Or.inr ⟨i4, i5⟩⟩⟩
    · rintro ⟨z1, z2, m1⟩ ⟨t, i1, i2, i3, i4⟩
      dsimp only at i1 i2 i3 i4
      subst i1 i2
      show ∃ e, f_X12_holds_9 (nI (54 * l + b)) (bI1 t) (nI (150 * l + x + ls.length)) m1 = some (Sum.inr e) ∧ _
      unfold f_X12_holds_9
      rw [aI_n _ 71 hi (by omega), bind_s, i3.I 71 _ (by omega), c71, if_pos (nI_le (Nat.le_refl _) (by omega))]
      refine ⟨_, rfl, Or.inr ⟨m1, t, rfl, i3, ?_⟩⟩
      rcases i4 with ⟨i4, i5⟩ | ⟨i4, i5⟩
      · rw [List.drop_length] at i4
        exact Or.inl ⟨i4.symm, i5⟩
      · exact Or.inr ⟨i4, i5⟩
  obtain ⟨e, e1, ⟨m1, rfl, q1, q2, q3⟩ | ⟨m1, t, rfl, q1, q2⟩⟩ := key
  · rw [e1, bind_s]
    exact ⟨m1, true, rfl, q3, Or.inl ⟨q1, q2⟩⟩
  · rw [e1, bind_s, Sum.elim_inr]
    unfold f_X12_holds_68
    have : zb (bI1 t) = some (bI1 t) := by cases t <;> rfl
    dsimp only
    rw [this, bind_s]
    exact ⟨m1, t, rfl, q1, q2⟩
theorem m_rowsBy {q : Nat} {w : List Br × List Op} {own : Int32} (t1 : hI m 56 18 = nI l) (t2 : l < 2) (t3 : hI m 66 l = nI P) (hP : 3 ≤ P ∧ P ≤ 24) (hq : q < 6) (hW : LwAt (GS m l) m l q w) (hv : ∀ i, i < 6 → hI m 100 i = v i) : ∃ m', F_X12_rowsBy (nI q) own m = some ((match lawV P v w with
    | some x => nI (rst P x)
    | none => own), m') ∧ Fr STo m m' := by
  obtain ⟨x, hx, hne, c68, c69, hB⟩ := hW
  have hi : 6 * l + q < 12 := by omega
  unfold F_X12_rowsBy
  rw [if_neg (nI_m1 (by omega)), t1, lit_6, pk_mul, nI_add, nmI_e, bind_s, qI_e, bind_s, aI_n _ 68 hi (by omega), bind_s, hI_tI, if_neg (by omega), c68]
  have f0 : Fr STo m (tI m 56 71 0) := Fr.rf.tI _ (by omega)
  have z0 : hI (tI m 56 71 0) 56 71 = 0 := by rw [hI_tI, if_pos ⟨rfl, rfl⟩]
  generalize tI m 56 71 0 = m0 at f0 z0 ⊢
  have key : ∃ e, loop (g_X12_rowsBy_30 own (nI (6 * l + q))) (nI (54 * l + x), m0) = some e ∧ ((∃ m1, e = Sum.inl m1 ∧ lawV P v w = none ∧ Fr STo m m1) ∨ (∃ m1 b br, e = Sum.inr (Sum.inl (nI (54 * l + b), m1)) ∧ b < 54 ∧ lawV P v w = vE P v br.2 ∧ BrAt (GS m1 l) m1 l b br ∧ hI m1 56 71 = 0 ∧ Fr STo m m1)) := by
    refine loop_ex w.1.length (fun k z => z.1 = nI (54 * l + x + k) ∧ bvp P v (w.1.drop k) = bvp P v w.1 ∧ hI z.2 56 71 = 0 ∧ Fr STo m z.2) _ (by omega) ?_ ?_ ⟨rfl, rfl, z0, f0⟩
    · rintro k ⟨z1, m1⟩ hk ⟨i1, i2, i3, i4⟩
      dsimp only at i1 i2 i3 i4
      subst i1
      show (∃ s', f_X12_rowsBy_30 own (nI (6 * l + q)) (nI (54 * l + x + k)) m1 = some (Sum.inl s') ∧ _) ∨ ∃ e, f_X12_rowsBy_30 own (nI (6 * l + q)) (nI (54 * l + x + k)) m1 = some (Sum.inr e) ∧ _
      unfold f_X12_rowsBy_30
      obtain ⟨b, ho⟩ : ∃ o, w.1[k]? = some o := ⟨w.1[k], List.getElem?_eq_getElem hk⟩
      have hBk := (hB k b (by rw [List.getElem?_append_left hk]; exact ho)).fr (by omega) i4 (fun k j z => lvs_sto z)
      have hBk0 := hBk
      obtain ⟨y, a, h1, h2, h3, h4, c70, c71, c72, c73⟩ := hBk
      have hbn := hne b (List.mem_of_getElem? ho)
      have hbl : 0 < b.1.length := by
        cases hb : b.1 with
        | nil => exact absurd hb hbn
        | cons u us => rw [List.length_cons]; omega
      have h108 : 54 * l + x + k < 108 := by omega
      rw [aI_n _ 69 hi (by omega), bind_s, i4.I 69 _ (by omega), c69, if_neg (nI_ge (by omega) (by omega)), aI_n _ 70 h108 (by omega), bind_s, aI_n _ 71 h108 (by omega), bind_s, Nat.add_assoc (54 * l), c70, c71, if_neg (eq_nI (by omega) (by omega) (by omega))]
      obtain ⟨m2, t, e2, f2, q2⟩ := m_holds (v := v) (by rw [i4.I _ _ (by omega)]; exact t1) t2 (by rw [i4.I _ _ (by omega)]; exact t3) hP (show x + k < 54 by omega) h1 h2 c70 c71 (fun i hi => by rw [i4.I _ _ (by omega)]; exact hv i hi) i3
      rw [e2, bind_s]
      dsimp only
      rw [drop_c ho] at i2
      have i2' : (match hV P v false b.1 with
        | none => some none
        | some t => if t = true then some (vE P v b.2) else bvp P v (w.1.drop (k + 1))) = bvp P v w.1 := i2
      rcases q2 with ⟨q2, r2⟩ | ⟨q2, r2⟩
      · rw [q2] at i2'
        dsimp only at i2'
        cases t with
        | true =>
          right
          rw [if_pos rfl] at i2'
          rw [if_neg (by decide)]
          unfold f_X12_rowsBy_67 f_X12_rowsBy_72
          rw [if_pos r2, if_neg (by decide)]
          refine ⟨_, rfl, Or.inr ⟨m2, x + k, b, rfl, by omega, ?_, hBk0.fr (by omega) f2 (fun k j z => lvs_sto z), r2, i4.tr f2⟩⟩
          unfold lawV
          rw [← i2']
        | false =>
          left
          rw [if_neg (by decide)] at i2'
          rw [if_pos (show bI1 false = 0 from rfl)]
          unfold f_X12_rowsBy_72
          rw [if_pos r2, if_pos rfl, nmI_e, bind_s, nI_1]
          exact ⟨_, rfl, show nI (54 * l + (x + k) + 1) = nI (54 * l + x + (k + 1)) from congrArg nI (by omega), i2', r2, i4.tr f2⟩
      · right
        rw [q2] at i2'
        dsimp only at i2'
        unfold f_X12_rowsBy_67 f_X12_rowsBy_72
        have hl : lawV P v w = none := by
          unfold lawV
          rw [← i2']
        have r2' : ¬ hI m2 56 71 = 0 := by rw [r2]; decide
        by_cases ht : bI1 t = 0
        · rw [if_pos ht, if_neg r2']
          exact ⟨_, rfl, Or.inl ⟨m2, rfl, hl, i4.tr f2⟩⟩
        · rw [if_neg ht, if_neg r2']
          exact ⟨_, rfl, Or.inl ⟨m2, rfl, hl, i4.tr f2⟩⟩
    · rintro ⟨z1, m1⟩ ⟨i1, i2, i3, i4⟩
      dsimp only at i1 i2 i3 i4
      subst i1
      show ∃ e, f_X12_rowsBy_30 own (nI (6 * l + q)) (nI (54 * l + x + w.1.length)) m1 = some (Sum.inr e) ∧ _
      unfold f_X12_rowsBy_30
      have hBk := (hB w.1.length ([], w.2) (by rw [List.getElem?_append_right (Nat.le_refl _), Nat.sub_self]; rfl)).fr (by omega) i4 (fun k j z => lvs_sto z)
      have hBk0 := hBk
      obtain ⟨y, a, h1, h2, h3, h4, c70, c71, c72, c73⟩ := hBk
      have h108 : 54 * l + x + w.1.length < 108 := by omega
      rw [aI_n _ 69 hi (by omega), bind_s, i4.I 69 _ (by omega), c69, if_neg (nI_ge (by omega) (by omega)), aI_n _ 70 h108 (by omega), bind_s, aI_n _ 71 h108 (by omega), bind_s, Nat.add_assoc (54 * l), c70, c71, if_pos (show nI (150 * l + y) = nI (150 * l + y + ([] : List Lit).length) from rfl)]
      unfold f_X12_rowsBy_67 f_X12_rowsBy_72
      rw [if_pos i3, if_neg (by decide)]
      refine ⟨_, rfl, Or.inr ⟨m1, x + w.1.length, ([], w.2), rfl, by omega, ?_, hBk0, i3, i4⟩⟩
      rw [List.drop_length] at i2
      unfold lawV
      rw [← i2]
      rfl
  obtain ⟨e, e1, ⟨m1, rfl, q1, q2⟩ | ⟨m1, b, br, rfl, hb, q1, ⟨y, a, h1, h2, h3, h4, c70, c71, c72, c73⟩, q3, q4⟩⟩ := key
  · rw [e1, bind_s, Sum.elim_inl, q1]
    exact ⟨m1, rfl, q2⟩
  · have s1 : hI m1 56 18 = nI l := by rw [q4.I _ _ (by omega)]; exact t1
    have s3 : hI m1 66 l = nI P := by rw [q4.I _ _ (by omega)]; exact t3
    obtain ⟨m2, z, e2, q5, f2⟩ := m_termOf (v := v) s1 t2 s3 hP h3 h4 (fun i hi => by rw [q4.I _ _ (by omega)]; exact hv i hi)
    rw [e1, bind_s, Sum.elim_inr, Sum.elim_inl]
    dsimp only
    rw [aI_n _ 72 (show 54 * l + b < 108 by omega) (by omega), bind_s, aI_n _ 73 (show 54 * l + b < 108 by omega) (by omega), bind_s, c72, c73, e2, bind_s, q1]
    dsimp only
    unfold f_X12_rowsBy_128
    rcases q5 with ⟨q5, r5⟩ | ⟨q5, r5⟩
    · rw [if_pos (by rw [r5]; exact q3), m_rest (by rw [f2.I _ _ (by omega)]; exact s1) t2 (by rw [f2.I _ _ (by omega)]; exact s3) (by omega) (by omega), bind_s, q5]
      exact ⟨m2, rfl, q4.tr f2⟩
    · rw [if_neg (by rw [r5]; decide), q5]
      exact ⟨m2, rfl, q4.tr f2⟩
/-- the laws told, as both make of them -/
def evW (P : Nat) (ws : List (List Br × List Op)) : Ev := fun q v => rst P ((lawV P v (ws.getD q ([], []))).getD (v 0))
theorem evW_ok {P : Nat} (h : 0 < P) (ws : List (List Br × List Op)) (nl : Nat) : EvOk (evW P ws) P nl := fun _ _ _ => rst_lt _ h
theorem rst_nI {P t : Nat} (h : t < P) (hP : P ≤ 24) : rst P (nI t) = t := by
  unfold rst
  rw [nI_toInt (by omega)]
  have : (t : Int) % (P : Int) = t := Int.emod_eq_of_lt (by omega) (by omega)
  rw [this]
  rfl
theorem LwK.fr {S : Nat → Nat → Prop} {m' : M2} {q : Nat} {w : List Br × List Op} (h : LwAt (GS m l) m l q w) (hq : q < 6) (hf : Fr S m m') (hs : ∀ k j, lvs l k j → ¬ S k j) : LwAt (GS m' l) m' l q w := by
  obtain ⟨x, h1, h2, h3, h4, h5⟩ := h
  have I : ∀ k j, lvs l k j → hI m' k j = hI m k j := fun k j z => hf.I _ _ (hs k j z)
  refine ⟨x, h1, h2, (I _ _ (by unfold lvs; omega)).trans h3, (I _ _ (by unfold lvs; omega)).trans h4, fun j b hj => (h5 j b hj).fr ?_ hf hs⟩
  have := lt_of_get hj
  rw [List.length_append, List.length_singleton] at this
  omega
theorem LwM_of {ws : List (List Br × List Op)} (t1 : hI m 56 18 = nI l) (t2 : l < 2) (t3 : hI m 66 l = nI P) (hP : 3 ≤ P ∧ P ≤ 24) (hl : ws.length ≤ 6) (hW : ∀ q w, ws[q]? = some w → LwAt (GS m l) m l q w) : LwM m l ws.length (evW P ws) := by
  intro q hq v m' t P' h1 h2 h3 h4 hf hv
  have eP : P' = P := by
    rw [h3] at t3
    exact (nI_eq (by omega) (by omega)).mp t3
  subst eP
  obtain ⟨w, ho⟩ : ∃ o, ws[q]? = some o := ⟨ws[q], List.getElem?_eq_getElem hq⟩
  have hs : ∀ k j, lvs l k j → ¬ ¬ lvs l k j := fun k j z y => y z
  obtain ⟨m2, e2, f2⟩ := m_rowsBy (own := v 0) (v := v) (by rw [hf.I _ _ (hs _ _ (by unfold lvs; omega))]; exact t1) t2 (by rw [hf.I _ _ (hs _ _ (by unfold lvs; omega))]; exact t3) hP (show q < 6 by omega) ((hW q w ho).fr (by omega) hf hs) hv
  refine ⟨m2, ?_, f2⟩
  rw [e2]
  have eg : ws.getD q ([], []) = w := by rw [List.getD_eq_getElem?_getD, ho]; rfl
  unfold evW
  rw [eg]
  cases lawV P' v w with
  | some x => rfl
  | none =>
    show some (v 0, m2) = some (nI (rst P' (v 0)), m2)
    rw [h4, rst_nI h1 h2]
end KW
