/-! ===== the reference runs terms, literals, branches ===== -/
def lawV (P : Nat) (v : Nat → Int32) (w : List Br × List Op) : Option Int32 := match bvp P v w.1 with
  | some r => r
  | none => vE P v w.2
def PlM (m : M2) : List Int32 → Prop
  | [] => True
  | x :: st => hI m 101 st.length = x ∧ PlM m st
def SgM (m : M2) (sd a : Nat) (L : List Op) : Prop := ∀ j o, L[j]? = some o → hI m 89 (420 * sd + a + j) = nI (mo1 o) ∧ hI m 90 (420 * sd + a + j) = nI (mo2 o)
def GS (m : M2) (sd : Nat) : Nat → List Op → Prop := fun a L => SgM m sd a L ∧ a + L.length ≤ 420
def GC (C : List Op) : Nat → List Op → Prop := fun a L => Seg C a L ∧ a + L.length ≤ C.length
def GO (L : List Op) : Prop := ∃ K V i j, GdO K V i j 21 L
def LtAt (G : Nat → List Op → Prop) (m : M2) (sd k : Nat) (l : Lit) : Prop := ∃ a, G a (rA l.2) ∧ G (a + (rA l.2).length) (rB l.2) ∧ RlO l.2 ∧ hI m 83 (150 * sd + k) = nI (rK l.2 - 11) ∧ hI m 84 (150 * sd + k) = bI1 (rNot l.2) ∧ hI m 85 (150 * sd + k) = bI1 l.1 ∧ hI m 86 (150 * sd + k) = nI (420 * sd + a) ∧ hI m 87 (150 * sd + k) = nI (420 * sd + (a + (rA l.2).length)) ∧ hI m 88 (150 * sd + k) = nI (420 * sd + (a + (rA l.2).length) + (rB l.2).length)
def BrK (G : Nat → List Op → Prop) (K : Nat) (m : M2) (sd b : Nat) (br : Br) : Prop := ∃ x a, (∀ j l, br.1[j]? = some l → LtAt G m sd (x + j) l) ∧ x + br.1.length ≤ K ∧ G a br.2 ∧ GO br.2 ∧ hI m 70 (54 * sd + b) = nI (150 * sd + x) ∧ hI m 71 (54 * sd + b) = nI (150 * sd + x + br.1.length) ∧ hI m 72 (54 * sd + b) = nI (420 * sd + a) ∧ hI m 73 (54 * sd + b) = nI (420 * sd + a + br.2.length)
abbrev BrAt (G : Nat → List Op → Prop) (m : M2) (sd b : Nat) (br : Br) : Prop := BrK G 150 m sd b br
def LwK (G : Nat → List Op → Prop) (K B : Nat) (m : M2) (sd q : Nat) (w : List Br × List Op) : Prop := ∃ x, x + w.1.length < B ∧ (∀ b, b ∈ w.1 → ¬ b.1 = []) ∧ hI m 68 (6 * sd + q) = nI (54 * sd + x) ∧ hI m 69 (6 * sd + q) = nI (54 * sd + x + w.1.length + 1) ∧ ∀ j b, (w.1 ++ [(([] : List Lit), w.2)])[j]? = some b → BrK G K m sd (x + j) b
abbrev LwAt (G : Nat → List Op → Prop) (m : M2) (sd q : Nat) (w : List Br × List Op) : Prop := LwK G 150 54 m sd q w
abbrev STo : Nat → Nat → Prop := fun k j => k = 101 ∨ (k = 56 ∧ j = 71)
theorem lt_of_get {α : Type} {L : List α} {j : Nat} {o : α} (h : L[j]? = some o) : j < L.length := by
  apply Classical.byContradiction
  intro z
  rw [List.getElem?_eq_none (by omega)] at h
  cases h
theorem drop_c {α : Type} {L : List α} {k : Nat} {o : α} (h : L[k]? = some o) : L.drop k = o :: L.drop (k + 1) := by
  have hk := lt_of_get h
  rw [List.drop_eq_getElem_cons hk]
  congr 1
  have := List.getElem?_eq_getElem hk
  rw [h] at this
  cases this
  rfl
section KV
variable {m : M2} {l P : Nat} {v : Nat → Int32}
theorem PlM.put {j : Nat} {x : Int32} : ∀ {st : List Int32}, PlM m st → st.length ≤ j → PlM (tI m 101 j x) st
  | [], _, _ => trivial
  | y :: st, h, hj => by
    rw [List.length_cons] at hj
    refine ⟨?_, PlM.put h.2 (by omega)⟩
    rw [hI_tI, if_neg (by omega)]
    exact h.1
theorem PlM.push {x : Int32} {st : List Int32} (h : PlM m st) : PlM (tI m 101 st.length x) (x :: st) := by
  refine ⟨?_, h.put (Nat.le_refl _)⟩
  rw [hI_tI, if_pos ⟨rfl, rfl⟩]
theorem SgM.fr {S : Nat → Nat → Prop} {m' : M2} {a : Nat} {L : List Op} (h : SgM m l a L) (hf : Fr S m m') (hs : ∀ k j, (k = 89 ∨ k = 90) ∧ 420 * l + a ≤ j ∧ j < 420 * l + a + L.length → ¬ S k j) : SgM m' l a L := fun j o ho => by
  have := lt_of_get ho
  exact ⟨(hf.I _ _ (hs _ _ ⟨by omega, by omega, by omega⟩)).trans (h j o ho).1, (hf.I _ _ (hs _ _ ⟨by omega, by omega, by omega⟩)).trans (h j o ho).2⟩
theorem dv_m1 (a : Int32) : a / (-1) = -a := by
  apply Int32.toInt_inj.mp
  have e : (-1 : Int32).toInt = -1 := rfl
  rw [Int32.toInt_div, e, Int.tdiv_neg, Int.tdiv_one, Int32.toInt_neg]
theorem m_termOf {a : Nat} {L : List Op} (t1 : hI m 56 18 = nI l) (t2 : l < 2) (t3 : hI m 66 l = nI P) (hP : 3 ≤ P ∧ P ≤ 24) (hG : GS m l a L) (hO : GO L) (hv : ∀ i, i < 6 → hI m 100 i = v i) : ∃ m' x, F_X12_termOf (nI (420 * l + a)) (nI (420 * l + a + L.length)) m = some (x, m') ∧ ((vE P v L = some x ∧ hI m' 56 71 = hI m 56 71) ∨ (vE P v L = none ∧ hI m' 56 71 = 1)) ∧ Fr STo m m' := by
  obtain ⟨g1, g2⟩ := hG
  obtain ⟨K, V, i0, j0, _, _, _, _, h5, h6, h7⟩ := hO
  have hev := h5.vE P v []
  unfold F_X12_termOf
  have key : ∃ e, loop (g_X12_termOf_5 (nI (420 * l + a + L.length))) ((0 : Int32), nI (420 * l + a), m) = some e ∧ ((∃ m1, e = Sum.inl m1 ∧ vE P v L = none ∧ Fr (fun k _ => k = 101) m m1) ∨ (∃ m1 x, e = Sum.inr m1 ∧ vE P v L = some x ∧ hI m1 101 0 = x ∧ Fr (fun k _ => k = 101) m m1)) := by
    refine loop_ex L.length (fun k z => ∃ st, z.1 = nI st.length ∧ z.2.1 = nI (420 * l + a + k) ∧ evL P v (L.drop k) st = evL P v L [] ∧ nu (L.drop k) st.length ∧ dpt (L.drop k) st.length ≤ 60 ∧ PlM z.2.2 st ∧ Fr (fun k _ => k = 101) m z.2.2) _ (by omega) ?_ ?_ ⟨[], rfl, rfl, rfl, (h6 0).2.2, by have := (h6 0).2.1; show dpt L 0 ≤ 60; omega, trivial, Fr.rf⟩
    · rintro k ⟨z1, z2, m1⟩ hk ⟨st, i1, i2, i3, i4, i5, i6, i7⟩
      dsimp only at i1 i2 i6 i7
      subst i1 i2
      obtain ⟨o, ho⟩ : ∃ o, L[k]? = some o := ⟨L[k], List.getElem?_eq_getElem hk⟩
      have hok := h7 o (List.mem_of_getElem? ho)
      obtain ⟨c1, c2⟩ := g1 k o ho
      rw [drop_c ho] at i3 i4 i5
      have hdg := (dpt_ge (o :: L.drop (k + 1)) st.length).1
      rw [evL_c] at i3
      rw [nu_c] at i4
      rw [dpt_c] at i5
      show (∃ s', f_X12_termOf_5 (nI (420 * l + a + L.length)) (nI st.length) (nI (420 * l + a + k)) m1 = some (Sum.inl s') ∧ _) ∨ ∃ e, f_X12_termOf_5 (nI (420 * l + a + L.length)) (nI st.length) (nI (420 * l + a + k)) m1 = some (Sum.inr e) ∧ _
      have push : ∀ x, evL P v (L.drop (k + 1)) (x :: st) = evL P v L [] → nu (L.drop (k + 1)) (st.length + 1) → dpt (L.drop (k + 1)) (st.length + 1) ≤ 60 → st.length ≤ 60 → ∃ s', f_X12_termOf_58 (nI (420 * l + a + L.length)) (nI st.length) (nI (420 * l + a + k)) (nI st.length) x m1 = some (Sum.inl s') ∧ ∃ st, s'.1 = nI st.length ∧ s'.2.1 = nI (420 * l + a + (k + 1)) ∧ evL P v (L.drop (k + 1)) st = evL P v L [] ∧ nu (L.drop (k + 1)) st.length ∧ dpt (L.drop (k + 1)) st.length ≤ 60 ∧ PlM s'.2.2 st ∧ Fr (fun k _ => k = 101) m s'.2.2 := by
        intro x e1 e2 e3 e4
        unfold f_X12_termOf_58 f_X12_termOf_189
        rw [bI_n _ 101 _ (show st.length < 400 by omega) (by omega), bind_s, nmI_e, bind_s, nmI_e, bind_s, nI_1, nI_1]
        exact ⟨_, rfl, x :: st, rfl, rfl, e1, e2, e3, i6.push, i7.tI _ rfl⟩
      unfold f_X12_termOf_5
      rw [if_neg (nI_ge (by omega) (by omega)), aI_n _ 89 (show 420 * l + a + k < 840 by omega) (by omega), bind_s, i7.I _ _ (by omega), c1]
      by_cases h3 : o.1 = 3
      · left
        rw [if_pos h3] at i3
        rw [if_pos (Or.inl h3)] at i4 i5
        have e1 : mo1 o = 0 := if_pos h3
        have e2 : mo2 o = o.2 := if_pos h3
        rw [e1, if_neg (by decide), if_pos (show nI 0 = 0 from rfl), aI_n _ 90 (show 420 * l + a + k < 840 by omega) (by omega), bind_s, i7.I _ _ (by omega), c2, e2]
        exact push _ i3 i4 (by omega) (by omega)
      rw [if_neg h3] at i3
      by_cases h28 : 28 ≤ o.1
      · left
        rw [if_pos h28] at i3
        rw [if_pos (Or.inr h28)] at i4 i5
        have e1 : mo1 o = 1 := by unfold mo1; rw [if_neg h3, if_pos h28]
        have e2 : mo2 o = o.1 - 28 := by unfold mo2; rw [if_neg h3, if_pos h28]
        have h33 : o.1 ≤ 33 := by
          unfold OpK isBn at hok
          omega
        rw [e1, if_neg (by decide), if_neg (by decide), aI_n _ 90 (show 420 * l + a + k < 840 by omega) (by omega), bind_s, i7.I _ _ (by omega), c2, e2, aI_n _ 100 (show o.1 - 28 < 6 by omega) (by omega), bind_s, i7.I 100 _ (by omega), hv _ (by omega)]
        exact push _ i3 i4 (by omega) (by omega)
      rw [if_neg h28] at i3
      rw [if_neg (by omega)] at i4 i5
      have hb : o.1 = 7 ∨ o.1 = 8 ∨ o.1 = 9 ∨ o.1 = 10 ∨ o.1 = 27 := by
        unfold OpK isBn at hok
        omega
      obtain ⟨y, x, st2, hst⟩ : ∃ y x st2, st = y :: x :: st2 := by
        have := i4.1
        cases st with
        | nil => exact absurd this (by show ¬ 2 ≤ 0; omega)
        | cons y st1 =>
          cases st1 with
          | nil => exact absurd this (by show ¬ 2 ≤ 1; omega)
          | cons x st2 => exact ⟨y, x, st2, rfl⟩
      subst hst
      dsimp only at i3
      have i4' : nu (L.drop (k + 1)) (st2.length + 1) := i4.2
      have i5' : dpt (L.drop (k + 1)) (st2.length + 1) ≤ 60 := by
        have : dpt (L.drop (k + 1)) ((y :: x :: st2).length - 1) ≤ 60 := by omega
        exact this
      have hl2 : st2.length ≤ 58 := by
        rw [List.length_cons, List.length_cons] at hdg
        rw [List.length_cons, List.length_cons] at i5
        omega
      have ex6 : hI m1 101 st2.length = x := i6.2.1
      have ey6 : hI m1 101 (st2.length + 1) = y := i6.1
      have pm1 : nI (st2.length + 1 + 1) + (-1 : Int32) = nI (st2.length + 1) := by rw [iI_pred, nI_m1']
      have ms1 : nI (st2.length + 1) - (1 : Int32) = nI st2.length := nI_m1s (by omega)
      have fin : ∀ z, jnV P o.1 x y = some z → ∃ s', f_X12_termOf_188 (nI (420 * l + a + L.length)) (nI (st2.length + 1)) (nI (420 * l + a + k)) (nI (st2.length + 1) - 1) z m1 = some (Sum.inl s') ∧ ∃ st, s'.1 = nI st.length ∧ s'.2.1 = nI (420 * l + a + (k + 1)) ∧ evL P v (L.drop (k + 1)) st = evL P v L [] ∧ nu (L.drop (k + 1)) st.length ∧ dpt (L.drop (k + 1)) st.length ≤ 60 ∧ PlM s'.2.2 st ∧ Fr (fun k _ => k = 101) m s'.2.2 := by
        intro z hz
        rw [hz] at i3
        unfold f_X12_termOf_188 f_X12_termOf_189
        rw [ms1, bI_n _ 101 _ (show st2.length < 400 by omega) (by omega), bind_s, nmI_e, bind_s, nI_1]
        exact ⟨_, rfl, z :: st2, rfl, rfl, i3, i4', i5', i6.2.2.push, i7.tI _ rfl⟩
      have hm : 2 ≤ mo1 o ∧ mo1 o ≤ 6 := by
        unfold mo1
        rw [if_neg h3, if_neg h28]
        repeat' split
        all_goals omega
      rw [if_pos (show (2 : Int32) ≤ nI (mo1 o) from nI_le (a := 2) hm.1 (by omega)), show (y :: x :: st2).length = st2.length + 1 + 1 from rfl, pm1, nmI_e, bind_s, ms1, aI_n _ 101 (show st2.length < 400 by omega) (by omega), bind_s, aI_n _ 101 (show st2.length + 1 < 400 by omega) (by omega), bind_s, ex6, ey6]
      unfold f_X12_termOf_104
      rcases hb with h | h | h | h | h
      · have e1 : mo1 o = 2 := by unfold mo1; rw [h]; rfl
        left
        rw [e1, if_neg (by decide), if_pos (show nI 2 = 2 from rfl)]
        exact fin _ (by rw [h]; rfl)
      · have e1 : mo1 o = 3 := by unfold mo1; rw [h]; rfl
        left
        rw [e1, if_neg (by decide), if_neg (by decide), if_pos (show nI 3 = 3 from rfl)]
        exact fin _ (by rw [h]; rfl)
      · have e1 : mo1 o = 4 := by unfold mo1; rw [h]; rfl
        left
        rw [e1, if_neg (by decide), if_neg (by decide), if_neg (by decide), if_pos (show nI 4 = 4 from rfl)]
        exact fin _ (by rw [h]; rfl)
      · have e1 : mo1 o = 5 := by unfold mo1; rw [h]; rfl
        rw [e1, if_pos (show nI 5 = 5 from rfl)]
        by_cases hy : y = 0
        · right
          rw [if_pos hy]
          have hz : jnV P o.1 x y = none := by rw [h, hy]; rfl
          rw [hz, hev] at i3
          refine ⟨_, rfl, Or.inl ⟨m1, rfl, ?_, i7⟩⟩
          cases hvE : vE P v L with
          | none => rfl
          | some w => rw [hvE] at i3; cases i3
        · left
          have hz : jnV P o.1 x y = some (x / y) := by
            unfold jnV
            rw [h, if_neg (by omega), if_neg (by omega), if_neg (by omega), if_pos rfl, if_neg hy]
          rw [if_neg hy, if_neg (by decide), if_neg (by decide), if_neg (by decide), if_neg (by decide)]
          by_cases hy1 : y = -1
          · rw [if_pos hy1]
            exact fin _ (by rw [hz, hy1, dv_m1])
          · rw [if_neg hy1, dvI_of hy, bind_s]
            exact fin _ hz
      · have e1 : mo1 o = 6 := by unfold mo1; rw [h]; rfl
        left
        rw [e1, if_neg (by decide), if_neg (by decide), if_neg (by decide), if_neg (by decide), if_pos (show nI 6 = 6 from rfl), m_gap (by rw [i7.I _ _ (by omega)]; exact t1) t2 (by rw [i7.I _ _ (by omega)]; exact t3) (by omega) (by omega), bind_s]
        exact fin _ (by rw [h]; rfl)
    · rintro ⟨z1, z2, m1⟩ ⟨st, i1, i2, i3, i4, i5, i6, i7⟩
      dsimp only at i1 i2 i6 i7
      subst i1 i2
      show ∃ e, f_X12_termOf_5 (nI (420 * l + a + L.length)) (nI st.length) (nI (420 * l + a + L.length)) m1 = some (Sum.inr e) ∧ _
      unfold f_X12_termOf_5
      rw [if_pos (nI_le (Nat.le_refl _) (by omega))]
      rw [List.drop_length, hev] at i3
      have i3' : some st = (vE P v L).map (fun x => [x]) := i3
      refine ⟨_, rfl, Or.inr ?_⟩
      cases hvE : vE P v L with
      | none => rw [hvE] at i3'; cases i3'
      | some w =>
        rw [hvE] at i3'
        cases i3'
        exact ⟨m1, w, rfl, rfl, i6.1, i7⟩
  obtain ⟨e, e1, ⟨m1, rfl, q1, q2⟩ | ⟨m1, x, rfl, q1, q2, q3⟩⟩ := key
  · rw [e1, bind_s, Sum.elim_inl, qI_e, bind_s]
    exact ⟨_, 0, rfl, Or.inr ⟨q1, by rw [hI_tI, if_pos ⟨rfl, rfl⟩]⟩, (q2.mono (fun k j z => Or.inl z)).tI _ (by omega)⟩
  · rw [e1, bind_s, Sum.elim_inr, aI_e _ 101 (i := 0) (j := 0) rfl (by omega) (by omega), bind_s, q2]
    exact ⟨m1, x, rfl, Or.inl ⟨q1, q3.I _ _ (by omega)⟩, q3.mono (fun k j z => Or.inl z)⟩
theorem m_112 {k : Nat} {r nt : Bool} (hk : 150 * l + k < 300) (h : hI m 84 (150 * l + k) = bI1 nt) : f_X12_isTrue_112 (nI (150 * l + k)) (bI1 r) m = some (bI1 (r != nt), m) := by
  unfold f_X12_isTrue_112 f_X12_isTrue_130
  rw [aI_n _ 84 hk (by omega), bind_s, h]
  cases r <;> cases nt <;> rfl
theorem m_isTrue {k : Nat} {lt : Lit} (t1 : hI m 56 18 = nI l) (t2 : l < 2) (t3 : hI m 66 l = nI P) (hP : 3 ≤ P ∧ P ≤ 24) (hk : k < 150) (hG : LtAt (GS m l) m l k lt) (hv : ∀ i, i < 6 → hI m 100 i = v i) (h71 : hI m 56 71 = 0) : ∃ m' t, F_X12_isTrue (nI (150 * l + k)) m = some (bI1 t, m') ∧ Fr STo m m' ∧ ((rV P v lt.2 = some t ∧ hI m' 56 71 = 0) ∨ (rV P v lt.2 = none ∧ hI m' 56 71 = 1)) := by
  obtain ⟨a, g1, g2, ⟨hk4, hA, hB⟩, c83, c84, c85, c86, c87, c88⟩ := hG
  have hi : 150 * l + k < 300 := by omega
  unfold F_X12_isTrue
  rw [aI_n _ 86 hi (by omega), bind_s, aI_n _ 87 hi (by omega), bind_s, c86, c87, ← Nat.add_assoc]
  obtain ⟨m1, x, e1, q1, f1⟩ := m_termOf (v := v) t1 t2 t3 hP g1 hA hv
  rw [e1, bind_s]
  dsimp only
  rw [aI_n _ 87 hi (by omega), bind_s, aI_n _ 88 hi (by omega), bind_s, f1.I 87 _ (by omega), f1.I 88 _ (by omega), c87, c88]
  obtain ⟨m2, y, e2, q2, f2⟩ := m_termOf (m := m1) (v := v) (by rw [f1.I _ _ (by omega)]; exact t1) t2 (by rw [f1.I _ _ (by omega)]; exact t3) hP ⟨g2.1.fr f1 (fun k j z => by omega), g2.2⟩ hB (fun i hi => by rw [f1.I _ _ (by omega)]; exact hv i hi)
  rw [e2, bind_s]
  dsimp only
  have f12 := f1.tr f2
  rw [aI_n _ 83 hi (by omega), bind_s, f12.I 83 _ (by omega), c83]
  have go := fun r => m_112 (m := m2) (r := r) hi (by rw [f12.I 84 _ (by omega)]; exact c84)
  have main : ∀ R : Option (Int32 × M2), R = f_X12_isTrue_112 (nI (150 * l + k)) (bI1 (rlV (rK lt.2) x y)) m2 → ∃ m' t, R = some (bI1 t, m') ∧ Fr STo m m' ∧ ((rV P v lt.2 = some t ∧ hI m' 56 71 = 0) ∨ (rV P v lt.2 = none ∧ hI m' 56 71 = 1)) := by
    rintro R rfl
    refine ⟨m2, _, go _, f12, ?_⟩
    unfold rV
    rcases q1 with ⟨q1, r1⟩ | ⟨q1, r1⟩
    · rw [q1]
      rcases q2 with ⟨q2, r2⟩ | ⟨q2, r2⟩
      · rw [q2]
        exact Or.inl ⟨rfl, by rw [r2, r1, h71]⟩
      · rw [q2]
        exact Or.inr ⟨rfl, r2⟩
    · rw [q1]
      rcases q2 with ⟨q2, r2⟩ | ⟨q2, r2⟩
      · exact Or.inr ⟨rfl, by rw [r2, r1]⟩
      · exact Or.inr ⟨rfl, r2⟩
  apply main
  rcases (show rK lt.2 = 11 ∨ rK lt.2 = 12 ∨ rK lt.2 = 13 ∨ rK lt.2 = 14 by omega) with h | h | h | h
  · rw [h, if_pos (show nI (11 - 11) = 0 from rfl)]
    show _ = f_X12_isTrue_112 _ (bI1 (decide (x = y))) m2
    by_cases q : x = y
    · rw [if_pos q, decide_eq_true q]; rfl
    · rw [if_neg q, decide_eq_false q]; rfl
  · rw [h, if_neg (by decide), bind_s, if_pos (show nI (12 - 11) = 1 from rfl)]
    show _ = f_X12_isTrue_112 _ (bI1 (decide (¬ x = y))) m2
    by_cases q : x = y
    · rw [if_pos q, decide_eq_false (fun z => z q)]; rfl
    · rw [if_neg q, decide_eq_true q]; rfl
  · rw [h, if_neg (by decide), bind_s, if_neg (by decide), bind_s, if_pos (show nI (13 - 11) = 2 from rfl)]
    show _ = f_X12_isTrue_112 _ (bI1 (decide (x < y))) m2
    by_cases q : y ≤ x
    · rw [if_pos q, decide_eq_false (fun z => lt_nle z q)]; rfl
    · rw [if_neg q, decide_eq_true (by
        rw [Int32.lt_iff_toInt_lt]
        rw [Int32.le_iff_toInt_le] at q
        omega)]; rfl
  · rw [h, if_neg (by decide), bind_s, if_neg (by decide), bind_s, if_neg (by decide)]
    show _ = f_X12_isTrue_112 _ (bI1 (decide (x ≤ y))) m2
    by_cases q : y < x
    · rw [if_pos q, decide_eq_false (lt_nle q)]; rfl
    · rw [if_neg q, decide_eq_true (nlt_le q)]; rfl
end KV
