/-! ===== relations: read and run ===== -/
def vE (P : Nat) (v : Nat → Int32) (L : List Op) : Option Int32 := (evL P v L []).bind (fun st => st.head?)
theorem GdE.vE {L : List Op} (h : GdE L) (P : Nat) (v : Nat → Int32) (st : List Int32) : evL P v L st = (vE P v L).map (fun x => x :: st) := by
  obtain ⟨r, hr⟩ := h P v
  unfold _root_.Jvm.Pilot.CGalleyStrokeLaw_law_r5732_7a7165.vE
  rw [hr, hr]
  cases r <;> rfl
def Seg (D : List Op) (a : Nat) (L : List Op) : Prop := ∀ j, j < L.length → D[a + j]? = L[j]?
theorem Seg.c {D L : List Op} {a : Nat} {o : Op} (h : Seg D a (o :: L)) : D[a]? = some o ∧ Seg D (a + 1) L := by
  refine ⟨h 0 (by rw [List.length_cons]; omega), fun j hj => ?_⟩
  have := h (j + 1) (by rw [List.length_cons]; omega)
  rw [show a + 1 + j = a + (j + 1) by omega, this]
  rfl
theorem Seg.app {D L M : List Op} {a : Nat} (h : Seg D a (L ++ M)) : Seg D a L ∧ Seg D (a + L.length) M := by
  refine ⟨fun j hj => ?_, fun j hj => ?_⟩
  · rw [h j (by rw [List.length_append]; omega), List.getElem?_append_left hj]
  · rw [Nat.add_assoc, h (L.length + j) (by rw [List.length_append]; omega), List.getElem?_append_right (by omega), Nat.add_sub_cancel_left]
theorem evL_c (P : Nat) (v : Nat → Int32) (o : Op) (L : List Op) (st : List Int32) : evL P v (o :: L) st = if o.1 = 3 then evL P v L (nI o.2 :: st) else if 28 ≤ o.1 then evL P v L (v (o.1 - 28) :: st) else (match st with
      | b :: a :: st' => (match jnV P o.1 a b with
          | none => none
          | some x => evL P v L (x :: st'))
      | _ => none) := by
  rfl
theorem ex_s (P : Nat) (D : List Op) (v : Nat → Int32) (f a : Nat) (st : List Int32) : ex P D v (f + 1) a st = if 60 < st.length then none else match D[a]? with
    | none => none
    | some o => if o.1 = 3 then ex P D v f (a + 1) (nI o.2 :: st) else if 28 ≤ o.1 then ex P D v f (a + 1) (v (o.1 - 28) :: st) else match st with
      | [] => none
      | x :: st1 => if o.1 = 23 then some (some x) else if o.1 = 26 then ex P D v f (a + 1) ((1 - x) :: st1) else if o.1 = 21 then (if x = 0 then ex P D v f o.2 st1 else ex P D v f (a + 1) st1) else if o.1 = 25 then (if x = 0 then ex P D v f o.2 (x :: st1) else ex P D v f (a + 1) st1) else if o.1 = 24 then (if x = 0 then ex P D v f (a + 1) st1 else ex P D v f o.2 (x :: st1)) else match st1 with
        | [] => none
        | y :: st2 => match jnR P o.1 y x with
          | none => some none
          | some z => ex P D v f (a + 1) (z :: st2) := by
  rfl
section PR2
variable {P : Nat} {D : List Op} {v : Nat → Int32}
theorem ex_L : ∀ (L : List Op) (f a : Nat) (st : List Int32), Seg D a L → nu L st.length → dpt L st.length ≤ 60 → (∀ o, o ∈ L → OpK o) → ex P D v (f + L.length) a st = (match evL P v L st with
    | some st' => ex P D v f (a + L.length) st'
    | none => some none)
  | [], f, a, st, _, _, _, _ => rfl
  | o :: L, f, a, st, hs, hn, hd, ho => by
    obtain ⟨s1, s2⟩ := hs.c
    have hdg := (dpt_ge (o :: L) st.length).1
    have hok := ho o (List.mem_cons_self ..)
    have hoL : ∀ x, x ∈ L → OpK x := fun x hx => ho x (List.mem_cons_of_mem _ hx)
    rw [nu_c] at hn
    rw [dpt_c] at hd
    show ex P D v (f + L.length + 1) a st = _
    rw [show a + (o :: L).length = a + 1 + L.length by rw [List.length_cons]; omega]
    rw [ex_s, evL_c, if_neg (by omega), s1]
    dsimp only
    by_cases h3 : o.1 = 3
    · rw [if_pos (Or.inl h3)] at hn hd
      rw [if_pos h3, if_pos h3]
      exact ex_L L f (a + 1) (nI o.2 :: st) s2 hn (by rw [List.length_cons]; omega) hoL
    rw [if_neg h3, if_neg h3]
    by_cases h28 : 28 ≤ o.1
    · rw [if_pos (Or.inr h28)] at hn hd
      rw [if_pos h28, if_pos h28]
      exact ex_L L f (a + 1) (v (o.1 - 28) :: st) s2 hn (by rw [List.length_cons]; omega) hoL
    rw [if_neg h28, if_neg h28]
    rw [if_neg (by omega)] at hn hd
    have hb : isBn o.1 := by
      rcases hok with z | ⟨z | z, _⟩
      · exact absurd z.1 h3
      · exact z
      · exact absurd z.1 h28
    unfold isBn at hb
    match st, hn, hd with
    | [], hn, _ => exact absurd hn.1 (by show ¬ 2 ≤ 0; omega)
    | [_], hn, _ => exact absurd hn.1 (by show ¬ 2 ≤ 1; omega)
    | x :: y :: st2, hn, hd =>
      dsimp only
      rw [if_neg (by omega), if_neg (by omega), if_neg (by omega), if_neg (by omega), if_neg (by omega)]
      have ej : jnR P o.1 y x = jnV P o.1 y x := by unfold jnR; rw [if_neg (by omega)]
      rw [ej]
      cases hz : jnV P o.1 y x with
      | none => rfl
      | some z =>
        dsimp only
        exact ex_L L f (a + 1) _ s2 (by rw [show (x :: y :: st2).length - 1 = (z :: st2).length from rfl] at hn; exact hn.2) (by rw [show (x :: y :: st2).length - 1 = (z :: st2).length from rfl] at hd; omega) hoL
theorem ex_E {K V : Nat → Nat} {L : List Op} {i j n f a : Nat} {st : List Int32} (h : GdO K V i j n L) (hn : n ≤ 25) (hst : st.length ≤ 30) (hs : Seg D a L) : ex P D v (f + L.length) a st = (match vE P v L with
    | some x => ex P D v f (a + L.length) (x :: st)
    | none => some none) := by
  obtain ⟨_, _, _, _, h5, h6, h7⟩ := h
  rw [ex_L L f a st hs (h6 _).2.2 (by have := (h6 st.length).2.1; omega) h7, h5.vE]
  cases vE P v L <;> rfl
end PR2
abbrev Rel : Type := Bool × Nat × List Op × List Op
def rNot (r : Rel) : Bool := r.1
def rK (r : Rel) : Nat := r.2.1
def rA (r : Rel) : List Op := r.2.2.1
def rB (r : Rel) : List Op := r.2.2.2
def rC (r : Rel) : List Op := rA r ++ rB r ++ [(rK r, 0)] ++ (if rNot r = true then [(26, 0)] else [])
def rV (P : Nat) (v : Nat → Int32) (r : Rel) : Option Bool := (vE P v (rA r)).bind (fun a => (vE P v (rB r)).bind (fun b => some (rlV (rK r) a b != rNot r)))
/-- a relation as it must be -/
def RlO (r : Rel) : Prop := (11 ≤ rK r ∧ rK r ≤ 14) ∧ (∃ K V i j, GdO K V i j 21 (rA r)) ∧ ∃ K V i j, GdO K V i j 21 (rB r)
theorem b01_f : b01 false = 0 := rfl
theorem b01_t : b01 true = 1 := rfl
theorem ex_R {P : Nat} {D : List Op} {v : Nat → Int32} {r : Rel} {f a : Nat} {st : List Int32} (h : RlO r) (hst : st.length ≤ 20) (hs : Seg D a (rC r)) : ex P D v (f + (rC r).length) a st = (match rV P v r with
    | some t => ex P D v f (a + (rC r).length) (b01 t :: st)
    | none => some none) := by
  obtain ⟨hk, ⟨K1, V1, i1, j1, g1⟩, ⟨K2, V2, i2, j2, g2⟩⟩ := h
  unfold rC at hs ⊢
  obtain ⟨s1, s4⟩ := hs.app
  obtain ⟨s1, s3⟩ := s1.app
  obtain ⟨s1, s2⟩ := s1.app
  simp only [List.length_append, List.length_singleton] at s3 s4 ⊢
  unfold rV
  rw [show f + ((rA r).length + (rB r).length + 1 + (if rNot r = true then [(26, 0)] else []).length) = (f + (if rNot r = true then [(26, 0)] else ([] : List Op)).length + 1 + (rB r).length) + (rA r).length by omega, ex_E g1 (by omega) (by omega) s1]
  cases e1 : vE P v (rA r) with
  | none => rfl
  | some x =>
    dsimp only [Option.bind]
    rw [ex_E g2 (by omega) (by rw [List.length_cons]; omega) s2]
    cases e2 : vE P v (rB r) with
    | none => rfl
    | some y =>
      dsimp only [Option.bind]
      have c3 := s3 0 (by rw [List.length_singleton]; omega)
      rw [Nat.add_zero, ← Nat.add_assoc] at c3
      have st1 : ex P D v (f + (if rNot r = true then [(26, 0)] else ([] : List Op)).length + 1) (a + (rA r).length + (rB r).length) (y :: x :: st) = ex P D v (f + (if rNot r = true then [(26, 0)] else ([] : List Op)).length) (a + (rA r).length + (rB r).length + 1) (b01 (rlV (rK r) x y) :: st) := by
        show (if 60 < (y :: x :: st).length then none else _) = _
        rw [if_neg (by rw [List.length_cons, List.length_cons]; omega), c3]
        dsimp only [List.getElem?_cons_zero]
        rw [if_neg (show ¬ rK r = 3 by omega), if_neg (show ¬ 28 ≤ rK r by omega), if_neg (show ¬ rK r = 23 by omega), if_neg (show ¬ rK r = 26 by omega), if_neg (show ¬ rK r = 21 by omega), if_neg (show ¬ rK r = 25 by omega), if_neg (show ¬ rK r = 24 by omega)]
        have : jnR P (rK r) x y = some (b01 (rlV (rK r) x y)) := if_pos hk
        rw [this]
      rw [st1]
      by_cases hb : rNot r = true
      · rw [if_pos hb] at s4 ⊢
        have c4 := s4 0 (by rw [List.length_singleton]; omega)
        rw [Nat.add_zero, ← Nat.add_assoc, ← Nat.add_assoc] at c4
        show (if 60 < (b01 (rlV (rK r) x y) :: st).length then none else _) = _
        rw [if_neg (by rw [List.length_cons]; omega), c4]
        dsimp only [List.getElem?_cons_zero]
        rw [if_neg (by omega), if_neg (by omega), if_neg (by omega), if_pos rfl, hb]
        have : (1 : Int32) - b01 (rlV (rK r) x y) = b01 (rlV (rK r) x y != true) := by cases rlV (rK r) x y <;> rfl
        rw [this, List.length_singleton, show a + ((rA r).length + (rB r).length + 1 + 1) = a + (rA r).length + (rB r).length + 1 + 1 by omega]
      · rw [if_neg hb]
        have : (rlV (rK r) x y != rNot r) = rlV (rK r) x y := by rw [Bool.eq_false_iff.mpr hb]; cases rlV (rK r) x y <;> rfl
        rw [this, List.length_nil, show a + ((rA r).length + (rB r).length + 1 + 0) = a + (rA r).length + (rB r).length + 1 by omega]
        rfl
