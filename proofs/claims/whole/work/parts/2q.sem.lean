/-! ===== conditions: the code does what they are worth ===== -/
section PQ
variable {C : List Op} {a : Nat} {ps qs : List Nat} {s : Nat → (Nat → Int32) → Option Nat} {r : Rel}
theorem SemC.first {C : List Op} {r : Rel} (hr : RlO r) : SemC (C ++ rC r) C.length [] [] (fun P v => (rV P v r).map bn) := by
  intro D tA tB hD P v st hst
  dsimp only
  have hs : Seg D C.length (rC r) := fun j hj => by
    have := (hD (C.length + j) (by rw [List.length_append]; omega)).1 (fun z => by cases z) (fun z => by cases z)
    rw [this, List.getElem?_append_right (by omega), Nat.add_sub_cancel_left]
  have el : (C ++ rC r).length - C.length = (rC r).length := by rw [List.length_append]; omega
  have el2 : (C ++ rC r).length = C.length + (rC r).length := List.length_append
  rw [el]
  refine ⟨fun h => ?_, fun t h f x hx => ?_, fun h => ?_, fun h => ?_⟩
  · have e := ex_R (P := P) (v := v) (f := 0) (st := st) hr (by omega) hs
    rw [Nat.zero_add] at e
    rw [e]
    cases hv : rV P v r with
    | none => rfl
    | some t => rw [hv] at h; cases h
  · rw [ex_R hr (by omega) hs]
    cases hv : rV P v r with
    | none => rw [hv] at h; cases h
    | some t' =>
      rw [hv] at h
      have : t' = t := by cases t' <;> cases t <;> first | rfl | cases h
      rw [this]
      dsimp only
      rw [← el2]
      exact hx
  · exfalso
    cases hv : rV P v r with
    | none => rw [hv] at h; cases h
    | some t' => rw [hv] at h; cases t' <;> cases h
  · exfalso
    cases hv : rV P v r with
    | none => rw [hv] at h; cases h
    | some t' => rw [hv] at h; cases t' <;> cases h
theorem bn_ok (t : Bool) : (bn t = 0 ∧ t = false) ∨ (bn t = 1 ∧ t = true) := by cases t <;> simp [bn]
theorem Agr.seg {D : List Op} {x : Op} {tA tB : Nat} (hD : Agr D (C ++ [x] ++ rC r) ps qs tA tB) (hp : ∀ j, j ∈ ps → j ≤ C.length) (hq : ∀ j, j ∈ qs → j ≤ C.length) : Seg D (C.length + 1) (rC r) := fun j hj => by
  have := (hD (C.length + 1 + j) (by rw [List.length_append, List.length_append, List.length_singleton]; omega)).1 (fun z => by have := hp _ z; omega) (fun z => by have := hq _ z; omega)
  rw [this, List.getElem?_append_right (by rw [List.length_append, List.length_singleton]; omega), List.length_append, List.length_singleton, Nat.add_sub_cancel_left]
theorem SemC.and {x : Nat} (h : SemC C a ps qs s) (ha : a ≤ C.length) (hs : ∀ P v k, s P v = some k → k ≤ 3) (hp : ∀ j, j ∈ ps → j < C.length) (hq : ∀ j, j ∈ qs → j < C.length) (hr : RlO r) : SemC (C ++ [(25, x)] ++ rC r) a (C.length :: ps) qs (fun P v => (s P v).bind (fun k => cs P v k (false, r))) := by
  intro D tA tB hD P v st hst
  dsimp only
  have el : (C ++ [(25, x)] ++ rC r).length = C.length + 1 + (rC r).length := by rw [List.length_append, List.length_append, List.length_singleton]
  have hg : Seg D (C.length + 1) (rC r) := hD.seg (fun j hj => by
    rw [List.mem_cons] at hj
    rcases hj with hj | hj
    · omega
    · have := hp j hj; omega) (fun j hj => by have := hq j hj; omega)
  have hb : D[C.length]? = some (25, tA) := (hD C.length (by omega)).2.1 (List.mem_cons_self ..)
  have hA : Agr D C ps qs tA tB := by
    intro j hj
    have := hD j (by omega)
    refine ⟨fun h1 h2 => ?_, fun h1 => this.2.1 (List.mem_cons_of_mem _ h1), this.2.2⟩
    rw [this.1 (fun z => by
      rw [List.mem_cons] at z
      rcases z with z | z
      · omega
      · exact h1 z) h2, List.append_assoc, List.getElem?_append_left hj]
  obtain ⟨o1, o2, o3, o4⟩ := h D tA tB hA P v st hst
  have hex : ∀ f t, ex P D v (f + 1) C.length (b01 t :: st) = if t = false then ex P D v f tA (b01 t :: st) else ex P D v f (C.length + 1) st := by
    intro f t
    rw [ex_s, if_neg (by rw [List.length_cons]; omega), hb]
    dsimp only
    rw [if_neg (by omega), if_neg (by omega), if_neg (by omega), if_neg (by omega), if_neg (by omega), if_pos rfl]
    cases t with
    | false => rw [if_pos (show b01 false = 0 from rfl), if_pos rfl]
    | true => rw [if_neg (show ¬ b01 true = 0 by decide), if_neg (by decide)]
  rw [el]
  have ele : C.length + 1 + (rC r).length - a = (C.length - a) + 1 + (rC r).length := by omega
  rw [ele]
  cases hv : s P v with
  | none =>
    refine ⟨fun _ => ex_ge (o1 hv) (by omega), fun t z => (by cases z), fun z => (by cases z), fun z => (by cases z)⟩
  | some k =>
    have hk := hs P v k hv
    dsimp only [Option.bind]
    rcases (show k = 0 ∨ k = 1 ∨ k = 2 ∨ k = 3 by omega) with rfl | rfl | rfl | rfl
    · have e : cs P v 0 (false, r) = some 2 := rfl
      rw [e]
      refine ⟨fun z => (by cases z), fun t z => ?_, fun _ f y hy => ?_, fun z => (by cases z)⟩
      · exfalso
        rcases bn_ok t with q | q <;> rw [q.1] at z <;> cases z
      · have := o2 false hv (f + 1) y (by rw [hex, if_pos rfl]; exact hy)
        exact ex_ge this (by omega)
    · have e : cs P v 1 (false, r) = (rV P v r).map bn := rfl
      rw [e]
      cases hr2 : rV P v r with
      | none =>
        refine ⟨fun _ => ?_, fun t z => (by cases z), fun z => (by cases z), fun z => (by cases z)⟩
        have := o2 true hv ((rC r).length + 1) none (by
          rw [hex, if_neg (by decide)]
          have e := ex_R (P := P) (v := v) (f := 0) (st := st) hr (by omega) hg
          rw [Nat.zero_add, hr2] at e
          exact e)
        exact ex_ge this (by omega)
      | some t' =>
        refine ⟨fun z => (by cases z), fun t z f y hy => ?_, fun z => ?_, fun z => ?_⟩
        · have et : t' = t := by cases t' <;> cases t <;> first | rfl | cases z
          have := o2 true hv (f + (rC r).length + 1) y (by
            rw [hex, if_neg (by decide), ex_R hr (by omega) hg, hr2, et]
            exact hy)
          exact ex_ge this (by omega)
        · exfalso; cases t' <;> cases z
        · exfalso; cases t' <;> cases z
    · have e : cs P v 2 (false, r) = some 2 := rfl
      rw [e]
      refine ⟨fun z => (by cases z), fun t z => ?_, fun _ f y hy => ex_ge (o3 hv f y hy) (by omega), fun z => (by cases z)⟩
      exfalso
      rcases bn_ok t with q | q <;> rw [q.1] at z <;> cases z
    · have e : cs P v 3 (false, r) = some 3 := rfl
      rw [e]
      refine ⟨fun z => (by cases z), fun t z => ?_, fun z => (by cases z), fun _ f y hy => ex_ge (o4 hv f y hy) (by omega)⟩
      exfalso
      rcases bn_ok t with q | q <;> rw [q.1] at z <;> cases z
theorem SemC.or {x : Nat} {C1 : List Op} (h : SemC C a ps qs s) (ha : a ≤ C.length) (hs : ∀ P v k, s P v = some k → k ≤ 3) (hp : ∀ j, j ∈ ps → j < C.length ∧ ¬ j ∈ qs) (hq : ∀ j, j ∈ qs → j < C.length) (hr : RlO r) (hl : C1.length = C.length) (h1 : ∀ j, ¬ j ∈ ps → C1[j]? = C[j]?) (h2 : ∀ j, j ∈ ps → C1[j]? = some (25, C.length)) : SemC (C1 ++ [(24, x)] ++ rC r) a [] (C.length :: qs) (fun P v => (s P v).bind (fun k => cs P v k (true, r))) := by
  intro D tA tB hD P v st hst
  dsimp only
  have el : (C1 ++ [(24, x)] ++ rC r).length = C.length + 1 + (rC r).length := by rw [List.length_append, List.length_append, List.length_singleton, hl]
  have hg : Seg D (C.length + 1) (rC r) := by
    rw [← hl]
    exact hD.seg (fun j hj => by cases hj) (fun j hj => by
      rw [List.mem_cons] at hj
      rcases hj with hj | hj
      · omega
      · have := hq j hj; omega)
  have hb : D[C.length]? = some (24, tB) := (hD C.length (by omega)).2.2 (List.mem_cons_self ..)
  have hA : Agr D C ps qs C.length tB := by
    intro j hj
    have := hD j (by omega)
    have hn : ¬ j ∈ qs → ¬ j ∈ C.length :: qs := fun z y => by
      rw [List.mem_cons] at y
      rcases y with y | y
      · omega
      · exact z y
    refine ⟨fun g1 g2 => ?_, fun g1 => ?_, fun g1 => this.2.2 (List.mem_cons_of_mem _ g1)⟩
    · rw [this.1 (fun z => by cases z) (hn g2), List.append_assoc, List.getElem?_append_left (by omega), h1 j g1]
    · rw [this.1 (fun z => by cases z) (hn (hp j g1).2), List.append_assoc, List.getElem?_append_left (by omega), h2 j g1]
  obtain ⟨o1, o2, o3, o4⟩ := h D C.length tB hA P v st hst
  have hex : ∀ f t, ex P D v (f + 1) C.length (b01 t :: st) = if t = false then ex P D v f (C.length + 1) st else ex P D v f tB (b01 t :: st) := by
    intro f t
    rw [ex_s, if_neg (by rw [List.length_cons]; omega), hb]
    dsimp only
    rw [if_neg (by omega), if_neg (by omega), if_neg (by omega), if_neg (by omega), if_neg (by omega), if_neg (by omega), if_pos rfl]
    cases t with
    | false => rw [if_pos (show b01 false = 0 from rfl), if_pos rfl]
    | true => rw [if_neg (show ¬ b01 true = 0 by decide), if_neg (by decide)]
  rw [el]
  have ele : C.length + 1 + (rC r).length - a = (C.length - a) + 1 + (rC r).length := by omega
  rw [ele]
  cases hv : s P v with
  | none =>
    refine ⟨fun _ => ex_ge (o1 hv) (by omega), fun t z => (by cases z), fun z => (by cases z), fun z => (by cases z)⟩
  | some k =>
    have hk := hs P v k hv
    dsimp only [Option.bind]
    -- the next relation is looked at, from a 0
    have go : (∀ f y, ex P D v f C.length (0 :: st) = some y → ex P D v (f + (C.length - a)) a st = some y) → ((rV P v r).map bn = none → ex P D v (C.length - a + 1 + (rC r).length) a st = some none) ∧ (∀ t, (rV P v r).map bn = some (bn t) → ∀ f y, ex P D v f (C.length + 1 + (rC r).length) (b01 t :: st) = some y → ex P D v (f + (C.length - a + 1 + (rC r).length)) a st = some y) ∧ ((rV P v r).map bn = some 2 → ∀ f y, ex P D v f tA (0 :: st) = some y → ex P D v (f + (C.length - a + 1 + (rC r).length)) a st = some y) ∧ ((rV P v r).map bn = some 3 → ∀ f y, ex P D v f tB (1 :: st) = some y → ex P D v (f + (C.length - a + 1 + (rC r).length)) a st = some y) := by
      intro o
      cases hr2 : rV P v r with
      | none =>
        refine ⟨fun _ => ?_, fun t z => (by cases z), fun z => (by cases z), fun z => (by cases z)⟩
        have := o ((rC r).length + 1) none (by
          have q := hex (rC r).length false
          rw [if_pos rfl] at q
          have e := ex_R (P := P) (v := v) (f := 0) (st := st) hr (by omega) hg
          rw [Nat.zero_add, hr2] at e
          rw [show (0 : Int32) = b01 false from rfl, q]
          exact e)
        exact ex_ge this (by omega)
      | some t' =>
        refine ⟨fun z => (by cases z), fun t z f y hy => ?_, fun z => ?_, fun z => ?_⟩
        · have et : t' = t := by cases t' <;> cases t <;> first | rfl | cases z
          have := o (f + (rC r).length + 1) y (by
            have q := hex (f + (rC r).length) false
            rw [if_pos rfl] at q
            rw [show (0 : Int32) = b01 false from rfl, q, ex_R hr (by omega) hg, hr2, et]
            exact hy)
          exact ex_ge this (by omega)
        · exfalso; cases t' <;> cases z
        · exfalso; cases t' <;> cases z
    have fin3 : (∀ f y, ex P D v f tB (1 :: st) = some y → ex P D v (f + (C.length - a + 1 + (rC r).length)) a st = some y) → ((some 3 : Option Nat) = none → ex P D v (C.length - a + 1 + (rC r).length) a st = some none) ∧ (∀ t, (some 3 : Option Nat) = some (bn t) → ∀ f y, ex P D v f (C.length + 1 + (rC r).length) (b01 t :: st) = some y → ex P D v (f + (C.length - a + 1 + (rC r).length)) a st = some y) ∧ ((some 3 : Option Nat) = some 2 → ∀ f y, ex P D v f tA (0 :: st) = some y → ex P D v (f + (C.length - a + 1 + (rC r).length)) a st = some y) ∧ ((some 3 : Option Nat) = some 3 → ∀ f y, ex P D v f tB (1 :: st) = some y → ex P D v (f + (C.length - a + 1 + (rC r).length)) a st = some y) := by
      intro o
      refine ⟨fun z => (by cases z), fun t z => ?_, fun z => (by cases z), fun _ => o⟩
      exfalso
      rcases bn_ok t with q | q <;> rw [q.1] at z <;> cases z
    rcases (show k = 0 ∨ k = 1 ∨ k = 2 ∨ k = 3 by omega) with rfl | rfl | rfl | rfl
    · exact go (fun f y hy => o2 false hv f y hy)
    · refine fin3 (fun f y hy => ?_)
      have := o2 true hv (f + 1) y (by rw [hex, if_neg (by decide)]; exact hy)
      exact ex_ge this (by omega)
    · exact go (fun f y hy => o3 hv f y hy)
    · exact fin3 (fun f y hy => ex_ge (o4 hv f y hy) (by omega))
/-- the condition's code, landed -/
def SemE (C : List Op) (a : Nat) (s : Nat → (Nat → Int32) → Option Nat) : Prop := ∀ D : List Op, (∀ j, j < C.length → D[j]? = C[j]?) → ∀ P v st, st.length ≤ 5 → (s P v = none → ex P D v (C.length - a) a st = some none) ∧ (∀ k, s P v = some k → ∀ f r, ex P D v f C.length (b01 (fin k) :: st) = some r → ex P D v (f + (C.length - a)) a st = some r)
theorem SemC.fin {C2 : List Op} (h : SemC C a ps qs s) (hs : ∀ P v k, s P v = some k → k ≤ 3) (hp : ∀ j, j ∈ ps → ¬ j ∈ qs) (hl : C2.length = C.length) (h1 : ∀ j, ¬ j ∈ ps → ¬ j ∈ qs → C2[j]? = C[j]?) (h2 : ∀ j, j ∈ ps → C2[j]? = some (25, C.length)) (h3 : ∀ j, j ∈ qs → C2[j]? = some (24, C.length)) : SemE C2 a s := by
  intro D hD P v st hst
  rw [hl] at hD ⊢
  have hA : Agr D C ps qs C.length C.length := fun j hj => ⟨fun g1 g2 => by rw [hD j hj, h1 j g1 g2], fun g => by rw [hD j hj, h2 j g], fun g => by rw [hD j hj, h3 j g]⟩
  obtain ⟨o1, o2, o3, o4⟩ := h D _ _ hA P v st hst
  refine ⟨o1, fun k hk f r hr => ?_⟩
  rcases (show k = 0 ∨ k = 1 ∨ k = 2 ∨ k = 3 by have := hs P v k hk; omega) with rfl | rfl | rfl | rfl
  · exact o2 false hk f r hr
  · exact o2 true hk f r hr
  · exact o3 hk f r hr
  · exact o4 hk f r hr
end PQ
