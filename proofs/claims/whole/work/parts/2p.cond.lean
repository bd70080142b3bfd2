/-! ===== conditions: read, and what they are worth ===== -/
def pNo (K : Nat → Nat) : Nat → Nat → Bool → (Nat × Bool) ⊕ (Nat × Nat)
  | 0, i, b => .inl (i, b)
  | f + 1, i, b => if K i = 26 then (if i < 400 then pNo K f (i + 1) (!b) else .inr (2, i)) else .inl (i, b)
def pRl (K V : Nat → Nat) (i : Nat) : (Nat × Rel) ⊕ (Nat × Nat) := match pNo K 400 i false with
  | .inr e => .inr e
  | .inl z => match pX K V 24 0 0 z.1 with
    | .inr e => .inr e
    | .inl y => if 11 ≤ K y.1 ∧ K y.1 ≤ 14 then (if y.1 < 400 then (match pX K V 24 0 0 (y.1 + 1) with
      | .inr e => .inr e
      | .inl w => .inl (w.1, (z.2, K y.1, y.2, w.2))) else .inr (2, y.1)) else .inr (1, y.1)
abbrev Lit : Type := Bool × Rel
def pCn (K V : Nat → Nat) : Nat → Nat → Bool → List Lit → (Nat × List Lit) ⊕ (Nat × Nat)
  | 0, i, _, ls => .inl (i, ls)
  | f + 1, i, o, ls => match pRl K V i with
    | .inr e => .inr e
    | .inl z => if K z.1 = 24 ∨ K z.1 = 25 then (if z.1 < 400 then pCn K V f (z.1 + 1) (decide (K z.1 = 24)) (ls ++ [(o, z.2)]) else .inr (2, z.1)) else .inl (z.1, ls ++ [(o, z.2)])
theorem pNo_i {K : Nat → Nat} : ∀ {f i j : Nat} {b c : Bool}, pNo K f i b = .inl (j, c) → i ≤ j ∧ (¬ c = b → i + 1 ≤ j)
  | 0, i, j, b, c, h => by
    cases h
    exact ⟨Nat.le_refl _, fun z => absurd rfl z⟩
  | f + 1, i, j, b, c, h => by
    unfold pNo at h
    by_cases k : K i = 26
    · rw [if_pos k] at h
      by_cases h4 : i < 400
      · rw [if_pos h4] at h
        have := (pNo_i h).1
        exact ⟨by omega, fun _ => by omega⟩
      · rw [if_neg h4] at h; cases h
    · rw [if_neg k] at h
      cases h
      exact ⟨Nat.le_refl _, fun z => absurd rfl z⟩
theorem pRl_good {K V : Nat → Nat} (hV : ∀ i, K i = 3 → V i < 10000) {i j : Nat} {r : Rel} (h : pRl K V i = .inl (j, r)) : RlO r ∧ i + 2 ≤ j ∧ j ≤ 400 ∧ (rC r).length + i ≤ j := by
  unfold pRl at h
  cases h1 : pNo K 400 i false with
  | inr e => rw [h1] at h; cases h
  | inl z =>
    rw [h1] at h
    dsimp only at h
    cases h2 : pX K V 24 0 0 z.1 with
    | inr e => rw [h2] at h; cases h
    | inl y =>
      rw [h2] at h
      dsimp only at h
      by_cases hk : 11 ≤ K y.1 ∧ K y.1 ≤ 14
      · rw [if_pos hk] at h
        by_cases h4 : y.1 < 400
        · rw [if_pos h4] at h
          cases h3 : pX K V 24 0 0 (y.1 + 1) with
          | inr e => rw [h3] at h; cases h
          | inl w =>
            rw [h3] at h
            cases h
            have g1 := pX_good hV 24 0 0 z.1 y.1 y.2 (by omega) (by omega) h2
            have g2 := pX_good hV 24 0 0 (y.1 + 1) w.1 w.2 (by omega) (by omega) h3
            have n1 := pNo_i h1
            have a1 := g1.2.2.1
            have a2 := g2.2.2.1
            have b1 := g1.1
            have b2 := g2.1
            refine ⟨⟨hk, ⟨K, V, _, _, g1⟩, ⟨K, V, _, _, g2⟩⟩, by omega, g2.2.1, ?_⟩
            unfold rC
            rw [List.length_append, List.length_append, List.length_append, List.length_singleton]
            show y.2.length + w.2.length + 1 + (if z.2 = true then [(26, 0)] else ([] : List Op)).length + i ≤ w.1
            by_cases hb : z.2 = true
            · have := n1.2 (by rw [hb]; exact fun z => by cases z)
              rw [if_pos hb, List.length_singleton]
              omega
            · have := n1.1
              rw [if_neg hb, List.length_nil]
              omega
        · rw [if_neg h4] at h; cases h
      · rw [if_neg hk] at h; cases h
/-! what a row of relations is worth -/
def hV (P : Nat) (v : Nat → Int32) : Bool → List Lit → Option Bool
  | row, [] => some row
  | row, l :: ls => if l.1 = true ∧ row = true then some true else if l.1 = true ∨ row = true then (match rV P v l.2 with
      | none => none
      | some t => hV P v t ls) else hV P v false ls
def bn (t : Bool) : Nat := if t = true then 1 else 0
def cs (P : Nat) (v : Nat → Int32) (s : Nat) (l : Lit) : Option Nat := if l.1 = true then (if s = 1 ∨ s = 3 then some 3 else (rV P v l.2).map bn) else if s = 1 then (rV P v l.2).map bn else if s = 0 then some 2 else some s
def cF (P : Nat) (v : Nat → Int32) : Option Nat → List Lit → Option Nat
  | s, [] => s
  | none, _ :: _ => none
  | some s, l :: ls => cF P v (cs P v s l) ls
theorem cF_app (P : Nat) (v : Nat → Int32) : ∀ (s : Option Nat) (ls : List Lit) (l : Lit), cF P v s (ls ++ [l]) = (cF P v s ls).bind (fun s => cs P v s l)
  | none, [], l => rfl
  | some s, [], l => by
    show cF P v (cs P v s l) [] = cs P v s l
    cases cs P v s l <;> rfl
  | none, _ :: _, _ => rfl
  | some s, x :: ls, l => cF_app P v (cs P v s x) ls l
def fin (s : Nat) : Bool := decide (s = 1 ∨ s = 3)
theorem cF_none (P : Nat) (v : Nat → Int32) : ∀ ls, cF P v none ls = none
  | [] => rfl
  | _ :: _ => rfl
theorem cF_hV (P : Nat) (v : Nat → Int32) : ∀ (ls : List Lit) (s : Nat), s ≤ 3 → (cF P v (some s) ls).map fin = if s = 3 then some true else hV P v (decide (s = 1)) ls
  | [], s, hs => by
    show some (fin s) = _
    by_cases h3 : s = 3
    · rw [if_pos h3, h3]; rfl
    · rw [if_neg h3]
      show some (decide (s = 1 ∨ s = 3)) = some (decide (s = 1))
      by_cases h1 : s = 1
      · rw [decide_eq_true (Or.inl h1), decide_eq_true h1]
      · rw [decide_eq_false (by omega), decide_eq_false h1]
  | l :: ls, s, hs => by
    show (cF P v (cs P v s l) ls).map fin = _
    have ev : ∀ x : Option Bool, (cF P v (x.map bn) ls).map fin = (match x with
      | none => none
      | some t => hV P v t ls) := by
      intro x
      cases x with
      | none => show (cF P v none ls).map fin = none; rw [cF_none]; rfl
      | some t =>
        show (cF P v (some (bn t)) ls).map fin = hV P v t ls
        cases t with
        | true => rw [show bn true = 1 from rfl, cF_hV P v ls 1 (by omega), if_neg (by omega)]; rfl
        | false => rw [show bn false = 0 from rfl, cF_hV P v ls 0 (by omega), if_neg (by omega)]; rfl
    unfold cs
    by_cases h3 : s = 3
    · rw [if_pos h3, h3]
      by_cases ho : l.1 = true
      · rw [if_pos ho, if_pos (by omega), cF_hV P v ls 3 (by omega), if_pos rfl]
      · rw [if_neg ho, if_neg (by omega), if_neg (by omega), cF_hV P v ls 3 (by omega), if_pos rfl]
    rw [if_neg h3]
    show _ = (if l.1 = true ∧ decide (s = 1) = true then some true else if l.1 = true ∨ decide (s = 1) = true then (match rV P v l.2 with
      | none => none
      | some t => hV P v t ls) else hV P v false ls)
    by_cases ho : l.1 = true
    · rw [if_pos ho]
      by_cases h1 : s = 1
      · rw [if_pos (Or.inl h1), cF_hV P v ls 3 (by omega), if_pos rfl, if_pos ⟨ho, decide_eq_true h1⟩]
      · rw [if_neg (by omega), ev, if_neg (fun z => h1 (of_decide_eq_true z.2)), if_pos (Or.inl ho)]
    · rw [if_neg ho, if_neg (show ¬ (l.1 = true ∧ decide (s = 1) = true) from fun z => ho z.1)]
      by_cases h1 : s = 1
      · rw [if_pos h1, ev, if_pos (show l.1 = true ∨ decide (s = 1) = true from Or.inr (decide_eq_true h1))]
      · rw [if_neg h1, if_neg (show ¬ (l.1 = true ∨ decide (s = 1) = true) from fun z => by
          rcases z with z | z
          · exact ho z
          · exact h1 (of_decide_eq_true z))]
        by_cases h0 : s = 0
        · rw [if_pos h0, cF_hV P v ls 2 (by omega), if_neg (by omega)]
          rfl
        · rw [if_neg h0, show s = 2 by omega, cF_hV P v ls 2 (by omega), if_neg (by omega)]
          rfl
theorem cs_le {P s : Nat} {v : Nat → Int32} {l : Lit} {s' : Nat} (hs : s ≤ 3) (h : cs P v s l = some s') : s' ≤ 3 := by
  have bl : ∀ x : Option Bool, x.map bn = some s' → s' ≤ 3 := by
    intro x hx
    cases x with
    | none => cases hx
    | some t => cases hx; unfold bn; split <;> omega
  unfold cs at h
  split at h
  · split at h
    · cases h; omega
    · exact bl _ h
  · split at h
    · exact bl _ h
    · split at h
      · cases h; omega
      · cases h; omega
/-! the code of a condition, its jumps not landed yet -/
theorem ex_mono {P : Nat} {D : List Op} {v : Nat → Int32} {r : Option Int32} : ∀ {f a : Nat} {st : List Int32}, ex P D v f a st = some r → ∀ k, ex P D v (f + k) a st = some r
  | 0, a, st, h, k => by cases h
  | f + 1, a, st, h, k => by
    rw [show f + 1 + k = f + k + 1 by omega, ex_s]
    rw [ex_s] at h
    by_cases hd : 60 < st.length
    · rw [if_pos hd] at h; cases h
    rw [if_neg hd] at h ⊢
    cases ho : D[a]? with
    | none => rw [ho] at h; cases h
    | some o =>
      rw [ho] at h
      dsimp only at h ⊢
      by_cases h3 : o.1 = 3
      · rw [if_pos h3] at h ⊢; exact ex_mono h k
      rw [if_neg h3] at h ⊢
      by_cases h28 : 28 ≤ o.1
      · rw [if_pos h28] at h ⊢; exact ex_mono h k
      rw [if_neg h28] at h ⊢
      cases st with
      | nil => cases h
      | cons x st1 =>
        dsimp only at h ⊢
        by_cases h23 : o.1 = 23
        · rw [if_pos h23] at h ⊢; exact h
        rw [if_neg h23] at h ⊢
        by_cases h26 : o.1 = 26
        · rw [if_pos h26] at h ⊢; exact ex_mono h k
        rw [if_neg h26] at h ⊢
        by_cases h21 : o.1 = 21
        · rw [if_pos h21] at h ⊢
          by_cases x0 : x = 0
          · rw [if_pos x0] at h ⊢; exact ex_mono h k
          · rw [if_neg x0] at h ⊢; exact ex_mono h k
        rw [if_neg h21] at h ⊢
        by_cases h25 : o.1 = 25
        · rw [if_pos h25] at h ⊢
          by_cases x0 : x = 0
          · rw [if_pos x0] at h ⊢; exact ex_mono h k
          · rw [if_neg x0] at h ⊢; exact ex_mono h k
        rw [if_neg h25] at h ⊢
        by_cases h24 : o.1 = 24
        · rw [if_pos h24] at h ⊢
          by_cases x0 : x = 0
          · rw [if_pos x0] at h ⊢; exact ex_mono h k
          · rw [if_neg x0] at h ⊢; exact ex_mono h k
        rw [if_neg h24] at h ⊢
        cases st1 with
        | nil => cases h
        | cons y st2 =>
          dsimp only at h ⊢
          cases hz : jnR P o.1 y x with
          | none => rw [hz] at h; exact h
          | some z => rw [hz] at h; exact ex_mono h k
theorem ex_ge {P : Nat} {D : List Op} {v : Nat → Int32} {r : Option Int32} {f g a : Nat} {st : List Int32} (h : ex P D v f a st = some r) (hg : f ≤ g) : ex P D v g a st = some r := by
  have := ex_mono h (g - f)
  rwa [show f + (g - f) = g by omega] at this
def Agr (D C : List Op) (ps qs : List Nat) (tA tB : Nat) : Prop := ∀ j, j < C.length → (¬ j ∈ ps → ¬ j ∈ qs → D[j]? = C[j]?) ∧ (j ∈ ps → D[j]? = some (25, tA)) ∧ (j ∈ qs → D[j]? = some (24, tB))
def SemC (C : List Op) (a : Nat) (ps qs : List Nat) (s : (Nat) → (Nat → Int32) → Option Nat) : Prop := ∀ D tA tB, Agr D C ps qs tA tB → ∀ P v st, st.length ≤ 5 → (s P v = none → ex P D v (C.length - a) a st = some none) ∧ (∀ t, s P v = some (bn t) → ∀ f r, ex P D v f C.length (b01 t :: st) = some r → ex P D v (f + (C.length - a)) a st = some r) ∧ (s P v = some 2 → ∀ f r, ex P D v f tA (0 :: st) = some r → ex P D v (f + (C.length - a)) a st = some r) ∧ (s P v = some 3 → ∀ f r, ex P D v f tB (1 :: st) = some r → ex P D v (f + (C.length - a)) a st = some r)
theorem Agr.sub {D C E : List Op} {ps qs : List Nat} {tA tB : Nat} (h : Agr D (C ++ E) ps qs tA tB) : ∀ j, j < C.length → (¬ j ∈ ps → ¬ j ∈ qs → D[j]? = C[j]?) ∧ (j ∈ ps → D[j]? = some (25, tA)) ∧ (j ∈ qs → D[j]? = some (24, tB)) := fun j hj => by
  have := h j (by rw [List.length_append]; omega)
  rw [List.getElem?_append_left hj] at this
  exact this
