/-! ===== expressions: what both must make of them ===== -/
abbrev Op : Type := Nat × Nat
abbrev PR : Type := (Nat × List Op) ⊕ (Nat × Nat)
def joins (lv k : Nat) : Bool := if lv = 0 then decide (k = 7 ∨ k = 8) else decide (k = 9 ∨ k = 10)
def pLp (K : Nat → Nat) (R : Nat → PR) (jn : Nat → Bool) : Nat → Nat → List Op → PR
  | 0, j, L => .inl (j, L)
  | f + 1, j, L => if jn (K j) = true then (if j < 400 then (match R (j + 1) with
      | .inl z => pLp K R jn f z.1 (L ++ z.2 ++ [(K j, 0)])
      | .inr e => .inr e) else .inr (2, j)) else .inl (j, L)
def pCl (K : Nat → Nat) (j : Nat) (L : List Op) : PR := if K j = 16 then (if j < 400 then .inl (j + 1, L) else .inr (2, j)) else .inr (1, j)
def pGp (K : Nat → Nat) (R : Nat → PR) (j : Nat) (L : List Op) : PR := if K j = 6 then (if j < 400 then (match R (j + 1) with
      | .inl z => pCl K z.1 (L ++ z.2 ++ [(27, 0)])
      | .inr e => .inr e) else .inr (2, j)) else .inr (1, j)
def pPa (K : Nat → Nat) (R : Nat → PR) (d : Nat) (g : Bool) (i : Nat) : PR := if K i = 15 then (if 6 ≤ d then .inr (2, i) else if i < 400 then (match R (i + 1) with
      | .inl z => if g = true then pGp K R z.1 z.2 else pCl K z.1 z.2
      | .inr e => .inr e) else .inr (2, i)) else .inr (1, i)
def pUn (K V : Nat → Nat) (R : Nat → PR) (d i : Nat) : PR := if K i = 3 then (if i < 400 then .inl (i + 1, [(3, V i)]) else .inr (2, i)) else if 28 ≤ K i ∧ K i ≤ 33 then (if i < 400 then .inl (i + 1, [(K i, 0)]) else .inr (2, i)) else if K i = 27 then (if i < 400 then pPa K R d true (i + 1) else .inr (2, i)) else pPa K R d false i
def pX (K V : Nat → Nat) : Nat → Nat → Nat → Nat → PR
  | 0, _, _, i => .inr (0, i)
  | f + 1, lv, d, i => if 2 ≤ lv then pUn K V (pX K V f 0 (d + 1)) d i else (match pX K V f (lv + 1) d i with
      | .inl z => pLp K (pX K V f (lv + 1) d) (joins lv) 400 z.1 z.2
      | .inr e => .inr e)
/-! the worth of a row of orders -/
def jnV (P k : Nat) (a b : Int32) : Option Int32 := if k = 7 then some (a + b) else if k = 8 then some (a - b) else if k = 9 then some (a * b) else if k = 10 then (if b = 0 then none else some (a / b)) else some (iI (gp P a b))
def evL (P : Nat) (v : Nat → Int32) : List Op → List Int32 → Option (List Int32)
  | [], st => some st
  | o :: L, st => if o.1 = 3 then evL P v L (nI o.2 :: st) else if 28 ≤ o.1 then evL P v L (v (o.1 - 28) :: st) else (match st with
      | b :: a :: st' => (match jnV P o.1 a b with
          | none => none
          | some x => evL P v L (x :: st'))
      | _ => none)
theorem evL_app (P : Nat) (v : Nat → Int32) : ∀ (L M : List Op) (st : List Int32), evL P v (L ++ M) st = (evL P v L st).bind (evL P v M)
  | [], _, _ => rfl
  | o :: L, M, st => by
    show evL P v (o :: (L ++ M)) st = _
    unfold evL
    by_cases h1 : o.1 = 3
    · rw [if_pos h1, if_pos h1]; exact evL_app P v L M _
    · rw [if_neg h1, if_neg h1]
      by_cases h2 : 28 ≤ o.1
      · rw [if_pos h2, if_pos h2]; exact evL_app P v L M _
      · rw [if_neg h2, if_neg h2]
        match st with
        | [] => rfl
        | [_] => rfl
        | b :: a :: st' =>
          dsimp only
          cases jnV P o.1 a b with
          | none => rfl
          | some x => exact evL_app P v L M _
def GdE (L : List Op) : Prop := ∀ P v, ∃ r : Option Int32, ∀ st, evL P v L st = r.map (fun x => x :: st)
def isBn (k : Nat) : Prop := (7 ≤ k ∧ k ≤ 10) ∨ k = 27
theorem GdE.i (x : Nat) : GdE [(3, x)] := fun P v => ⟨some (nI x), fun st => rfl⟩
theorem GdE.v {k : Nat} (h : 28 ≤ k) : GdE [(k, 0)] := fun P v => ⟨some (v (k - 28)), fun st => by
  unfold evL
  rw [if_neg (show ¬ k = 3 by omega), if_pos (show 28 ≤ k from h)]
  rfl⟩
theorem evL_b {P k : Nat} {v : Nat → Int32} {L M : List Op} {r1 r2 : Option Int32} (hk : isBn k) (h1 : ∀ st, evL P v L st = r1.map (fun x => x :: st)) (h2 : ∀ st, evL P v M st = r2.map (fun x => x :: st)) (st : List Int32) : evL P v (L ++ M ++ [(k, 0)]) st = (r1.bind (fun a => r2.bind (fun b => jnV P k a b))).map (fun x => x :: st) := by
  unfold isBn at hk
  rw [evL_app, evL_app, h1]
  cases r1 with
  | none => rfl
  | some a =>
    show ((evL P v M (a :: st)).bind (evL P v [(k, 0)])) = _
    rw [h2]
    cases r2 with
    | none => rfl
    | some b =>
      show evL P v [(k, 0)] (b :: a :: st) = (jnV P k a b).map (fun x => x :: st)
      unfold evL
      rw [if_neg (show ¬ k = 3 by omega), if_neg (show ¬ 28 ≤ k by omega)]
      dsimp only
      cases jnV P k a b <;> rfl
theorem GdE.b {k : Nat} {L M : List Op} (hk : isBn k) (h1 : GdE L) (h2 : GdE M) : GdE (L ++ M ++ [(k, 0)]) := by
  intro P v
  obtain ⟨r1, e1⟩ := h1 P v
  obtain ⟨r2, e2⟩ := h2 P v
  exact ⟨_, evL_b hk e1 e2⟩
/-! how high it piles -/
def ht : List Op → Nat → Nat
  | [], k => k
  | o :: L, k => if o.1 = 3 ∨ 28 ≤ o.1 then ht L (k + 1) else ht L (k - 1)
def dpt : List Op → Nat → Nat
  | [], k => k
  | o :: L, k => max k (if o.1 = 3 ∨ 28 ≤ o.1 then dpt L (k + 1) else dpt L (k - 1))
theorem ht_c (o : Op) (L : List Op) (k : Nat) : ht (o :: L) k = if o.1 = 3 ∨ 28 ≤ o.1 then ht L (k + 1) else ht L (k - 1) := rfl
theorem dpt_c (o : Op) (L : List Op) (k : Nat) : dpt (o :: L) k = max k (if o.1 = 3 ∨ 28 ≤ o.1 then dpt L (k + 1) else dpt L (k - 1)) := rfl
theorem ht_app : ∀ (L M : List Op) (k : Nat), ht (L ++ M) k = ht M (ht L k)
  | [], _, _ => rfl
  | o :: L, M, k => by
    rw [List.cons_append, ht_c, ht_c]
    split
    · exact ht_app L M _
    · exact ht_app L M _
theorem dpt_ge : ∀ (L : List Op) (k : Nat), k ≤ dpt L k ∧ ht L k ≤ dpt L k
  | [], _ => ⟨Nat.le_refl _, Nat.le_refl _⟩
  | o :: L, k => by
    rw [ht_c, dpt_c]
    split
    · have := dpt_ge L (k + 1); omega
    · have := dpt_ge L (k - 1); omega
theorem dpt_app : ∀ (L M : List Op) (k : Nat), dpt (L ++ M) k = max (dpt L k) (dpt M (ht L k))
  | [], M, k => by
    show dpt M k = max k (dpt M k)
    have := dpt_ge M k
    omega
  | o :: L, M, k => by
    rw [List.cons_append, ht_c, dpt_c, dpt_c]
    split
    · have := dpt_app L M (k + 1); omega
    · have := dpt_app L M (k - 1); omega
def nu : List Op → Nat → Prop
  | [], _ => True
  | o :: L, k => if o.1 = 3 ∨ 28 ≤ o.1 then nu L (k + 1) else 2 ≤ k ∧ nu L (k - 1)
theorem nu_c (o : Op) (L : List Op) (k : Nat) : nu (o :: L) k = if o.1 = 3 ∨ 28 ≤ o.1 then nu L (k + 1) else 2 ≤ k ∧ nu L (k - 1) := rfl
theorem nu_app : ∀ (L M : List Op) (k : Nat), nu L k → nu M (ht L k) → nu (L ++ M) k
  | [], _, _, _, h => h
  | o :: L, M, k, h1, h2 => by
    rw [List.cons_append, nu_c]
    rw [nu_c] at h1
    rw [ht_c] at h2
    by_cases q : o.1 = 3 ∨ 28 ≤ o.1
    · rw [if_pos q] at h1 h2 ⊢
      exact nu_app L M _ h1 h2
    · rw [if_neg q] at h1 h2 ⊢
      exact ⟨h1.1, nu_app L M _ h1.2 h2⟩
def GdD (L : List Op) (n : Nat) : Prop := ∀ k, ht L k = k + 1 ∧ dpt L k ≤ k + n ∧ nu L k
theorem GdD.u {o : Op} (h : o.1 = 3 ∨ 28 ≤ o.1) : GdD [o] 1 := fun k => by
  refine ⟨?_, ?_, ?_⟩
  · unfold ht; rw [if_pos h]; rfl
  · unfold dpt; rw [if_pos h]; unfold dpt; omega
  · rw [nu_c, if_pos h]; trivial
theorem GdD.mono {L : List Op} {n n' : Nat} (h : GdD L n) (hn : n ≤ n') : GdD L n' := fun k => ⟨(h k).1, by have := (h k).2.1; omega, (h k).2.2⟩
theorem GdD.b {k n1 n2 n : Nat} {L M : List Op} (hk : isBn k) (h1 : GdD L n1) (h2 : GdD M n2) (a : n1 ≤ n) (b : n2 + 1 ≤ n) : GdD (L ++ M ++ [(k, 0)]) n := by
  intro j
  unfold isBn at hk
  obtain ⟨x1, x2, x3⟩ := h1 j
  obtain ⟨y1, y2, y3⟩ := h2 (j + 1)
  have x4 := dpt_ge M (j + 1)
  have hn : ¬ (k = 3 ∨ 28 ≤ k) := by omega
  have z1 : ∀ i, ht [(k, 0)] i = i - 1 := fun i => by unfold ht; rw [if_neg hn]; rfl
  have z2 : ∀ i, dpt [(k, 0)] i = max i (i - 1) := fun i => by unfold dpt; rw [if_neg hn]; rfl
  refine ⟨?_, ?_, ?_⟩
  · rw [ht_app, ht_app, x1, y1, z1]; omega
  · rw [dpt_app, dpt_app, ht_app, x1, y1, z2]; omega
  · refine nu_app _ _ _ (nu_app _ _ _ x3 (by rw [x1]; exact y3)) ?_
    rw [ht_app, x1, y1, nu_c, if_neg hn]
    exact ⟨by omega, trivial⟩
/-! what they are made of -/
def OpK (o : Op) : Prop := (o.1 = 3 ∧ o.2 < 10000) ∨ ((isBn o.1 ∨ (28 ≤ o.1 ∧ o.1 ≤ 33)) ∧ o.2 = 0)
def GdO (K V : Nat → Nat) (i j n : Nat) (L : List Op) : Prop := i < j ∧ j ≤ 400 ∧ L.length + i ≤ j ∧ 1 ≤ L.length ∧ GdE L ∧ GdD L n ∧ ∀ o, o ∈ L → OpK o
def Nd (lv d : Nat) : Nat := 3 * (6 - d) + (3 - lv)
section PX
variable {K V : Nat → Nat}
theorem GdO.b {i j j2 k n1 n2 n : Nat} {L M : List Op} (hk : isBn k) (h1 : GdO K V i j n1 L) (h2 : GdO K V (j + 1) j2 n2 M) (a : n1 ≤ n) (b : n2 + 1 ≤ n) : GdO K V i j2 n (L ++ M ++ [(k, 0)]) := by
  obtain ⟨a1, a2, a3, a4, a5, a6, a7⟩ := h1
  obtain ⟨b1, b2, b3, b4, b5, b6, b7⟩ := h2
  refine ⟨by omega, b2, ?_, ?_, a5.b hk b5, a6.b hk b6 a b, ?_⟩
  · rw [List.length_append, List.length_append, List.length_singleton]; omega
  · rw [List.length_append, List.length_append, List.length_singleton]; omega
  · intro o ho
    rw [List.mem_append, List.mem_append, List.mem_singleton] at ho
    rcases ho with (ho | ho) | ho
    · exact a7 o ho
    · exact b7 o ho
    · rw [ho]; exact Or.inr ⟨Or.inl hk, rfl⟩
theorem pLp_good {R : Nat → PR} {lv n1 n : Nat} {i : Nat} (hn : n1 + 1 ≤ n) (hR : ∀ a j L, R a = .inl (j, L) → GdO K V a j n1 L) : ∀ (f j : Nat) (L : List Op) (j2 : Nat) (L2 : List Op), GdO K V i j n L → pLp K R (joins lv) f j L = .inl (j2, L2) → GdO K V i j2 n L2
  | 0, j, L, j2, L2, h, e => by
    cases e; exact h
  | f + 1, j, L, j2, L2, h, e => by
    unfold pLp at e
    by_cases h1 : joins lv (K j) = true
    · rw [if_pos h1] at e
      by_cases h2 : j < 400
      · rw [if_pos h2] at e
        cases hr : R (j + 1) with
        | inr x => rw [hr] at e; cases e
        | inl z =>
          rw [hr] at e
          have hb : isBn (K j) := by
            unfold joins at h1
            unfold isBn
            split at h1
            · have := of_decide_eq_true h1; omega
            · have := of_decide_eq_true h1; omega
          exact pLp_good hn hR f _ _ _ _ (h.b hb (hR _ _ _ hr) (Nat.le_refl _) hn) e
      · rw [if_neg h2] at e; cases e
    · rw [if_neg h1] at e
      cases e; exact h
theorem GdO.cl {i i' j j2 n : Nat} {L L2 : List Op} (h : GdO K V i' j n L) (hi : i ≤ i') (e : pCl K j L = .inl (j2, L2)) : GdO K V i j2 n L2 := by
  obtain ⟨a1, a2, a3, a4, a5, a6, a7⟩ := h
  unfold pCl at e
  split at e
  · split at e
    · cases e
      exact ⟨by omega, by omega, by omega, a4, a5, a6, a7⟩
    · cases e
  · cases e
theorem pX_good (hV : ∀ i, K i = 3 → V i < 10000) : ∀ (f lv d i j : Nat) (L : List Op), lv ≤ 2 → d ≤ 6 → pX K V f lv d i = .inl (j, L) → GdO K V i j (Nd lv d) L
  | 0, _, _, _, _, _, _, _, e => by cases e
  | f + 1, lv, d, i, j, L, hlv, hd, e => by
    unfold pX at e
    by_cases h2 : 2 ≤ lv
    · rw [if_pos h2] at e
      have elv : lv = 2 := by omega
      subst elv
      unfold pUn at e
      by_cases k3 : K i = 3
      · rw [if_pos k3] at e
        by_cases h4 : i < 400
        · rw [if_pos h4] at e
          cases e
          exact ⟨by omega, by omega, by show 1 + i ≤ _; omega, Nat.le_refl _, GdE.i _, (GdD.u (Or.inl rfl)).mono (by unfold Nd; omega), fun o ho => by rw [List.mem_singleton] at ho; rw [ho]; exact Or.inl ⟨rfl, hV i k3⟩⟩
        · rw [if_neg h4] at e; cases e
      · rw [if_neg k3] at e
        by_cases kv : 28 ≤ K i ∧ K i ≤ 33
        · rw [if_pos kv] at e
          by_cases h4 : i < 400
          · rw [if_pos h4] at e
            cases e
            exact ⟨by omega, by omega, by show 1 + i ≤ _; omega, Nat.le_refl _, GdE.v kv.1, (GdD.u (Or.inr kv.1)).mono (by unfold Nd; omega), fun o ho => by rw [List.mem_singleton] at ho; rw [ho]; exact Or.inr ⟨Or.inr kv, rfl⟩⟩
          · rw [if_neg h4] at e; cases e
        · rw [if_neg kv] at e
          have par : ∀ g i0, pPa K (pX K V f 0 (d + 1)) d g i0 = .inl (j, L) → GdO K V i0 j (Nd 2 d) L := by
            intro g i0 e
            unfold pPa at e
            by_cases k15 : K i0 = 15
            · rw [if_pos k15] at e
              by_cases h6 : 6 ≤ d
              · rw [if_pos h6] at e; cases e
              · rw [if_neg h6] at e
                by_cases h4 : i0 < 400
                · rw [if_pos h4] at e
                  cases hr : pX K V f 0 (d + 1) (i0 + 1) with
                  | inr x => rw [hr] at e; cases e
                  | inl z =>
                    rw [hr] at e
                    have g1 := pX_good hV f 0 (d + 1) (i0 + 1) z.1 z.2 (by omega) (by omega) hr
                    have nd : Nd 0 (d + 1) + 1 ≤ Nd 2 d := by unfold Nd; omega
                    dsimp only at e
                    by_cases hg : g = true
                    · rw [if_pos hg] at e
                      unfold pGp at e
                      by_cases k6 : K z.1 = 6
                      · rw [if_pos k6] at e
                        by_cases h44 : z.1 < 400
                        · rw [if_pos h44] at e
                          cases hr2 : pX K V f 0 (d + 1) (z.1 + 1) with
                          | inr x => rw [hr2] at e; cases e
                          | inl z2 =>
                            rw [hr2] at e
                            have g2 := pX_good hV f 0 (d + 1) (z.1 + 1) z2.1 z2.2 (by omega) (by omega) hr2
                            exact (g1.b (k := 27) (Or.inr rfl) g2 (by omega) nd).cl (by omega) e
                        · rw [if_neg h44] at e; cases e
                      · rw [if_neg k6] at e; cases e
                    · rw [if_neg hg] at e
                      have g1' : GdO K V (i0 + 1) z.1 (Nd 2 d) z.2 := by
                        obtain ⟨a1, a2, a3, a4, a5, a6, a7⟩ := g1
                        exact ⟨a1, a2, a3, a4, a5, a6.mono (by omega), a7⟩
                      exact g1'.cl (by omega) e
                · rw [if_neg h4] at e; cases e
            · rw [if_neg k15] at e; cases e
          by_cases k27 : K i = 27
          · rw [if_pos k27] at e
            by_cases h4 : i < 400
            · rw [if_pos h4] at e
              obtain ⟨a1, a2, a3, a4, a5, a6, a7⟩ := par true (i + 1) e
              exact ⟨by omega, a2, by omega, a4, a5, a6, a7⟩
            · rw [if_neg h4] at e; cases e
          · rw [if_neg k27] at e
            exact par false i e
    · rw [if_neg h2] at e
      cases hr : pX K V f (lv + 1) d i with
      | inr x => rw [hr] at e; cases e
      | inl z =>
        rw [hr] at e
        have g1 := pX_good hV f (lv + 1) d i z.1 z.2 (by omega) hd hr
        have nd : Nd (lv + 1) d + 1 ≤ Nd lv d := by unfold Nd; omega
        have g1' : GdO K V i z.1 (Nd lv d) z.2 := by
          obtain ⟨a1, a2, a3, a4, a5, a6, a7⟩ := g1
          exact ⟨a1, a2, a3, a4, a5, a6.mono (by omega), a7⟩
        exact pLp_good nd (fun a j L h => pX_good hV f (lv + 1) d a j L (by omega) hd h) 400 _ _ _ _ g1' e
end PX
