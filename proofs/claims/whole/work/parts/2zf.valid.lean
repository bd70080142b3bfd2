/-! ===== a text without faults is a text that may be in place ===== -/
def DsN (N : Nat → Nat) (ns : List (Nat × Int32)) : Prop := ∀ (i j : Nat) (p q : Nat × Int32), ns[i]? = some p → ns[j]? = some q → N p.1 = N q.1 → i = j
def AV (K V N : Nat → Nat) (s : IS) : Prop := (3 ≤ ttP s ∧ ttP s ≤ 24) ∧ (ttW s = none → ttG s ≤ 23) ∧ (ttS s = -1 ∨ ∃ t, t ∈ ttU s ∧ ttS s = nI (V t)) ∧ ((ttD s = -1 ∧ ttG s = 0) ∨ ∃ t, t ∈ ttU s ∧ ttD s = nI (V t)) ∧ (∀ p, p ∈ ttM s → ∃ t, t ∈ ttU s ∧ p.2 = V t) ∧ (ttW s = none → ∀ p, p ∈ ttM s → ∃ q, q < (ttL s).length ∧ p.1 = nI q) ∧ (∀ p, p ∈ ttN s → p.2 = -1 ∨ ∃ q, q < (ttL s).length ∧ p.2 = nI q) ∧ (∀ t, t ∈ ttU s → K t = 3) ∧ (ttW s = none → DsN N (ttN s)) ∧ (∀ p, p ∈ ttN s → K p.1 = 2)
theorem slp_none {W : Option (Nat × Nat)} {c : Bool} {k t : Nat} (h : slp W c k t = none) : W = none ∧ c = false := by
  cases W with
  | some w => cases h
  | none =>
    cases c with
    | true => cases h
    | false => exact ⟨rfl, rfl⟩
theorem lwN_in {N : Nat → Nat} {t : Nat} : ∀ {ns : List (Nat × Int32)}, ¬ lwN N t ns = -1 → ∃ p, p ∈ ns ∧ lwN N t ns = p.2 ∧ ¬ p.2 = -1
  | [], h => absurd rfl h
  | p :: ns, h => by
    have e : lwN N t (p :: ns) = if N p.1 = N t ∧ ¬ p.2 = -1 then p.2 else lwN N t ns := rfl
    rw [e] at h ⊢
    by_cases q : N p.1 = N t ∧ ¬ p.2 = -1
    · rw [if_pos q]
      exact ⟨p, List.mem_cons_self .., rfl, q.2⟩
    · rw [if_neg q] at h ⊢
      obtain ⟨x, h1, h2, h3⟩ := lwN_in h
      exact ⟨x, List.mem_cons_of_mem _ h1, h2, h3⟩
theorem DsN.snoc {N : Nat → Nat} {ns : List (Nat × Int32)} {t : Nat} {l : Int32} (h : DsN N ns) (ht : twc N t ns = false) : DsN N (ns ++ [(t, l)]) := by
  have hn : ∀ p, p ∈ ns → ¬ N p.1 = N t := by
    intro p hp z
    have : twc N t ns = true := List.any_eq_true.mpr ⟨p, hp, decide_eq_true z⟩
    rw [ht] at this
    cases this
  have spl : ∀ i p, (ns ++ [(t, l)])[i]? = some p → (i < ns.length ∧ ns[i]? = some p) ∨ (i = ns.length ∧ p = (t, l)) := by
    intro i p hp
    by_cases q : i < ns.length
    · rw [List.getElem?_append_left q] at hp
      exact Or.inl ⟨q, hp⟩
    · have h2 := lt_of_get hp
      rw [List.length_append, List.length_singleton] at h2
      have e : i = ns.length := by omega
      subst e
      rw [List.getElem?_append_right (Nat.le_refl _), Nat.sub_self] at hp
      cases hp
      exact Or.inr ⟨rfl, rfl⟩
  intro i j p q hp hq e
  rcases spl i p hp with ⟨a1, a2⟩ | ⟨a1, a2⟩
  · rcases spl j q hq with ⟨b1, b2⟩ | ⟨b1, b2⟩
    · exact h i j p q a2 b2 e
    · rw [b2] at e
      exact absurd e (hn p (List.mem_of_getElem? a2))
  · rcases spl j q hq with ⟨b1, b2⟩ | ⟨b1, b2⟩
    · rw [a2] at e
      exact absurd e.symm (hn q (List.mem_of_getElem? b2))
    · omega
theorem sqk_k {K : Nat → Nat} : ∀ {ws : List Nat} {i j : Nat}, sqk K ws i = .inl j → ∀ a w, ws[a]? = some w → K (i + a) = w
  | [], _, _, _, a, w, hw => by cases hw
  | x :: ws, i, j, h, a, w, hw => by
    have h' : (if K i = x then (if i < 400 then sqk K ws (i + 1) else .inr (2, i)) else .inr (1, i)) = Sum.inl j := h
    by_cases h1 : K i = x
    · rw [if_pos h1] at h'
      by_cases h4 : i < 400
      · rw [if_pos h4] at h'
        cases a with
        | zero => cases hw; exact h1
        | succ a =>
          have := sqk_k h' a w hw
          rw [show i + (a + 1) = i + 1 + a by omega]
          exact this
      · rw [if_neg h4] at h'; cases h'
    · rw [if_neg h1] at h'; cases h'
theorem pItem_AV {K V N : Nat → Nat} {i j : Nat} {s s' : IS} (h : pItem K V N i s = .inl (j, s')) (hA : AV K V N s) : AV K V N s' := by
  obtain ⟨h1, h2, h3, h4, h5, h6, h7, h8, h9, h10⟩ := hA
  have up : ∀ x, ∀ {P : Nat → Prop}, (∃ t, t ∈ ttU s ∧ P t) → ∃ t, t ∈ ttU s ++ [x] ∧ P t := fun x P ⟨t, a, b⟩ => ⟨t, List.mem_append_left _ a, b⟩
  have tip : ∀ x, ∀ {P : Nat → Prop}, P x → ∃ t, t ∈ ttU s ++ [x] ∧ P t := fun x P a => ⟨x, List.mem_append_right _ (List.mem_singleton.mpr rfl), a⟩
  have mu : ∀ x, K x = 3 → ∀ t, t ∈ ttU s ++ [x] → K t = 3 := by
    intro x hx t ht
    rw [List.mem_append, List.mem_singleton] at ht
    rcases ht with ht | ht
    · exact h8 t ht
    · rw [ht]; exact hx
  have mn : ∀ (x : Nat) (l : Int32), K x = 2 → ∀ p, p ∈ ttN s ++ [(x, l)] → K p.1 = 2 := by
    intro x l hx p hp
    rw [List.mem_append, List.mem_singleton] at hp
    rcases hp with hp | hp
    · exact h10 p hp
    · rw [hp]; exact hx
  unfold pItem at h
  by_cases k17 : K i = 17
  · rw [if_pos k17] at h
    obtain ⟨q1, rfl⟩ := sqR_in h
    have hw : ttW (iParts V i s) = none → ttW s = none := fun z => (slp_none z).1
    refine ⟨?_, fun z => h2 (hw z), h3, h4, h5, fun z => h6 (hw z), h7, h8, fun z => h9 (hw z), h10⟩
    show 3 ≤ (if okP (V (i + 1)) = true then V (i + 1) else ttP s) ∧ (if okP (V (i + 1)) = true then V (i + 1) else ttP s) ≤ 24
    by_cases ok : okP (V (i + 1)) = true
    · rw [if_pos ok]
      exact of_decide_eq_true ok
    · rw [if_neg ok]
      exact h1
  rw [if_neg k17] at h
  by_cases k18 : K i = 18
  · rw [if_pos k18] at h
    by_cases h66 : 6 ≤ (ttL s).length
    · rw [if_pos h66] at h; cases h
    · rw [if_neg h66] at h
      obtain ⟨z, y, _, _, rfl, rfl, q1⟩ := pLaw_in h
      have hw : ttW (iLaw N i (z.2, y.2) s) = none → ttW s = none ∧ twc N (i + 1) (ttN s) = false := fun z => slp_none z
      have ll : (ttL s ++ [(z.2, y.2)]).length = (ttL s).length + 1 := by rw [List.length_append, List.length_singleton]
      have wid : ∀ x : Int32, (∃ q, q < (ttL s).length ∧ x = nI q) → ∃ q, q < (ttL s ++ [(z.2, y.2)]).length ∧ x = nI q := fun x ⟨q, a, b⟩ => ⟨q, by omega, b⟩
      refine ⟨h1, fun z => h2 (hw z).1, h3, h4, h5, fun z p hp => wid _ (h6 (hw z).1 p hp), fun p hp => ?_, h8, fun z => (h9 (hw z).1).snoc (hw z).2, mn _ _ (sqk_k q1 1 2 rfl)⟩
      have hp' : p ∈ ttN s ++ [(i + 1, nI (ttL s).length)] := hp
      rw [List.mem_append, List.mem_singleton] at hp'
      rcases hp' with hp' | hp'
      · rcases h7 p hp' with a | a
        · exact Or.inl a
        · exact Or.inr (wid _ a)
      · rw [hp']
        exact Or.inr ⟨(ttL s).length, by show (ttL s).length < (ttL s ++ [(z.2, y.2)]).length; omega, rfl⟩
  rw [if_neg k18] at h
  by_cases k19 : K i = 19
  · rw [if_pos k19] at h
    by_cases h66 : 12 ≤ (ttM s).length
    · rw [if_pos h66] at h; cases h
    · rw [if_neg h66] at h
      obtain ⟨q1, rfl⟩ := sqR_in h
      have hw : ttW (iMan V N i s) = none → (ttW s = none ∧ twc N (i + 1) (ttN s) = false) ∧ ¬ lwN N (i + 2) (ttN s) = -1 := fun z => ⟨slp_none (slp_none z).1, of_decide_eq_false (slp_none z).2⟩
      refine ⟨h1, fun z => h2 (hw z).1.1, ?_, ?_, fun p hp => ?_, fun z p hp => ?_, fun p hp => ?_, mu _ (sqk_k q1 3 3 rfl), fun z => (h9 (hw z).1.1).snoc (hw z).1.2, mn _ _ (sqk_k q1 1 2 rfl)⟩
      · rcases h3 with a | a
        · exact Or.inl a
        · exact Or.inr (up _ a)
      · rcases h4 with a | a
        · exact Or.inl a
        · exact Or.inr (up _ a)
      · have hp' : p ∈ ttM s ++ [(lwN N (i + 2) (ttN s), V (i + 3))] := hp
        rw [List.mem_append, List.mem_singleton] at hp'
        rcases hp' with hp' | hp'
        · exact up _ (h5 p hp')
        · rw [hp']; exact tip _ rfl
      · have hp' : p ∈ ttM s ++ [(lwN N (i + 2) (ttN s), V (i + 3))] := hp
        rw [List.mem_append, List.mem_singleton] at hp'
        rcases hp' with hp' | hp'
        · exact h6 (hw z).1.1 p hp'
        · obtain ⟨x, x1, x2, x3⟩ := lwN_in (hw z).2
          rw [hp']
          show ∃ q, q < (ttL s).length ∧ lwN N (i + 2) (ttN s) = nI q
          rw [x2]
          rcases h7 x x1 with a | a
          · exact absurd a x3
          · exact a
      · have hp' : p ∈ ttN s ++ [(i + 1, -1)] := hp
        rw [List.mem_append, List.mem_singleton] at hp'
        rcases hp' with hp' | hp'
        · exact h7 p hp'
        · rw [hp']; exact Or.inl rfl
  rw [if_neg k19] at h
  by_cases k31 : K i = 31
  · rw [if_pos k31] at h
    obtain ⟨q1, rfl⟩ := sqR_in h
    have hw : ttW (iDrum V i s) = none → ttW s = none ∧ V (i + 2) ≤ 23 := fun z => ⟨(slp_none z).1, by have := of_decide_eq_false (slp_none z).2; omega⟩
    refine ⟨h1, fun z => (hw z).2, ?_, Or.inr (tip _ rfl), fun p hp => up _ (h5 p hp), fun z => h6 (hw z).1, h7, mu _ (sqk_k q1 1 3 rfl), fun z => h9 (hw z).1, h10⟩
    rcases h3 with a | a
    · exact Or.inl a
    · exact Or.inr (up _ a)
  rw [if_neg k31] at h
  by_cases k33 : K i = 33
  · rw [if_pos k33] at h
    obtain ⟨q1, rfl⟩ := sqR_in h
    refine ⟨h1, h2, Or.inr (tip _ rfl), ?_, fun p hp => up _ (h5 p hp), h6, h7, mu _ (sqk_k q1 1 3 rfl), h9, h10⟩
    rcases h4 with a | a
    · exact Or.inl a
    · exact Or.inr (up _ a)
  rw [if_neg k33] at h
  by_cases k20 : K i = 20
  · rw [if_pos k20] at h
    by_cases h66 : 4 ≤ (ttF s).length
    · rw [if_pos h66] at h; cases h
    · rw [if_neg h66] at h
      obtain ⟨q1, rfl⟩ := sqR_in h
      have hw : ttW (iFog V i s) = none → ttW s = none := fun z => (slp_none (slp_none z).1).1
      exact ⟨h1, fun z => h2 (hw z), h3, h4, h5, fun z => h6 (hw z), h7, h8, fun z => h9 (hw z), h10⟩
  rw [if_neg k20] at h
  cases h
theorem AV0 (K V N : Nat → Nat) : AV K V N is0 := ⟨by decide, fun _ => Nat.zero_le _, Or.inl rfl, Or.inl ⟨rfl, rfl⟩, fun p hp => (by cases hp), fun _ p hp => (by cases hp), fun p hp => (by cases hp), fun t ht => (by cases ht), fun _ i j p q hp => (by cases hp), fun p hp => (by cases hp)⟩
theorem pT_AV {K V N : Nat → Nat} : ∀ {f i j : Nat} {s s' : IS}, pT K V N f i s = .inl (j, s') → AV K V N s → AV K V N s'
  | 0, i, j, s, s', h, hA => by cases h; exact hA
  | f + 1, i, j, s, s', h, hA => by
    have h' : (if K i = 0 then .inl (i, s) else match pItem K V N i s with
      | .inr e => .inr e
      | .inl z => pT K V N f z.1 z.2) = Sum.inl (j, s') := h
    by_cases h0 : K i = 0
    · rw [if_pos h0] at h'; cases h'; exact hA
    · rw [if_neg h0] at h'
      cases hp : pItem K V N i s with
      | inr e => rw [hp] at h'; cases h'
      | inl z =>
        rw [hp] at h'
        exact pT_AV h' (pItem_AV hp hA)
theorem fbl_none {V : Nat → Nat} {p : Nat} : ∀ {ts : List Nat}, fbl V p ts = none → ∀ t, t ∈ ts → V t < p
  | [], _, t, ht => by cases ht
  | x :: ts, h, t, ht => by
    have h' : (if p ≤ V x then some x else fbl V p ts) = none := h
    by_cases q : p ≤ V x
    · rw [if_pos q] at h'; cases h'
    · rw [if_neg q] at h'
      rw [List.mem_cons] at ht
      rcases ht with ht | ht
      · rw [ht]; omega
      · exact fbl_none h' t ht
/-- the text that is told -/
def tdOf (s : IS) : TD := (evW (ttP s) (ttL s), ttP s, (ttM s).length, (ttL s).length, ttG s, ttS s, ttD s, (ttF s).length, (fun i => nI ((ttF s).getD i (0, 0)).1), (fun i => nI ((ttF s).getD i (0, 0)).2), (fun b => ((ttM s).getD b (0, 0)).1), (fun b => ((ttM s).getD b (0, 0)).2))
theorem getD_some {α : Type} {L : List α} {i : Nat} {d : α} (h : i < L.length) : ∃ p, L[i]? = some p ∧ L.getD i d = p ∧ p ∈ L := by
  refine ⟨L[i], List.getElem?_eq_getElem h, ?_, List.getElem_mem h⟩
  rw [List.getD_eq_getElem?_getD, List.getElem?_eq_getElem h]
  rfl
theorem td_ok {K V N : Nat → Nat} {s : IS} (hT : TB s) (hA : AV K V N s) (hW : ttW s = none) (hU : fbl V (ttP s) (ttU s) = none) : VT (tdOf s) := by
  obtain ⟨t1, t2, t3, t4⟩ := hT
  obtain ⟨h1, h2, h3, h4, h5, h6, h7, h8, h9, h10⟩ := hA
  have hb := fbl_none hU
  refine ⟨h1, t2, t1, h2 hW, ?_, ?_, t3, fun b hb2 => ?_, fun b hb2 => ?_, evW_ok (show 0 < ttP s by omega) _ _, fun z => ?_⟩
  · rcases h3 with a | ⟨t, a, b⟩
    · exact Or.inl a
    · exact Or.inr ⟨V t, hb t a, b⟩
  · rcases h4 with a | ⟨t, a, b⟩
    · exact Or.inl a.1
    · exact Or.inr ⟨V t, hb t a, b⟩
  · obtain ⟨p, _, p2, p3⟩ := getD_some (d := ((0 : Int32), 0)) (show b < (ttM s).length from hb2)
    obtain ⟨q, a, c⟩ := h6 hW p p3
    refine Or.inr ⟨q, a, ?_⟩
    show ((ttM s).getD b (0, 0)).1 = nI q
    rw [p2]; exact c
  · obtain ⟨p, _, p2, p3⟩ := getD_some (d := ((0 : Int32), 0)) (show b < (ttM s).length from hb2)
    obtain ⟨t, a, c⟩ := h5 p p3
    show ((ttM s).getD b (0, 0)).2 < ttP s
    rw [p2, c]
    exact hb t a
  · rcases h4 with a | ⟨t, a, b⟩
    · exact a.2
    · have z' : ttD s = -1 := z
      rw [b] at z'
      exact absurd z' (nI_m1 (by have := hb t a; omega))
