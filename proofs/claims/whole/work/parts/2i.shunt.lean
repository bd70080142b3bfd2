/-! ===== expressions by a pile of waiting signs: the same ===== -/
abbrev Cf : Type := (Bool × Nat × List Nat × List Op × Nat) ⊕ PR
def wll (w : Nat) : Bool := decide (w = 15 ∨ w = 27 ∨ w = 6)
def co (s : Bool) : List Nat → List Op → List Nat × List Op
  | [], C => ([], C)
  | w :: W, C => if wll w = true ∨ (s = true ∧ (w = 7 ∨ w = 8)) then (w :: W, C) else co s W (C ++ [(w, 0)])
def hd0 (W : List Nat) : Nat := W.headD 0
def mOp (K V : Nat → Nat) (i : Nat) (W : List Nat) (C : List Op) (o : Nat) : Cf :=
  if K i = 27 then (if i < 400 then (if K (i + 1) = 15 then (if o = 6 then .inr (.inr (2, i + 1)) else if i + 1 < 400 then .inl (true, i + 2, 27 :: W, C, o + 1) else .inr (.inr (2, i + 1))) else .inr (.inr (1, i + 1))) else .inr (.inr (2, i)))
  else if K i = 15 then (if o = 6 then .inr (.inr (2, i)) else if i < 400 then .inl (true, i + 1, 15 :: W, C, o + 1) else .inr (.inr (2, i)))
  else if K i = 3 then (if i < 400 then .inl (false, i + 1, W, C ++ [(3, V i)], o) else .inr (.inr (2, i)))
  else if 28 ≤ K i ∧ K i ≤ 33 then (if i < 400 then .inl (false, i + 1, W, C ++ [(K i, 0)], o) else .inr (.inr (2, i)))
  else .inr (.inr (1, i))
def mUn (K : Nat → Nat) (i : Nat) (W : List Nat) (C : List Op) (o : Nat) : Cf :=
  if 0 < o ∧ K i = 6 then (if hd0 (co false W C).1 = 27 then (if i < 400 then .inl (true, i + 1, 6 :: (co false W C).1.tail, (co false W C).2, o) else .inr (.inr (2, i))) else .inr (.inr (1, i)))
  else if 0 < o ∧ K i = 16 then (if hd0 (co false W C).1 = 27 then .inr (.inr (1, i)) else if i < 400 then .inl (false, i + 1, (co false W C).1.tail, (if hd0 (co false W C).1 = 6 then (co false W C).2 ++ [(27, 0)] else (co false W C).2), o - 1) else .inr (.inr (2, i)))
  else if 7 ≤ K i ∧ K i ≤ 10 then (if i < 400 then .inl (true, i + 1, K i :: (co (decide (9 ≤ K i)) W C).1, (co (decide (9 ≤ K i)) W C).2, o) else .inr (.inr (2, i)))
  else if 0 < o then .inr (.inr (1, i)) else .inr (.inl (i, (co false W C).2))
def mstep (K V : Nat → Nat) : Cf → Cf
  | .inl z => if z.1 = true then mOp K V z.2.1 z.2.2.1 z.2.2.2.1 z.2.2.2.2 else mUn K z.2.1 z.2.2.1 z.2.2.2.1 z.2.2.2.2
  | .inr p => .inr p
def mit (K V : Nat → Nat) : Nat → Cf → Cf
  | 0, c => c
  | k + 1, c => mit K V k (mstep K V c)
def Rch (K V : Nat → Nat) (c c' : Cf) : Prop := ∃ k, mit K V k c = c'
section PS
variable {K V : Nat → Nat}
theorem mit_add (k j : Nat) (c : Cf) : mit K V (k + j) c = mit K V j (mit K V k c) := by
  induction k generalizing c with
  | zero => rw [Nat.zero_add]; rfl
  | succ k ih =>
    rw [Nat.succ_add]
    show mit K V (k + j) (mstep K V c) = mit K V j (mit K V k (mstep K V c))
    exact ih _
theorem mit_inr (k : Nat) (p : PR) : mit K V k (.inr p) = .inr p := by
  induction k with
  | zero => rfl
  | succ k ih => exact ih
theorem Rch.rf (c : Cf) : Rch K V c c := ⟨0, rfl⟩
theorem Rch.tr {a b c : Cf} (h1 : Rch K V a b) (h2 : Rch K V b c) : Rch K V a c := by
  obtain ⟨k, rfl⟩ := h1
  obtain ⟨j, rfl⟩ := h2
  exact ⟨k + j, mit_add k j a⟩
theorem Rch.st {a b : Cf} (h : mstep K V a = b) : Rch K V a b := ⟨1, h⟩
theorem Rch.one {a : Cf} {p q : PR} (h1 : Rch K V a (.inr p)) (h2 : Rch K V a (.inr q)) : p = q := by
  obtain ⟨k, e1⟩ := h1
  obtain ⟨j, e2⟩ := h2
  have a1 : mit K V (k + j) a = .inr p := by rw [mit_add, e1, mit_inr]
  have a2 : mit K V (k + j) a = .inr q := by rw [Nat.add_comm, mit_add, e2, mit_inr]
  rw [a1] at a2
  cases a2
  rfl
def tO0 (W : List Nat) : Prop := W = [] ∨ ∃ w W', W = w :: W' ∧ wll w = true
def tO1 (W : List Nat) : Prop := W = [] ∨ ∃ w W', W = w :: W' ∧ (wll w = true ∨ w = 7 ∨ w = 8)
theorem tO0.to1 {W : List Nat} (h : tO0 W) : tO1 W := by
  rcases h with h | ⟨w, W', h1, h2⟩
  · exact Or.inl h
  · exact Or.inr ⟨w, W', h1, Or.inl h2⟩
theorem co_t0 {W : List Nat} (h : tO0 W) (s : Bool) (C : List Op) : co s W C = (W, C) := by
  rcases h with rfl | ⟨w, W', rfl, h2⟩
  · rfl
  · unfold co; rw [if_pos (Or.inl h2)]
theorem co_t1 {W : List Nat} (h : tO1 W) (C : List Op) : co true W C = (W, C) := by
  rcases h with rfl | ⟨w, W', rfl, h2⟩
  · rfl
  · unfold co
    rw [if_pos]
    rcases h2 with h2 | h2
    · exact Or.inl h2
    · exact Or.inr ⟨rfl, h2⟩
theorem co_c {w : Nat} {W : List Nat} {C : List Op} {s : Bool} (h : ¬ (wll w = true ∨ (s = true ∧ (w = 7 ∨ w = 8)))) : co s (w :: W) C = co s W (C ++ [(w, 0)]) := by
  show (if wll w = true ∨ (s = true ∧ (w = 7 ∨ w = 8)) then (w :: W, C) else co s W (C ++ [(w, 0)])) = _
  rw [if_neg h]
theorem wll_n {w : Nat} (h : 7 ≤ w ∧ w ≤ 10) : ¬ wll w = true := fun z => by have := of_decide_eq_true z; omega
def Fl1 (W' : List Nat) (C' : List Op) (W : List Nat) (Z : List Op) : Prop := (W' = W ∧ C' = Z) ∨ ∃ w, (w = 9 ∨ w = 10) ∧ W' = w :: W ∧ C' ++ [(w, 0)] = Z
theorem Fl1.t {W' W : List Nat} {C' Z : List Op} (h : Fl1 W' C' W Z) (hW : tO1 W) : co true W' C' = (W, Z) := by
  rcases h with ⟨rfl, rfl⟩ | ⟨w, hw, rfl, rfl⟩
  · exact co_t1 hW _
  · rw [co_c (fun z => by rcases z with z | z; · exact wll_n (by omega) z
                          · omega)]
    exact co_t1 hW _
theorem Fl1.f {W' W : List Nat} {C' Z : List Op} (h : Fl1 W' C' W Z) : co false W' C' = co false W Z := by
  rcases h with ⟨rfl, rfl⟩ | ⟨w, hw, rfl, rfl⟩
  · rfl
  · rw [co_c (fun z => by rcases z with z | z; · exact wll_n (by omega) z
                          · cases z.1)]
def Fl0 (W' : List Nat) (C' : List Op) (W : List Nat) (Z : List Op) : Prop := ∃ W2 C2, Fl1 W' C' W2 C2 ∧ ((W2 = W ∧ C2 = Z) ∨ ∃ w, (w = 7 ∨ w = 8) ∧ W2 = w :: W ∧ C2 ++ [(w, 0)] = Z)
theorem Fl0.f {W' W : List Nat} {C' Z : List Op} (h : Fl0 W' C' W Z) (hW : tO0 W) : co false W' C' = (W, Z) := by
  obtain ⟨W2, C2, h1, h2⟩ := h
  rw [h1.f]
  rcases h2 with ⟨rfl, rfl⟩ | ⟨w, hw, rfl, rfl⟩
  · exact co_t0 hW _ _
  · rw [co_c (fun z => by rcases z with z | z; · exact wll_n (by omega) z
                          · cases z.1)]
    exact co_t0 hW _ _
abbrev cO (i : Nat) (W : List Nat) (C : List Op) (o : Nat) : Cf := .inl (true, i, W, C, o)
abbrev cU (i : Nat) (W : List Nat) (C : List Op) (o : Nat) : Cf := .inl (false, i, W, C, o)
def UOk (K V : Nat → Nat) (f d : Nat) : Prop := ∀ i W C, (∀ j L, pX K V f 2 d i = .inl (j, L) → Rch K V (cO i W C d) (cU j W (C ++ L) d)) ∧ (∀ e, pX K V f 2 d i = .inr e → Rch K V (cO i W C d) (.inr (.inr e)))
def P1Ok (K V : Nat → Nat) (f d : Nat) : Prop := ∀ i W C, tO1 W → (∀ j L, pX K V f 1 d i = .inl (j, L) → ∃ W' C', Rch K V (cO i W C d) (cU j W' C' d) ∧ Fl1 W' C' W (C ++ L) ∧ ¬ (K j = 9 ∨ K j = 10)) ∧ (∀ e, pX K V f 1 d i = .inr e → Rch K V (cO i W C d) (.inr (.inr e)))
def P0Ok (K V : Nat → Nat) (f d : Nat) : Prop := ∀ i W C, tO0 W → (∀ j L, pX K V f 0 d i = .inl (j, L) → ∃ W' C', Rch K V (cO i W C d) (cU j W' C' d) ∧ co false W' C' = (W, C ++ L) ∧ ¬ (7 ≤ K j ∧ K j ≤ 10)) ∧ (∀ e, pX K V f 0 d i = .inr e → Rch K V (cO i W C d) (.inr (.inr e)))
theorem mUn_op {i o : Nat} {W : List Nat} {C : List Op} (hk : 7 ≤ K i ∧ K i ≤ 10) : mUn K i W C o = if i < 400 then cO (i + 1) (K i :: (co (decide (9 ≤ K i)) W C).1) (co (decide (9 ≤ K i)) W C).2 o else .inr (.inr (2, i)) := by
  unfold mUn
  rw [if_neg (by omega), if_neg (by omega), if_pos hk]
theorem P1_of (hV : ∀ i, K i = 3 → V i < 10000) {f d : Nat} (hd : d ≤ 6) (hU : UOk K V f d) : P1Ok K V (f + 1) d := by
  intro i W C hW
  have hg : ∀ a j L, pX K V f 2 d a = .inl (j, L) → GdO K V a j (Nd 2 d) L := fun a j L h => pX_good hV f 2 d a j L (by omega) hd h
  have lp : ∀ (q j : Nat) (Z : List Op) (W' : List Nat) (C' : List Op), 401 ≤ j + q → j ≤ 400 → Fl1 W' C' W (C ++ Z) → (∀ j2 L2, pLp K (pX K V f 2 d) (joins 1) q j Z = .inl (j2, L2) → ∃ W2 C2, Rch K V (cU j W' C' d) (cU j2 W2 C2 d) ∧ Fl1 W2 C2 W (C ++ L2) ∧ ¬ (K j2 = 9 ∨ K j2 = 10)) ∧ (∀ e, pLp K (pX K V f 2 d) (joins 1) q j Z = .inr e → Rch K V (cU j W' C' d) (.inr (.inr e))) := by
    intro q
    induction q with
    | zero => intro j Z W' C' h1 h2; omega
    | succ q ih =>
      intro j Z W' C' h1 h2 hF
      unfold pLp
      by_cases hj : joins 1 (K j) = true
      · have hk : K j = 9 ∨ K j = 10 := of_decide_eq_true hj
        have st := mUn_op (K := K) (i := j) (o := d) (W := W') (C := C') (by omega)
        rw [show decide (9 ≤ K j) = true from decide_eq_true (by omega), hF.t hW] at st
        rw [if_pos hj]
        by_cases h4 : j < 400
        · rw [if_pos h4] at st ⊢
          have r1 : Rch K V (cU j W' C' d) (cO (j + 1) (K j :: W) (C ++ Z) d) := Rch.st st
          have u := hU (j + 1) (K j :: W) (C ++ Z)
          cases hr : pX K V f 2 d (j + 1) with
          | inr x =>
            refine ⟨fun j2 L2 z => (by cases z), fun e z => ?_⟩
            cases z
            exact r1.tr (u.2 _ hr)
          | inl z =>
            have g := hg _ _ _ hr
            have u1 := u.1 _ _ hr
            have nx := ih z.1 (Z ++ z.2 ++ [(K j, 0)]) (K j :: W) (C ++ Z ++ z.2) (by have := g.1; omega) g.2.1 (Or.inr ⟨K j, hk, rfl, by rw [List.append_assoc, List.append_assoc, List.append_assoc]⟩)
            refine ⟨fun j2 L2 y => ?_, fun e y => ?_⟩
            · obtain ⟨W2, C2, a1, a2, a3⟩ := nx.1 j2 L2 y
              exact ⟨W2, C2, (r1.tr u1).tr a1, a2, a3⟩
            · exact (r1.tr u1).tr (nx.2 e y)
        · rw [if_neg h4] at st ⊢
          refine ⟨fun j2 L2 z => (by cases z), fun e z => ?_⟩
          cases z
          exact Rch.st st
      · rw [if_neg hj]
        refine ⟨fun j2 L2 z => ?_, fun e z => by cases z⟩
        cases z
        exact ⟨W', C', Rch.rf _, hF, fun z => hj (decide_eq_true z)⟩
  have e0 : pX K V (f + 1) 1 d i = (match pX K V f 2 d i with
      | .inl z => pLp K (pX K V f 2 d) (joins 1) 400 z.1 z.2
      | .inr e => .inr e) := rfl
  rw [e0]
  have u := hU i W C
  cases hr : pX K V f 2 d i with
  | inr x =>
    refine ⟨fun j2 L2 z => (by cases z), fun e z => ?_⟩
    cases z
    exact u.2 _ hr
  | inl z =>
    have g := hg _ _ _ hr
    have u1 := u.1 _ _ hr
    have nx := lp 400 z.1 z.2 W (C ++ z.2) (by have := g.1; omega) g.2.1 (Or.inl ⟨rfl, rfl⟩)
    refine ⟨fun j2 L2 y => ?_, fun e y => ?_⟩
    · obtain ⟨W2, C2, a1, a2, a3⟩ := nx.1 j2 L2 y
      exact ⟨W2, C2, u1.tr a1, a2, a3⟩
    · exact u1.tr (nx.2 e y)
theorem P0_of (hV : ∀ i, K i = 3 → V i < 10000) {f d : Nat} (hd : d ≤ 6) (hU : P1Ok K V f d) : P0Ok K V (f + 1) d := by
  intro i W C hW
  have hg : ∀ a j L, pX K V f 1 d a = .inl (j, L) → GdO K V a j (Nd 1 d) L := fun a j L h => pX_good hV f 1 d a j L (by omega) hd h
  have lp : ∀ (q j : Nat) (Z : List Op) (W' : List Nat) (C' : List Op), 401 ≤ j + q → j ≤ 400 → ¬ (K j = 9 ∨ K j = 10) → Fl0 W' C' W (C ++ Z) → (∀ j2 L2, pLp K (pX K V f 1 d) (joins 0) q j Z = .inl (j2, L2) → ∃ W2 C2, Rch K V (cU j W' C' d) (cU j2 W2 C2 d) ∧ co false W2 C2 = (W, C ++ L2) ∧ ¬ (7 ≤ K j2 ∧ K j2 ≤ 10)) ∧ (∀ e, pLp K (pX K V f 1 d) (joins 0) q j Z = .inr e → Rch K V (cU j W' C' d) (.inr (.inr e))) := by
    intro q
    induction q with
    | zero => intro j Z W' C' h1 h2; omega
    | succ q ih =>
      intro j Z W' C' h1 h2 hn9 hF
      unfold pLp
      by_cases hj : joins 0 (K j) = true
      · have hk : K j = 7 ∨ K j = 8 := of_decide_eq_true hj
        have st := mUn_op (K := K) (i := j) (o := d) (W := W') (C := C') (by omega)
        rw [show decide (9 ≤ K j) = false from decide_eq_false (by omega), hF.f hW] at st
        rw [if_pos hj]
        by_cases h4 : j < 400
        · rw [if_pos h4] at st ⊢
          have r1 : Rch K V (cU j W' C' d) (cO (j + 1) (K j :: W) (C ++ Z) d) := Rch.st st
          have u := hU (j + 1) (K j :: W) (C ++ Z) (Or.inr ⟨K j, W, rfl, Or.inr hk⟩)
          cases hr : pX K V f 1 d (j + 1) with
          | inr x =>
            refine ⟨fun j2 L2 z => (by cases z), fun e z => ?_⟩
            cases z
            exact r1.tr (u.2 _ hr)
          | inl z =>
            have g := hg _ _ _ hr
            obtain ⟨W1, C1, b1, b2, b3⟩ := u.1 _ _ hr
            have nx := ih z.1 (Z ++ z.2 ++ [(K j, 0)]) W1 C1 (by have := g.1; omega) g.2.1 b3 ⟨_, _, b2, Or.inr ⟨K j, hk, rfl, by rw [List.append_assoc, List.append_assoc, List.append_assoc]⟩⟩
            refine ⟨fun j2 L2 y => ?_, fun e y => ?_⟩
            · obtain ⟨W2, C2, a1, a2, a3⟩ := nx.1 j2 L2 y
              exact ⟨W2, C2, (r1.tr b1).tr a1, a2, a3⟩
            · exact (r1.tr b1).tr (nx.2 e y)
        · rw [if_neg h4] at st ⊢
          refine ⟨fun j2 L2 z => (by cases z), fun e z => ?_⟩
          cases z
          exact Rch.st st
      · rw [if_neg hj]
        refine ⟨fun j2 L2 z => ?_, fun e z => by cases z⟩
        cases z
        have hn7 : ¬ (K j = 7 ∨ K j = 8) := fun z => hj (decide_eq_true z)
        exact ⟨W', C', Rch.rf _, hF.f hW, fun z => by omega⟩
  have e0 : pX K V (f + 1) 0 d i = (match pX K V f 1 d i with
      | .inl z => pLp K (pX K V f 1 d) (joins 0) 400 z.1 z.2
      | .inr e => .inr e) := rfl
  rw [e0]
  have u := hU i W C hW.to1
  cases hr : pX K V f 1 d i with
  | inr x =>
    refine ⟨fun j2 L2 z => (by cases z), fun e z => ?_⟩
    cases z
    exact u.2 _ hr
  | inl z =>
    have g := hg _ _ _ hr
    obtain ⟨W1, C1, b1, b2, b3⟩ := u.1 _ _ hr
    have nx := lp 400 z.1 z.2 W1 C1 (by have := g.1; omega) g.2.1 b3 ⟨_, _, b2, Or.inl ⟨rfl, rfl⟩⟩
    refine ⟨fun j2 L2 y => ?_, fun e y => ?_⟩
    · obtain ⟨W2, C2, a1, a2, a3⟩ := nx.1 j2 L2 y
      exact ⟨W2, C2, b1.tr a1, a2, a3⟩
    · exact b1.tr (nx.2 e y)
theorem mUn_w {b j o : Nat} {W W' : List Nat} {C' Z : List Op} (hc : co false W' C' = (b :: W, Z)) : mUn K j W' C' o = (if 0 < o ∧ K j = 6 then (if b = 27 then (if j < 400 then .inl (true, j + 1, 6 :: W, Z, o) else .inr (.inr (2, j))) else .inr (.inr (1, j)))
  else if 0 < o ∧ K j = 16 then (if b = 27 then .inr (.inr (1, j)) else if j < 400 then .inl (false, j + 1, W, (if b = 6 then Z ++ [(27, 0)] else Z), o - 1) else .inr (.inr (2, j)))
  else if 7 ≤ K j ∧ K j ≤ 10 then (if j < 400 then .inl (true, j + 1, K j :: (co (decide (9 ≤ K j)) W' C').1, (co (decide (9 ≤ K j)) W' C').2, o) else .inr (.inr (2, j)))
  else if 0 < o then .inr (.inr (1, j)) else .inr (.inl (j, Z))) := by
  unfold mUn
  rw [hc]
  rfl
theorem U_of (hV : ∀ i, K i = 3 → V i < 10000) {f d : Nat} (hd : d ≤ 6) (hP : d < 6 → P0Ok K V f (d + 1)) : UOk K V (f + 1) d := by
  intro i W C
  have e0 : pX K V (f + 1) 2 d i = pUn K V (pX K V f 0 (d + 1)) d i := rfl
  rw [e0]
  have cl : ∀ (b j : Nat) (W' : List Nat) (C' : List Op) (L : List Op), (b = 15 ∨ b = 6) → co false W' C' = (b :: W, C ++ L) → ¬ (7 ≤ K j ∧ K j ≤ 10) → ∀ M : List Op, M = (if b = 6 then L ++ [(27, 0)] else L) → (∀ j2 L2, pCl K j M = .inl (j2, L2) → Rch K V (cU j W' C' (d + 1)) (cU j2 W (C ++ L2) d)) ∧ (∀ e, pCl K j M = .inr e → Rch K V (cU j W' C' (d + 1)) (.inr (.inr e))) := by
    intro b j W' C' L hb hc hk M hM
    have st : mstep K V (cU j W' C' (d + 1)) = mUn K j W' C' (d + 1) := rfl
    rw [mUn_w hc] at st
    unfold pCl
    by_cases k16 : K j = 16
    · rw [if_neg (by omega), if_pos (by omega), if_neg (by omega)] at st
      rw [if_pos k16]
      by_cases h4 : j < 400
      · rw [if_pos h4] at st ⊢
        refine ⟨fun j2 L2 z => ?_, fun e z => by cases z⟩
        cases z
        refine Rch.st ?_
        rw [st, hM]
        by_cases b6 : b = 6
        · rw [if_pos b6, if_pos b6, List.append_assoc]; rfl
        · rw [if_neg b6, if_neg b6]; rfl
      · rw [if_neg h4] at st ⊢
        refine ⟨fun j2 L2 z => (by cases z), fun e z => ?_⟩
        cases z
        exact Rch.st st
    · rw [if_neg k16]
      refine ⟨fun j2 L2 z => (by cases z), fun e z => ?_⟩
      cases z
      refine Rch.st ?_
      rw [st]
      by_cases k6 : K j = 6
      · rw [if_pos (by omega), if_neg (by omega)]
      · rw [if_neg (by omega), if_neg (by omega), if_neg hk, if_pos (by omega)]
  -- a bracket
  have par : ∀ (g : Bool) (i0 : Nat) (c0 : Cf), (d < 6 → K i0 = 15 → i0 < 400 → Rch K V c0 (cO (i0 + 1) ((if g = true then 27 else 15) :: W) C (d + 1))) → (K i0 = 15 → 6 ≤ d → Rch K V c0 (.inr (.inr (2, i0)))) → (K i0 = 15 → ¬ 6 ≤ d → ¬ i0 < 400 → Rch K V c0 (.inr (.inr (2, i0)))) → (¬ K i0 = 15 → Rch K V c0 (.inr (.inr (1, i0)))) → (∀ j L, pPa K (pX K V f 0 (d + 1)) d g i0 = .inl (j, L) → Rch K V c0 (cU j W (C ++ L) d)) ∧ (∀ e, pPa K (pX K V f 0 (d + 1)) d g i0 = .inr e → Rch K V c0 (.inr (.inr e))) := by
    intro g i0 c0 h1 h2 h3 h4
    unfold pPa
    by_cases k15 : K i0 = 15
    · rw [if_pos k15]
      by_cases h6 : 6 ≤ d
      · rw [if_pos h6]
        refine ⟨fun j2 L2 z => (by cases z), fun e z => ?_⟩
        cases z
        exact h2 k15 h6
      · rw [if_neg h6]
        by_cases hi : i0 < 400
        · rw [if_pos hi]
          have r1 := h1 (by omega) k15 hi
          have hw : wll (if g = true then 27 else 15) = true := by cases g <;> rfl
          have p := hP (by omega) (i0 + 1) ((if g = true then 27 else 15) :: W) C (Or.inr ⟨_, _, rfl, hw⟩)
          cases hr : pX K V f 0 (d + 1) (i0 + 1) with
          | inr x =>
            refine ⟨fun j2 L2 z => (by cases z), fun e z => ?_⟩
            cases z
            exact r1.tr (p.2 _ hr)
          | inl z =>
            obtain ⟨W1, C1, b1, b2, b3⟩ := p.1 _ _ hr
            dsimp only
            by_cases hg : g = true
            · rw [if_pos hg]
              rw [if_pos hg] at b2
              unfold pGp
              have st : mstep K V (cU z.1 W1 C1 (d + 1)) = mUn K z.1 W1 C1 (d + 1) := rfl
              rw [mUn_w b2] at st
              by_cases k6 : K z.1 = 6
              · rw [if_pos (by omega), if_pos rfl] at st
                rw [if_pos k6]
                by_cases h44 : z.1 < 400
                · rw [if_pos h44] at st ⊢
                  have p2 := hP (by omega) (z.1 + 1) (6 :: W) (C ++ z.2) (Or.inr ⟨_, _, rfl, rfl⟩)
                  have r2 : Rch K V c0 (cO (z.1 + 1) (6 :: W) (C ++ z.2) (d + 1)) := (r1.tr b1).tr (Rch.st st)
                  cases hr2 : pX K V f 0 (d + 1) (z.1 + 1) with
                  | inr x =>
                    refine ⟨fun j2 L2 z => (by cases z), fun e z => ?_⟩
                    cases z
                    exact r2.tr (p2.2 _ hr2)
                  | inl z2 =>
                    obtain ⟨W2, C2, d1, d2, d3⟩ := p2.1 _ _ hr2
                    rw [List.append_assoc] at d2
                    have q := cl 6 z2.1 W2 C2 (z.2 ++ z2.2) (Or.inr rfl) d2 d3 (z.2 ++ z2.2 ++ [(27, 0)]) (by rw [if_pos rfl])
                    exact ⟨fun j2 L2 y => (r2.tr d1).tr (q.1 j2 L2 y), fun e y => (r2.tr d1).tr (q.2 e y)⟩
                · rw [if_neg h44] at st ⊢
                  refine ⟨fun j2 L2 z => (by cases z), fun e z => ?_⟩
                  cases z
                  exact (r1.tr b1).tr (Rch.st st)
              · rw [if_neg k6]
                refine ⟨fun j2 L2 z => (by cases z), fun e z => ?_⟩
                cases z
                refine (r1.tr b1).tr (Rch.st ?_)
                rw [st, if_neg (by omega)]
                by_cases k16 : K z.1 = 16
                · rw [if_pos (by omega), if_pos rfl]
                · rw [if_neg (by omega), if_neg b3, if_pos (by omega)]
            · rw [if_neg hg]
              rw [if_neg hg] at b2
              have q := cl 15 z.1 W1 C1 z.2 (Or.inl rfl) b2 b3 z.2 (by rw [if_neg (by omega)])
              exact ⟨fun j2 L2 y => (r1.tr b1).tr (q.1 j2 L2 y), fun e y => (r1.tr b1).tr (q.2 e y)⟩
        · rw [if_neg hi]
          refine ⟨fun j2 L2 z => (by cases z), fun e z => ?_⟩
          cases z
          exact h3 k15 h6 hi
    · rw [if_neg k15]
      refine ⟨fun j2 L2 z => (by cases z), fun e z => ?_⟩
      cases z
      exact h4 k15
  have st : mstep K V (cO i W C d) = mOp K V i W C d := rfl
  unfold mOp at st
  unfold pUn
  by_cases k3 : K i = 3
  · rw [if_neg (by omega), if_neg (by omega), if_pos k3] at st
    rw [if_pos k3]
    by_cases h4 : i < 400
    · rw [if_pos h4] at st ⊢
      refine ⟨fun j L z => ?_, fun e z => by cases z⟩
      cases z
      exact Rch.st st
    · rw [if_neg h4] at st ⊢
      refine ⟨fun j2 L2 z => (by cases z), fun e z => ?_⟩
      cases z
      exact Rch.st st
  · rw [if_neg k3]
    by_cases kv : 28 ≤ K i ∧ K i ≤ 33
    · rw [if_neg (by omega), if_neg (by omega), if_neg k3, if_pos kv] at st
      rw [if_pos kv]
      by_cases h4 : i < 400
      · rw [if_pos h4] at st ⊢
        refine ⟨fun j L z => ?_, fun e z => by cases z⟩
        cases z
        exact Rch.st st
      · rw [if_neg h4] at st ⊢
        refine ⟨fun j2 L2 z => (by cases z), fun e z => ?_⟩
        cases z
        exact Rch.st st
    · rw [if_neg kv]
      by_cases k27 : K i = 27
      · rw [if_pos k27] at st ⊢
        by_cases h4 : i < 400
        · rw [if_pos h4] at st ⊢
          refine par true (i + 1) _ (fun a b c => ?_) (fun a b => ?_) (fun a b c => ?_) (fun a => ?_)
          · rw [if_pos b, if_neg (by omega), if_pos c] at st
            exact Rch.st st
          · rw [if_pos a, if_pos (by omega)] at st
            exact Rch.st st
          · rw [if_pos a, if_neg (by omega), if_neg c] at st
            exact Rch.st st
          · rw [if_neg a] at st
            exact Rch.st st
        · rw [if_neg h4] at st ⊢
          refine ⟨fun j2 L2 z => (by cases z), fun e z => ?_⟩
          cases z
          exact Rch.st st
      · rw [if_neg k27] at st ⊢
        refine par false i _ (fun a b c => ?_) (fun a b => ?_) (fun a b c => ?_) (fun a => ?_)
        · rw [if_pos b, if_neg (by omega), if_pos c] at st
          exact Rch.st st
        · rw [if_pos a, if_pos (by omega)] at st
          exact Rch.st st
        · rw [if_pos a, if_neg (by omega), if_neg c] at st
          exact Rch.st st
        · rw [if_neg a, if_neg k3, if_neg kv] at st
          exact Rch.st st
theorem PS_all (hV : ∀ i, K i = 3 → V i < 10000) : ∀ (f d : Nat), d ≤ 6 → (Nd 2 d ≤ f → UOk K V f d) ∧ (Nd 1 d ≤ f → P1Ok K V f d) ∧ (Nd 0 d ≤ f → P0Ok K V f d) := by
  intro f
  induction f with
  | zero =>
    intro d hd
    refine ⟨fun z => ?_, fun z => ?_, fun z => ?_⟩
    · unfold Nd at z; omega
    · unfold Nd at z; omega
    · unfold Nd at z; omega
  | succ f ih =>
    intro d hd
    refine ⟨fun z => U_of hV hd (fun h6 => (ih (d + 1) (by omega)).2.2 (by unfold Nd at z ⊢; omega)), fun z => P1_of hV hd ((ih d hd).1 (by unfold Nd at z ⊢; omega)), fun z => P0_of hV hd ((ih d hd).2.1 (by unfold Nd at z ⊢; omega))⟩
/-- the pile does what the descent does -/
theorem shunt (hV : ∀ i, K i = 3 → V i < 10000) (i : Nat) (C : List Op) : (∀ j L, pX K V 24 0 0 i = .inl (j, L) → Rch K V (cO i [] C 0) (.inr (.inl (j, C ++ L)))) ∧ (∀ e, pX K V 24 0 0 i = .inr e → Rch K V (cO i [] C 0) (.inr (.inr e))) := by
  have p := (PS_all hV 24 0 (by omega)).2.2 (by unfold Nd; omega) i [] C (Or.inl rfl)
  refine ⟨fun j L h => ?_, p.2⟩
  obtain ⟨W1, C1, b1, b2, b3⟩ := p.1 j L h
  refine b1.tr (Rch.st ?_)
  show mUn K j W1 C1 0 = _
  unfold mUn
  rw [if_neg (by omega), if_neg (by omega), if_neg b3, if_neg (by omega), b2]
end PS
