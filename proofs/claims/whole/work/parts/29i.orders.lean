/-! ===== orders, one behind the other ===== -/
def dg (l : List Nat) (b : Nat) : Nat := l.getD b 0
def swl (l : List Nat) (i j : Nat) : List Nat := (l.set i (dg l j)).set j (dg l i)
def pvt (l : List Nat) : Nat → Option Nat
  | 0 => none
  | k + 1 => if dg l k ≤ dg l (k + 1) then some k else pvt l k
def jx (l : List Nat) (i : Nat) : Nat → Nat
  | 0 => 0
  | k + 1 => if dg l i ≤ dg l (k + 1) then k + 1 else jx l i k
def rvl : Nat → List Nat → Nat → Nat → List Nat
  | 0, l, _, _ => l
  | f + 1, l, a, b => if a < b then rvl f (swl l a b) (a + 1) (b - 1) else l
def nxl (N : Nat) (l : List Nat) : Option (List Nat) := match pvt l (N - 1) with
  | none => none
  | some i => some (rvl N (swl l i (jx l i (N - 1))) (i + 1) (N - 1))
def itl (N : Nat) : Nat → List Nat
  | 0 => List.range N
  | j + 1 => (nxl N (itl N j)).getD (itl N j)
def runl (N : Nat) : Nat → List Nat → Nat → Option Nat
  | 0, _, _ => none
  | f + 1, l, a => match nxl N l with
    | none => some a
    | some l' => runl N f l' (a + 1)
theorem run_all : ∀ N : Nat, N < 7 → (runl N 720 (List.range N) 0).isSome = true := by decide +kernel
theorem run_ok (N : Nat) : ∀ (f j K : Nat), runl N f (itl N j) j = some K → j ≤ K ∧ K < j + f ∧ (∀ i, j ≤ i → i < K → nxl N (itl N i) = some (itl N (i + 1))) ∧ nxl N (itl N K) = none := by
  intro f
  induction f with
  | zero => intro j K h; cases h
  | succ f ih =>
    intro j K h
    unfold runl at h
    cases hn : nxl N (itl N j) with
    | none =>
      rw [hn] at h
      cases h
      exact ⟨Nat.le_refl _, by omega, fun i h1 h2 => by omega, hn⟩
    | some l' =>
      rw [hn] at h
      have e : itl N (j + 1) = l' := by
        show (nxl N (itl N j)).getD (itl N j) = l'
        rw [hn]
        rfl
      dsimp only at h
      rw [← e] at h
      obtain ⟨h1, h2, h3, h4⟩ := ih (j + 1) K h
      refine ⟨by omega, by omega, fun i hi1 hi2 => ?_, h4⟩
      by_cases q : i = j
      · rw [q, hn, e]
      · exact h3 i (by omega) hi2
theorem ord_K (N : Nat) (hN : N < 7) : ∃ K, K ≤ 719 ∧ (∀ i, i < K → nxl N (itl N i) = some (itl N (i + 1))) ∧ nxl N (itl N K) = none := by
  have h := run_all N hN
  obtain ⟨K, hK⟩ := Option.isSome_iff_exists.mp h
  obtain ⟨h1, h2, h3, h4⟩ := run_ok N 720 0 K hK
  exact ⟨K, by omega, fun i hi => h3 i (by omega) hi, h4⟩
theorem dg_set {l : List Nat} {i v : Nat} (hi : i < l.length) (b : Nat) : dg (l.set i v) b = if b = i then v else dg l b := by
  unfold dg
  rw [List.getD_eq_getElem?_getD, List.getD_eq_getElem?_getD, List.getElem?_set]
  by_cases h : i = b
  · rw [if_pos h, if_pos (by omega), if_pos h.symm]
    rfl
  · rw [if_neg h, if_neg (fun z => h z.symm)]
theorem dg_swl {l : List Nat} {i j : Nat} (hi : i < l.length) (hj : j < l.length) (b : Nat) : dg (swl l i j) b = swp (dg l) i j b := by
  unfold swl swp
  rw [dg_set (by rw [List.length_set]; exact hj), dg_set hi]
def LOk (N : Nat) (l : List Nat) : Prop := l.length = N ∧ ∀ b, b < N → dg l b < N
theorem LOk.sw {N i j : Nat} {l : List Nat} (h : LOk N l) (hi : i < N) (hj : j < N) : LOk N (swl l i j) := by
  refine ⟨by unfold swl; rw [List.length_set, List.length_set]; exact h.1, fun b hb => ?_⟩
  rw [dg_swl (by rw [h.1]; exact hi) (by rw [h.1]; exact hj)]
  unfold swp
  split
  · exact h.2 i hi
  · split
    · exact h.2 j hj
    · exact h.2 b hb
theorem LOk.rng (N : Nat) : LOk N (List.range N) ∧ ∀ b, b < N → dg (List.range N) b = b := by
  have e : ∀ b, b < N → dg (List.range N) b = b := by
    intro b hb
    unfold dg
    rw [List.getD_eq_getElem?_getD, List.getElem?_range hb]
    rfl
  exact ⟨⟨List.length_range, fun b hb => by rw [e b hb]; exact hb⟩, e⟩
theorem nI_m1' {k : Nat} : iI ((k + 1 : Nat) - 1 : Int) = nI k := by
  rw [show ((k + 1 : Nat) : Int) - 1 = (k : Nat) by omega, iI_nat]
theorem iI_pred (k : Nat) : nI k + (-1 : Int32) = iI ((k : Int) - 1) := by
  cases k with
  | zero => rfl
  | succ k => rw [nI_m1', ← nI_1, Int32.add_assoc, show (1 : Int32) + -1 = 0 from rfl, Int32.add_zero]
theorem pv_i {l : List Nat} : ∀ {k i : Nat}, pvt l k = some i → i < k ∧ dg l i ≤ dg l (i + 1)
  | 0, i, h => by cases h
  | k + 1, i, h => by
    unfold pvt at h
    split at h
    · next q => cases h; exact ⟨by omega, q⟩
    · have := pv_i h
      exact ⟨by omega, this.2⟩
theorem jx_j {l : List Nat} {i : Nat} : ∀ {k : Nat}, i < k → dg l i ≤ dg l (i + 1) → i < jx l i k ∧ jx l i k ≤ k
  | 0, h, _ => by omega
  | k + 1, h, hd => by
    unfold jx
    split
    · omega
    · next q =>
      have : i < k := by
        apply Nat.lt_of_le_of_ne (by omega)
        intro e
        subst e
        exact q hd
      have := jx_j this hd
      omega
theorem nI_m2 {N : Nat} : nI N - (2 : Int32) = iI ((N : Int) - 2) := by
  rw [← iI_nat]
  exact (Int32.ofInt_sub (N : Int) 2).symm
theorem nI_m1s {N : Nat} (h : 1 ≤ N) : nI N - (1 : Int32) = nI (N - 1) := by
  rw [← iI_nat, ← iI_nat, show ((N - 1 : Nat) : Int) = (N : Int) - 1 by omega]
  exact (Int32.ofInt_sub (N : Int) 1).symm
theorem nI_0le {k : Nat} (h : k < 2 ^ 31) : (0 : Int32) ≤ nI k := nI_le (a := 0) (by omega) h
section KI
variable {m : M2} {c l : Nat} {s : SS}
theorem x_pv {N : Nat} {ll : List Nat} {x1 : Int32} (hN : 1 ≤ N ∧ N ≤ 12) (hl : LOk N ll) (h : ∀ b, b < N → hI m 35 b = nI (dg ll b)) : ∃ e, loop (g_X6_goToNextOrder_4 c x1) (iI ((N : Int) - 2), m) = some e ∧ ((pvt ll (N - 1) = none ∧ e = (-1, m)) ∨ (∃ i, pvt ll (N - 1) = some i ∧ e = (nI i, m))) := by
  refine loop_ex (N - 1) (fun j z => z = (iI ((N : Int) - 2 - j), m) ∧ pvt ll (N - 1) = pvt ll (N - 1 - j)) _ (by omega) ?_ ?_ ⟨by rw [show ((N : Int) - 2 - ((0 : Nat) : Int)) = (N : Int) - 2 by omega], rfl⟩
  · rintro j z hj ⟨rfl, i2⟩
    show (∃ s', f_X6_goToNextOrder_4 c x1 (iI ((N : Int) - 2 - j)) m = some (Sum.inl s') ∧ _) ∨ ∃ e, f_X6_goToNextOrder_4 c x1 (iI ((N : Int) - 2 - j)) m = some (Sum.inr e) ∧ _
    obtain ⟨k, hk⟩ : ∃ k, N - 1 - j = k + 1 := ⟨N - 2 - j, by omega⟩
    have ek : iI ((N : Int) - 2 - j) = nI k := by rw [show (N : Int) - 2 - j = (k : Nat) by omega, iI_nat]
    have d1 := hl.2 k (by omega)
    have d2 := hl.2 (k + 1) (by omega)
    rw [hk] at i2
    unfold f_X6_goToNextOrder_4
    rw [ek, if_neg (nI_pos (by omega)), nI_1, aI_n _ 35 (show k < 12 by omega) (by omega), bind_s, aI_n _ 35 (show k + 1 < 12 by omega) (by omega), bind_s, h k (by omega), h (k + 1) (by omega)]
    by_cases hq : dg ll k ≤ dg ll (k + 1)
    · right
      rw [if_pos (nI_le hq (by omega))]
      exact ⟨_, rfl, Or.inr ⟨k, by rw [i2]; exact if_pos hq, rfl⟩⟩
    · left
      rw [if_neg (nI_ge (by omega) (by omega)), nmI_e, bind_s, iI_pred]
      refine ⟨_, rfl, ?_, ?_⟩
      · rw [show (N : Int) - 2 - (j + 1 : Nat) = (k : Int) - 1 by omega]
      · rw [i2, show N - 1 - (j + 1) = k by omega]
        exact if_neg hq
  · rintro z ⟨rfl, i2⟩
    show ∃ e, f_X6_goToNextOrder_4 c x1 (iI ((N : Int) - 2 - (N - 1 : Nat))) m = some (Sum.inr e) ∧ _
    have ek : iI ((N : Int) - 2 - (N - 1 : Nat)) = -1 := by rw [show (N : Int) - 2 - (N - 1 : Nat) = -1 by omega]; rfl
    rw [Nat.sub_self] at i2
    unfold f_X6_goToNextOrder_4
    rw [ek, if_pos (by decide)]
    exact ⟨_, rfl, Or.inl ⟨i2, rfl⟩⟩
theorem x_jx {N i : Nat} {ll : List Nat} {x1 : Int32} (hN : 1 ≤ N ∧ N ≤ 12) (hl : LOk N ll) (h : ∀ b, b < N → hI m 35 b = nI (dg ll b)) (hi : i < N - 1) (hd : dg ll i ≤ dg ll (i + 1)) : ∃ e, loop (g_X6_goToNextOrder_41 c x1 (nI i)) (nI (N - 1), m) = some e ∧ e = (nI (jx ll i (N - 1)), m) := by
  refine loop_ex (N - 2 - i) (fun j z => z = (nI (N - 1 - j), m) ∧ jx ll i (N - 1) = jx ll i (N - 1 - j)) _ (by omega) ?_ ?_ ⟨rfl, rfl⟩
  · rintro j z hj ⟨rfl, i2⟩
    show (∃ s', f_X6_goToNextOrder_41 c x1 (nI i) (nI (N - 1 - j)) m = some (Sum.inl s') ∧ _) ∨ ∃ e, f_X6_goToNextOrder_41 c x1 (nI i) (nI (N - 1 - j)) m = some (Sum.inr e) ∧ _
    obtain ⟨k, hk⟩ : ∃ k, N - 1 - j = k + 1 := ⟨N - 2 - j, by omega⟩
    have d1 := hl.2 i (by omega)
    have d2 := hl.2 (k + 1) (by omega)
    rw [hk] at i2 ⊢
    unfold f_X6_goToNextOrder_41
    rw [if_neg (nI_ge (by omega) (by omega)), aI_n _ 35 (show k + 1 < 12 by omega) (by omega), bind_s, aI_n _ 35 (show i < 12 by omega) (by omega), bind_s, h i (by omega), h (k + 1) (by omega)]
    by_cases hq : dg ll i ≤ dg ll (k + 1)
    · right
      rw [if_pos (nI_le hq (by omega))]
      have : jx ll i (k + 1) = k + 1 := if_pos hq
      exact ⟨_, rfl, by rw [i2, this]⟩
    · left
      rw [if_neg (nI_ge (by omega) (by omega)), nmI_e, bind_s, iI_pred, nI_m1']
      refine ⟨_, rfl, by rw [show N - 1 - (j + 1) = k by omega], ?_⟩
      rw [i2, show N - 1 - (j + 1) = k by omega]
      exact if_neg hq
  · rintro z ⟨rfl, i2⟩
    have e : N - 1 - (N - 2 - i) = i + 1 := by omega
    rw [e] at i2
    show ∃ e, f_X6_goToNextOrder_41 c x1 (nI i) (nI (N - 1 - (N - 2 - i))) m = some (Sum.inr e) ∧ _
    have d1 := hl.2 i (by omega)
    have d2 := hl.2 (i + 1) (by omega)
    unfold f_X6_goToNextOrder_41
    rw [e, if_neg (nI_ge (by omega) (by omega)), aI_n _ 35 (show i + 1 < 12 by omega) (by omega), bind_s, aI_n _ 35 (show i < 12 by omega) (by omega), bind_s, h i (by omega), h (i + 1) (by omega), if_pos (nI_le hd (by omega))]
    have : jx ll i (i + 1) = i + 1 := if_pos hd
    exact ⟨_, rfl, by rw [i2, this]⟩
theorem x_rv {N a : Nat} {ll : List Nat} (hN : 1 ≤ N ∧ N ≤ 12) (ha : a ≤ N) (hl : LOk N ll) (h : ∀ b, b < N → hI m 35 b = nI (dg ll b)) : ∃ e, loop (g_X6_goToNextOrder_83 c) (nI a, nI (N - 1), m) = some e ∧ LOk N (rvl N ll a (N - 1)) ∧ (∀ b, b < N → hI e 35 b = nI (dg (rvl N ll a (N - 1)) b)) ∧ Fr (fun k _ => k = 35) m e := by
  refine loop_ex (N - 1) (fun j z => ∃ lj, z.1 = nI (a + j) ∧ z.2.1 = nI (N - 1 - j) ∧ rvl N ll a (N - 1) = rvl (N - j) lj (a + j) (N - 1 - j) ∧ LOk N lj ∧ (∀ b, b < N → hI z.2.2 35 b = nI (dg lj b)) ∧ Fr (fun k _ => k = 35) m z.2.2) _ (by omega) ?_ ?_ ⟨ll, rfl, rfl, rfl, hl, h, Fr.rf⟩
  · rintro j ⟨z1, z2, m1⟩ hj ⟨lj, i1, i2, i3, i4, i5, i6⟩
    dsimp only at i1 i2 i3 i4 i5 i6
    subst i1 i2
    show (∃ s', f_X6_goToNextOrder_83 c (nI (a + j)) (nI (N - 1 - j)) m1 = some (Sum.inl s') ∧ _) ∨ ∃ e, f_X6_goToNextOrder_83 c (nI (a + j)) (nI (N - 1 - j)) m1 = some (Sum.inr e) ∧ _
    obtain ⟨f, hf⟩ : ∃ f, N - j = f + 1 := ⟨N - j - 1, by omega⟩
    rw [hf] at i3
    unfold f_X6_goToNextOrder_83
    by_cases hq : a + j < N - 1 - j
    · left
      obtain ⟨m2, e2, g2, f2⟩ := x_swap (c := c) (o := dg lj) (show a + j < N by omega) (show N - 1 - j < N by omega) hN.2 i5
      obtain ⟨k, hk⟩ : ∃ k, N - 1 - j = k + 1 := ⟨N - 2 - j, by omega⟩
      rw [if_neg (nI_ge hq (by omega)), e2, bind_s, nmI_e, bind_s, nmI_e, bind_s]
      refine ⟨_, rfl, swl lj (a + j) (N - 1 - j), nI_1 _, ?_, ?_, i4.sw (by omega) (by omega), fun b hb => ?_, i6.tr f2⟩
      · show nI (N - 1 - j) + (-1 : Int32) = nI (N - 1 - (j + 1))
        rw [hk, iI_pred, nI_m1', show N - 1 - (j + 1) = k by omega]
      · rw [i3, show N - (j + 1) = f by omega, show N - 1 - (j + 1) = N - 1 - j - 1 by omega]
        exact if_pos hq
      · show hI m2 35 b = _
        rw [g2 b hb, dg_swl (by rw [i4.1]; omega) (by rw [i4.1]; omega)]
    · right
      rw [if_pos (nI_le (by omega) (by omega))]
      have e : rvl N ll a (N - 1) = lj := by rw [i3]; exact if_neg hq
      rw [e]
      exact ⟨_, rfl, i4, i5, i6⟩
  · rintro ⟨z1, z2, m1⟩ ⟨lj, i1, i2, i3, i4, i5, i6⟩
    dsimp only at i1 i2 i3 i4 i5 i6
    subst i1 i2
    show ∃ e, f_X6_goToNextOrder_83 c (nI (a + (N - 1))) (nI (N - 1 - (N - 1))) m1 = some (Sum.inr e) ∧ _
    obtain ⟨f, hf⟩ : ∃ f, N - (N - 1) = f + 1 := ⟨0, by omega⟩
    rw [hf] at i3
    unfold f_X6_goToNextOrder_83
    rw [if_pos (nI_le (by omega) (by omega))]
    have e : rvl N ll a (N - 1) = lj := by rw [i3]; exact if_neg (by omega)
    rw [e]
    exact ⟨_, rfl, i4, i5, i6⟩
theorem x_next {N : Nat} {ll : List Nat} (hN : 1 ≤ N ∧ N ≤ 12) (hl : LOk N ll) (h : ∀ b, b < N → hI m 35 b = nI (dg ll b)) : (nxl N ll = none → F_X6_goToNextOrder c (nI N) m = some (0, m)) ∧ (∀ l', nxl N ll = some l' → LOk N l' ∧ ∃ m', F_X6_goToNextOrder c (nI N) m = some (1, m') ∧ (∀ b, b < N → hI m' 35 b = nI (dg l' b)) ∧ Fr (fun k _ => k = 35) m m') := by
  obtain ⟨e, e1, e2⟩ := x_pv (c := c) (x1 := nI N) hN hl h
  have ev : nI N - (2 : Int32) = iI ((N : Int) - 2) := nI_m2
  unfold F_X6_goToNextOrder
  rw [nmI_e, bind_s, ev, e1, bind_s]
  rcases e2 with ⟨q, rfl⟩ | ⟨i, q, rfl⟩
  · have hn : nxl N ll = none := by unfold nxl; rw [q]
    refine ⟨fun _ => ?_, fun l' h' => by rw [hn] at h'; cases h'⟩
    unfold f_X6_goToNextOrder_31
    dsimp only
    exact if_neg (by decide)
  · obtain ⟨q1, q2⟩ := pv_i q
    obtain ⟨j1, j2⟩ := jx_j (k := N - 1) q1 q2
    have hn : nxl N ll = some (rvl N (swl ll i (jx ll i (N - 1))) (i + 1) (N - 1)) := by unfold nxl; rw [q]
    refine ⟨fun h' => (by rw [hn] at h'; cases h'), fun l' h' => ?_⟩
    rw [hn] at h'
    cases h'
    unfold f_X6_goToNextOrder_31
    obtain ⟨e', e3, rfl⟩ := x_jx (c := c) (x1 := nI N) hN hl h q1 q2
    obtain ⟨m2, e4, g4, f4⟩ := x_swap (c := c) (o := dg ll) (show i < N by omega) (show jx ll i (N - 1) < N by omega) hN.2 h
    have hl2 := hl.sw (show i < N by omega) (show jx ll i (N - 1) < N by omega)
    obtain ⟨m3, e5, L5, g5, f5⟩ := x_rv (c := c) (m := m2) (a := i + 1) hN (by omega) hl2 (fun b hb => by rw [g4 b hb, dg_swl (by rw [hl.1]; omega) (by rw [hl.1]; omega)])
    refine ⟨L5, m3, ?_, g5, f4.tr f5⟩
    have ev1 : nI N - (1 : Int32) = nI (N - 1) := nI_m1s hN.1
    dsimp only
    rw [if_pos (nI_0le (by omega)), nmI_e, bind_s, ev1, e3, bind_s]
    unfold f_X6_goToNextOrder_67
    dsimp only
    rw [e4, bind_s, nmI_e, bind_s, nmI_e, bind_s, nI_1, ev1, e5, bind_s]
theorem m_sw {o : Nat → Nat} {a b N : Nat} (ha : a < N) (hb : b < N) (h : ∀ i, i < N → hI m 105 i = nI (o i)) (i : Nat) (hi : i < N) : hI (tI (tI m 105 a (hI m 105 b)) 105 b (hI m 105 a)) 105 i = nI (swp o a b i) := by
  have := swI (m := m) (r := 105) (f := fun i => nI (o i)) h ha hb (h b hb) (h a ha) (fun i => rfl) i hi
  rw [this]
  unfold swp
  split
  · rfl
  · split <;> rfl
theorem m_pv {N : Nat} {ll : List Nat} (hN : 1 ≤ N ∧ N ≤ 12) (hl : LOk N ll) (h : ∀ b, b < N → hI m 105 b = nI (dg ll b)) : ∃ e, loop g_X12_nextOrder_7 (iI ((N : Int) - 2), m) = some e ∧ ((pvt ll (N - 1) = none ∧ e = (-1, m)) ∨ (∃ i, pvt ll (N - 1) = some i ∧ e = (nI i, m))) := by
  refine loop_ex (N - 1) (fun j z => z = (iI ((N : Int) - 2 - j), m) ∧ pvt ll (N - 1) = pvt ll (N - 1 - j)) _ (by omega) ?_ ?_ ⟨by rw [show ((N : Int) - 2 - ((0 : Nat) : Int)) = (N : Int) - 2 by omega], rfl⟩
  · rintro j z hj ⟨rfl, i2⟩
    show (∃ s', f_X12_nextOrder_7 (iI ((N : Int) - 2 - j)) m = some (Sum.inl s') ∧ _) ∨ ∃ e, f_X12_nextOrder_7 (iI ((N : Int) - 2 - j)) m = some (Sum.inr e) ∧ _
    obtain ⟨k, hk⟩ : ∃ k, N - 1 - j = k + 1 := ⟨N - 2 - j, by omega⟩
    have ek : iI ((N : Int) - 2 - j) = nI k := by rw [show (N : Int) - 2 - j = (k : Nat) by omega, iI_nat]
    have d1 := hl.2 k (by omega)
    have d2 := hl.2 (k + 1) (by omega)
    rw [hk] at i2
    unfold f_X12_nextOrder_7
    rw [ek, if_neg (nI_pos (by omega)), nI_1, aI_n _ 105 (show k < 12 by omega) (by omega), bind_s, aI_n _ 105 (show k + 1 < 12 by omega) (by omega), bind_s, h k (by omega), h (k + 1) (by omega)]
    by_cases hq : dg ll k ≤ dg ll (k + 1)
    · right
      rw [if_pos (nI_le hq (by omega))]
      exact ⟨_, rfl, Or.inr ⟨k, by rw [i2]; exact if_pos hq, rfl⟩⟩
    · left
      rw [if_neg (nI_ge (by omega) (by omega)), nmI_e, bind_s, iI_pred]
      refine ⟨_, rfl, ?_, ?_⟩
      · rw [show (N : Int) - 2 - (j + 1 : Nat) = (k : Int) - 1 by omega]
      · rw [i2, show N - 1 - (j + 1) = k by omega]
        exact if_neg hq
  · rintro z ⟨rfl, i2⟩
    show ∃ e, f_X12_nextOrder_7 (iI ((N : Int) - 2 - (N - 1 : Nat))) m = some (Sum.inr e) ∧ _
    have ek : iI ((N : Int) - 2 - (N - 1 : Nat)) = -1 := by rw [show (N : Int) - 2 - (N - 1 : Nat) = -1 by omega]; rfl
    rw [Nat.sub_self] at i2
    unfold f_X12_nextOrder_7
    rw [ek, if_pos (by decide)]
    exact ⟨_, rfl, Or.inl ⟨i2, rfl⟩⟩
theorem m_jx {N i : Nat} {ll : List Nat} (hN : 1 ≤ N ∧ N ≤ 12) (hl : LOk N ll) (h : ∀ b, b < N → hI m 105 b = nI (dg ll b)) (hi : i < N - 1) (hd : dg ll i ≤ dg ll (i + 1)) : ∃ e, loop (g_X12_nextOrder_47 (nI i)) (nI (N - 1), m) = some e ∧ e = (nI (jx ll i (N - 1)), m) := by
  refine loop_ex (N - 2 - i) (fun j z => z = (nI (N - 1 - j), m) ∧ jx ll i (N - 1) = jx ll i (N - 1 - j)) _ (by omega) ?_ ?_ ⟨rfl, rfl⟩
  · rintro j z hj ⟨rfl, i2⟩
    show (∃ s', f_X12_nextOrder_47 (nI i) (nI (N - 1 - j)) m = some (Sum.inl s') ∧ _) ∨ ∃ e, f_X12_nextOrder_47 (nI i) (nI (N - 1 - j)) m = some (Sum.inr e) ∧ _
    obtain ⟨k, hk⟩ : ∃ k, N - 1 - j = k + 1 := ⟨N - 2 - j, by omega⟩
    have d1 := hl.2 i (by omega)
    have d2 := hl.2 (k + 1) (by omega)
    rw [hk] at i2 ⊢
    unfold f_X12_nextOrder_47
    rw [aI_n _ 105 (show k + 1 < 12 by omega) (by omega), bind_s, aI_n _ 105 (show i < 12 by omega) (by omega), bind_s, h i (by omega), h (k + 1) (by omega)]
    by_cases hq : dg ll i ≤ dg ll (k + 1)
    · right
      rw [if_pos (nI_le hq (by omega))]
      have : jx ll i (k + 1) = k + 1 := if_pos hq
      exact ⟨_, rfl, by rw [i2, this]⟩
    · left
      rw [if_neg (nI_ge (by omega) (by omega)), nmI_e, bind_s, iI_pred, nI_m1']
      refine ⟨_, rfl, by rw [show N - 1 - (j + 1) = k by omega], ?_⟩
      rw [i2, show N - 1 - (j + 1) = k by omega]
      exact if_neg hq
  · rintro z ⟨rfl, i2⟩
    have e : N - 1 - (N - 2 - i) = i + 1 := by omega
    rw [e] at i2
    show ∃ e, f_X12_nextOrder_47 (nI i) (nI (N - 1 - (N - 2 - i))) m = some (Sum.inr e) ∧ _
    have d1 := hl.2 i (by omega)
    have d2 := hl.2 (i + 1) (by omega)
    unfold f_X12_nextOrder_47
    rw [e, aI_n _ 105 (show i + 1 < 12 by omega) (by omega), bind_s, aI_n _ 105 (show i < 12 by omega) (by omega), bind_s, h i (by omega), h (i + 1) (by omega), if_pos (nI_le hd (by omega))]
    have : jx ll i (i + 1) = i + 1 := if_pos hd
    exact ⟨_, rfl, by rw [i2, this]⟩
theorem m_rv {N a : Nat} {ll : List Nat} (hN : 1 ≤ N ∧ N ≤ 12) (ha : a ≤ N) (hl : LOk N ll) (h : ∀ b, b < N → hI m 105 b = nI (dg ll b)) : ∃ e, loop (g_X12_nextOrder_107) (nI a, nI (N - 1), m) = some e ∧ LOk N (rvl N ll a (N - 1)) ∧ (∀ b, b < N → hI e 105 b = nI (dg (rvl N ll a (N - 1)) b)) ∧ Fr (fun k _ => k = 105) m e := by
  refine loop_ex (N - 1) (fun j z => ∃ lj, z.1 = nI (a + j) ∧ z.2.1 = nI (N - 1 - j) ∧ rvl N ll a (N - 1) = rvl (N - j) lj (a + j) (N - 1 - j) ∧ LOk N lj ∧ (∀ b, b < N → hI z.2.2 105 b = nI (dg lj b)) ∧ Fr (fun k _ => k = 105) m z.2.2) _ (by omega) ?_ ?_ ⟨ll, rfl, rfl, rfl, hl, h, Fr.rf⟩
  · rintro j ⟨z1, z2, m1⟩ hj ⟨lj, i1, i2, i3, i4, i5, i6⟩
    dsimp only at i1 i2 i3 i4 i5 i6
    subst i1 i2
    show (∃ s', f_X12_nextOrder_107 (nI (a + j)) (nI (N - 1 - j)) m1 = some (Sum.inl s') ∧ _) ∨ ∃ e, f_X12_nextOrder_107 (nI (a + j)) (nI (N - 1 - j)) m1 = some (Sum.inr e) ∧ _
    obtain ⟨f, hf⟩ : ∃ f, N - j = f + 1 := ⟨N - j - 1, by omega⟩
    rw [hf] at i3
    unfold f_X12_nextOrder_107
    by_cases hq : a + j < N - 1 - j
    · left
      obtain ⟨k, hk⟩ : ∃ k, N - 1 - j = k + 1 := ⟨N - 2 - j, by omega⟩
      rw [if_neg (nI_ge hq (by omega)), aI_n _ 105 (show a + j < 12 by omega) (by omega), bind_s, aI_n _ 105 (show N - 1 - j < 12 by omega) (by omega), bind_s, bI_n _ 105 _ (show a + j < 12 by omega) (by omega), bind_s, bI_n _ 105 _ (show N - 1 - j < 12 by omega) (by omega), bind_s, nmI_e, bind_s, nmI_e, bind_s]
      refine ⟨_, rfl, swl lj (a + j) (N - 1 - j), nI_1 _, ?_, ?_, i4.sw (by omega) (by omega), fun b hb => ?_, (i6.tI _ rfl).tI _ rfl⟩
      · show nI (N - 1 - j) + (-1 : Int32) = nI (N - 1 - (j + 1))
        rw [hk, iI_pred, nI_m1', show N - 1 - (j + 1) = k by omega]
      · rw [i3, show N - (j + 1) = f by omega, show N - 1 - (j + 1) = N - 1 - j - 1 by omega]
        exact if_pos hq
      · show hI (tI (tI m1 105 (a + j) (hI m1 105 (N - 1 - j))) 105 (N - 1 - j) (hI m1 105 (a + j))) 105 b = _
        rw [m_sw (o := dg lj) (show a + j < N by omega) (show N - 1 - j < N by omega) i5 b hb, dg_swl (by rw [i4.1]; omega) (by rw [i4.1]; omega)]
    · right
      rw [if_pos (nI_le (by omega) (by omega))]
      have e : rvl N ll a (N - 1) = lj := by rw [i3]; exact if_neg hq
      rw [e]
      exact ⟨_, rfl, i4, i5, i6⟩
  · rintro ⟨z1, z2, m1⟩ ⟨lj, i1, i2, i3, i4, i5, i6⟩
    dsimp only at i1 i2 i3 i4 i5 i6
    subst i1 i2
    show ∃ e, f_X12_nextOrder_107 (nI (a + (N - 1))) (nI (N - 1 - (N - 1))) m1 = some (Sum.inr e) ∧ _
    obtain ⟨f, hf⟩ : ∃ f, N - (N - 1) = f + 1 := ⟨0, by omega⟩
    rw [hf] at i3
    unfold f_X12_nextOrder_107
    rw [if_pos (nI_le (by omega) (by omega))]
    have e : rvl N ll a (N - 1) = lj := by rw [i3]; exact if_neg (by omega)
    rw [e]
    exact ⟨_, rfl, i4, i5, i6⟩
theorem m_next {N : Nat} {ll : List Nat} (hN : 1 ≤ N ∧ N ≤ 12) (h65 : hI m 56 65 = nI N) (hl : LOk N ll) (h : ∀ b, b < N → hI m 105 b = nI (dg ll b)) : (nxl N ll = none → F_X12_nextOrder m = some (0, m)) ∧ (∀ l', nxl N ll = some l' → LOk N l' ∧ ∃ m', F_X12_nextOrder m = some (1, m') ∧ (∀ b, b < N → hI m' 105 b = nI (dg l' b)) ∧ Fr (fun k _ => k = 105) m m') := by
  obtain ⟨e, e1, e2⟩ := m_pv hN hl h
  have ev : nI N - (2 : Int32) = iI ((N : Int) - 2) := nI_m2
  unfold F_X12_nextOrder
  rw [h65, nmI_e, bind_s, ev, e1, bind_s]
  rcases e2 with ⟨q, rfl⟩ | ⟨i, q, rfl⟩
  · have hn : nxl N ll = none := by unfold nxl; rw [q]
    refine ⟨fun _ => ?_, fun l' h' => by rw [hn] at h'; cases h'⟩
    unfold f_X12_nextOrder_34
    dsimp only
    exact if_neg (by decide)
  · obtain ⟨q1, q2⟩ := pv_i q
    obtain ⟨j1, j2⟩ := jx_j (k := N - 1) q1 q2
    have hn : nxl N ll = some (rvl N (swl ll i (jx ll i (N - 1))) (i + 1) (N - 1)) := by unfold nxl; rw [q]
    refine ⟨fun h' => (by rw [hn] at h'; cases h'), fun l' h' => ?_⟩
    rw [hn] at h'
    cases h'
    unfold f_X12_nextOrder_34
    obtain ⟨e', e3, rfl⟩ := m_jx hN hl h q1 q2
    have g4 := m_sw (m := m) (o := dg ll) (show i < N by omega) (show jx ll i (N - 1) < N by omega) h
    have f4 : Fr (fun k _ => k = 105) m (tI (tI m 105 i (hI m 105 (jx ll i (N - 1)))) 105 (jx ll i (N - 1)) (hI m 105 i)) := (Fr.rf.tI _ (by omega)).tI _ (by omega)
    have hl2 := hl.sw (show i < N by omega) (show jx ll i (N - 1) < N by omega)
    have ev1 : nI N - (1 : Int32) = nI (N - 1) := nI_m1s hN.1
    dsimp only
    rw [if_pos (nI_0le (by omega)), h65, nmI_e, bind_s, ev1, e3, bind_s]
    dsimp only
    rw [aI_n _ 105 (show i < 12 by omega) (by omega), bind_s, aI_n _ 105 (show jx ll i (N - 1) < 12 by omega) (by omega), bind_s, bI_n _ 105 _ (show i < 12 by omega) (by omega), bind_s, bI_n _ 105 _ (show jx ll i (N - 1) < 12 by omega) (by omega), bind_s]
    generalize tI (tI m 105 i (hI m 105 (jx ll i (N - 1)))) 105 (jx ll i (N - 1)) (hI m 105 i) = m2 at g4 f4 ⊢
    obtain ⟨m3, e5, L5, g5, f5⟩ := m_rv (m := m2) (a := i + 1) hN (by omega) hl2 (fun b hb => by rw [g4 b hb, dg_swl (by rw [hl.1]; omega) (by rw [hl.1]; omega)])
    refine ⟨L5, m3, ?_, g5, f4.tr f5⟩
    rw [nmI_e, bind_s, nI_1, f4.I _ _ (by omega), h65, nmI_e, bind_s, ev1, e5, bind_s]
end KI
