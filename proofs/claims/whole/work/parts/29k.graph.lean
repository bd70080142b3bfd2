/-! ===== ways that settle or don't ===== -/
def itr (f : Nat → Nat) : Nat → Nat → Nat
  | 0, i => i
  | k + 1, i => f (itr f k i)
theorem itr_f (f : Nat → Nat) (i : Nat) : ∀ k, itr f k (f i) = itr f (k + 1) i
  | 0 => rfl
  | k + 1 => by
    show f (itr f k (f i)) = f (itr f (k + 1) i)
    rw [itr_f f i k]
theorem itr_add (f : Nat → Nat) (i j : Nat) : ∀ k, itr f k (itr f j i) = itr f (j + k) i
  | 0 => rfl
  | k + 1 => by
    show f (itr f k (itr f j i)) = f (itr f (j + k) i)
    rw [itr_add f i j k]
def Dst (f : Nat → Nat) (i k : Nat) : Prop := f (itr f k i) = itr f k i ∧ ∀ j, j < k → ¬ f (itr f j i) = itr f j i
def Nvr (f : Nat → Nat) (i : Nat) : Prop := ∀ k, ¬ f (itr f k i) = itr f k i
theorem Dst.back {f : Nat → Nat} {i n k : Nat} (hn : ∀ j, j < n → ¬ f (itr f j i) = itr f j i) (h : Dst f (itr f n i) k) {j : Nat} (hj : j ≤ n) : Dst f (itr f j i) (k + (n - j)) := by
  unfold Dst at h ⊢
  refine ⟨?_, fun a ha => ?_⟩
  · rw [itr_add, show j + (k + (n - j)) = n + k by omega, ← itr_add]
    exact h.1
  · rw [itr_add]
    by_cases q : j + a < n
    · exact hn _ q
    · have := h.2 (j + a - n) (by omega)
      rw [itr_add, show n + (j + a - n) = j + a by omega] at this
      exact this
theorem Nvr.back {f : Nat → Nat} {i n : Nat} (hn : ∀ j, j < n → ¬ f (itr f j i) = itr f j i) (h : Nvr f (itr f n i)) {j : Nat} (hj : j ≤ n) : Nvr f (itr f j i) := by
  intro a
  rw [itr_add]
  by_cases q : j + a < n
  · exact hn _ q
  · have := h (j + a - n)
    rw [itr_add, show n + (j + a - n) = j + a by omega] at this
    exact this
theorem Nvr.cyc {f : Nat → Nat} {i n j0 : Nat} (hn : ∀ j, j < n → ¬ f (itr f j i) = itr f j i) (hj : j0 < n) (he : itr f n i = itr f j0 i) : Nvr f i := by
  have : ∀ k, ∃ j, j < n ∧ itr f k i = itr f j i := by
    intro k
    induction k with
    | zero => exact ⟨0, by omega, rfl⟩
    | succ k ih =>
      obtain ⟨j, h1, h2⟩ := ih
      by_cases q : j + 1 < n
      · exact ⟨j + 1, q, by show f _ = f _; rw [h2]⟩
      · refine ⟨j0, hj, ?_⟩
        rw [← he, show n = j + 1 by omega]
        show f _ = f _
        rw [h2]
  intro k
  obtain ⟨j, h1, h2⟩ := this k
  rw [h2]
  exact hn j h1
def upT (T : Nat → Int32) (j : Nat) (v : Int32) : Nat → Int32 := fun x => if x = j then v else T x
theorem hI_upT (m : M2) (r j : Nat) (v : Int32) : hI (tI m r j v) r = upT (hI m r) j v := by
  funext x
  rw [hI_tI]
  unfold upT
  by_cases h : x = j
  · rw [if_pos ⟨rfl, h⟩, if_pos h]
  · rw [if_neg (fun z => h z.2), if_neg h]
theorem upT_eq (T : Nat → Int32) (j : Nat) (v : Int32) : upT T j v j = v := if_pos rfl
theorem upT_ne (T : Nat → Int32) {j x : Nat} (v : Int32) (h : ¬ x = j) : upT T j v x = T x := if_neg h
def un (T : Nat → Int32) : Nat → Nat
  | 0 => 0
  | k + 1 => un T k + if T k = -1 then 1 else 0
theorem un_le (T : Nat → Int32) : ∀ A, un T A ≤ A
  | 0 => Nat.le_refl _
  | k + 1 => by
    have := un_le T k
    unfold un
    split <;> omega
theorem un_mono {T U : Nat → Int32} : ∀ {A : Nat}, (∀ x, x < A → T x = -1 → U x = -1) → un T A ≤ un U A
  | 0, _ => Nat.le_refl _
  | k + 1, h => by
    have := un_mono (A := k) (fun x hx => h x (by omega))
    unfold un
    by_cases q : T k = -1
    · rw [if_pos q, if_pos (h k (by omega) q)]; omega
    · rw [if_neg q]; split <;> omega
theorem un_congr {T U : Nat → Int32} {A : Nat} (h : ∀ x, x < A → T x = U x) : un T A = un U A := Nat.le_antisymm (un_mono (fun x hx z => by rw [← h x hx]; exact z)) (un_mono (fun x hx z => by rw [h x hx]; exact z))
theorem un_upT {T : Nat → Int32} {v : Int32} {j : Nat} (hv : ¬ v = -1) : ∀ {A : Nat}, j < A → T j = -1 → un (upT T j v) A + 1 = un T A
  | 0, h, _ => by omega
  | k + 1, h, ht => by
    unfold un
    by_cases q : j = k
    · subst q
      rw [upT_eq, if_neg hv, if_pos ht, un_congr (T := upT T j v) (U := T) (fun x hx => upT_ne _ _ (by omega))]
    · rw [upT_ne _ _ (fun z => q z.symm), ← un_upT hv (A := k) (by omega) ht]
      omega
def Gd (f : Nat → Nat) (A u x : Nat) (v : Int32) : Prop := (∃ k, Dst f x k ∧ v = nI k ∧ k + u ≤ A) ∨ (Nvr f x ∧ v < 0 ∧ ¬ v = -1)
theorem Gd.mono {f : Nat → Nat} {A u u' x : Nat} {v : Int32} (h : Gd f A u x v) (hu : u' ≤ u) : Gd f A u' x v := by
  rcases h with ⟨k, h1, h2, h3⟩ | h
  · exact Or.inl ⟨k, h1, h2, by omega⟩
  · exact Or.inr h
theorem Gd.ne {f : Nat → Nat} {A u x : Nat} {v : Int32} (h : Gd f A u x v) (hA : A < 2 ^ 30) : ¬ v = -1 := by
  rcases h with ⟨k, h1, h2, h3⟩ | h
  · rw [h2]; exact nI_m1 (by omega)
  · exact h.2.2
def InvT (f : Nat → Nat) (A : Nat) (T : Nat → Int32) : Prop := ∀ x, x < A → T x = -1 ∨ Gd f A (un T A) x (T x)
def Wk (f : Nat → Nat) (A : Nat) (T : Nat → Int32) (i : Nat) (mu : Int32) (n : Nat) (U : Nat → Int32) : Prop := (∀ j, j < n → T (itr f j i) = -1 ∧ ¬ f (itr f j i) = itr f j i ∧ U (itr f j i) = mu) ∧ (∀ x, (∃ j, j < n ∧ x = itr f j i) ∨ U x = T x) ∧ un U A + n = un T A
theorem Wk.nxt {f : Nat → Nat} {A i n : Nat} {T U : Nat → Int32} {mu : Int32} (hm : ¬ mu = -1) (h : Wk f A T i mu n U) (hA : itr f n i < A) (hU : U (itr f n i) = -1) (hf : ¬ f (itr f n i) = itr f n i) : Wk f A T i mu (n + 1) (upT U (itr f n i) mu) := by
  obtain ⟨h1, h2, h3⟩ := h
  refine ⟨fun j hj => ?_, fun x => ?_, ?_⟩
  · by_cases q : j = n
    · subst q
      refine ⟨?_, hf, upT_eq _ _ _⟩
      rcases h2 (itr f j i) with ⟨a, ha, e⟩ | e
      · have := (h1 a ha).2.2
        rw [← e] at this
        exact absurd (this.symm.trans hU) hm
      · rw [← e]; exact hU
    · obtain ⟨a1, a2, a3⟩ := h1 j (by omega)
      refine ⟨a1, a2, ?_⟩
      by_cases z : itr f j i = itr f n i
      · rw [z]; exact upT_eq _ _ _
      · rw [upT_ne _ _ z]; exact a3
  · by_cases z : x = itr f n i
    · exact Or.inl ⟨n, by omega, z⟩
    · rw [upT_ne _ _ z]
      rcases h2 x with ⟨a, ha, e⟩ | e
      · exact Or.inl ⟨a, by omega, e⟩
      · exact Or.inr e
  · have := un_upT (v := mu) hm hA hU
    omega
def Bk (f : Nat → Nat) (A u i : Nat) (V : Nat → Int32) (r : Nat) (W : Nat → Int32) : Prop := (∀ x, W x = V x ∨ Gd f A u x (W x)) ∧ ∀ j, j < r → Gd f A u (itr f j i) (W (itr f j i))
theorem Bk.nxt {f : Nat → Nat} {A u i r : Nat} {V W : Nat → Int32} {v : Int32} (h : Bk f A u i V r W) (hv : Gd f A u (itr f r i) v) : Bk f A u i V (r + 1) (upT W (itr f r i) v) := by
  refine ⟨fun x => ?_, fun j hj => ?_⟩
  · by_cases z : x = itr f r i
    · right; rw [z, upT_eq]; exact hv
    · rw [upT_ne _ _ z]; exact h.1 x
  · by_cases z : itr f j i = itr f r i
    · rw [z, upT_eq]; exact hv
    · rw [upT_ne _ _ z]
      refine h.2 j ?_
      apply Nat.lt_of_le_of_ne (by omega)
      intro e
      rw [e] at z
      exact z rfl
/-- the end of a way -/
def Vw (f : Nat → Nat) (U V : Nat → Int32) (p : Nat) : Prop := ∀ x, V x = U x ∨ (x = p ∧ V x = 0 ∧ f p = p)
theorem Wk.val {f : Nat → Nat} {A i n : Nat} {T U V : Nat → Int32} {mu : Int32} (hm : mu < 0) (hA : A < 2 ^ 30) (hT : InvT f A T) (h : Wk f A T i mu n U) (hV : Vw f U V (itr f n i)) (hp : itr f n i < A) (he : ¬ V (itr f n i) = -1) : (∃ k, V (itr f n i) = nI k ∧ k + n ≤ A ∧ ∀ j, j < n → Gd f A (un U A) (itr f j i) (nI (k + (n - j)))) ∨ (V (itr f n i) < 0 ∧ ∀ v : Int32, v < 0 → ¬ v = -1 → ∀ j, j < n → Gd f A (un U A) (itr f j i) v) := by
  obtain ⟨h1, h2, h3⟩ := h
  have hn : ∀ j, j < n → ¬ f (itr f j i) = itr f j i := fun j hj => (h1 j hj).2.1
  have hTA := un_le T A
  have nv : Nvr f (itr f n i) → ∀ v : Int32, v < 0 → ¬ v = -1 → ∀ j, j < n → Gd f A (un U A) (itr f j i) v := fun z v v0 v1 j hj => Or.inr ⟨z.back hn (by omega), v0, v1⟩
  rcases hV (itr f n i) with e | ⟨_, e, ef⟩
  · rcases h2 (itr f n i) with ⟨j0, hj0, ej⟩ | e2
    · right
      have := (h1 j0 hj0).2.2
      rw [← ej] at this
      refine ⟨by rw [e, this]; exact hm, fun v v0 v1 j hj => Or.inr ⟨?_, v0, v1⟩⟩
      have z := Nvr.cyc hn hj0 ej
      intro a
      rw [itr_add]
      exact z _
    · have e3 := e.trans e2
      rcases hT _ hp with q | q
      · exact absurd (e3.trans q) he
      · rcases q with ⟨k, k1, k2, k3⟩ | ⟨q1, q2, q3⟩
        · left
          exact ⟨k, by rw [e3]; exact k2, by omega, fun j hj => Or.inl ⟨_, k1.back hn (by omega), rfl, by omega⟩⟩
        · right
          exact ⟨by rw [e3]; exact q2, nv q1⟩
  · left
    have d0 : Dst f (itr f n i) 0 := ⟨ef, fun j hj => by omega⟩
    exact ⟨0, by rw [e]; rfl, by omega, fun j hj => Or.inl ⟨_, d0.back hn (by omega), rfl, by omega⟩⟩
theorem Wk.fin {f : Nat → Nat} {A i n : Nat} {T U V W : Nat → Int32} {mu : Int32} (hA : A < 2 ^ 30) (hT : InvT f A T) (h : Wk f A T i mu n U) (hV : Vw f U V (itr f n i)) (he : ¬ V (itr f n i) = -1) (hW : Bk f A (un U A) i V n W) : InvT f A W ∧ (∀ x, x < A → ¬ T x = -1 → ¬ W x = -1) ∧ ¬ W i = -1 := by
  obtain ⟨h1, h2, h3⟩ := h
  have hU := un_le U A
  have key : ∀ x, x < A → Gd f A (un U A) x (W x) ∨ (W x = -1 ∧ U x = -1 ∧ T x = -1) := by
    intro x hx
    rcases hW.1 x with e | e
    · rcases hV x with e2 | ⟨e2, e3, e4⟩
      · rcases h2 x with ⟨j, hj, ej⟩ | e5
        · left; rw [ej]; exact hW.2 j hj
        · rcases hT x hx with q | q
          · exact Or.inr ⟨by rw [e, e2, e5, q], by rw [e5, q], q⟩
          · left
            rw [e, e2, e5]
            exact q.mono (by omega)
      · left
        rw [e, e3, e2]
        exact Or.inl ⟨0, ⟨e4, fun j hj => by omega⟩, rfl, by omega⟩
    · exact Or.inl e
  have hun : un W A ≤ un U A := un_mono (fun x hx z => by
    rcases key x hx with q | q
    · exact absurd z (q.ne hA)
    · exact q.2.1)
  refine ⟨fun x hx => ?_, fun x hx hx1 => ?_, ?_⟩
  · rcases key x hx with q | q
    · exact Or.inr (q.mono hun)
    · exact Or.inl q.1
  · rcases key x hx with q | q
    · exact q.ne hA
    · exact absurd q.2.2 hx1
  · by_cases hn : n = 0
    · subst hn
      rcases hW.1 i with e | e
      · rw [e]; exact he
      · exact e.ne hA
    · exact (hW.2 0 (by omega)).ne hA
/-! what is counted -/
def dsv (f : Nat → Nat) (A x : Nat) : Nat := fd (fun k => decide (f (itr f k x) = itr f k x)) (A + 1)
theorem fd_all {p : Nat → Bool} : ∀ {k : Nat}, (∀ j, j < k → p j = false) → fd p k = k
  | 0, _ => rfl
  | k + 1, h => fd_n (fd_all (fun j hj => h j (by omega))) (h k (by omega))
theorem Gd.ds {f : Nat → Nat} {A u x : Nat} {v : Int32} (h : Gd f A u x v) : (dsv f A x ≤ A ∧ v = nI (dsv f A x)) ∨ (dsv f A x = A + 1 ∧ v < 0) := by
  rcases h with ⟨k, h1, h2, h3⟩ | ⟨h1, h2, h3⟩
  · have e : dsv f A x = k := by
      unfold dsv
      have a1 := fd_all (p := fun k => decide (f (itr f k x) = itr f k x)) (k := k) (fun j hj => decide_eq_false (h1.2 j hj))
      have a2 := fd_y a1 (decide_eq_true h1.1) (A - k)
      rw [show k + 1 + (A - k) = A + 1 by omega] at a2
      exact a2
    exact Or.inl ⟨by omega, by rw [e]; exact h2⟩
  · exact Or.inr ⟨fd_all (fun j _ => decide_eq_false (h1 j)), h2⟩
def cnS (f : Nat → Nat) (A : Nat) : Nat → Nat := sm (fun x => if dsv f A x ≤ A then 1 else 0)
def mxS (f : Nat → Nat) (A : Nat) : Nat → Nat
  | 0 => 0
  | k + 1 => if dsv f A k ≤ A then max (mxS f A k) (dsv f A k) else mxS f A k
theorem cnS_le (f : Nat → Nat) (A : Nat) (n : Nat) : cnS f A n ≤ n := sm_le1 (fun j => by split <;> omega) n
theorem mxS_le (f : Nat → Nat) (A : Nat) : ∀ n, mxS f A n ≤ A
  | 0 => Nat.zero_le _
  | k + 1 => by
    have := mxS_le f A k
    unfold mxS
    split <;> omega
/-! two numberings of the same rows -/
theorem sm_cg {f g : Nat → Nat} : ∀ {K : Nat}, (∀ j, j < K → f j = g j) → sm f K = sm g K
  | 0, _ => rfl
  | K + 1, h => by
    show sm f K + f K = sm g K + g K
    rw [sm_cg (fun j hj => h j (by omega)), h K (by omega)]
theorem sm_0 : ∀ K : Nat, sm (fun _ => 0) K = 0
  | 0 => rfl
  | K + 1 => sm_0 K
theorem sm_plus (f g : Nat → Nat) : ∀ K : Nat, sm (fun j => f j + g j) K = sm f K + sm g K
  | 0 => rfl
  | K + 1 => by
    show sm (fun j => f j + g j) K + (f K + g K) = sm f K + f K + (sm g K + g K)
    rw [sm_plus f g K]; omega
theorem sm_swap (h : Nat → Nat → Nat) (B : Nat) : ∀ A : Nat, sm (fun x => sm (fun y => h x y) B) A = sm (fun y => sm (fun x => h x y) A) B
  | 0 => (sm_0 B).symm
  | A + 1 => by
    show sm (fun x => sm (fun y => h x y) B) A + sm (fun y => h A y) B = sm (fun y => sm (fun x => h x y) A + h A y) B
    rw [sm_swap h B A, ← sm_plus]
theorem sm_one {v : Nat → Nat} {a : Nat} : ∀ {A : Nat}, sm (fun y => if y = a then v y else 0) A = if a < A then v a else 0
  | 0 => rfl
  | A + 1 => by
    show sm (fun y => if y = a then v y else 0) A + (if A = a then v A else 0) = _
    rw [sm_one (A := A)]
    by_cases h : A = a
    · subst h
      rw [if_neg (by omega), if_pos rfl, if_pos (by omega), Nat.zero_add]
    · by_cases h2 : a < A
      · rw [if_pos h2, if_neg h, if_pos (by omega), Nat.add_zero]
      · rw [if_neg h2, if_neg h, if_neg (by omega)]
theorem sm_rev {rv : Nat → Nat} {A : Nat} (h1 : ∀ x, x < A → rv x < A) (h2 : ∀ x, x < A → rv (rv x) = x) (h : Nat → Nat) : sm (fun x => h (rv x)) A = sm h A := by
  have e1 : sm (fun x => h (rv x)) A = sm (fun x => sm (fun y => if y = rv x then h y else 0) A) A := sm_cg (fun j hj => by rw [sm_one, if_pos (h1 j hj)])
  rw [e1, sm_swap (fun x y => if y = rv x then h y else 0)]
  refine sm_cg (fun y hy => ?_)
  have e2 : sm (fun x => if y = rv x then h y else 0) A = sm (fun x => if x = rv y then h y else 0) A := sm_cg (fun x hx => by
    by_cases q : y = rv x
    · rw [if_pos q, if_pos (by rw [q, h2 x hx])]
    · rw [if_neg q, if_neg (fun z => q (by rw [z, h2 y hy]))])
  rw [e2, sm_one (v := fun _ => h y), if_pos (h1 y hy)]
theorem dsv_rev {f g rv : Nat → Nat} {A : Nat} (h1 : ∀ x, x < A → rv x < A) (h2 : ∀ x, x < A → rv (rv x) = x) (hf : ∀ x, x < A → f x < A) (hg : ∀ x, x < A → g (rv x) = rv (f x)) {x : Nat} (hx : x < A) : dsv g A (rv x) = dsv f A x := by
  have hA : ∀ k, itr f k x < A := by
    intro k
    induction k with
    | zero => exact hx
    | succ k ih => exact hf _ ih
  have hi : ∀ k, itr g k (rv x) = rv (itr f k x) := by
    intro k
    induction k with
    | zero => rfl
    | succ k ih =>
      show g (itr g k (rv x)) = rv (f (itr f k x))
      rw [ih, hg _ (hA k)]
  unfold dsv
  congr 1
  funext k
  rw [hi, hg _ (hA k)]
  by_cases q : f (itr f k x) = itr f k x
  · rw [q]
    simp
  · rw [decide_eq_false q, decide_eq_false]
    intro z
    have := congrArg rv z
    rw [h2 _ (hf _ (hA k)), h2 _ (hA k)] at this
    exact q this
theorem cnS_rev {f g rv : Nat → Nat} {A : Nat} (h1 : ∀ x, x < A → rv x < A) (h2 : ∀ x, x < A → rv (rv x) = x) (hf : ∀ x, x < A → f x < A) (hg : ∀ x, x < A → g (rv x) = rv (f x)) : cnS g A A = cnS f A A := by
  unfold cnS
  rw [← sm_rev h1 h2]
  exact sm_cg (fun x hx => by rw [dsv_rev h1 h2 hf hg hx])
theorem mxS_ge {f : Nat → Nat} {A : Nat} : ∀ {n x : Nat}, x < n → dsv f A x ≤ A → dsv f A x ≤ mxS f A n
  | 0, _, h, _ => by omega
  | n + 1, x, h, hd => by
    unfold mxS
    by_cases q : x = n
    · subst q
      rw [if_pos hd]; omega
    · have := mxS_ge (n := n) (x := x) (by omega) hd
      split <;> omega
theorem mxS_lb {f : Nat → Nat} {A B : Nat} : ∀ {n : Nat}, (∀ x, x < n → dsv f A x ≤ A → dsv f A x ≤ B) → mxS f A n ≤ B
  | 0, _ => Nat.zero_le _
  | n + 1, h => by
    have := mxS_lb (n := n) (fun x hx => h x (by omega))
    unfold mxS
    split
    · next q => have := h n (by omega) q; omega
    · exact this
theorem mxS_rev {f g rv : Nat → Nat} {A : Nat} (h1 : ∀ x, x < A → rv x < A) (h2 : ∀ x, x < A → rv (rv x) = x) (hf : ∀ x, x < A → f x < A) (hg : ∀ x, x < A → g (rv x) = rv (f x)) : mxS g A A = mxS f A A := by
  apply Nat.le_antisymm
  · refine mxS_lb (fun x hx hd => ?_)
    have e := dsv_rev h1 h2 hf hg (h1 x hx)
    rw [h2 x hx] at e
    rw [e] at hd ⊢
    exact mxS_ge (h1 x hx) hd
  · refine mxS_lb (fun x hx hd => ?_)
    have e := dsv_rev h1 h2 hf hg hx
    rw [← e] at hd ⊢
    exact mxS_ge (h1 x hx) hd
