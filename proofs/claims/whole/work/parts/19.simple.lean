/-! ===== pieces of the state, one by one ===== -/
theorem XU.fr {S : Nat → Nat → Prop} {m m' : M2} {n u : Nat} {h : Nat → Nat → Nat} (a : XU m n u h) (hf : Fr S m m') (hs : ∀ k j, k = 32 ∨ k = 33 → ¬ S k j) : XU m' n u h := by
  obtain ⟨x, a1, a2, a3, a4⟩ := a
  exact ⟨x, a1, by rw [hf.I 32 1 (hs _ _ (by omega))]; exact a2, by rw [hf.I 32 2 (hs _ _ (by omega))]; exact a3, fun i hi => by rw [hf.J 33 _ (hs _ _ (by omega))]; exact a4 i hi⟩
theorem XB.fr {S : Nat → Nat → Prop} {m m' : M2} {n : Nat} {f : Nat → Bool} {g : Nat → CD} (a : XB m n f g) (hf : Fr S m m') (hs : ∀ k j, 47 ≤ k → k ≤ 55 → ¬ S k j) : XB m' n f g := by
  intro t ht
  obtain ⟨a1, a2⟩ := a t ht
  exact ⟨by rw [hf.I _ 5 (hs _ _ (by omega) (by omega))]; exact a1, fun e => (a2 e).fr hf (fun k j z1 z2 => hs k j (by omega) (by omega))⟩
theorem XQ.fr {S : Nat → Nat → Prop} {m m' : M2} {q : Nat} {a b c : Nat → Int32} (h : XQ m q a b c) (hf : Fr S m m') (hs : ∀ k j, 41 ≤ k → k ≤ 44 → ¬ S k j) : XQ m' q a b c := by
  obtain ⟨a1, a2⟩ := h
  exact ⟨by rw [hf.I 41 1 (hs _ _ (by omega) (by omega))]; exact a1, fun i hi => ⟨by rw [hf.I 42 i (hs _ _ (by omega) (by omega))]; exact (a2 i hi).1, by rw [hf.I 43 i (hs _ _ (by omega) (by omega))]; exact (a2 i hi).2.1, by rw [hf.I 44 i (hs _ _ (by omega) (by omega))]; exact (a2 i hi).2.2⟩⟩
theorem MU.fr {S : Nat → Nat → Prop} {m m' : M2} {n u : Nat} {h : Nat → Nat → Nat} (a : MU m n u h) (hf : Fr S m m') (hs : ∀ k j, (k = 56 ∧ j = 61) ∨ k = 96 → ¬ S k j) : MU m' n u h := by
  obtain ⟨a1, a2⟩ := a
  exact ⟨by rw [hf.I 56 61 (hs _ _ (by omega))]; exact a1, fun i hi b hb => by rw [hf.I 96 _ (hs _ _ (by omega))]; exact a2 i hi b hb⟩
theorem MB2.fr {S : Nat → Nat → Prop} {m m' : M2} {n lag : Nat} {f : Nat → Bool} {g : Nat → CD} (a : MB2 m n lag f g) (hf : Fr S m m') (hs : ∀ k j, 113 ≤ k → k ≤ 119 → ¬ S k j) : MB2 m' n lag f g := by
  intro t ht
  obtain ⟨a1, a2⟩ := a t ht
  have I : ∀ k j, 113 ≤ k → k ≤ 119 → hI m' k j = hI m k j := fun k j h1 h2 => hf.I k j (hs k j h1 h2)
  refine ⟨by rw [I 113 t (by omega) (by omega)]; exact a1, fun e => ?_⟩
  obtain ⟨b1, b2, b3, b4⟩ := a2 e
  exact ⟨fun b hb => ⟨by rw [I 114 _ (by omega) (by omega)]; exact (b1 b hb).1, by rw [I 115 _ (by omega) (by omega)]; exact (b1 b hb).2.1, by rw [I 116 _ (by omega) (by omega)]; exact (b1 b hb).2.2⟩, by rw [I 117 _ (by omega) (by omega)]; exact b2, by rw [I 118 _ (by omega) (by omega)]; exact b3, by rw [I 119 _ (by omega) (by omega)]; exact b4⟩
theorem MQ2.fr {S : Nat → Nat → Prop} {m m' : M2} {q : Nat} {a b c : Nat → Int32} (h : MQ2 m q a b c) (hf : Fr S m m') (hs : ∀ k j, (k = 56 ∧ j = 79) ∨ (109 ≤ k ∧ k ≤ 111) → ¬ S k j) : MQ2 m' q a b c := by
  obtain ⟨a1, a2⟩ := h
  exact ⟨by rw [hf.I 56 79 (hs _ _ (by omega))]; exact a1, fun i hi => ⟨by rw [hf.I 109 i (hs _ _ (by omega))]; exact (a2 i hi).1, by rw [hf.I 110 i (hs _ _ (by omega))]; exact (a2 i hi).2.1, by rw [hf.I 111 i (hs _ _ (by omega))]; exact (a2 i hi).2.2⟩⟩
def sKU (s : SS) (k : CD) (u : Nat × (Nat → Nat → Nat)) : SS := (s.1, k, u, s.2.2.2)
def sB (s : SS) (f : (Nat → Bool) × (Nat → CD)) : SS := (s.1, s.2.1, s.2.2.1, f, s.2.2.2.2)
def sQ (s : SS) (q : Nat × (Nat → Int32) × (Nat → Int32) × (Nat → Int32)) : SS := (s.1, s.2.1, s.2.2.1, s.2.2.2.1, q, s.2.2.2.2.2)
def sY (s : SS) (y : Nat × (Nat → Int32)) : SS := (s.1, s.2.1, s.2.2.1, s.2.2.2.1, s.2.2.2.2.1, y, s.2.2.2.2.2.2)
def ssHU (s : SS) : Nat × (Nat → Nat → Nat) := s.2.2.1
section BL
variable {S : Nat → Nat → Prop} {m m' : M2} {c l : Nat} {s : SS}
theorem XS.tx (h : XS m c s) : c = 2 ∨ c = 8 := h.1.1.2.2.2.2.2.2
theorem XS.ku (h : XS m c s) (hf : Fr S m m') (hs : ∀ k j, S k j → ¬ xk k ∨ (28 ≤ k ∧ k ≤ 30) ∨ k = 32 ∨ k = 33) {k : CD} {u : Nat × (Nat → Nat → Nat)} (hk : XC m' 28 (tdN (ssD s)) k) (hu : XU m' (tdN (ssD s)) u.1 u.2) : XS m' c (sKU s k u) := by
  have hc := h.tx
  obtain ⟨h1, h2, h3, h4, h5, h6, h7⟩ := h
  have N : ∀ k j, xk k → ¬ (28 ≤ k ∧ k ≤ 30) → ¬ k = 32 → ¬ k = 33 → ¬ S k j := fun k j a b d e z => by rcases hs k j z with q | q | q | q <;> first | exact absurd a q | omega
  have N2 : ∀ k j, (k ≤ 14 ∨ (41 ≤ k ∧ k ≤ 44) ∨ (47 ≤ k ∧ k ≤ 55)) → ¬ S k j := fun k j z => N k j (by unfold xk; omega) (by omega) (by omega) (by omega)
  exact ⟨h1.fr hf (fun k j z1 z2 => N2 k j (by omega)), hk, hu, h4.fr hf (fun k j z1 z2 => N2 k j (by omega)), h5.fr hf (fun k j z1 z2 => N2 k j (by omega)), ⟨by rw [hf.I _ _ (N2 _ _ (by omega))]; exact h6.1, fun i => by rw [hf.I _ _ (N2 _ _ (by omega))]; exact h6.2 i⟩, by rw [hf.I _ _ (N2 _ _ (by omega))]; exact h7⟩
theorem XS.sb (h : XS m c s) (hf : Fr S m m') (hs : ∀ k j, S k j → ¬ xk k ∨ (47 ≤ k ∧ k ≤ 55)) {f : (Nat → Bool) × (Nat → CD)} (hb : XB m' (tdN (ssD s)) f.1 f.2) : XS m' c (sB s f) := by
  have hc := h.tx
  obtain ⟨h1, h2, h3, h4, h5, h6, h7⟩ := h
  have N2 : ∀ k j, xk k → ¬ (47 ≤ k ∧ k ≤ 55) → ¬ S k j := fun k j a b z => by rcases hs k j z with q | q <;> first | exact absurd a q | omega
  exact ⟨h1.fr hf (fun k j z1 z2 => N2 k j (by unfold xk; omega) (by omega)), h2.fr hf (fun k j z1 z2 => N2 k j (by unfold xk; omega) (by omega)), h3.fr hf (fun k j z1 => N2 k j (by unfold xk; omega) (by omega)), hb, h5.fr hf (fun k j z1 z2 => N2 k j (by unfold xk; omega) (by omega)), ⟨by rw [hf.I _ _ (N2 _ _ (by unfold xk; omega) (by omega))]; exact h6.1, fun i => by rw [hf.I _ _ (N2 _ _ (by unfold xk; omega) (by omega))]; exact h6.2 i⟩, by rw [hf.I _ _ (N2 _ _ (by unfold xk; omega) (by omega))]; exact h7⟩
theorem XS.sq (h : XS m c s) (hf : Fr S m m') (hs : ∀ k j, S k j → ¬ xk k ∨ (41 ≤ k ∧ k ≤ 44)) {q : Nat × (Nat → Int32) × (Nat → Int32) × (Nat → Int32)} (hb : XQ m' q.1 q.2.1 q.2.2.1 q.2.2.2) : XS m' c (sQ s q) := by
  have hc := h.tx
  obtain ⟨h1, h2, h3, h4, h5, h6, h7⟩ := h
  have N2 : ∀ k j, xk k → ¬ (41 ≤ k ∧ k ≤ 44) → ¬ S k j := fun k j a b z => by rcases hs k j z with q | q <;> first | exact absurd a q | omega
  exact ⟨h1.fr hf (fun k j z1 z2 => N2 k j (by unfold xk; omega) (by omega)), h2.fr hf (fun k j z1 z2 => N2 k j (by unfold xk; omega) (by omega)), h3.fr hf (fun k j z1 => N2 k j (by unfold xk; omega) (by omega)), h4.fr hf (fun k j z1 z2 => N2 k j (by unfold xk; omega) (by omega)), hb, ⟨by rw [hf.I _ _ (N2 _ _ (by unfold xk; omega) (by omega))]; exact h6.1, fun i => by rw [hf.I _ _ (N2 _ _ (by unfold xk; omega) (by omega))]; exact h6.2 i⟩, by rw [hf.I _ _ (N2 _ _ (by unfold xk; omega) (by omega))]; exact h7⟩
theorem XS.sy (h : XS m c s) (hf : Fr S m m') (hs : ∀ k j, S k j → ¬ xk k ∨ k = 0 ∨ k = 1) {y : Nat × (Nat → Int32)} (hb : hI m' 0 1 = nI y.1 ∧ ∀ i, hI m' 1 i = y.2 i) : XS m' c (sY s y) := by
  have hc := h.tx
  obtain ⟨h1, h2, h3, h4, h5, h6, h7⟩ := h
  have N2 : ∀ k j, xk k → 2 ≤ k → ¬ S k j := fun k j a b z => by rcases hs k j z with q | q | q <;> first | exact absurd a q | omega
  exact ⟨h1.fr hf (fun k j z1 z2 => N2 k j (by unfold xk; omega) (by omega)), h2.fr hf (fun k j z1 z2 => N2 k j (by unfold xk; omega) (by omega)), h3.fr hf (fun k j z1 => N2 k j (by unfold xk; omega) (by omega)), h4.fr hf (fun k j z1 z2 => N2 k j (by unfold xk; omega) (by omega)), h5.fr hf (fun k j z1 z2 => N2 k j (by unfold xk; omega) (by omega)), hb, by rw [hf.I _ _ (N2 _ _ (by unfold xk; omega) (by omega))]; exact h7⟩
theorem MS.ku (h : MS m l s) (hf : Fr S m m') (hs : ∀ k j, S k j → ¬ mk2 k j ∨ (93 ≤ k ∧ k ≤ 96) ∨ (k = 56 ∧ 58 ≤ j ∧ j ≤ 61)) {k : CD} {u : Nat × (Nat → Nat → Nat)} (hk : MC m' (tdN (ssD s)) (tdG (ssD s)) k) (hu : MU m' (tdN (ssD s)) u.1 u.2) : MS m' l (sKU s k u) := by
  obtain ⟨h1, h2, h3, h4, h5, h6, h7⟩ := h
  have N2 : ∀ k j, mk2 k j → ¬ (93 ≤ k ∧ k ≤ 96) → ¬ (k = 56 ∧ 58 ≤ j ∧ j ≤ 61) → ¬ S k j := fun k j a b d z => by rcases hs k j z with q | q | q <;> first | exact absurd a q | omega
  exact ⟨h1.fr hf (fun k j z => N2 k j (by unfold mk2; omega) (by omega) (by omega)), hk, hu, h4.fr hf (fun k j z1 z2 => N2 k j (by unfold mk2; omega) (by omega) (by omega)), h5.fr hf (fun k j z => N2 k j (by unfold mk2; omega) (by omega) (by omega)), ⟨by rw [hf.I _ _ (N2 _ _ (by unfold mk2; omega) (by omega) (by omega))]; exact h6.1, fun i => by rw [hf.I _ _ (N2 _ _ (by unfold mk2; omega) (by omega) (by omega))]; exact h6.2 i⟩, by rw [hf.I _ _ (N2 _ _ (by unfold mk2; omega) (by omega) (by omega))]; exact h7⟩
theorem MS.sb (h : MS m l s) (hf : Fr S m m') (hs : ∀ k j, S k j → ¬ mk2 k j ∨ (113 ≤ k ∧ k ≤ 119)) {f : (Nat → Bool) × (Nat → CD)} (hb : MB2 m' (tdN (ssD s)) (tdG (ssD s)) f.1 f.2) : MS m' l (sB s f) := by
  obtain ⟨h1, h2, h3, h4, h5, h6, h7⟩ := h
  have N2 : ∀ k j, mk2 k j → ¬ (113 ≤ k ∧ k ≤ 119) → ¬ S k j := fun k j a b z => by rcases hs k j z with q | q <;> first | exact absurd a q | omega
  exact ⟨h1.fr hf (fun k j z => N2 k j (by unfold mk2; omega) (by omega)), h2.fr hf (fun k j z => N2 k j (by unfold mk2; omega) (by omega)), h3.fr hf (fun k j z => N2 k j (by unfold mk2; omega) (by omega)), hb, h5.fr hf (fun k j z => N2 k j (by unfold mk2; omega) (by omega)), ⟨by rw [hf.I _ _ (N2 _ _ (by unfold mk2; omega) (by omega))]; exact h6.1, fun i => by rw [hf.I _ _ (N2 _ _ (by unfold mk2; omega) (by omega))]; exact h6.2 i⟩, by rw [hf.I _ _ (N2 _ _ (by unfold mk2; omega) (by omega))]; exact h7⟩
theorem MS.sq (h : MS m l s) (hf : Fr S m m') (hs : ∀ k j, S k j → ¬ mk2 k j ∨ (k = 56 ∧ j = 79) ∨ (109 ≤ k ∧ k ≤ 111)) {q : Nat × (Nat → Int32) × (Nat → Int32) × (Nat → Int32)} (hb : MQ2 m' q.1 q.2.1 q.2.2.1 q.2.2.2) : MS m' l (sQ s q) := by
  obtain ⟨h1, h2, h3, h4, h5, h6, h7⟩ := h
  have N2 : ∀ k j, mk2 k j → ¬ (k = 56 ∧ j = 79) → ¬ (109 ≤ k ∧ k ≤ 111) → ¬ S k j := fun k j a b d z => by rcases hs k j z with q | q | q <;> first | exact absurd a q | omega
  exact ⟨h1.fr hf (fun k j z => N2 k j (by unfold mk2; omega) (by omega) (by omega)), h2.fr hf (fun k j z => N2 k j (by unfold mk2; omega) (by omega) (by omega)), h3.fr hf (fun k j z => N2 k j (by unfold mk2; omega) (by omega) (by omega)), h4.fr hf (fun k j z1 z2 => N2 k j (by unfold mk2; omega) (by omega) (by omega)), hb, ⟨by rw [hf.I _ _ (N2 _ _ (by unfold mk2; omega) (by omega) (by omega))]; exact h6.1, fun i => by rw [hf.I _ _ (N2 _ _ (by unfold mk2; omega) (by omega) (by omega))]; exact h6.2 i⟩, by rw [hf.I _ _ (N2 _ _ (by unfold mk2; omega) (by omega) (by omega))]; exact h7⟩
theorem MS.sy (h : MS m l s) (hf : Fr S m m') (hs : ∀ k j, S k j → ¬ mk2 k j ∨ (k = 56 ∧ j = 2) ∨ k = 57) {y : Nat × (Nat → Int32)} (hb : hI m' 56 2 = nI y.1 ∧ ∀ i, hI m' 57 i = y.2 i) : MS m' l (sY s y) := by
  obtain ⟨h1, h2, h3, h4, h5, h6, h7⟩ := h
  have N2 : ∀ k j, mk2 k j → ¬ (k = 56 ∧ j = 2) → ¬ k = 57 → ¬ S k j := fun k j a b d z => by rcases hs k j z with q | q | q <;> first | exact absurd a q | omega
  exact ⟨h1.fr hf (fun k j z => N2 k j (by unfold mk2; omega) (by omega) (by omega)), h2.fr hf (fun k j z => N2 k j (by unfold mk2; omega) (by omega) (by omega)), h3.fr hf (fun k j z => N2 k j (by unfold mk2; omega) (by omega) (by omega)), h4.fr hf (fun k j z1 z2 => N2 k j (by unfold mk2; omega) (by omega) (by omega)), h5.fr hf (fun k j z => N2 k j (by unfold mk2; omega) (by omega) (by omega)), hb, by rw [hf.I _ _ (N2 _ _ (by unfold mk2; omega) (by omega) (by omega))]; exact h7⟩
end BL
/-! numbers that are told -/
def isR (a b : Nat) (x : Int32) : Prop := ∃ j, a ≤ j ∧ j ≤ b ∧ x = nI j
theorem isRx {a b : Nat} (ha : a < 2 ^ 31) (hb : b < 2 ^ 31) (x : Int32) : isR a b x ↔ (¬ x < nI a ∧ ¬ nI b < x) := by
  constructor
  · rintro ⟨j, h1, h2, rfl⟩
    exact ⟨nI_nlt h1 (by omega), nI_nlt h2 hb⟩
  · rintro ⟨h1, h2⟩
    rw [Int32.lt_iff_toInt_lt, nI_toInt ha] at h1
    rw [Int32.lt_iff_toInt_lt, nI_toInt hb] at h2
    refine ⟨x.toInt.toNat, by omega, by omega, ?_⟩
    apply Int32.toInt_inj.mp
    rw [nI_toInt (by omega)]
    omega
theorem isRm {a b : Nat} (ha : a < 2 ^ 31) (hb : b < 2 ^ 31) (x : Int32) : (nI a ≤ x ∧ x ≤ nI b) ↔ isR a b x := by
  rw [isRx ha hb]
  rw [Int32.le_iff_toInt_le, Int32.le_iff_toInt_le, Int32.lt_iff_toInt_lt, Int32.lt_iff_toInt_lt]
  omega
theorem isBx {n : Nat} (hn : n < 2 ^ 31) (x : Int32) : isB n x ↔ (¬ x < 0 ∧ ¬ nI n ≤ x) := by
  constructor
  · rintro ⟨b, hb, rfl⟩
    exact ⟨nI_pos (by omega), nI_ge hb hn⟩
  · rintro ⟨h1, h2⟩
    rw [Int32.lt_iff_toInt_lt, show (0 : Int32).toInt = 0 from rfl] at h1
    rw [Int32.le_iff_toInt_le, nI_toInt hn] at h2
    refine ⟨x.toInt.toNat, by omega, ?_⟩
    apply Int32.toInt_inj.mp
    rw [nI_toInt (by omega)]
    omega
theorem isBm {n : Nat} (hn : n < 2 ^ 30) (x : Int32) : ((0 : Int32) ≤ x ∧ x ≤ nI n - 1) ↔ isB n x := by
  rw [isBx (by omega)]
  have hx : (nI n - 1).toInt = (n : Int) - 1 := by
    rw [lit_1, pk_sub_toInt (by omega) (by omega)]
    rfl
  rw [Int32.le_iff_toInt_le, Int32.le_iff_toInt_le, Int32.lt_iff_toInt_lt, Int32.le_iff_toInt_le, hx, nI_toInt (show n < 2 ^ 31 by omega), show (0 : Int32).toInt = 0 from rfl]
  omega
theorem inB {m : M2} {n : Nat} (hn : n < 2 ^ 30) (x : Int32) : (isB n x → F_X12_in x 0 (nI n - 1) m = some (1, m)) ∧ (¬ isB n x → F_X12_in x 0 (nI n - 1) m = some (0, m)) :=
  ⟨fun h => by rw [m_in, if_pos ((isBm hn x).mpr h)], fun h => by rw [m_in, if_neg (fun z => h ((isBm hn x).mp z))]⟩
theorem inR {m : M2} {a b : Nat} (ha : a < 2 ^ 31) (hb : b < 2 ^ 31) (x : Int32) : (isR a b x → F_X12_in x (nI a) (nI b) m = some (1, m)) ∧ (¬ isR a b x → F_X12_in x (nI a) (nI b) m = some (0, m)) :=
  ⟨fun h => by rw [m_in, if_pos ((isRm ha hb x).mpr h)], fun h => by rw [m_in, if_neg (fun z => h ((isRm ha hb x).mp z))]⟩
theorem xB1 {m : M2} {c n : Nat} {x : Int32} (hn : hI m c 5 = nI n) (h12 : n ≤ 12) (h : isB n x) : F_X11_isBench c x m = some (1, m) := by
  rcases x_isBench hn h12 x with ⟨_, z⟩ | ⟨z, _⟩
  · exact z
  · exact absurd h z
theorem xB0 {m : M2} {c n : Nat} {x : Int32} (hn : hI m c 5 = nI n) (h12 : n ≤ 12) (h : ¬ isB n x) : F_X11_isBench c x m = some (0, m) := by
  rcases x_isBench hn h12 x with ⟨z, _⟩ | ⟨_, z⟩
  · exact absurd z h
  · exact z
theorem mB1 {m : M2} {l n : Nat} {x : Int32} (hl : hI m 56 18 = nI l) (h2 : l < 2) (hn : hI m 74 l = nI n) (h12 : n ≤ 12) (h : isB n x) : F_X12_isBench x m = some (1, m) := by
  rcases m_isBench hl h2 hn h12 x with ⟨_, z⟩ | ⟨z, _⟩
  · exact z
  · exact absurd h z
theorem mB0 {m : M2} {l n : Nat} {x : Int32} (hl : hI m 56 18 = nI l) (h2 : l < 2) (hn : hI m 74 l = nI n) (h12 : n ≤ 12) (h : ¬ isB n x) : F_X12_isBench x m = some (0, m) := by
  rcases m_isBench hl h2 hn h12 x with ⟨z, _⟩ | ⟨_, z⟩
  · exact absurd z h
  · exact z
