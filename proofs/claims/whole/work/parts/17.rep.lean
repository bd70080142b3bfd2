/-! ===== what the two memories stand for ===== -/
/-- a text: the laws' evaluation, PARTS, MEN, LAWS, LAG, song, drum, FOGS, from, to, the men's laws, where they begin -/
abbrev TD : Type := Ev × Nat × Nat × Nat × Nat × Int32 × Int32 × Nat × (Nat → Int32) × (Nat → Int32) × (Nat → Int32) × (Nat → Nat)
def tdE (d : TD) : Ev := d.1
def tdP (d : TD) : Nat := d.2.1
def tdN (d : TD) : Nat := d.2.2.1
def tdL (d : TD) : Nat := d.2.2.2.1
def tdG (d : TD) : Nat := d.2.2.2.2.1
def tdS (d : TD) : Int32 := d.2.2.2.2.2.1
def tdD (d : TD) : Int32 := d.2.2.2.2.2.2.1
def tdF (d : TD) : Nat := d.2.2.2.2.2.2.2.1
def tdA (d : TD) : Nat → Int32 := d.2.2.2.2.2.2.2.2.1
def tdB (d : TD) : Nat → Int32 := d.2.2.2.2.2.2.2.2.2.1
def tdO (d : TD) : Nat → Int32 := d.2.2.2.2.2.2.2.2.2.2.1
def tdT (d : TD) : Nat → Nat := d.2.2.2.2.2.2.2.2.2.2.2
/-- a crew: TIMES, men, laws by bench, the drum, the stroke -/
abbrev CD : Type := (Nat → Nat) × (Nat → Int32) × (Nat → Int32) × Int32 × Int32
def cdT (k : CD) : Nat → Nat := k.1
def cdM (k : CD) : Nat → Int32 := k.2.1
def cdL (k : CD) : Nat → Int32 := k.2.2.1
def cdD (k : CD) : Int32 := k.2.2.2.1
def cdS (k : CD) : Int32 := k.2.2.2.2
/-- a text that may be in place -/
def VT (d : TD) : Prop := (3 ≤ tdP d ∧ tdP d ≤ 24) ∧ tdN d ≤ 12 ∧ tdL d ≤ 6 ∧ tdG d ≤ 23 ∧ (tdS d = -1 ∨ ∃ s, s < tdP d ∧ tdS d = nI s) ∧ Dr (tdP d) (tdD d) ∧ tdF d ≤ 4 ∧ LwOk (tdL d) (tdN d) (tdO d) ∧ (∀ b, b < tdN d → tdT d b < tdP d) ∧ EvOk (tdE d) (tdP d) (tdL d) ∧ (tdD d = -1 → tdG d = 0)
def VC (d : TD) (k : CD) : Prop := (∀ b, b < tdN d → cdT k b < tdP d) ∧ LwOk (tdL d) (tdN d) (cdL k) ∧ Dr (tdP d) (cdD k) ∧ (cdD k = -1 → tdG d = 0)
/-- the class's text in the cell c -/
def XT (m : M2) (c : Nat) (d : TD) : Prop := TxC m c (tdP d) (tdN d) (tdL d) (tdG d) (tdS d) ∧ hI m c 8 = tdD d ∧ hI m c 11 = nI (tdF d) ∧ (∀ i, i < tdF d → hI m (c + 4) i = tdA d i ∧ hI m (c + 5) i = tdB d i) ∧ (∀ b, b < tdN d → hI m (c + 3) b = tdO d b) ∧ hJ m c 7 = lN (pk (tdT d) (tdN d)) ∧ LwC m c (tdP d) (tdL d) (tdE d)
/-- the reference's text, on the side l -/
def MT (m : M2) (l : Nat) (d : TD) : Prop := TxM m l (tdP d) (tdN d) (tdL d) (tdS d) ∧ hI m 77 l = tdD d ∧ hI m 78 l = nI (tdG d) ∧ hI m 80 l = nI (tdF d) ∧ (∀ i, i < tdF d → hI m 81 (4 * l + i) = tdA d i ∧ hI m 82 (4 * l + i) = tdB d i) ∧ (∀ b, b < tdN d → hI m 75 (12 * l + b) = tdO d b ∧ hI m 76 (12 * l + b) = nI (tdT d b)) ∧ LwM m l (tdL d) (tdE d)
/-- the class's crew in the cell w -/
def XC (m : M2) (w n : Nat) (k : CD) : Prop := hJ m w 0 = lN (pk (cdT k) n) ∧ (∀ b, b < n → hI m (w + 1) b = cdM k b ∧ hI m (w + 2) b = cdL k b) ∧ hI m w 3 = cdD k ∧ hI m w 4 = cdS k
/-- the reference's crew -/
def MC (m : M2) (n lag : Nat) (k : CD) : Prop := (∀ b, b < n → hI m 93 b = nI (cdT k b) ∧ hI m 94 b = cdM k b ∧ hI m 95 b = cdL k b) ∧ hI m 56 58 = cdD k ∧ hI m 56 59 = nI lag ∧ hI m 56 60 = cdS k
theorem XT.fr {S : Nat → Nat → Prop} {m m' : M2} {c : Nat} {d : TD} (h : XT m c d) (hf : Fr S m m') (hs : ∀ k j, c ≤ k → k ≤ c + 5 → ¬ S k j) : XT m' c d := by
  obtain ⟨h1, h2, h3, h4, h5, h6, h7⟩ := h
  exact ⟨h1.fr hf (fun j => hs _ _ (by omega) (by omega)), by rw [hf.I _ _ (hs _ _ (by omega) (by omega))]; exact h2, by rw [hf.I _ _ (hs _ _ (by omega) (by omega))]; exact h3, fun i hi => ⟨by rw [hf.I _ _ (hs _ _ (by omega) (by omega))]; exact (h4 i hi).1, by rw [hf.I _ _ (hs _ _ (by omega) (by omega))]; exact (h4 i hi).2⟩, fun b hb => by rw [hf.I _ _ (hs _ _ (by omega) (by omega))]; exact h5 b hb, by rw [hf.J _ _ (hs _ _ (by omega) (by omega))]; exact h6, h7.fr hf hs⟩
theorem MT.fr {S : Nat → Nat → Prop} {m m' : M2} {l : Nat} {d : TD} (h : MT m l d) (hf : Fr S m m') (hs : ∀ k j, (66 ≤ k ∧ k ≤ 90) ∨ (k = 56 ∧ j = 18) → ¬ S k j) : MT m' l d := by
  obtain ⟨h1, h2, h3, h4, h5, h6, h7⟩ := h
  exact ⟨h1.fr hf hs, by rw [hf.I _ _ (hs _ _ (by omega))]; exact h2, by rw [hf.I _ _ (hs _ _ (by omega))]; exact h3, by rw [hf.I _ _ (hs _ _ (by omega))]; exact h4, fun i hi => ⟨by rw [hf.I _ _ (hs _ _ (by omega))]; exact (h5 i hi).1, by rw [hf.I _ _ (hs _ _ (by omega))]; exact (h5 i hi).2⟩, fun b hb => ⟨by rw [hf.I _ _ (hs _ _ (by omega))]; exact (h6 b hb).1, by rw [hf.I _ _ (hs _ _ (by omega))]; exact (h6 b hb).2⟩, h7.fr hf hs⟩
theorem MT.fr2 {S : Nat → Nat → Prop} {m m' : M2} {l : Nat} {d : TD} (hn : tdN d ≤ 12) (hF : tdF d ≤ 4) (h : MT m l d) (hf : Fr S m m') (hs : ∀ k j, lvs l k j → ¬ S k j) : MT m' l d := by
  obtain ⟨⟨a1, a2, a3, a4, a5, a6⟩, h2, h3, h4, h5, h6, h7⟩ := h
  have I : ∀ k j, lvs l k j → hI m' k j = hI m k j := fun k j z => hf.I _ _ (hs k j z)
  exact ⟨⟨(I _ _ (by unfold lvs; omega)).trans a1, a2, (I _ _ (by unfold lvs; omega)).trans a3, (I _ _ (by unfold lvs; omega)).trans a4, (I _ _ (by unfold lvs; omega)).trans a5, (I _ _ (by unfold lvs; omega)).trans a6⟩, (I _ _ (by unfold lvs; omega)).trans h2, (I _ _ (by unfold lvs; omega)).trans h3, (I _ _ (by unfold lvs; omega)).trans h4, fun i hi => ⟨(I _ _ (by unfold lvs; omega)).trans (h5 i hi).1, (I _ _ (by unfold lvs; omega)).trans (h5 i hi).2⟩, fun b hb => ⟨(I _ _ (by unfold lvs; omega)).trans (h6 b hb).1, (I _ _ (by unfold lvs; omega)).trans (h6 b hb).2⟩, h7.fr2 hf hs⟩
theorem XC.fr {S : Nat → Nat → Prop} {m m' : M2} {w n : Nat} {k : CD} (h : XC m w n k) (hf : Fr S m m') (hs : ∀ k j, w ≤ k → k ≤ w + 2 → ¬ S k j) : XC m' w n k := by
  obtain ⟨h1, h2, h3, h4⟩ := h
  exact ⟨by rw [hf.J _ _ (hs _ _ (by omega) (by omega))]; exact h1, fun b hb => ⟨by rw [hf.I _ _ (hs _ _ (by omega) (by omega))]; exact (h2 b hb).1, by rw [hf.I _ _ (hs _ _ (by omega) (by omega))]; exact (h2 b hb).2⟩, by rw [hf.I _ _ (hs _ _ (by omega) (by omega))]; exact h3, by rw [hf.I _ _ (hs _ _ (by omega) (by omega))]; exact h4⟩
theorem MC.fr {S : Nat → Nat → Prop} {m m' : M2} {n lag : Nat} {k : CD} (h : MC m n lag k) (hf : Fr S m m') (hs : ∀ k j, (93 ≤ k ∧ k ≤ 95) ∨ (k = 56 ∧ (j = 58 ∨ j = 59 ∨ j = 60)) → ¬ S k j) : MC m' n lag k := by
  obtain ⟨h1, h2, h3, h4⟩ := h
  exact ⟨fun b hb => ⟨by rw [hf.I _ _ (hs _ _ (by omega))]; exact (h1 b hb).1, by rw [hf.I _ _ (hs _ _ (by omega))]; exact (h1 b hb).2.1, by rw [hf.I _ _ (hs _ _ (by omega))]; exact (h1 b hb).2.2⟩, by rw [hf.I _ _ (hs _ _ (by omega))]; exact h2, by rw [hf.I _ _ (hs _ _ (by omega))]; exact h3, by rw [hf.I _ _ (hs _ _ (by omega))]; exact h4⟩
/-! fog -/
def fgB (a b : Nat → Int32) (s : Int32) : Nat → Int32
  | 0 => 0
  | k + 1 => if a k ≤ s ∧ s ≤ b k then 1 else fgB a b s k
theorem fgB_1 {a b : Nat → Int32} {s : Int32} : ∀ {f i : Nat}, i < f → (a i ≤ s ∧ s ≤ b i) → fgB a b s f = 1
  | f + 1, i, hi, h => by
    unfold fgB
    split
    · rfl
    · next hn =>
      by_cases e : i = f
      · subst e; exact absurd h hn
      · exact fgB_1 (by omega) h
theorem fgB_0 {a b : Nat → Int32} {s : Int32} : ∀ {f : Nat}, (∀ i, i < f → ¬ (a i ≤ s ∧ s ≤ b i)) → fgB a b s f = 0
  | 0, _ => rfl
  | f + 1, h => by
    unfold fgB
    rw [if_neg (h f (by omega))]
    exact fgB_0 (fun i hi => h i (by omega))
theorem fgB_or (a b : Nat → Int32) (s : Int32) (f : Nat) : fgB a b s f = 0 ∨ fgB a b s f = 1 := by
  by_cases h : ∃ i, i < f ∧ (a i ≤ s ∧ s ≤ b i)
  · obtain ⟨i, hi, h⟩ := h
    exact Or.inr (fgB_1 hi h)
  · exact Or.inl (fgB_0 (fun i hi z => h ⟨i, hi, z⟩))
/-- 1 if the stroke s is in fog -/
def fogd (d : TD) (s : Int32) : Int32 := fgB (tdA d) (tdB d) s (tdF d)
theorem nlt_le {x y : Int32} (h : ¬ x < y) : y ≤ x := by
  rw [Int32.le_iff_toInt_le]; rw [Int32.lt_iff_toInt_lt] at h; omega
theorem lt_nle {x y : Int32} (h : x < y) : ¬ y ≤ x := by
  rw [Int32.le_iff_toInt_le]; rw [Int32.lt_iff_toInt_lt] at h; omega
theorem x_isFog {m : M2} {c : Nat} {d : TD} (hX : XT m c d) (hV : VT d) (s : Int32) : F_X7_isFog c s m = some (fogd d s, m) := by
  obtain ⟨h1, h2, h3, h4, h5, h6, h7⟩ := hX
  have hf : tdF d ≤ 4 := hV.2.2.2.2.2.2.1
  unfold F_X7_isFog fogd
  have key : ∃ e, loop (g_X7_isFog_2 c s) ((0 : Int32), m) = some e ∧ ((e = Sum.inl m ∧ fgB (tdA d) (tdB d) s (tdF d) = 1) ∨ (e = Sum.inr m ∧ fgB (tdA d) (tdB d) s (tdF d) = 0)) := by
    refine loop_ex (tdF d) (fun k z => z = (nI k, m) ∧ ∀ i, i < k → ¬ (tdA d i ≤ s ∧ s ≤ tdB d i)) _ (by omega) ?_ ?_ ⟨rfl, fun i hi => by omega⟩
    · rintro k z hk ⟨rfl, i2⟩
      show (∃ s', f_X7_isFog_2 c s (nI k) m = some (Sum.inl s') ∧ _) ∨ ∃ e, f_X7_isFog_2 c s (nI k) m = some (Sum.inr e) ∧ _
      unfold f_X7_isFog_2
      rw [h3, if_neg (nI_ge hk (by omega)), aI_n _ (c + 4) (show k < 4 by omega) (by omega), bind_s, (h4 k hk).1]
      have go : ¬ (tdA d k ≤ s ∧ s ≤ tdB d k) → ∃ s', f_X7_isFog_32 c s (nI k) m = some (Sum.inl s') ∧ s' = (nI (k + 1), m) ∧ ∀ i, i < k + 1 → ¬ (tdA d i ≤ s ∧ s ≤ tdB d i) := by
        intro hn
        refine ⟨_, rfl, by rw [nI_1], fun i hi => ?_⟩
        by_cases e : i = k
        · subst e; exact hn
        · exact i2 i (by omega)
      by_cases c1 : s < tdA d k
      · rw [if_pos c1]
        exact Or.inl (go (fun z => lt_nle c1 z.1))
      · rw [if_neg c1, aI_n _ (c + 5) (show k < 4 by omega) (by omega), bind_s, (h4 k hk).2]
        by_cases c2 : tdB d k < s
        · rw [if_pos c2]
          exact Or.inl (go (fun z => lt_nle c2 z.2))
        · rw [if_neg c2]
          exact Or.inr ⟨_, rfl, Or.inl ⟨rfl, fgB_1 hk ⟨nlt_le c1, nlt_le c2⟩⟩⟩
    · rintro z ⟨rfl, i2⟩
      show ∃ e, f_X7_isFog_2 c s (nI (tdF d)) m = some (Sum.inr e) ∧ _
      unfold f_X7_isFog_2
      rw [h3, if_pos (nI_le (Nat.le_refl _) (by omega))]
      exact ⟨_, rfl, Or.inr ⟨rfl, fgB_0 i2⟩⟩
  obtain ⟨e, e1, ⟨rfl, e2⟩ | ⟨rfl, e2⟩⟩ := key
  · rw [e1, bind_s, e2]; rfl
  · rw [e1, bind_s, e2]; rfl
theorem m_isFog {m : M2} {l : Nat} {d : TD} (hM : MT m l d) (hV : VT d) (s : Int32) : F_X12_isFog s m = some (fogd d s, m) := by
  obtain ⟨⟨t1, t2, t3, t4, t5, t6⟩, h2, h3, h4, h5, h6, h7⟩ := hM
  have hf : tdF d ≤ 4 := hV.2.2.2.2.2.2.1
  unfold F_X12_isFog fogd
  have key : ∃ e, loop (g_X12_isFog_2 s) ((0 : Int32), m) = some e ∧ ((e = Sum.inl m ∧ fgB (tdA d) (tdB d) s (tdF d) = 1) ∨ (e = Sum.inr m ∧ fgB (tdA d) (tdB d) s (tdF d) = 0)) := by
    refine loop_ex (tdF d) (fun k z => z = (nI k, m) ∧ ∀ i, i < k → ¬ (tdA d i ≤ s ∧ s ≤ tdB d i)) _ (by omega) ?_ ?_ ⟨rfl, fun i hi => by omega⟩
    · rintro k z hk ⟨rfl, i2⟩
      show (∃ s', f_X12_isFog_2 s (nI k) m = some (Sum.inl s') ∧ _) ∨ ∃ e, f_X12_isFog_2 s (nI k) m = some (Sum.inr e) ∧ _
      unfold f_X12_isFog_2
      have e4 : (4 : Int32) * nI l + nI k = nI (4 * l + k) := by rw [lit_4, pk_mul, nI_add]
      rw [t1, aI_n _ 80 t2 (by omega), bind_s, h4, if_neg (nI_ge hk (by omega)), e4, aI_n _ 81 (show 4 * l + k < 8 by omega) (by omega), bind_s, aI_n _ 82 (show 4 * l + k < 8 by omega) (by omega), bind_s, (h5 k hk).1, (h5 k hk).2, m_in, bind_s]
      dsimp only
      by_cases c1 : tdA d k ≤ s ∧ s ≤ tdB d k
      · rw [if_pos c1, if_neg (by decide)]
        exact Or.inr ⟨_, rfl, Or.inl ⟨rfl, fgB_1 hk c1⟩⟩
      · rw [if_neg c1, if_pos rfl, nmI_e, bind_s]
        refine Or.inl ⟨_, rfl, by rw [nI_1], fun i hi => ?_⟩
        by_cases e : i = k
        · subst e; exact c1
        · exact i2 i (by omega)
    · rintro z ⟨rfl, i2⟩
      show ∃ e, f_X12_isFog_2 s (nI (tdF d)) m = some (Sum.inr e) ∧ _
      unfold f_X12_isFog_2
      rw [t1, aI_n _ 80 t2 (by omega), bind_s, h4, if_pos (nI_le (Nat.le_refl _) (by omega))]
      exact ⟨_, rfl, Or.inr ⟨rfl, fgB_0 i2⟩⟩
  obtain ⟨e, e1, ⟨rfl, e2⟩ | ⟨rfl, e2⟩⟩ := key
  · rw [e1, bind_s, e2]; rfl
  · rw [e1, bind_s, e2]; rfl
/-! benches -/
def isB (n : Nat) (x : Int32) : Prop := ∃ b, b < n ∧ x = nI b
theorem isB_iff {n : Nat} (hn : n ≤ 12) (x : Int32) : isB n x ↔ (¬ x < 0 ∧ ¬ nI n ≤ x) := by
  constructor
  · rintro ⟨b, hb, rfl⟩
    exact ⟨nI_pos (by omega), nI_ge hb (by omega)⟩
  · rintro ⟨h1, h2⟩
    rcases pk_ix x (n := n) (by omega) with h | h | ⟨j, hj, h⟩
    · exact absurd h h1
    · exact absurd h h2
    · exact ⟨j, hj, h⟩
theorem x_isBench {m : M2} {c n : Nat} (hn : hI m c 5 = nI n) (h12 : n ≤ 12) (x : Int32) : (isB n x ∧ F_X11_isBench c x m = some (1, m)) ∨ (¬ isB n x ∧ F_X11_isBench c x m = some (0, m)) := by
  rw [isB_iff h12]
  unfold F_X11_isBench
  by_cases h1 : x < 0
  · rw [if_pos h1]
    exact Or.inr ⟨fun z => z.1 h1, rfl⟩
  · rw [if_neg h1, hn]
    by_cases h2 : nI n ≤ x
    · rw [if_pos h2]
      exact Or.inr ⟨fun z => z.2 h2, rfl⟩
    · rw [if_neg h2]
      exact Or.inl ⟨⟨h1, h2⟩, rfl⟩
theorem m_isBench {m : M2} {l n : Nat} (hl : hI m 56 18 = nI l) (h2 : l < 2) (hn : hI m 74 l = nI n) (h12 : n ≤ 12) (x : Int32) : (isB n x ∧ F_X12_isBench x m = some (1, m)) ∨ (¬ isB n x ∧ F_X12_isBench x m = some (0, m)) := by
  unfold F_X12_isBench
  rw [m_menNow hl h2 hn, bind_s]
  dsimp only
  rw [m_in, bind_s]
  have e : ((0 : Int32) ≤ x ∧ x ≤ nI n - 1) ↔ isB n x := by
    rw [isB_iff h12]
    have hx : (nI n - 1).toInt = (n : Int) - 1 := by
      rw [lit_1, pk_sub_toInt (by omega) (by omega)]
      rfl
    rw [Int32.le_iff_toInt_le, Int32.le_iff_toInt_le, Int32.lt_iff_toInt_lt, Int32.le_iff_toInt_le, hx, nI_toInt (show n < 2 ^ 31 by omega), show (0 : Int32).toInt = 0 from rfl]
    omega
  by_cases h : isB n x
  · rw [if_pos (e.mpr h)]
    exact Or.inl ⟨h, rfl⟩
  · rw [if_neg (fun z => h (e.mp z))]
    exact Or.inr ⟨h, rfl⟩
/-! the reference takes its crew into the rows -/
abbrev StM : Nat → Nat → Prop := fun k j => k = 97 ∨ k = 98 ∨ (k = 56 ∧ (j = 65 ∨ j = 66 ∨ j = 67))
theorem m_takes {m : M2} {l n lag : Nat} {k : CD} (hl : hI m 56 18 = nI l) (h2 : l < 2) (hn : hI m 74 l = nI n) (h12 : n ≤ 12) (hC : MC m n lag k) : ∃ m', F_X12_takes m = some m' ∧ RwM m' n lag (cdD k) (cdL k) (cdT k) ∧ Fr StM m m' := by
  obtain ⟨c1, c2, c3, c4⟩ := hC
  unfold F_X12_takes
  rw [m_menNow hl h2 hn, bind_s, qI_e, bind_s, qI_e, bind_s, qI_e, bind_s]
  have e1 : hI (tI m 56 65 (nI n)) 56 58 = cdD k := by simp [hI_tI, c2]
  have e2 : hI (tI (tI m 56 65 (nI n)) 56 66 (cdD k)) 56 59 = nI lag := by simp [hI_tI, c3]
  dsimp only
  rw [e1, e2]
  have f0 : Fr StM m (tI (tI (tI m 56 65 (nI n)) 56 66 (cdD k)) 56 67 (nI lag)) := ((Fr.rf.tI _ (by omega)).tI _ (by omega)).tI _ (by omega)
  have g0 : hI (tI (tI (tI m 56 65 (nI n)) 56 66 (cdD k)) 56 67 (nI lag)) 56 65 = nI n ∧ hI (tI (tI (tI m 56 65 (nI n)) 56 66 (cdD k)) 56 67 (nI lag)) 56 66 = cdD k ∧ hI (tI (tI (tI m 56 65 (nI n)) 56 66 (cdD k)) 56 67 (nI lag)) 56 67 = nI lag := by simp [hI_tI]
  generalize tI (tI (tI m 56 65 (nI n)) 56 66 (cdD k)) 56 67 (nI lag) = m1 at f0 g0 ⊢
  have key : ∃ e, loop g_X12_takes_26 ((0 : Int32), m1) = some e ∧ RwM e n lag (cdD k) (cdL k) (cdT k) ∧ Fr StM m e := by
    refine loop_to n (fun j s => s.1 = nI j ∧ (∀ b, b < j → hI s.2 97 b = nI (cdT k b) ∧ hI s.2 98 b = cdL k b) ∧ (hI s.2 56 65 = nI n ∧ hI s.2 56 66 = cdD k ∧ hI s.2 56 67 = nI lag) ∧ Fr StM m s.2) _ (by omega) ?_ ?_ ⟨rfl, fun b hb => by omega, g0, f0⟩
    · rintro j ⟨x, m2⟩ hj ⟨i1, i2, i3, i4⟩
      dsimp only at i1 i2 i3 i4
      subst i1
      show ∃ s', f_X12_takes_26 (nI j) m2 = some (Sum.inl s') ∧ _
      unfold f_X12_takes_26
      rw [i3.1, if_neg (nI_ge hj (by omega)), aI_n _ 93 (show j < 12 by omega) (by omega), bind_s, bI_n _ 97 _ (show j < 12 by omega) (by omega), bind_s, aI_n _ 95 (show j < 12 by omega) (by omega), bind_s, bI_n _ 98 _ (show j < 12 by omega) (by omega), bind_s, nmI_e, bind_s]
      have e93 : hI m2 93 j = nI (cdT k j) := by rw [i4.I _ _ (by omega)]; exact (c1 j hj).1
      have e95 : hI (tI m2 97 j (hI m2 93 j)) 95 j = cdL k j := by rw [hI_tI, if_neg (by omega), i4.I _ _ (by omega)]; exact (c1 j hj).2.2
      refine ⟨_, rfl, nI_1 j, fun b hb => ?_, ?_, (i4.tI _ (by omega)).tI _ (by omega)⟩
      · show hI (tI (tI m2 97 j (hI m2 93 j)) 98 j _) 97 b = _ ∧ hI (tI (tI m2 97 j (hI m2 93 j)) 98 j _) 98 b = _
        rw [e95, e93]
        by_cases e : b = j
        · subst e
          simp [hI_tI]
        · have := i2 b (by omega)
          simp [hI_tI, e, this.1, this.2]
      · simp [hI_tI, i3]
    · rintro ⟨x, m2⟩ ⟨i1, i2, i3, i4⟩
      dsimp only at i1 i2 i3 i4
      subst i1
      show ∃ e, f_X12_takes_26 (nI n) m2 = some (Sum.inr e) ∧ _
      unfold f_X12_takes_26
      rw [i3.1, if_pos (nI_le (Nat.le_refl n) (by omega))]
      exact ⟨_, rfl, ⟨i3.1, i3.2.1, i3.2.2, fun b hb => (i2 b hb).1, fun b hb => (i2 b hb).2⟩, i4⟩
  obtain ⟨e, e3, e4, e5⟩ := key
  rw [e3, bind_s]
  exact ⟨e, rfl, e4, e5⟩
