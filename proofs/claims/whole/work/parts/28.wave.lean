/-! ===== wave ===== -/
def Rn (G : Nat → Int) (b e : Nat) : Prop := b < e ∧ G e ≠ 0 ∧ ∀ i, b < i → i ≤ e → G i = G e
def Wst (G : Nat → Int) (B E most first : Nat) (g : Int) : Prop := (most < 2 ∧ ∀ b e, b < B → e < E → ¬ Rn G b e) ∨ ((2 ≤ most ∧ first < B ∧ first + most - 1 < E ∧ Rn G first (first + most - 1) ∧ g = G (first + most - 1)) ∧ ∀ b e, b < B → e < E → Rn G b e → e - b + 1 ≤ most ∧ (e - b + 1 = most → first ≤ b))
theorem wst_unique {G : Nat → Int} {N m1 f1 m2 f2 : Nat} {g1 g2 : Int} (h1 : Wst G N N m1 f1 g1) (h2 : Wst G N N m2 f2 g2) : (m1 < 2 ∧ m2 < 2) ∨ (2 ≤ m1 ∧ m1 = m2 ∧ f1 = f2 ∧ g1 = g2) := by
  rcases h1 with ⟨a1, a2⟩ | ⟨⟨a1, a2, a3, a4, a5⟩, a6⟩
  · rcases h2 with ⟨b1, b2⟩ | ⟨⟨b1, b2, b3, b4, b5⟩, b6⟩
    · exact Or.inl ⟨a1, b1⟩
    · exact absurd b4 (a2 _ _ b2 b3)
  · rcases h2 with ⟨b1, b2⟩ | ⟨⟨b1, b2, b3, b4, b5⟩, b6⟩
    · exact absurd a4 (b2 _ _ a2 a3)
    · obtain ⟨c1, c2⟩ := a6 _ _ b2 b3 b4
      obtain ⟨d1, d2⟩ := b6 _ _ a2 a3 a4
      have e1 : m1 = m2 := by omega
      subst e1
      have e2 : f1 = f2 := by
        have := c2 (by omega)
        have := d2 (by omega)
        omega
      subst e2
      exact Or.inr ⟨a1, rfl, rfl, by rw [a5, b5]⟩
theorem wst_class {G : Nat → Int} {N j most first from1 : Nat} {mg : Int} (hj : j + 1 < N) (hW : Wst G N (j + 1) most first mg) (hf : from1 ≤ j) (hr : ∀ i, from1 < i → i ≤ j + 1 → G i = G (j + 1)) (h0 : 0 < from1 → G from1 ≠ G (j + 1)) : (¬ (G (j + 1) ≠ 0 ∧ most < j + 1 - from1 + 1) → Wst G N (j + 1 + 1) most first mg) ∧ ((G (j + 1) ≠ 0 ∧ most < j + 1 - from1 + 1) → Wst G N (j + 1 + 1) (j + 1 - from1 + 1) from1 (G (j + 1))) := by
  have key : ∀ b, Rn G b (j + 1) ↔ (G (j + 1) ≠ 0 ∧ from1 ≤ b ∧ b < j + 1) := by
    intro b
    constructor
    · rintro ⟨r1, r2, r3⟩
      refine ⟨r2, ?_, r1⟩
      apply Nat.le_of_not_lt
      intro z
      exact h0 (by omega) (r3 from1 z (by omega))
    · rintro ⟨r1, r2, r3⟩
      exact ⟨r3, r1, fun i hi1 hi2 => hr i (by omega) hi2⟩
  have old : ∀ b e, b < N → e < j + 1 + 1 → Rn G b e → e = j + 1 ∨ (e < j + 1) := fun b e _ he _ => by omega
  refine ⟨fun hn => ?_, fun hy => ?_⟩
  · rcases hW with ⟨a1, a2⟩ | ⟨⟨a1, a2, a3, a4, a5⟩, a6⟩
    · refine Or.inl ⟨a1, fun b e hb he hR => ?_⟩
      by_cases q : e = j + 1
      · subst q
        obtain ⟨k1, k2, k3⟩ := (key b).mp hR
        exact hn ⟨k1, by omega⟩
      · exact a2 b e hb (by omega) hR
    · refine Or.inr ⟨⟨a1, a2, by omega, a4, a5⟩, fun b e hb he hR => ?_⟩
      by_cases q : e = j + 1
      · subst q
        obtain ⟨k1, k2, k3⟩ := (key b).mp hR
        have : ¬ most < j + 1 - from1 + 1 := fun z => hn ⟨k1, z⟩
        exact ⟨by omega, fun z => by omega⟩
      · exact a6 b e hb (by omega) hR
  · refine Or.inr ⟨⟨by omega, by omega, by omega, ?_, ?_⟩, fun b e hb he hR => ?_⟩
    · rw [show from1 + (j + 1 - from1 + 1) - 1 = j + 1 by omega]
      exact (key from1).mpr ⟨hy.1, Nat.le_refl _, by omega⟩
    · rw [show from1 + (j + 1 - from1 + 1) - 1 = j + 1 by omega]
    · by_cases q : e = j + 1
      · subst q
        obtain ⟨k1, k2, k3⟩ := (key b).mp hR
        exact ⟨by omega, fun z => by omega⟩
      · rcases hW with ⟨a1, a2⟩ | ⟨⟨a1, a2, a3, a4, a5⟩, a6⟩
        · exact absurd hR (a2 b e hb (by omega))
        · have := (a6 b e hb (by omega) hR).1
          exact ⟨by omega, fun z => by omega⟩
theorem wst_model {G : Nat → Int} {N j n most first : Nat} {mg g : Int} (hW : Wst G j N most first mg) (hm : 1 ≤ most) (hj : j < N) (hn : 1 ≤ n) (h1 : ∀ q, j < q → q < j + n → G q = g) (h2 : 1 < n → g ≠ 0 ∧ j + n - 1 < N) (h3 : g = 0 ∨ N ≤ j + n ∨ G (j + n) ≠ g) (h4 : j + 1 < N → g = G (j + 1)) : (¬ most < n → Wst G (j + 1) N most first mg) ∧ (most < n → Wst G (j + 1) N n j g) := by
  have key : ∀ e, e < N → (Rn G j e ↔ (g ≠ 0 ∧ j < e ∧ e < j + n)) := by
    intro e he
    constructor
    · rintro ⟨r1, r2, r3⟩
      have hg : g = G e := (h4 (by omega)).trans (r3 (j + 1) (by omega) (by omega))
      refine ⟨by rw [hg]; exact r2, r1, ?_⟩
      apply Nat.lt_of_not_le
      intro z
      rcases h3 with h | h | h
      · exact r2 (hg ▸ h)
      · omega
      · exact h ((r3 (j + n) (by omega) z).trans hg.symm)
    · rintro ⟨r1, r2, r3⟩
      have hg : G e = g := h1 e r2 r3
      exact ⟨r2, by rw [hg]; exact r1, fun i hi1 hi2 => by rw [hg]; exact h1 i hi1 (by omega)⟩
  refine ⟨fun hn => ?_, fun hy => ?_⟩
  · rcases hW with ⟨a1, a2⟩ | ⟨⟨a1, a2, a3, a4, a5⟩, a6⟩
    · refine Or.inl ⟨a1, fun b e hb he hR => ?_⟩
      by_cases q : b = j
      · subst q
        have := (key e he).mp hR
        omega
      · exact a2 b e (by omega) he hR
    · refine Or.inr ⟨⟨a1, by omega, a3, a4, a5⟩, fun b e hb he hR => ?_⟩
      by_cases q : b = j
      · subst q
        have := (key e he).mp hR
        exact ⟨by omega, fun z => by omega⟩
      · exact a6 b e (by omega) he hR
  · obtain ⟨g1, g2⟩ := h2 (by omega)
    refine Or.inr ⟨⟨by omega, by omega, by omega, (key _ (by omega)).mpr ⟨g1, by omega, by omega⟩, (h1 _ (by omega) (by omega)).symm⟩, fun b e hb he hR => ?_⟩
    by_cases q : b = j
    · subst q
      have := (key e he).mp hR
      exact ⟨by omega, fun z => by omega⟩
    · rcases hW with ⟨a1, a2⟩ | ⟨⟨a1, a2, a3, a4, a5⟩, a6⟩
      · exact absurd hR (a2 b e (by omega) he)
      · have := (a6 b e (by omega) he hR).1
        exact ⟨by omega, fun z => by omega⟩
def wvV (x : Int32) (most first : Nat) (g : Int) : Int32 := if 2 ≤ most then (if x = 0 then nI most else if x = 1 then nI first else iI g) else -2
def gG (P : Nat) (t : Nat → Nat) (b : Nat) : Int := gp P (nI (t b)) (nI (t (b - 1)))
theorem gG_b {P : Nat} (t : Nat → Nat) (b : Nat) (h : 3 ≤ P ∧ P ≤ 24) : -24 ≤ gG P t b ∧ gG P t b ≤ 24 := by
  have := gp_bounds (P := P) (nI (t b)) (nI (t (b - 1))) (by omega)
  unfold gG
  omega
theorem iI_eq {a b : Int} (ha : -24 ≤ a ∧ a ≤ 24) (hb : -24 ≤ b ∧ b ≤ 24) : iI a = iI b ↔ a = b := by
  constructor
  · intro h
    have := congrArg Int32.toInt h
    rw [iI_toInt (by omega) (by omega), iI_toInt (by omega) (by omega)] at this
    exact this
  · rintro rfl
    rfl
section K9
variable {m : M2} {c l : Nat} {s : SS}
theorem x_waveOf (hX : XS m c s) (hV : VS s) (x : Int32) : ∃ most first g, Wst (gG (tdP (ssD s)) (cdT (ssK s))) (tdN (ssD s)) (tdN (ssD s)) most first g ∧ F_X5_waveOf c (lN (pk (cdT (ssK s)) (tdN (ssD s)))) x m = some (wvV x most first g, m) := by
  have hN := hV.n
  have hp := hV.p
  unfold F_X5_waveOf
  obtain ⟨G, hG⟩ : ∃ G, G = gG (tdP (ssD s)) (cdT (ssK s)) := ⟨_, rfl⟩
  have hB : ∀ b, -24 ≤ G b ∧ G b ≤ 24 := fun b => by rw [hG]; exact gG_b _ _ hp
  rw [← hG]
  have key : ∃ e, loop (g_X5_waveOf_18 c (lN (pk (cdT (ssK s)) (tdN (ssD s)))) x) ((0 : Int32), (0 : Int32), (0 : Int32), (0 : Int32), (0 : Int32), (1 : Int32), m) = some e ∧ ∃ (most first : Nat) (mg : Int), most ≤ 12 ∧ Wst G (tdN (ssD s)) (tdN (ssD s)) most first mg ∧ e = (nI most, nI first, iI mg, m) := by
    refine loop_to (tdN (ssD s) - 1) (fun j z => ∃ (most first from1 : Nat) (mg lg : Int), z = (nI most, nI first, iI mg, nI from1, iI lg, nI (j + 1), m) ∧ most ≤ 12 ∧ Wst G (tdN (ssD s)) (j + 1) most first mg ∧ from1 ≤ j ∧ lg = (if j = 0 then 0 else G j) ∧ (∀ i, from1 < i → i ≤ j → G i = lg) ∧ (0 < from1 → G from1 ≠ lg)) _ (by omega) ?_ ?_ ⟨0, 0, 0, 0, 0, rfl, by omega, Or.inl ⟨by omega, fun b e hb he hR => by have := hR.1; omega⟩, by omega, rfl, fun i hi1 hi2 => by omega, fun h => by omega⟩
    · rintro j z hj ⟨most, first, from1, mg, lg, rfl, h0, h1, h2, h3, h4, h5⟩
      show ∃ s', f_X5_waveOf_18 c _ x (nI most) (nI first) (iI mg) (nI from1) (iI lg) (nI (j + 1)) m = some (Sum.inl s') ∧ _
      have hga : F_X5_gapAhead c (lN (pk (cdT (ssK s)) (tdN (ssD s)))) (nI (j + 1)) m = some (iI (G (j + 1)), m) := by rw [hG]; exact x_gapAhead hX.p hp hN (t32 hV.1 hV.2.1) (by omega) (by omega)
      unfold f_X5_waveOf_18
      rw [hX.n, if_neg (nI_ge (show j + 1 < tdN (ssD s) by omega) (by omega)), hga, bind_s]
      dsimp only
      have fin : ∀ f1 : Nat, f1 ≤ j → (∀ i, f1 < i → i ≤ j + 1 → G i = G (j + 1)) → (0 < f1 → G f1 ≠ G (j + 1)) → ∃ s', f_X5_waveOf_56 c (lN (pk (cdT (ssK s)) (tdN (ssD s)))) x (nI most) (nI first) (iI mg) (nI f1) (iI (G (j + 1))) (nI (j + 1)) (iI (G (j + 1))) m = some (Sum.inl s') ∧ ∃ (most first from1 : Nat) (mg lg : Int), s' = (nI most, nI first, iI mg, nI from1, iI lg, nI (j + 1 + 1), m) ∧ most ≤ 12 ∧ Wst G (tdN (ssD s)) (j + 1 + 1) most first mg ∧ from1 ≤ j + 1 ∧ lg = (if j + 1 = 0 then 0 else G (j + 1)) ∧ (∀ i, from1 < i → i ≤ j + 1 → G i = lg) ∧ (0 < from1 → G from1 ≠ lg) := by
        intro f1 g1 g2 g3
        obtain ⟨w1, w2⟩ := wst_class (show j + 1 < tdN (ssD s) by omega) h1 g1 g2 g3
        unfold f_X5_waveOf_56
        have e0 : (iI (G (j + 1)) = 0) ↔ G (j + 1) = 0 := iI_eq (b := 0) (hB _) (by omega)
        have e1 : nI (j + 1) - nI f1 + 1 = nI (j + 1 - f1 + 1) := by rw [pk_sub (by omega), nI_1]
        have lgq : G (j + 1) = (if j + 1 = 0 then 0 else G (j + 1)) := by rw [if_neg (by omega)]
        by_cases z0 : G (j + 1) = 0
        · rw [if_pos (e0.mpr z0)]
          exact ⟨_, rfl, most, first, f1, mg, G (j + 1), by rw [nI_1], h0, w1 (fun z => z.1 z0), by omega, lgq, g2, g3⟩
        · rw [if_neg (fun z => z0 (e0.mp z)), e1]
          by_cases z1 : most < j + 1 - f1 + 1
          · rw [if_neg (nI_ge z1 (by omega)), nmI_e, bind_s]
            exact ⟨_, rfl, j + 1 - f1 + 1, f1, f1, G (j + 1), G (j + 1), by rw [nI_1], by omega, w2 ⟨z0, z1⟩, by omega, lgq, g2, g3⟩
          · rw [if_pos (nI_le (by omega) (by omega))]
            exact ⟨_, rfl, most, first, f1, mg, G (j + 1), by rw [nI_1], h0, w1 (fun z => z1 z.2), by omega, lgq, g2, g3⟩
      have hlg : -24 ≤ lg ∧ lg ≤ 24 := by
        rw [h3]
        split
        · omega
        · exact hB j
      by_cases e : G (j + 1) = lg
      · rw [if_pos (by rw [e]), ← e]
        exact fin from1 h2 (fun i hi1 hi2 => by
          by_cases q : i = j + 1
          · rw [q]
          · rw [h4 i hi1 (by omega), e]) (fun h => by rw [e]; exact h5 h)
      · rw [if_neg (fun z => e ((iI_eq (hB _) hlg).mp z)), nmI_e, bind_s, lit_1, pk_sub (by omega), Nat.add_sub_cancel]
        refine fin j (Nat.le_refl j) (fun i hi1 hi2 => by rw [show i = j + 1 by omega]) (fun h => ?_)
        rw [if_neg (by omega)] at h3
        rw [← h3]
        exact fun z => e z.symm
    · rintro z ⟨most, first, from1, mg, lg, rfl, h0, h1, h2, h3, h4, h5⟩
      show ∃ e, f_X5_waveOf_18 c _ x (nI most) (nI first) (iI mg) (nI from1) (iI lg) (nI (tdN (ssD s) - 1 + 1)) m = some (Sum.inr e) ∧ _
      unfold f_X5_waveOf_18
      rw [hX.n, if_pos (nI_le (by omega) (by omega))]
      refine ⟨_, rfl, most, first, mg, h0, ?_, rfl⟩
      by_cases q : tdN (ssD s) = 0
      · rcases h1 with ⟨a1, a2⟩ | ⟨⟨a1, a2, a3, a4, a5⟩, a6⟩
        · exact Or.inl ⟨a1, fun b e hb he => by omega⟩
        · omega
      · rw [show tdN (ssD s) - 1 + 1 = tdN (ssD s) by omega] at h1
        exact h1
  obtain ⟨e, e1, most, first, mg, h0, h1, rfl⟩ := key
  rw [e1, bind_s]
  refine ⟨most, first, mg, h1, ?_⟩
  unfold wvV
  dsimp only
  by_cases h2 : 2 ≤ most
  · rw [lit_2, if_pos (nI_le h2 (by omega)), if_pos h2]
    split
    · rfl
    · split <;> rfl
  · rw [lit_2, if_neg (nI_ge (by omega) (by omega)), if_neg h2]
theorem k_wave_x (hX : XS m c s) (hV : VS s) {x : Int32} (h : isR 0 2 x) : ∃ most first g, Wst (gG (tdP (ssD s)) (cdT (ssK s))) (tdN (ssD s)) (tdN (ssD s)) most first g ∧ OkX m c (F_X11_wave c x m) (wvV x most first g) s := by
  rw [isRx (by omega) (by omega), show nI 0 = 0 from rfl] at h
  unfold F_X11_wave
  obtain ⟨most, first, g, h1, h2⟩ := x_waveOf hX hV x
  rw [if_neg h.1, lit_2, if_pos (nlt_le h.2), hX.2.1.1, h2, bind_s]
  exact ⟨most, first, g, h1, OkX.same hX⟩
theorem k_wave_x0 (hX : XS m c s) {x : Int32} (h : ¬ isR 0 2 x) : OkX m c (F_X11_wave c x m) (-1) s := by
  rw [isRx (by omega) (by omega), show nI 0 = 0 from rfl] at h
  unfold F_X11_wave
  by_cases h1 : x < 0
  · rw [if_pos h1]
    exact OkX.same hX
  · rw [if_neg h1, lit_2, if_neg (fun z => h ⟨h1, fun z2 => lt_nle z2 z⟩)]
    exact OkX.same hX
theorem k_wave_m (hM : MS m l s) (hV : VS s) {x : Int32} (h : isR 0 2 x) : ∃ most first g, Wst (gG (tdP (ssD s)) (cdT (ssK s))) (tdN (ssD s)) (tdN (ssD s)) most first g ∧ OkM m l (F_X12_wave x m) (wvV x most first g) s := by
  have hN := hV.n
  have hp := hV.p
  obtain ⟨a1, a2, a3, a4⟩ := hM.2.1
  unfold F_X12_wave
  rw [show F_X12_in x 0 2 m = some (1, m) from (inR (a := 0) (b := 2) (by omega) (by omega) _).1 h, bind_s]
  dsimp only
  rw [if_neg (by decide)]
  obtain ⟨G, hG⟩ : ∃ G, G = gG (tdP (ssD s)) (cdT (ssK s)) := ⟨_, rfl⟩
  have hB : ∀ b, -24 ≤ G b ∧ G b ≤ 24 := fun b => by rw [hG]; exact gG_b _ _ hp
  rw [← hG]
  have hgap : ∀ b, F_X12_gap (nI (cdT (ssK s) (b + 1))) (nI (cdT (ssK s) b)) m = some (iI (G (b + 1)), m) := fun b => by rw [hG]; exact m_gap hM.lv hM.l2 hM.p (by omega) (by omega) _ _
  have key : ∃ e, loop (g_X12_wave_21 x) ((1 : Int32), (0 : Int32), (0 : Int32), (0 : Int32), m) = some e ∧ ∃ (most first : Nat) (mg : Int), most ≤ 12 ∧ Wst G (tdN (ssD s)) (tdN (ssD s)) most first mg ∧ e = (nI most, nI first, iI mg, m) := by
    refine loop_to (tdN (ssD s)) (fun j z => ∃ (most first : Nat) (mg : Int), z = (nI most, nI first, iI mg, nI j, m) ∧ (1 ≤ most ∧ most ≤ 12) ∧ Wst G j (tdN (ssD s)) most first mg) _ (by omega) ?_ ?_ ⟨1, 0, 0, rfl, by omega, Or.inl ⟨by omega, fun b e hb he hR => by omega⟩⟩
    · rintro j z hj ⟨most, first, mg, rfl, h0, h1⟩
      show ∃ s', f_X12_wave_21 x (nI most) (nI first) (iI mg) (nI j) m = some (Sum.inl s') ∧ _
      have fin : ∀ g : Int, (-24 ≤ g ∧ g ≤ 24) → (j + 1 < tdN (ssD s) → g = G (j + 1)) → (¬ j + 1 < tdN (ssD s) → g = 0) → ∃ s', f_X12_wave_68 x (nI most) (nI first) (iI mg) (nI j) 1 (iI g) m = some (Sum.inl s') ∧ ∃ (most first : Nat) (mg : Int), s' = (nI most, nI first, iI mg, nI (j + 1), m) ∧ (1 ≤ most ∧ most ≤ 12) ∧ Wst G (j + 1) (tdN (ssD s)) most first mg := by
        intro g gb g1 g2
        have e0 : (iI g = 0) ↔ g = 0 := iI_eq (b := 0) gb (by omega)
        unfold f_X12_wave_68
        have inner : ∃ e, loop (g_X12_wave_70 x (nI most) (nI first) (iI mg) (nI j) (iI g)) ((1 : Int32), m) = some e ∧ ∃ n, e = (nI n, m) ∧ (1 ≤ n ∧ n ≤ 12) ∧ (∀ q, j < q → q < j + n → G q = g) ∧ (1 < n → g ≠ 0 ∧ j + n - 1 < tdN (ssD s)) ∧ (g = 0 ∨ tdN (ssD s) ≤ j + n ∨ G (j + n) ≠ g) := by
          refine loop_ex 12 (fun i z => z = (nI (1 + i), m) ∧ (∀ q, j < q → q < j + (1 + i) → G q = g) ∧ (1 < 1 + i → g ≠ 0 ∧ j + (1 + i) - 1 < tdN (ssD s))) _ (by omega) ?_ ?_ ⟨rfl, fun q h1 h2 => by omega, fun h => by omega⟩
          · rintro i z hi ⟨rfl, i2, i3⟩
            show (∃ s', f_X12_wave_70 x (nI most) (nI first) (iI mg) (nI j) (nI (1 + i)) (iI g) m = some (Sum.inl s') ∧ _) ∨ ∃ e, f_X12_wave_70 x (nI most) (nI first) (iI mg) (nI j) (nI (1 + i)) (iI g) m = some (Sum.inr e) ∧ _
            unfold f_X12_wave_70
            by_cases z0 : g = 0
            · right
              rw [if_pos (e0.mpr z0)]
              exact ⟨_, rfl, 1 + i, rfl, by omega, i2, i3, Or.inl z0⟩
            · rw [if_neg (fun z => z0 (e0.mp z)), m_menNow hM.lv hM.l2 hM.n, bind_s]
              dsimp only
              rw [nI_add]
              by_cases z1 : tdN (ssD s) ≤ j + (1 + i)
              · right
                rw [if_pos (nI_le z1 (by omega))]
                exact ⟨_, rfl, 1 + i, rfl, by omega, i2, i3, Or.inr (Or.inl z1)⟩
              · rw [if_neg (nI_ge (by omega) (by omega)), aI_n _ 93 (show j + (1 + i) < 12 by omega) (by omega), bind_s, lit_1, pk_sub (by omega), aI_n _ 93 (show j + (1 + i) - 1 < 12 by omega) (by omega), bind_s, (a1 (j + (1 + i)) (by omega)).1, (a1 (j + (1 + i) - 1) (by omega)).1]
                have hgp := hgap (j + (1 + i) - 1)
                rw [show j + (1 + i) - 1 + 1 = j + (1 + i) by omega] at hgp
                rw [hgp, bind_s]
                dsimp only
                by_cases z2 : G (j + (1 + i)) = g
                · left
                  rw [if_pos (by rw [z2]), nmI_e, bind_s, nI_add]
                  refine ⟨_, rfl, rfl, fun q h1 h2 => ?_, fun h => ⟨z0, by omega⟩⟩
                  by_cases e : q = j + (1 + i)
                  · rw [e]; exact z2
                  · exact i2 q h1 (by omega)
                · right
                  rw [if_neg (fun z => z2 ((iI_eq (hB _) gb).mp z))]
                  exact ⟨_, rfl, 1 + i, rfl, by omega, i2, i3, Or.inr (Or.inr z2)⟩
          · rintro z ⟨rfl, i2, i3⟩
            have := (i3 (by omega)).2
            omega
        obtain ⟨e, e1, n, rfl, n0, n1, n2, n3⟩ := inner
        rw [e1, bind_s]
        dsimp only
        obtain ⟨w1, w2⟩ := wst_model h1 h0.1 hj n0.1 n1 n2 n3 g1
        unfold f_X12_wave_124
        by_cases z : most < n
        · rw [if_pos (nI_lt z (by omega))]
          exact ⟨_, rfl, n, j, g, by rw [nI_1], by omega, w2 z⟩
        · rw [if_neg (nI_nlt (by omega) (by omega))]
          exact ⟨_, rfl, most, first, mg, by rw [nI_1], h0, w1 z⟩
      unfold f_X12_wave_21
      rw [m_menNow hM.lv hM.l2 hM.n, bind_s]
      dsimp only
      rw [if_neg (nI_ge hj (by omega)), m_menNow hM.lv hM.l2 hM.n, bind_s]
      dsimp only
      rw [nI_1]
      by_cases z : j + 1 < tdN (ssD s)
      · rw [if_neg (nI_ge z (by omega)), aI_n _ 93 (show j + 1 < 12 by omega) (by omega), bind_s, aI_n _ 93 (show j < 12 by omega) (by omega), bind_s, (a1 (j + 1) z).1, (a1 j hj).1, hgap, bind_s]
        exact fin _ (hB _) (fun _ => rfl) (fun h => absurd z h)
      · rw [if_pos (nI_le (by omega) (by omega))]
        exact fin 0 (by omega) (fun h => absurd h z) (fun _ => rfl)
    · rintro z ⟨most, first, mg, rfl, h0, h1⟩
      show ∃ e, f_X12_wave_21 x (nI most) (nI first) (iI mg) (nI (tdN (ssD s))) m = some (Sum.inr e) ∧ _
      unfold f_X12_wave_21
      rw [m_menNow hM.lv hM.l2 hM.n, bind_s]
      dsimp only
      rw [if_pos (nI_le (Nat.le_refl _) (by omega))]
      exact ⟨_, rfl, most, first, mg, h0.2, h1, rfl⟩
  obtain ⟨e, e1, most, first, mg, h0, h1, rfl⟩ := key
  rw [e1, bind_s]
  refine ⟨most, first, mg, h1, ?_⟩
  unfold wvV
  dsimp only
  by_cases h2 : 2 ≤ most
  · rw [lit_2, if_pos (nI_le h2 (by omega)), if_pos h2]
    split
    · exact OkM.same hM
    · split
      · exact OkM.same hM
      · exact OkM.same hM
  · rw [lit_2, if_neg (nI_ge (by omega) (by omega)), if_neg h2]
    exact OkM.same hM
theorem k_wave_m0 (hM : MS m l s) {x : Int32} (h : ¬ isR 0 2 x) : OkM m l (F_X12_wave x m) (-1) s := by
  unfold F_X12_wave
  rw [show F_X12_in x 0 2 m = some (0, m) from (inR (a := 0) (b := 2) (by omega) (by omega) _).2 h, bind_s]
  exact OkM.same hM
theorem wv_same {x : Int32} {G : Nat → Int} {N m1 f1 m2 f2 : Nat} {g1 g2 : Int} (h1 : Wst G N N m1 f1 g1) (h2 : Wst G N N m2 f2 g2) : wvV x m1 f1 g1 = wvV x m2 f2 g2 := by
  unfold wvV
  rcases wst_unique h1 h2 with ⟨a, b⟩ | ⟨a, rfl, rfl, rfl⟩
  · rw [if_neg (by omega), if_neg (by omega)]
  · rfl
end K9
