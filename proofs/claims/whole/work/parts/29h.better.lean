/-! ===== better ===== -/
section KH
variable {m : M2} {c l : Nat} {s : SS}
def btr (w v u : Nat) : Bool := if w = 2 then decide (u < v) else decide (v < u)
theorem cv_le {w u v : Nat} (hu : u ≤ 1000) (hv : v ≤ 1000) : cvI w u ≤ cvI w v ↔ ¬ btr w v u = true := by
  unfold cvI btr
  split
  · rw [Int32.le_iff_toInt_le, Int32.toInt_neg, Int32.toInt_neg, nI_toInt (by omega), nI_toInt (by omega), Int.bmod_eq_of_le (by omega) (by omega), Int.bmod_eq_of_le (by omega) (by omega), decide_eq_true_iff]
    omega
  · rw [nI_leI (by omega) (by omega), decide_eq_true_iff]
    omega
theorem m_isBetter {w u v : Nat} (hw : w ≤ 2) (hu : u ≤ 1000) (hv : v ≤ 1000) : F_X12_isBetter (nI w) (nI v) (nI u) m = some (bI1 (btr w v u), m) := by
  unfold F_X12_isBetter btr
  by_cases h : w = 2
  · rw [if_pos (by rw [h]; rfl), if_pos h]
    by_cases q : u < v
    · rw [if_neg (nI_ge q (by omega)), decide_eq_true q]; rfl
    · rw [if_pos (nI_le (by omega) (by omega)), decide_eq_false q]; rfl
  · have h' : ¬ nI w = 2 := fun y => h ((nI_eq (by omega) (by omega)).mp (show nI _ = nI 2 from y))
    rw [if_neg h', if_neg h]
    by_cases q : v < u
    · rw [if_neg (nI_ge q (by omega)), decide_eq_true q]; rfl
    · rw [if_pos (nI_le (by omega) (by omega)), decide_eq_false q]; rfl
def ids (a b : Nat) : Nat → Nat := swp (fun i => i) a b
theorem ids_ok {a b : Nat} (ha : a < tdN (ssD s)) (hb : b < tdN (ssD s)) : OkO s (ids a b) := by
  intro i hi
  unfold ids swp
  split
  · exact ha
  · split
    · exact hb
    · exact hi
def stB (s : SS) (w n a b : Nat) (z : Nat × Int32) : Nat × Int32 := if btr w (cst s (ids a b) w n) z.1 = true then (cst s (ids a b) w n, nI (100 * a + b)) else z
def inB2 (s : SS) (w n a : Nat) (z : Nat × Int32) : Nat → Nat × Int32
  | 0 => z
  | k + 1 => stB s w n a (a + 1 + k) (inB2 s w n a z k)
def outB (s : SS) (w n : Nat) : Nat → Nat × Int32
  | 0 => (cst s (fun i => i) w n, -2)
  | a + 1 => inB2 s w n a (outB s w n a) (tdN (ssD s) - (a + 1))
theorem stB_le (hV : VS s) {w n a b : Nat} {z : Nat × Int32} (hn : n ≤ 30) (hz : z.1 ≤ 360) : (stB s w n a b z).1 ≤ 360 := by
  unfold stB
  split
  · exact cst_le hV _ hn
  · exact hz
theorem inB2_le (hV : VS s) {w n a : Nat} {z : Nat × Int32} (hn : n ≤ 30) (hz : z.1 ≤ 360) : ∀ k, (inB2 s w n a z k).1 ≤ 360
  | 0 => hz
  | k + 1 => stB_le hV hn (inB2_le hV hn hz k)
theorem outB_le (hV : VS s) {w n : Nat} (hn : n ≤ 30) : ∀ a, (outB s w n a).1 ≤ 360
  | 0 => cst_le hV _ hn
  | a + 1 => inB2_le hV hn (outB_le hV hn a) _
theorem x_sit (m : M2) : ∃ m', F_X6_sitAsNow c m = some m' ∧ (∀ b, b < 12 → hI m' 35 b = nI b) ∧ Fr (fun k _ => k = 35) m m' := by
  unfold F_X6_sitAsNow
  have key : ∃ e, loop (g_X6_sitAsNow_2 c) ((0 : Int32), m) = some e ∧ (∀ b, b < 12 → hI e 35 b = nI b) ∧ Fr (fun k _ => k = 35) m e := by
    refine loop_to 12 (fun k z => z.1 = nI k ∧ (∀ b, b < k → hI z.2 35 b = nI b) ∧ Fr (fun k _ => k = 35) m z.2) _ (by omega) ?_ ?_ ⟨rfl, fun b hb => by omega, Fr.rf⟩
    · rintro k ⟨x, m2⟩ hk ⟨i1, i2, i3⟩
      dsimp only at i1 i2 i3
      subst i1
      show ∃ s', f_X6_sitAsNow_2 c (nI k) m2 = some (Sum.inl s') ∧ _
      unfold f_X6_sitAsNow_2
      rw [lit_12, if_neg (nI_ge hk (by omega)), bI_n _ 35 _ hk (by omega), bind_s, nmI_e, bind_s]
      refine ⟨_, rfl, nI_1 k, fun b hb => ?_, i3.tI _ rfl⟩
      rw [hI_tI]
      by_cases e : b = k
      · rw [if_pos ⟨rfl, e⟩, e]
      · rw [if_neg (by omega)]
        exact i2 b (by omega)
    · rintro ⟨x, m2⟩ ⟨i1, i2, i3⟩
      dsimp only at i1 i2 i3
      subst i1
      show ∃ e, f_X6_sitAsNow_2 c (nI 12) m2 = some (Sum.inr e) ∧ _
      unfold f_X6_sitAsNow_2
      rw [lit_12, if_pos (nI_le (Nat.le_refl _) (by omega))]
      exact ⟨_, rfl, i2, i3⟩
  obtain ⟨m', e1, e2, e3⟩ := key
  rw [e1, bind_s]
  exact ⟨m', rfl, e2, e3⟩
theorem x_swap {o : Nat → Nat} {a b N : Nat} (ha : a < N) (hb : b < N) (hN : N ≤ 12) (h : ∀ i, i < N → hI m 35 i = nI (o i)) : ∃ m', F_X6_swap c (nI a) (nI b) m = some m' ∧ (∀ i, i < N → hI m' 35 i = nI (swp o a b i)) ∧ Fr (fun k _ => k = 35) m m' := by
  unfold F_X6_swap
  rw [aI_n _ 35 (show a < 12 by omega) (by omega), bind_s, aI_n _ 35 (show b < 12 by omega) (by omega), bind_s, bI_n _ 35 _ (show a < 12 by omega) (by omega), bind_s, bI_n _ 35 _ (show b < 12 by omega) (by omega), bind_s]
  refine ⟨_, rfl, fun i hi => ?_, (Fr.rf.tI _ (by omega)).tI _ (by omega)⟩
  have := swI (m := m) (r := 35) (f := fun i => nI (o i)) h ha hb (h b hb) (h a ha) (fun i => rfl) i hi
  rw [this]
  unfold swp
  split
  · rfl
  · split <;> rfl
theorem swp_swp {o : Nat → Nat} {a b : Nat} (i : Nat) : swp (swp o a b) a b i = o i := by
  unfold swp
  by_cases h1 : i = b
  · rw [if_pos h1]
    by_cases h2 : a = b
    · rw [if_pos h2, h1, ← h2]
    · rw [if_neg h2, if_pos rfl, h1]
  · rw [if_neg h1]
    by_cases h2 : i = a
    · rw [if_pos h2, if_pos rfl, h2]
    · rw [if_neg h2, if_neg h1, if_neg h2]
def aimOk (x y : Int32) : Prop := isR 0 2 x ∧ isR 1 30 y
theorem x_isAim (x y : Int32) : (aimOk x y → F_X6_isAim x y m = some (1, m)) ∧ (¬ aimOk x y → F_X6_isAim x y m = some (0, m)) := by
  unfold aimOk
  rw [isRx (by omega) (by omega), isRx (by omega) (by omega)]
  unfold F_X6_isAim
  refine ⟨fun h => ?_, fun h => ?_⟩
  · rw [if_neg (show ¬ x < 0 from h.1.1), if_neg (show ¬ (2 : Int32) < x from h.1.2), if_neg (show ¬ y < 1 from h.2.1), if_neg (show ¬ (30 : Int32) < y from h.2.2)]
    rfl
  · by_cases q1 : x < 0
    · rw [if_pos q1]; rfl
    by_cases q2 : 2 < x
    · rw [if_neg q1, if_pos q2]; rfl
    by_cases q3 : y < 1
    · rw [if_neg q1, if_neg q2, if_pos q3]; rfl
    by_cases q4 : 30 < y
    · rw [if_neg q1, if_neg q2, if_neg q3, if_pos q4]; rfl
    exact absurd ⟨⟨q1, q2⟩, q3, q4⟩ h
theorem m_canSeat (hM : MS m l s) (hV : VS s) (x y : Int32) : ((aimOk x y ∧ 0 < tdN (ssD s)) → F_X12_canSeat x y m = some (1, m)) ∧ (¬ (aimOk x y ∧ 0 < tdN (ssD s)) → F_X12_canSeat x y m = some (0, m)) := by
  have hN := hV.n
  unfold F_X12_canSeat
  refine ⟨fun h => ?_, fun h => ?_⟩
  · rw [show F_X12_in x 0 2 m = some (1, m) from (inR (a := 0) (b := 2) (by omega) (by omega) _).1 h.1.1, bind_s]
    dsimp only
    rw [if_neg (by decide), show F_X12_in y 1 30 m = some (1, m) from (inR (a := 1) (b := 30) (by omega) (by omega) _).1 h.1.2, bind_s]
    dsimp only
    rw [if_neg (by decide), m_menNow hM.lv hM.l2 hM.n, bind_s]
    dsimp only
    rw [if_neg (nI_nle h.2 (by omega))]
    rfl
  · by_cases h1 : isR 0 2 x
    · rw [show F_X12_in x 0 2 m = some (1, m) from (inR (a := 0) (b := 2) (by omega) (by omega) _).1 h1, bind_s]
      dsimp only
      rw [if_neg (by decide)]
      by_cases h2 : isR 1 30 y
      · rw [show F_X12_in y 1 30 m = some (1, m) from (inR (a := 1) (b := 30) (by omega) (by omega) _).1 h2, bind_s]
        dsimp only
        rw [if_neg (by decide), m_menNow hM.lv hM.l2 hM.n, bind_s]
        dsimp only
        by_cases h3 : tdN (ssD s) = 0
        · rw [if_pos (by rw [h3]; decide)]; rfl
        · exact absurd ⟨⟨h1, h2⟩, by omega⟩ h
      · rw [show F_X12_in y 1 30 m = some (0, m) from (inR (a := 1) (b := 30) (by omega) (by omega) _).2 h2, bind_s]
        rfl
    · rw [show F_X12_in x 0 2 m = some (0, m) from (inR (a := 0) (b := 2) (by omega) (by omega) _).2 h1, bind_s]
      rfl
theorem SSeX (k j : Nat) (z : (24 ≤ k ∧ k ≤ 26) ∨ (35 ≤ k ∧ k ≤ 37)) : ¬ xk k ∧ SX k j := ⟨fun z2 => by unfold xk at z2; omega, fun z2 => by omega⟩
theorem SSeM (k j : Nat) (z : SSe k j) : ¬ mk2 k j ∧ SM2 k j := ⟨fun z2 => by unfold mk2 at z2; omega, by omega⟩
theorem k_better_x (hX : XS m c s) (hV : VS s) {w n : Nat} (hw : w ≤ 2) (hn1 : 1 ≤ n) (hn : n ≤ 30) (hN0 : 0 < tdN (ssD s)) : OkX m c (F_X11_better c (nI w) (nI n) m) (outB s w n (tdN (ssD s))).2 s := by
  have hN := hV.n
  have hc := hX.tx
  unfold F_X11_better
  rw [(x_isAim _ _).1 ⟨⟨w, by omega, hw, rfl⟩, ⟨n, hn1, hn, rfl⟩⟩, bind_s]
  dsimp only
  rw [if_neg (by decide), hX.n, if_neg (nI_ne0 hN0 (by omega))]
  unfold F_X6_bestExchange
  obtain ⟨m1, e1, g1, f1⟩ := x_sit (c := c) m
  have ff1 : Fr (fun k _ => (24 ≤ k ∧ k ≤ 26) ∨ (35 ≤ k ∧ k ≤ 37)) m m1 := f1.mono (fun k j z => by omega)
  rw [hX.n, nmI_e, bind_s, e1, bind_s]
  obtain ⟨m2, e2, f2⟩ := x_cost (o := fun i => i) hX hV (fun b hb => hb) hw hn ff1 (fun b hb => g1 b (by omega))
  have ff2 := ff1.tr (f2.mono (S' := fun k _ => (24 ≤ k ∧ k ≤ 26) ∨ (35 ≤ k ∧ k ≤ 37)) (fun k j z => by omega))
  rw [e2, bind_s]
  dsimp only
  have key : ∃ e, loop (g_X6_bestExchange_32 c 28 (nI w) (nI n) (nI (tdN (ssD s)))) (cvI w (cst s (fun i => i) w n), (-2 : Int32), (0 : Int32), m2) = some e ∧ e.1 = (outB s w n (tdN (ssD s))).2 ∧ Fr (fun k _ => (24 ≤ k ∧ k ≤ 26) ∨ (35 ≤ k ∧ k ≤ 37)) m e.2 := by
    refine loop_to (tdN (ssD s)) (fun a z => z.1 = cvI w (outB s w n a).1 ∧ z.2.1 = (outB s w n a).2 ∧ z.2.2.1 = nI a ∧ (∀ b, b < tdN (ssD s) → hI z.2.2.2 35 b = nI b) ∧ Fr (fun k _ => (24 ≤ k ∧ k ≤ 26) ∨ (35 ≤ k ∧ k ≤ 37)) m z.2.2.2) _ (by omega) ?_ ?_ ⟨rfl, rfl, rfl, fun b hb => by rw [f2.I _ _ (by omega)]; exact g1 b (by omega), ff2⟩
    · rintro a ⟨y1, y2, y3, m3⟩ ha ⟨i1, i2, i3, i4, i5⟩
      dsimp only at i1 i2 i3 i4 i5
      subst i1 i2 i3
      show ∃ s', f_X6_bestExchange_32 c 28 (nI w) (nI n) (nI (tdN (ssD s))) _ _ (nI a) m3 = some (Sum.inl s') ∧ _
      unfold f_X6_bestExchange_32
      rw [if_neg (nI_ge ha (by omega)), nmI_e, bind_s, nI_1]
      have hz := outB_le hV (w := w) hn a
      have inner : ∃ e, loop (g_X6_bestExchange_45 c 28 (nI w) (nI n) (nI (tdN (ssD s))) (nI a)) (cvI w (outB s w n a).1, (outB s w n a).2, nI (a + 1), m3) = some e ∧ e.1 = cvI w (outB s w n (a + 1)).1 ∧ e.2.1 = (outB s w n (a + 1)).2 ∧ (∀ b, b < tdN (ssD s) → hI e.2.2 35 b = nI b) ∧ Fr (fun k _ => (24 ≤ k ∧ k ≤ 26) ∨ (35 ≤ k ∧ k ≤ 37)) m e.2.2 := by
        refine loop_to (tdN (ssD s) - (a + 1)) (fun k z => z.1 = cvI w (inB2 s w n a (outB s w n a) k).1 ∧ z.2.1 = (inB2 s w n a (outB s w n a) k).2 ∧ z.2.2.1 = nI (a + 1 + k) ∧ (∀ b, b < tdN (ssD s) → hI z.2.2.2 35 b = nI b) ∧ Fr (fun k _ => (24 ≤ k ∧ k ≤ 26) ∨ (35 ≤ k ∧ k ≤ 37)) m z.2.2.2) _ (by omega) ?_ ?_ ⟨rfl, rfl, rfl, i4, i5⟩
        · rintro k ⟨z1, z2, z3, m4⟩ hk ⟨j1, j2, j3, j4, j5⟩
          dsimp only at j1 j2 j3 j4 j5
          subst j1 j2 j3
          show ∃ s', f_X6_bestExchange_45 c 28 (nI w) (nI n) (nI (tdN (ssD s))) _ _ (nI a) (nI (a + 1 + k)) m4 = some (Sum.inl s') ∧ _
          have hzk := inB2_le hV (w := w) (a := a) hn hz k
          have hcs := cst_le hV (ids a (a + 1 + k)) (w := w) hn
          unfold f_X6_bestExchange_45
          obtain ⟨m5, e5, g5, f5⟩ := x_swap (c := c) (o := fun i => i) ha (show a + 1 + k < tdN (ssD s) by omega) hN j4
          have ff5 := j5.tr (f5.mono (S' := fun k _ => (24 ≤ k ∧ k ≤ 26) ∨ (35 ≤ k ∧ k ≤ 37)) (fun k j z => by omega))
          rw [if_neg (nI_ge (by omega) (by omega)), e5, bind_s]
          obtain ⟨m6, e6, f6⟩ := x_cost (o := ids a (a + 1 + k)) hX hV (ids_ok ha (by omega)) hw hn ff5 g5
          have ff6 := ff5.tr (f6.mono (S' := fun k _ => (24 ≤ k ∧ k ≤ 26) ∨ (35 ≤ k ∧ k ≤ 37)) (fun k j z => by omega))
          rw [e6, bind_s]
          dsimp only
          obtain ⟨m7, e7, g7, f7⟩ := x_swap (c := c) (m := m6) (o := ids a (a + 1 + k)) ha (show a + 1 + k < tdN (ssD s) by omega) hN (fun b hb => by rw [f6.I _ _ (by omega)]; exact g5 b hb)
          have ff7 := ff6.tr (f7.mono (S' := fun k _ => (24 ≤ k ∧ k ≤ 26) ∨ (35 ≤ k ∧ k ≤ 37)) (fun k j z => by omega))
          have g7' : ∀ b, b < tdN (ssD s) → hI m7 35 b = nI b := fun b hb => by rw [g7 b hb]; exact congrArg nI (swp_swp b)
          have hcv := cv_le (w := w) (u := (inB2 s w n a (outB s w n a) k).1) (v := cst s (ids a (a + 1 + k)) w n) (by omega) (by omega)
          by_cases hb : btr w (cst s (ids a (a + 1 + k)) w n) (inB2 s w n a (outB s w n a) k).1 = true
          · have e : inB2 s w n a (outB s w n a) (k + 1) = (cst s (ids a (a + 1 + k)) w n, nI (100 * a + (a + 1 + k))) := if_pos hb
            rw [if_neg (fun z => (hcv.mp z) hb), nmI_e, bind_s]
            unfold f_X6_bestExchange_90
            rw [e7, bind_s, nmI_e, bind_s, e]
            exact ⟨_, rfl, rfl, by show (100 : Int32) * nI a + nI (a + 1 + k) = nI (100 * a + (a + 1 + k)); rw [lit_100, pk_mul, nI_add], nI_1 (a + 1 + k), g7', ff7⟩
          · have e : inB2 s w n a (outB s w n a) (k + 1) = inB2 s w n a (outB s w n a) k := if_neg hb
            rw [if_pos (hcv.mpr hb)]
            unfold f_X6_bestExchange_90
            rw [e7, bind_s, nmI_e, bind_s, e]
            exact ⟨_, rfl, rfl, rfl, nI_1 (a + 1 + k), g7', ff7⟩
        · rintro ⟨z1, z2, z3, m4⟩ ⟨j1, j2, j3, j4, j5⟩
          dsimp only at j1 j2 j3 j4 j5
          subst j1 j2 j3
          show ∃ e, f_X6_bestExchange_45 c 28 (nI w) (nI n) (nI (tdN (ssD s))) _ _ (nI a) (nI (a + 1 + (tdN (ssD s) - (a + 1)))) m4 = some (Sum.inr e) ∧ _
          unfold f_X6_bestExchange_45
          rw [if_pos (nI_le (by omega) (by omega))]
          exact ⟨_, rfl, rfl, rfl, j4, j5⟩
      obtain ⟨⟨z1, z2, m4⟩, e4, q1, q2, q3, q4⟩ := inner
      dsimp only at q1 q2 q3 q4
      rw [e4, bind_s, bind_s]
      exact ⟨_, rfl, q1, q2, rfl, q3, q4⟩
    · rintro ⟨y1, y2, y3, m3⟩ ⟨i1, i2, i3, i4, i5⟩
      dsimp only at i1 i2 i3 i4 i5
      subst i1 i2 i3
      show ∃ e, f_X6_bestExchange_32 c 28 (nI w) (nI n) (nI (tdN (ssD s))) _ _ (nI (tdN (ssD s))) m3 = some (Sum.inr e) ∧ _
      unfold f_X6_bestExchange_32
      rw [if_pos (nI_le (Nat.le_refl _) (by omega))]
      exact ⟨_, rfl, rfl, i5⟩
  obtain ⟨⟨y, m3⟩, e3, q1, q2⟩ := key
  dsimp only at q1 q2
  subst q1
  rw [e3, bind_s, bind_s]
  exact OkX.scr hX q2 SSeX
theorem k_better_x0 (hX : XS m c s) (hV : VS s) {x y : Int32} (h : ¬ (aimOk x y ∧ 0 < tdN (ssD s))) : OkX m c (F_X11_better c x y m) (-1) s := by
  have hN := hV.n
  unfold F_X11_better
  by_cases h1 : aimOk x y
  · rw [(x_isAim _ _).1 h1, bind_s]
    dsimp only
    have : tdN (ssD s) = 0 := by
      apply Nat.eq_zero_of_not_pos
      exact fun z => h ⟨h1, z⟩
    rw [if_neg (by decide), hX.n, if_pos (by rw [this]; rfl)]
    exact OkX.same hX
  · rw [(x_isAim _ _).2 h1, bind_s]
    exact OkX.same hX
theorem m_ident {m1 : M2} (hM : MS m l s) (hV : VS s) (hf : Fr SSe m m1) {x1 x2 : Int32} : ∃ m', loop (g_X12_better_13 x1 x2) ((0 : Int32), m1) = some m' ∧ (∀ b, b < tdN (ssD s) → hI m' 105 b = nI b) ∧ Fr (fun k _ => k = 105) m1 m' := by
  have hN := hV.n
  refine loop_to (tdN (ssD s)) (fun k z => z.1 = nI k ∧ (∀ b, b < k → hI z.2 105 b = nI b) ∧ Fr (fun k _ => k = 105) m1 z.2) _ (by omega) ?_ ?_ ⟨rfl, fun b hb => by omega, Fr.rf⟩
  · rintro k ⟨x, m2⟩ hk ⟨i1, i2, i3⟩
    dsimp only at i1 i2 i3
    subst i1
    show ∃ s', f_X12_better_13 x1 x2 (nI k) m2 = some (Sum.inl s') ∧ _
    have hM2 := (hM.1.fr hf (fun k j h z => by omega)).fr i3 (fun k j h z => by omega)
    unfold f_X12_better_13
    rw [m_menNow hM2.1.1 hM.l2 hM2.1.2.2.2.1, bind_s]
    dsimp only
    rw [if_neg (nI_ge hk (by omega)), bI_n _ 105 _ (show k < 12 by omega) (by omega), bind_s, nmI_e, bind_s]
    refine ⟨_, rfl, nI_1 k, fun b hb => ?_, i3.tI _ rfl⟩
    rw [hI_tI]
    by_cases e : b = k
    · rw [if_pos ⟨rfl, e⟩, e]
    · rw [if_neg (by omega)]
      exact i2 b (by omega)
  · rintro ⟨x, m2⟩ ⟨i1, i2, i3⟩
    dsimp only at i1 i2 i3
    subst i1
    show ∃ e, f_X12_better_13 x1 x2 (nI (tdN (ssD s))) m2 = some (Sum.inr e) ∧ _
    have hM2 := (hM.1.fr hf (fun k j h z => by omega)).fr i3 (fun k j h z => by omega)
    unfold f_X12_better_13
    rw [m_menNow hM2.1.1 hM.l2 hM2.1.2.2.2.1, bind_s]
    dsimp only
    rw [if_pos (nI_le (Nat.le_refl _) (by omega))]
    exact ⟨_, rfl, i2, i3⟩
theorem k_better_m (hM : MS m l s) (hV : VS s) {w n : Nat} (hw : w ≤ 2) (hn1 : 1 ≤ n) (hn : n ≤ 30) (hN0 : 0 < tdN (ssD s)) : OkM m l (F_X12_better (nI w) (nI n) m) (outB s w n (tdN (ssD s))).2 s := by
  have hN := hV.n
  unfold F_X12_better
  rw [(m_canSeat hM hV _ _).1 ⟨⟨⟨w, by omega, hw, rfl⟩, ⟨n, hn1, hn, rfl⟩⟩, hN0⟩, bind_s]
  dsimp only
  rw [if_neg (by decide)]
  obtain ⟨m1, e1, g1, f1⟩ := m_ident (x1 := nI w) (x2 := nI n) hM hV Fr.rf
  have ff1 : Fr SSe m m1 := f1.mono (fun k j z => by omega)
  rw [e1, bind_s]
  obtain ⟨m2, e2, z2, f2⟩ := m_comesTo (o := fun i => i) hM hV (fun b hb => hb) hw hn ff1 (fun b hb => g1 b hb)
  have ff2 : Fr SSe m m2 := ff1.tr (f2.mono (fun k j z => by omega))
  rw [e2, bind_s]
  dsimp only
  have key : ∃ e, loop (g_X12_better_48 (nI w) (nI n)) (nI (cst s (fun i => i) w n), (-2 : Int32), (0 : Int32), m2) = some e ∧ e.1 = (outB s w n (tdN (ssD s))).2 ∧ Fr SSe m e.2 := by
    refine loop_to (tdN (ssD s)) (fun a z => z.1 = nI (outB s w n a).1 ∧ z.2.1 = (outB s w n a).2 ∧ z.2.2.1 = nI a ∧ (∀ b, b < tdN (ssD s) → hI z.2.2.2 105 b = nI b) ∧ Fr SSe m z.2.2.2) _ (by omega) ?_ ?_ ⟨rfl, rfl, rfl, fun b hb => by rw [f2.I _ _ (by omega)]; exact g1 b hb, ff2⟩
    · rintro a ⟨y1, y2, y3, m3⟩ ha ⟨i1, i2, i3, i4, i5⟩
      dsimp only at i1 i2 i3 i4 i5
      subst i1 i2 i3
      show ∃ s', f_X12_better_48 (nI w) (nI n) _ _ (nI a) m3 = some (Sum.inl s') ∧ _
      have hM3 := hM.1.fr i5 (fun k j h z => by omega)
      unfold f_X12_better_48
      rw [m_menNow hM3.1.1 hM.l2 hM3.1.2.2.2.1, bind_s]
      dsimp only
      rw [if_neg (nI_ge ha (by omega)), nmI_e, bind_s, nI_1]
      have hz := outB_le hV (w := w) hn a
      have inner : ∃ e, loop (g_X12_better_63 (nI w) (nI n) (nI a)) (nI (outB s w n a).1, (outB s w n a).2, nI (a + 1), m3) = some e ∧ e.1 = nI (outB s w n (a + 1)).1 ∧ e.2.1 = (outB s w n (a + 1)).2 ∧ (∀ b, b < tdN (ssD s) → hI e.2.2 105 b = nI b) ∧ Fr SSe m e.2.2 := by
        refine loop_to (tdN (ssD s) - (a + 1)) (fun k z => z.1 = nI (inB2 s w n a (outB s w n a) k).1 ∧ z.2.1 = (inB2 s w n a (outB s w n a) k).2 ∧ z.2.2.1 = nI (a + 1 + k) ∧ (∀ b, b < tdN (ssD s) → hI z.2.2.2 105 b = nI b) ∧ Fr SSe m z.2.2.2) _ (by omega) ?_ ?_ ⟨rfl, rfl, rfl, i4, i5⟩
        · rintro k ⟨z1, z2, z3, m4⟩ hk ⟨j1, j2, j3, j4, j5⟩
          dsimp only at j1 j2 j3 j4 j5
          subst j1 j2 j3
          show ∃ s', f_X12_better_63 (nI w) (nI n) _ _ (nI a) (nI (a + 1 + k)) m4 = some (Sum.inl s') ∧ _
          have hzk := inB2_le hV (w := w) (a := a) hn hz k
          have hcs := cst_le hV (ids a (a + 1 + k)) (w := w) hn
          have hM4 := hM.1.fr j5 (fun k j h z => by omega)
          unfold f_X12_better_63
          rw [m_menNow hM4.1.1 hM.l2 hM4.1.2.2.2.1, bind_s]
          dsimp only
          rw [if_neg (nI_ge (by omega) (by omega)), bI_n _ 105 _ (show a < 12 by omega) (by omega), bind_s, bI_n _ 105 _ (show a + 1 + k < 12 by omega) (by omega), bind_s]
          have ff5 : Fr SSe m (tI (tI m4 105 a (nI (a + 1 + k))) 105 (a + 1 + k) (nI a)) := (j5.tI _ (by omega)).tI _ (by omega)
          have g5 : ∀ b, b < tdN (ssD s) → hI (tI (tI m4 105 a (nI (a + 1 + k))) 105 (a + 1 + k) (nI a)) 105 b = nI (ids a (a + 1 + k) b) := by
            intro b hb
            rw [hI_tI, hI_tI]
            unfold ids swp
            by_cases e1 : b = a + 1 + k
            · rw [if_pos ⟨rfl, e1⟩, if_pos e1]
            · rw [if_neg (fun z => e1 z.2), if_neg e1]
              by_cases e2 : b = a
              · rw [if_pos ⟨rfl, e2⟩, if_pos e2]
              · rw [if_neg (fun z => e2 z.2), if_neg e2]
                exact j4 b hb
          obtain ⟨m6, e6, z6, f6⟩ := m_comesTo (o := ids a (a + 1 + k)) hM hV (ids_ok ha (by omega)) hw hn ff5 g5
          have ff6 : Fr SSe m m6 := ff5.tr (f6.mono (fun k j z => by omega))
          rw [e6, bind_s]
          dsimp only
          rw [bI_n _ 105 _ (show a < 12 by omega) (by omega), bind_s, bI_n _ 105 _ (show a + 1 + k < 12 by omega) (by omega), bind_s]
          have ff7 : Fr SSe m (tI (tI m6 105 a (nI a)) 105 (a + 1 + k) (nI (a + 1 + k))) := (ff6.tI _ (by omega)).tI _ (by omega)
          have g7 : ∀ b, b < tdN (ssD s) → hI (tI (tI m6 105 a (nI a)) 105 (a + 1 + k) (nI (a + 1 + k))) 105 b = nI b := by
            intro b hb
            rw [hI_tI, hI_tI]
            by_cases e1 : b = a + 1 + k
            · rw [if_pos ⟨rfl, e1⟩, e1]
            · rw [if_neg (fun z => e1 z.2)]
              by_cases e2 : b = a
              · rw [if_pos ⟨rfl, e2⟩, e2]
              · rw [if_neg (fun z => e2 z.2), f6.I _ _ (by omega), g5 b hb]
                unfold ids swp
                rw [if_neg e1, if_neg e2]
          generalize tI (tI m6 105 a (nI a)) 105 (a + 1 + k) (nI (a + 1 + k)) = m7 at ff7 g7 ⊢
          rw [m_isBetter hw (by omega) (by omega), bind_s]
          dsimp only
          by_cases hb : btr w (cst s (ids a (a + 1 + k)) w n) (inB2 s w n a (outB s w n a) k).1 = true
          · have e : inB2 s w n a (outB s w n a) (k + 1) = (cst s (ids a (a + 1 + k)) w n, nI (100 * a + (a + 1 + k))) := if_pos hb
            rw [if_neg (fun z => (b1_0 _).mp z hb), nmI_e, bind_s, e]
            exact ⟨_, rfl, rfl, by show (100 : Int32) * nI a + nI (a + 1 + k) = nI (100 * a + (a + 1 + k)); rw [lit_100, pk_mul, nI_add], nI_1 (a + 1 + k), g7, ff7⟩
          · have e : inB2 s w n a (outB s w n a) (k + 1) = inB2 s w n a (outB s w n a) k := if_neg hb
            rw [if_pos ((b1_0 _).mpr hb), e]
            exact ⟨_, rfl, rfl, rfl, nI_1 (a + 1 + k), g7, ff7⟩
        · rintro ⟨z1, z2, z3, m4⟩ ⟨j1, j2, j3, j4, j5⟩
          dsimp only at j1 j2 j3 j4 j5
          subst j1 j2 j3
          show ∃ e, f_X12_better_63 (nI w) (nI n) _ _ (nI a) (nI (a + 1 + (tdN (ssD s) - (a + 1)))) m4 = some (Sum.inr e) ∧ _
          have hM4 := hM.1.fr j5 (fun k j h z => by omega)
          unfold f_X12_better_63
          rw [m_menNow hM4.1.1 hM.l2 hM4.1.2.2.2.1, bind_s]
          dsimp only
          rw [if_pos (nI_le (by omega) (by omega))]
          exact ⟨_, rfl, rfl, rfl, j4, j5⟩
      obtain ⟨⟨z1, z2, m4⟩, e4, q1, q2, q3, q4⟩ := inner
      dsimp only at q1 q2 q3 q4
      rw [e4, bind_s, bind_s]
      exact ⟨_, rfl, q1, q2, rfl, q3, q4⟩
    · rintro ⟨y1, y2, y3, m3⟩ ⟨i1, i2, i3, i4, i5⟩
      dsimp only at i1 i2 i3 i4 i5
      subst i1 i2 i3
      show ∃ e, f_X12_better_48 (nI w) (nI n) _ _ (nI (tdN (ssD s))) m3 = some (Sum.inr e) ∧ _
      have hM3 := hM.1.fr i5 (fun k j h z => by omega)
      unfold f_X12_better_48
      rw [m_menNow hM3.1.1 hM.l2 hM3.1.2.2.2.1, bind_s]
      dsimp only
      rw [if_pos (nI_le (Nat.le_refl _) (by omega))]
      exact ⟨_, rfl, rfl, i5⟩
  obtain ⟨⟨y, m3⟩, e3, q1, q2⟩ := key
  dsimp only at q1 q2
  subst q1
  rw [e3, bind_s]
  exact OkM.scr hM q2 SSeM
theorem k_better_m0 (hM : MS m l s) (hV : VS s) {x y : Int32} (h : ¬ (aimOk x y ∧ 0 < tdN (ssD s))) : OkM m l (F_X12_better x y m) (-1) s := by
  unfold F_X12_better
  rw [(m_canSeat hM hV _ _).2 h, bind_s]
  exact OkM.same hM
end KH
