/-! ===== seating, seat ===== -/
section KJ
variable {m : M2} {c l : Nat} {s : SS}
def ordK (N : Nat) : Nat := (runl N 720 (List.range N) 0).getD 0
theorem ord_ok {N : Nat} (hN : N < 7) : ordK N ≤ 719 ∧ (∀ i, i < ordK N → nxl N (itl N i) = some (itl N (i + 1))) ∧ nxl N (itl N (ordK N)) = none := by
  have h := run_all N hN
  obtain ⟨K, hK⟩ := Option.isSome_iff_exists.mp h
  have e : ordK N = K := by unfold ordK; rw [hK]; rfl
  obtain ⟨h1, h2, h3, h4⟩ := run_ok N 720 0 K hK
  rw [e]
  exact ⟨by omega, fun i hi => h3 i (by omega) hi, h4⟩
def fC (s : SS) (w n r : Nat) : Nat := cst s (dg (itl (tdN (ssD s)) r)) w n
def fm (s : SS) (w n : Nat) : Nat → Nat
  | 0 => 0
  | r + 1 => if btr w (fC s w n (r + 1)) (fC s w n (fm s w n r)) = true then r + 1 else fm s w n r
def bsO (s : SS) (w n : Nat) : Nat := fm s w n (ordK (tdN (ssD s)))
abbrev SxO : Nat → Nat → Prop := fun k _ => (24 ≤ k ∧ k ≤ 26) ∨ (35 ≤ k ∧ k ≤ 37)
theorem fC_le (hV : VS s) {w n : Nat} (hn : n ≤ 30) (r : Nat) : fC s w n r ≤ 360 := cst_le hV _ hn
theorem x_bestOrder (hX : XS m c s) (hV : VS s) {w n : Nat} (hw : w ≤ 2) (hn : n ≤ 30) (hN1 : 1 ≤ tdN (ssD s)) (hN6 : tdN (ssD s) ≤ 6) : ∃ m', F_X6_bestOrder c 28 (nI w) (nI n) m = some (nI (fC s w n (bsO s w n)), m') ∧ (∀ b, b < tdN (ssD s) → hI m' 36 b = nI (dg (itl (tdN (ssD s)) (bsO s w n)) b)) ∧ Fr SxO m m' := by
  have hc := hX.tx
  obtain ⟨K1, K2, K3⟩ := ord_ok (N := tdN (ssD s)) (by omega)
  unfold F_X6_bestOrder
  obtain ⟨m1, e1, g1, f1⟩ := x_sit (c := c) m
  rw [hX.n, nmI_e, bind_s, e1, bind_s, kC_12, bind_s]
  have ff1 : Fr SxO m (tC m1 35 36 0 0 12) := (f1.mono (fun k j z => by omega)).tC (fun j => by omega)
  have g35 : ∀ b, b < tdN (ssD s) → hI (tC m1 35 36 0 0 12) 35 b = nI (dg (itl (tdN (ssD s)) 0) b) := fun b hb => by
    rw [tC_O (by omega), g1 b (by omega)]
    exact congrArg nI ((LOk.rng _).2 b hb).symm
  have g36 : ∀ b, b < tdN (ssD s) → hI (tC m1 35 36 0 0 12) 36 b = nI (dg (itl (tdN (ssD s)) 0) b) := fun b hb => by
    rw [tC_I (by omega), g1 b (by omega)]
    exact congrArg nI ((LOk.rng _).2 b hb).symm
  have L0 : LOk (tdN (ssD s)) (itl (tdN (ssD s)) 0) := (LOk.rng _).1
  generalize tC m1 35 36 0 0 12 = m2 at ff1 g35 g36 ⊢
  obtain ⟨m3, e3, f3⟩ := x_cost (o := dg (itl (tdN (ssD s)) 0)) hX hV (fun b hb => L0.2 b hb) hw hn ff1 g35
  rw [e3, bind_s]
  dsimp only
  have ff3 : Fr SxO m m3 := ff1.tr (f3.mono (fun k j z => by omega))
  have key : ∃ e, loop (g_X6_bestOrder_43 c 28 (nI w) (nI n) (nI (tdN (ssD s)))) (cvI w (cst s (dg (itl (tdN (ssD s)) 0)) w n), (1 : Int32), m3) = some e ∧ e.1 = cvI w (fC s w n (bsO s w n)) ∧ (∀ b, b < tdN (ssD s) → hI e.2 36 b = nI (dg (itl (tdN (ssD s)) (bsO s w n)) b)) ∧ Fr SxO m e.2 := by
    refine loop_to (ordK (tdN (ssD s))) (fun r z => z.1 = cvI w (fC s w n (fm s w n r)) ∧ z.2.1 = nI (r + 1) ∧ LOk (tdN (ssD s)) (itl (tdN (ssD s)) r) ∧ (∀ b, b < tdN (ssD s) → hI z.2.2 35 b = nI (dg (itl (tdN (ssD s)) r) b)) ∧ (∀ b, b < tdN (ssD s) → hI z.2.2 36 b = nI (dg (itl (tdN (ssD s)) (fm s w n r)) b)) ∧ Fr SxO m z.2.2) _ (by omega) ?_ ?_ ⟨rfl, rfl, L0, fun b hb => by rw [f3.I _ _ (by omega)]; exact g35 b hb, fun b hb => by rw [f3.I _ _ (by omega)]; exact g36 b hb, ff3⟩
    · rintro r ⟨y1, y2, m4⟩ hr ⟨i1, i2, i3, i4, i5, i6⟩
      dsimp only at i1 i2 i4 i5 i6
      subst i1 i2
      show ∃ s', f_X6_bestOrder_43 c 28 (nI w) (nI n) (nI (tdN (ssD s))) (cvI w (fC s w n (fm s w n r))) (nI (r + 1)) m4 = some (Sum.inl s') ∧ _
      have q1 := fC_le hV (w := w) hn (fm s w n r)
      have q2 := fC_le hV (w := w) hn (r + 1)
      obtain ⟨L5, m5, e5, g5, f5⟩ := (x_next (c := c) (m := m4) ⟨hN1, by omega⟩ i3 i4).2 _ (K2 r hr)
      have ff5 : Fr SxO m m5 := i6.tr (f5.mono (fun k j z => by omega))
      obtain ⟨m6, e6, f6⟩ := x_cost (o := dg (itl (tdN (ssD s)) (r + 1))) hX hV (fun b hb => L5.2 b hb) hw hn ff5 g5
      have ff6 : Fr SxO m m6 := ff5.tr (f6.mono (fun k j z => by omega))
      have g6 : ∀ b, b < tdN (ssD s) → hI m6 35 b = nI (dg (itl (tdN (ssD s)) (r + 1)) b) := fun b hb => by rw [f6.I _ _ (by omega)]; exact g5 b hb
      have hcv := cv_le (w := w) (u := fC s w n (fm s w n r)) (v := fC s w n (r + 1)) (by omega) (by omega)
      unfold f_X6_bestOrder_43
      rw [show (720 : Int32) = nI 720 from rfl, if_neg (nI_ge (by omega) (by omega)), e5, bind_s]
      dsimp only
      rw [if_neg (by decide), e6, bind_s, show cst s (dg (itl (tdN (ssD s)) (r + 1))) w n = fC s w n (r + 1) from rfl]
      dsimp only
      by_cases hb : btr w (fC s w n (r + 1)) (fC s w n (fm s w n r)) = true
      · have e : fm s w n (r + 1) = r + 1 := if_pos hb
        rw [if_neg (fun z => (hcv.mp z) hb), kC_12, bind_s]
        unfold f_X6_bestOrder_95
        rw [nmI_e, bind_s, nI_1, e]
        exact ⟨_, rfl, rfl, rfl, L5, fun b hb => by show hI (tC m6 35 36 0 0 12) 35 b = _; rw [tC_O (by omega)]; exact g6 b hb, fun b hb => by show hI (tC m6 35 36 0 0 12) 36 b = _; rw [tC_I (by omega)]; exact g6 b hb, ff6.tC (fun j => by omega)⟩
      · have e : fm s w n (r + 1) = fm s w n r := if_neg hb
        rw [if_pos (hcv.mpr hb)]
        unfold f_X6_bestOrder_95
        rw [nmI_e, bind_s, nI_1, e]
        exact ⟨_, rfl, rfl, rfl, L5, g6, fun b hb => by show hI m6 36 b = _; rw [f6.I _ _ (by omega), f5.I _ _ (by omega)]; exact i5 b hb, ff6⟩
    · rintro ⟨y1, y2, m4⟩ ⟨i1, i2, i3, i4, i5, i6⟩
      dsimp only at i1 i2 i4 i5 i6
      subst i1 i2
      show ∃ e, f_X6_bestOrder_43 c 28 (nI w) (nI n) (nI (tdN (ssD s))) _ (nI (ordK (tdN (ssD s)) + 1)) m4 = some (Sum.inr e) ∧ _
      unfold f_X6_bestOrder_43
      rw [show (720 : Int32) = nI 720 from rfl]
      by_cases h7 : 720 ≤ ordK (tdN (ssD s)) + 1
      · rw [if_pos (nI_le h7 (by omega))]
        exact ⟨_, rfl, rfl, i5, i6⟩
      · rw [if_neg (nI_ge (by omega) (by omega)), (x_next (c := c) (m := m4) ⟨hN1, by omega⟩ i3 i4).1 K3, bind_s]
        dsimp only
        rw [if_pos rfl]
        exact ⟨_, rfl, rfl, i5, i6⟩
  obtain ⟨⟨y, m4⟩, e4, q1, q2, q3⟩ := key
  dsimp only at q1 q2 q3
  subst q1
  rw [e4, bind_s]
  refine ⟨m4, ?_, q2, q3⟩
  unfold f_X6_bestOrder_101 cvI
  by_cases h2 : w = 2
  · rw [if_pos (by rw [h2]; rfl), if_pos h2, Int32.neg_neg]
    rfl
  · have h' : ¬ nI w = 2 := fun y => h2 ((nI_eq (by omega) (by omega)).mp (show nI _ = nI 2 from y))
    rw [if_neg h', if_neg h2]
    rfl
def seV (s : SS) (w n : Nat) : Int32 := if tdN (ssD s) ≤ 6 then nI (fC s w n (bsO s w n)) else -2
def stV (s : SS) (w n b : Nat) : Int32 := if tdN (ssD s) ≤ 6 then nI (dg (itl (tdN (ssD s)) (bsO s w n)) b) else -2
theorem k_seating_x (hX : XS m c s) (hV : VS s) {w n : Nat} (hw : w ≤ 2) (hn1 : 1 ≤ n) (hn : n ≤ 30) (hN0 : 0 < tdN (ssD s)) : OkX m c (F_X11_seating c (nI w) (nI n) m) (seV s w n) s := by
  have hN := hV.n
  unfold F_X11_seating seV
  rw [(x_isAim _ _).1 ⟨⟨w, by omega, hw, rfl⟩, ⟨n, hn1, hn, rfl⟩⟩, bind_s]
  dsimp only
  rw [if_neg (by decide), hX.n, if_neg (nI_ne0 hN0 (by omega)), lit_6]
  by_cases h6 : tdN (ssD s) ≤ 6
  · obtain ⟨m1, e1, _, f1⟩ := x_bestOrder hX hV hw hn hN0 h6
    rw [if_pos (nI_le h6 (by omega)), if_pos h6, e1, bind_s]
    exact OkX.scr hX f1 SSeX
  · rw [if_neg (nI_ge (by omega) (by omega)), if_neg h6]
    exact OkX.same hX
theorem k_seating_x0 (hX : XS m c s) (hV : VS s) {x y : Int32} (h : ¬ (aimOk x y ∧ 0 < tdN (ssD s))) : OkX m c (F_X11_seating c x y m) (-1) s := by
  have hN := hV.n
  unfold F_X11_seating
  by_cases h1 : aimOk x y
  · rw [(x_isAim _ _).1 h1, bind_s]
    dsimp only
    have : tdN (ssD s) = 0 := by
      apply Nat.eq_zero_of_not_pos
      exact fun z => h ⟨h1, z⟩
    rw [if_neg (by decide), hX.n, if_pos (by rw [this]; rfl)]
    exact OkX.same hX
  · rw [(x_isAim _ _).2 h1, bind_s]
    exact OkX.same hX
theorem k_seat_x (hX : XS m c s) (hV : VS s) {w n b : Nat} (hw : w ≤ 2) (hn1 : 1 ≤ n) (hn : n ≤ 30) (hb : b < tdN (ssD s)) : OkX m c (F_X11_seat c (nI w) (nI n) (nI b) m) (stV s w n b) s := by
  have hN := hV.n
  unfold F_X11_seat stV
  rw [(x_isAim _ _).1 ⟨⟨w, by omega, hw, rfl⟩, ⟨n, hn1, hn, rfl⟩⟩, bind_s]
  dsimp only
  rw [if_neg (by decide), xB1 hX.n hN ⟨b, hb, rfl⟩, bind_s]
  dsimp only
  rw [if_neg (by decide), hX.n, lit_6]
  by_cases h6 : tdN (ssD s) ≤ 6
  · obtain ⟨m1, e1, g1, f1⟩ := x_bestOrder hX hV hw hn (by omega) h6
    rw [if_pos (nI_le h6 (by omega)), if_pos h6, e1, bind_s]
    dsimp only
    rw [aI_n _ 36 (show b < 12 by omega) (by omega), bind_s, g1 b hb]
    exact OkX.scr hX f1 SSeX
  · rw [if_neg (nI_ge (by omega) (by omega)), if_neg h6]
    exact OkX.same hX
theorem k_seat_x0 (hX : XS m c s) (hV : VS s) {x y z : Int32} (h : ¬ (aimOk x y ∧ isB (tdN (ssD s)) z)) : OkX m c (F_X11_seat c x y z m) (-1) s := by
  have hN := hV.n
  unfold F_X11_seat
  by_cases h1 : aimOk x y
  · rw [(x_isAim _ _).1 h1, bind_s]
    dsimp only
    rw [if_neg (by decide), xB0 hX.n hN (fun z => h ⟨h1, z⟩), bind_s]
    exact OkX.same hX
  · rw [(x_isAim _ _).2 h1, bind_s]
    exact OkX.same hX
theorem m_ident2 {m1 : M2} (hM : MS m l s) (hV : VS s) (hf : Fr SSe m m1) {x1 x2 : Int32} : ∃ m', loop (g_X12_seats_2 x1 x2) ((0 : Int32), m1) = some m' ∧ (∀ b, b < tdN (ssD s) → hI m' 105 b = nI b) ∧ Fr (fun k _ => k = 105) m1 m' := m_ident (x1 := x1) (x2 := x2) hM hV hf
theorem m_copyO {m1 : M2} {o : Nat → Nat} (hM : MS m l s) (hV : VS s) (hf : Fr SSe m m1) {x1 x2 x3 : Int32} (hO : ∀ b, b < tdN (ssD s) → hI m1 105 b = nI (o b)) : ∃ m', loop (g_X12_seats_65 x1 x2 x3) ((0 : Int32), m1) = some m' ∧ (∀ b, b < tdN (ssD s) → hI m' 106 b = nI (o b)) ∧ Fr (fun k _ => k = 106) m1 m' := by
  have hN := hV.n
  refine loop_to (tdN (ssD s)) (fun k z => z.1 = nI k ∧ (∀ b, b < k → hI z.2 106 b = nI (o b)) ∧ Fr (fun k _ => k = 106) m1 z.2) _ (by omega) ?_ ?_ ⟨rfl, fun b hb => by omega, Fr.rf⟩
  · rintro k ⟨x, m2⟩ hk ⟨i1, i2, i3⟩
    dsimp only at i1 i2 i3
    subst i1
    show ∃ s', f_X12_seats_65 x1 x2 x3 (nI k) m2 = some (Sum.inl s') ∧ _
    have hM2 := (hM.1.fr hf (fun k j h z => by omega)).fr i3 (fun k j h z => by omega)
    unfold f_X12_seats_65
    rw [m_menNow hM2.1.1 hM.l2 hM2.1.2.2.2.1, bind_s]
    dsimp only
    rw [if_neg (nI_ge hk (by omega)), aI_n _ 105 (show k < 12 by omega) (by omega), bind_s, bI_n _ 106 _ (show k < 12 by omega) (by omega), bind_s, nmI_e, bind_s]
    refine ⟨_, rfl, nI_1 k, fun b hb => ?_, i3.tI _ rfl⟩
    rw [hI_tI]
    by_cases e : b = k
    · rw [if_pos ⟨rfl, e⟩, e, i3.I _ _ (by omega)]
      exact hO k hk
    · rw [if_neg (by omega)]
      exact i2 b (by omega)
  · rintro ⟨x, m2⟩ ⟨i1, i2, i3⟩
    dsimp only at i1 i2 i3
    subst i1
    show ∃ e, f_X12_seats_65 x1 x2 x3 (nI (tdN (ssD s))) m2 = some (Sum.inr e) ∧ _
    have hM2 := (hM.1.fr hf (fun k j h z => by omega)).fr i3 (fun k j h z => by omega)
    unfold f_X12_seats_65
    rw [m_menNow hM2.1.1 hM.l2 hM2.1.2.2.2.1, bind_s]
    dsimp only
    rw [if_pos (nI_le (Nat.le_refl _) (by omega))]
    exact ⟨_, rfl, i2, i3⟩
def mre (K r : Nat) : Int32 := if r ≤ K then 1 else 0
theorem m_seats (hM : MS m l s) (hV : VS s) {w n : Nat} (hw : w ≤ 2) (hn : n ≤ 30) (hN1 : 1 ≤ tdN (ssD s)) (hN6 : tdN (ssD s) ≤ 6) : ∃ m', F_X12_seats (nI w) (nI n) m = some (nI (fC s w n (bsO s w n)), m') ∧ (∀ b, b < tdN (ssD s) → hI m' 106 b = nI (dg (itl (tdN (ssD s)) (bsO s w n)) b)) ∧ Fr SSe m m' := by
  obtain ⟨K1, K2, K3⟩ := ord_ok (N := tdN (ssD s)) (by omega)
  unfold F_X12_seats
  obtain ⟨m1, e1, g1, f1⟩ := m_ident2 (x1 := nI w) (x2 := nI n) hM hV Fr.rf
  have ff1 : Fr SSe m m1 := f1.mono (fun k j z => by omega)
  rw [e1, bind_s]
  have g0 : ∀ b, b < tdN (ssD s) → hI m1 105 b = nI (dg (itl (tdN (ssD s)) 0) b) := fun b hb => by
    rw [g1 b hb]
    exact congrArg nI ((LOk.rng _).2 b hb).symm
  have L0 : LOk (tdN (ssD s)) (itl (tdN (ssD s)) 0) := (LOk.rng _).1
  have key : ∃ e, loop (g_X12_seats_31 (nI w) (nI n)) ((0 : Int32), (1 : Int32), (1 : Int32), m1) = some e ∧ e.1 = nI (fC s w n (bsO s w n)) ∧ (∀ b, b < tdN (ssD s) → hI e.2 106 b = nI (dg (itl (tdN (ssD s)) (bsO s w n)) b)) ∧ Fr SSe m e.2 := by
    refine loop_to (ordK (tdN (ssD s)) + 1) (fun r z => (0 < r → z.1 = nI (fC s w n (fm s w n (r - 1)))) ∧ z.2.1 = (if r = 0 then 1 else 0) ∧ z.2.2.1 = mre (ordK (tdN (ssD s))) r ∧ (r ≤ ordK (tdN (ssD s)) → LOk (tdN (ssD s)) (itl (tdN (ssD s)) r) ∧ (∀ b, b < tdN (ssD s) → hI z.2.2.2 105 b = nI (dg (itl (tdN (ssD s)) r) b))) ∧ (0 < r → ∀ b, b < tdN (ssD s) → hI z.2.2.2 106 b = nI (dg (itl (tdN (ssD s)) (fm s w n (r - 1))) b)) ∧ Fr SSe m z.2.2.2) _ (by omega) ?_ ?_ ⟨fun z => by omega, rfl, ?_, fun _ => ⟨L0, g0⟩, fun z => by omega, ff1⟩
    · rintro r ⟨y1, y2, y3, m4⟩ hr ⟨i1, i2, i3, i4, i5, i6⟩
      dsimp only at i1 i2 i3 i4 i5 i6
      subst i2 i3
      have hr' : r ≤ ordK (tdN (ssD s)) := by omega
      obtain ⟨L4, g4⟩ := i4 hr'
      obtain ⟨m5, e5, h65, f5⟩ := m_comesTo (o := dg (itl (tdN (ssD s)) r)) hM hV (fun b hb => L4.2 b hb) hw hn i6 g4
      have ff5 : Fr SSe m m5 := i6.tr (f5.mono (fun k j z => by omega))
      have g5 : ∀ b, b < tdN (ssD s) → hI m5 105 b = nI (dg (itl (tdN (ssD s)) r) b) := fun b hb => by rw [f5.I _ _ (by omega)]; exact g4 b hb
      have q1 := fC_le hV (w := w) hn (fm s w n (r - 1))
      have q2 := fC_le hV (w := w) hn r
      have fin : ∀ (m6 : M2), hI m6 56 65 = nI (tdN (ssD s)) → (∀ b, b < tdN (ssD s) → hI m6 105 b = nI (dg (itl (tdN (ssD s)) r) b)) → Fr SSe m m6 → (∀ b, b < tdN (ssD s) → hI m6 106 b = nI (dg (itl (tdN (ssD s)) (fm s w n r)) b)) → ∃ s', f_X12_seats_94 (nI w) (nI n) (nI (fC s w n (fm s w n r))) m6 = some (Sum.inl s') ∧ (0 < r + 1 → s'.1 = nI (fC s w n (fm s w n (r + 1 - 1)))) ∧ s'.2.1 = (if r + 1 = 0 then 1 else 0) ∧ s'.2.2.1 = mre (ordK (tdN (ssD s))) (r + 1) ∧ (r + 1 ≤ ordK (tdN (ssD s)) → LOk (tdN (ssD s)) (itl (tdN (ssD s)) (r + 1)) ∧ (∀ b, b < tdN (ssD s) → hI s'.2.2.2 105 b = nI (dg (itl (tdN (ssD s)) (r + 1)) b))) ∧ (0 < r + 1 → ∀ b, b < tdN (ssD s) → hI s'.2.2.2 106 b = nI (dg (itl (tdN (ssD s)) (fm s w n (r + 1 - 1))) b)) ∧ Fr SSe m s'.2.2.2 := by
        intro m6 h6 g6 ff6 p6
        unfold f_X12_seats_94
        by_cases hK : r < ordK (tdN (ssD s))
        · obtain ⟨L7, m7, e7, g7, f7⟩ := (m_next (m := m6) ⟨hN1, by omega⟩ h6 L4 g6).2 _ (K2 r hK)
          rw [e7, bind_s]
          refine ⟨_, rfl, fun _ => rfl, rfl, (if_pos (by omega)).symm, fun _ => ⟨L7, g7⟩, fun _ b hb => ?_, ff6.tr (f7.mono (fun k j z => by omega))⟩
          show hI m7 106 b = _
          rw [f7.I _ _ (by omega)]
          exact p6 b hb
        · have e : r = ordK (tdN (ssD s)) := by omega
          rw [(m_next (m := m6) ⟨hN1, by omega⟩ h6 L4 g6).1 (by rw [e]; exact K3), bind_s]
          exact ⟨_, rfl, fun _ => rfl, rfl, (if_neg (by omega)).symm, fun z => by omega, fun _ => p6, ff6⟩
      have cpy : fm s w n r = r → ∀ (v : Int32), v = nI (fC s w n r) → ∃ s', f_X12_seats_59 (nI w) (nI n) v m5 = some (Sum.inl s') ∧ (0 < r + 1 → s'.1 = nI (fC s w n (fm s w n (r + 1 - 1)))) ∧ s'.2.1 = (if r + 1 = 0 then 1 else 0) ∧ s'.2.2.1 = mre (ordK (tdN (ssD s))) (r + 1) ∧ (r + 1 ≤ ordK (tdN (ssD s)) → LOk (tdN (ssD s)) (itl (tdN (ssD s)) (r + 1)) ∧ (∀ b, b < tdN (ssD s) → hI s'.2.2.2 105 b = nI (dg (itl (tdN (ssD s)) (r + 1)) b))) ∧ (0 < r + 1 → ∀ b, b < tdN (ssD s) → hI s'.2.2.2 106 b = nI (dg (itl (tdN (ssD s)) (fm s w n (r + 1 - 1))) b)) ∧ Fr SSe m s'.2.2.2 := by
        intro er v hv
        unfold f_X12_seats_59
        obtain ⟨m6, e6, g6, f6⟩ := m_copyO (x1 := nI w) (x2 := nI n) (x3 := v) hM hV ff5 g5
        rw [e6, bind_s]
        have := fin m6 (by rw [f6.I _ _ (by omega)]; exact h65) (fun b hb => by rw [f6.I _ _ (by omega)]; exact g5 b hb) (ff5.tr (f6.mono (fun k j z => by omega))) (by rw [er]; exact g6)
        rw [er] at this
        rw [hv]
        exact this
      show ∃ s', f_X12_seats_31 (nI w) (nI n) y1 (if r = 0 then 1 else 0) (mre (ordK (tdN (ssD s))) r) m4 = some (Sum.inl s') ∧ _
      have e0 : mre (ordK (tdN (ssD s))) r = 1 := if_pos hr'
      unfold f_X12_seats_31
      rw [e0, if_neg (by decide), e5, bind_s]
      dsimp only
      by_cases hr0 : r = 0
      · rw [if_pos hr0, if_neg (by decide)]
        exact cpy (by rw [hr0]; rfl) _ rfl
      · rw [if_neg hr0, if_pos rfl, i1 (by omega), show nI (cst s (dg (itl (tdN (ssD s)) r)) w n) = nI (fC s w n r) from rfl, m_isBetter hw (by omega) (by omega), bind_s]
        dsimp only
        obtain ⟨r', er'⟩ : ∃ r', r = r' + 1 := ⟨r - 1, by omega⟩
        by_cases hb : btr w (fC s w n r) (fC s w n (fm s w n (r - 1))) = true
        · rw [if_neg (fun z => (b1_0 _).mp z hb)]
          refine cpy ?_ _ rfl
          rw [er'] at hb ⊢
          exact if_pos hb
        · have e : fm s w n r = fm s w n (r - 1) := by
            rw [er'] at hb ⊢
            exact if_neg hb
          rw [if_pos ((b1_0 _).mpr hb), ← e]
          refine fin m5 h65 g5 ff5 (fun b hb => ?_)
          rw [f5.I _ _ (by omega), e]
          exact i5 (by omega) b hb
    · rintro ⟨y1, y2, y3, m4⟩ ⟨i1, i2, i3, i4, i5, i6⟩
      dsimp only at i1 i2 i3 i4 i5 i6
      subst i2 i3
      show ∃ e, f_X12_seats_31 (nI w) (nI n) y1 _ (mre (ordK (tdN (ssD s))) (ordK (tdN (ssD s)) + 1)) m4 = some (Sum.inr e) ∧ _
      have e0 : mre (ordK (tdN (ssD s))) (ordK (tdN (ssD s)) + 1) = 0 := if_neg (by omega)
      unfold f_X12_seats_31
      rw [e0, if_pos rfl]
      exact ⟨_, rfl, i1 (by omega), i5 (by omega), i6⟩
    · exact (if_pos (by omega)).symm
  obtain ⟨⟨y, m4⟩, e4, q1, q2, q3⟩ := key
  dsimp only at q1 q2 q3
  subst q1
  rw [e4, bind_s]
  exact ⟨m4, rfl, q2, q3⟩
theorem k_seating_m (hM : MS m l s) (hV : VS s) {w n : Nat} (hw : w ≤ 2) (hn1 : 1 ≤ n) (hn : n ≤ 30) (hN0 : 0 < tdN (ssD s)) : OkM m l (F_X12_seating (nI w) (nI n) m) (seV s w n) s := by
  have hN := hV.n
  unfold F_X12_seating seV
  rw [(m_canSeat hM hV _ _).1 ⟨⟨⟨w, by omega, hw, rfl⟩, ⟨n, hn1, hn, rfl⟩⟩, hN0⟩, bind_s]
  dsimp only
  rw [if_neg (by decide), m_menNow hM.lv hM.l2 hM.n, bind_s, lit_6]
  dsimp only
  by_cases h6 : tdN (ssD s) ≤ 6
  · obtain ⟨m1, e1, _, f1⟩ := m_seats hM hV hw hn hN0 h6
    rw [if_pos (nI_le h6 (by omega)), if_pos h6, e1, bind_s]
    exact OkM.scr hM f1 SSeM
  · rw [if_neg (nI_ge (by omega) (by omega)), if_neg h6]
    exact OkM.same hM
theorem k_seating_m0 (hM : MS m l s) (hV : VS s) {x y : Int32} (h : ¬ (aimOk x y ∧ 0 < tdN (ssD s))) : OkM m l (F_X12_seating x y m) (-1) s := by
  unfold F_X12_seating
  rw [(m_canSeat hM hV _ _).2 h, bind_s]
  exact OkM.same hM
theorem k_seat_m (hM : MS m l s) (hV : VS s) {w n b : Nat} (hw : w ≤ 2) (hn1 : 1 ≤ n) (hn : n ≤ 30) (hb : b < tdN (ssD s)) : OkM m l (F_X12_seat (nI w) (nI n) (nI b) m) (stV s w n b) s := by
  have hN := hV.n
  unfold F_X12_seat stV
  rw [(m_canSeat hM hV _ _).1 ⟨⟨⟨w, by omega, hw, rfl⟩, ⟨n, hn1, hn, rfl⟩⟩, by omega⟩, bind_s]
  dsimp only
  rw [if_neg (by decide), mB1 hM.lv hM.l2 hM.n hN ⟨b, hb, rfl⟩, bind_s]
  dsimp only
  rw [if_neg (by decide), m_menNow hM.lv hM.l2 hM.n, bind_s, lit_6]
  dsimp only
  by_cases h6 : tdN (ssD s) ≤ 6
  · obtain ⟨m1, e1, g1, f1⟩ := m_seats hM hV hw hn (by omega) h6
    have := fC_le hV (w := w) hn (bsO s w n)
    rw [if_pos (nI_le h6 (by omega)), if_pos h6, e1, bind_s]
    dsimp only
    rw [if_pos (nI_0le (by omega)), aI_n _ 106 (show b < 12 by omega) (by omega), bind_s, g1 b hb]
    exact OkM.scr hM f1 SSeM
  · rw [if_neg (nI_ge (by omega) (by omega)), if_neg h6]
    exact OkM.same hM
theorem k_seat_m0 (hM : MS m l s) (hV : VS s) {x y z : Int32} (h : ¬ (aimOk x y ∧ isB (tdN (ssD s)) z)) : OkM m l (F_X12_seat x y z m) (-1) s := by
  have hN := hV.n
  unfold F_X12_seat
  by_cases h1 : aimOk x y ∧ 0 < tdN (ssD s)
  · rw [(m_canSeat hM hV _ _).1 h1, bind_s]
    dsimp only
    rw [if_neg (by decide), mB0 hM.lv hM.l2 hM.n hN (fun z => h ⟨h1.1, z⟩), bind_s]
    exact OkM.same hM
  · rw [(m_canSeat hM hV _ _).2 h1, bind_s]
    exact OkM.same hM
end KJ
