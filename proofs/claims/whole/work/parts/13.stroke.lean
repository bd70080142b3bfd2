/-! ===== a stroke ===== -/
theorem aI_e (m : M2) (r : Nat) {n j : Nat} {i : Int32} (hi : i = nI j) (h : j < n) (hn : n < 2 ^ 31) : aI m r n i = some (hI m r j) := hi ▸ aI_n m r h hn
theorem aJ_e (m : M2) (r : Nat) {n j : Nat} {i : Int32} (hi : i = nI j) (h : j < n) (hn : n < 2 ^ 31) : aJ m r n i = some (hJ m r j) := hi ▸ aJ_n m r h hn
theorem bI_e (m : M2) (r : Nat) {n j : Nat} {i : Int32} (v : Int32) (hi : i = nI j) (h : j < n) (hn : n < 2 ^ 31) : bI m r n i v = some (tI m r j v) := hi ▸ bI_n m r v h hn
theorem bJ_e (m : M2) (r : Nat) {n j : Nat} {i : Int32} (v : Int64) (hi : i = nI j) (h : j < n) (hn : n < 2 ^ 31) : bJ m r n i v = some (tJ m r j v) := hi ▸ bJ_n m r v h hn
/-- the law's evaluation: what law q makes of the six looks, already the rest by P -/
abbrev Ev : Type := Nat → (Nat → Int32) → Nat
def TxC (m : M2) (c P n nl lag : Nat) (song : Int32) : Prop := (hI m c 0 = nI P ∧ hI m c 5 = nI n ∧ hI m c 1 = nI nl ∧ hI m c 9 = nI lag ∧ hI m c 10 = song) ∧ (3 ≤ P ∧ P ≤ 24) ∧ n ≤ 12 ∧ nl ≤ 6 ∧ lag ≤ 23 ∧ (song = -1 ∨ ∃ s, s < P ∧ song = nI s) ∧ tx c
def TxM (m : M2) (l P n nl : Nat) (song : Int32) : Prop := hI m 56 18 = nI l ∧ l < 2 ∧ hI m 66 l = nI P ∧ hI m 74 l = nI n ∧ hI m 67 l = nI nl ∧ hI m 79 l = song
def LwC (m : M2) (c P nl : Nat) (ev : Ev) : Prop := ∀ q, q < nl → ∀ (v : Nat → Int32) (m' : M2), Fr (fun k _ => k < c ∨ c + 5 < k) m m' → (∀ i, i < 6 → hI m' 25 i = v i) → ∃ (w : Int32) (m'' : M2), F_X5_worked c (hI m (c + 1) q) (v 0) m' = some (w, m'') ∧ rst P w = ev q v ∧ Fr (fun k _ => k = 24) m' m''
/-- what is read of the text that is live -/
def lvs (l k j : Nat) : Prop := (k = 56 ∧ j = 18) ∨ ((k = 66 ∨ k = 67 ∨ k = 74 ∨ (77 ≤ k ∧ k ≤ 80)) ∧ j = l) ∨ ((k = 68 ∨ k = 69) ∧ 6 * l ≤ j ∧ j < 6 * l + 6) ∨ ((70 ≤ k ∧ k ≤ 73) ∧ 54 * l ≤ j ∧ j < 54 * l + 54) ∨ ((k = 75 ∨ k = 76) ∧ 12 * l ≤ j ∧ j < 12 * l + 12) ∨ ((k = 81 ∨ k = 82) ∧ 4 * l ≤ j ∧ j < 4 * l + 4) ∨ ((83 ≤ k ∧ k ≤ 88) ∧ 150 * l ≤ j ∧ j < 150 * l + 150) ∨ ((k = 89 ∨ k = 90) ∧ 420 * l ≤ j ∧ j < 420 * l + 420)
theorem lvs.a {l k j : Nat} (h : lvs l k j) : (66 ≤ k ∧ k ≤ 90) ∨ (k = 56 ∧ j = 18) := by unfold lvs at h; omega
def LwM (m : M2) (l nl : Nat) (ev : Ev) : Prop := ∀ q, q < nl → ∀ (v : Nat → Int32) (m' : M2) (t P : Nat), t < P → P ≤ 24 → hI m 66 l = nI P → v 0 = nI t → Fr (fun k j => ¬ lvs l k j) m m' → (∀ i, i < 6 → hI m' 100 i = v i) → ∃ m'' : M2, F_X12_rowsBy (nI q) (v 0) m' = some (nI (ev q v), m'') ∧ Fr (fun k j => k = 101 ∨ (k = 56 ∧ j = 71)) m' m''
theorem TxC.fr {S : Nat → Nat → Prop} {m m' : M2} {c P n nl lag : Nat} {song : Int32} (h : TxC m c P n nl lag song) (hf : Fr S m m') (hs : ∀ j, ¬ S c j) : TxC m' c P n nl lag song := by
  obtain ⟨⟨h1, h2, h3, h4, h5⟩, hr⟩ := h
  exact ⟨⟨by rw [hf.I _ _ (hs _)]; exact h1, by rw [hf.I _ _ (hs _)]; exact h2, by rw [hf.I _ _ (hs _)]; exact h3, by rw [hf.I _ _ (hs _)]; exact h4, by rw [hf.I _ _ (hs _)]; exact h5⟩, hr⟩
theorem LwC.fr {S : Nat → Nat → Prop} {m m' : M2} {c P nl : Nat} {ev : Ev} (h : LwC m c P nl ev) (hf : Fr S m m') (hs : ∀ k j, c ≤ k → k ≤ c + 5 → ¬ S k j) : LwC m' c P nl ev := by
  intro q hq v m2 hf2 hv
  rw [hf.I _ _ (hs _ _ (by omega) (by omega))]
  refine h q hq v m2 (fun k j hn => ?_) hv
  have h1 := hf2 k j hn
  have h2 := hf k j (hs k j (by omega) (by omega))
  exact ⟨h1.1.trans h2.1, h1.2.trans h2.2⟩
theorem TxM.fr {S : Nat → Nat → Prop} {m m' : M2} {l P n nl : Nat} {song : Int32} (h : TxM m l P n nl song) (hf : Fr S m m') (hs : ∀ k j, (66 ≤ k ∧ k ≤ 90) ∨ (k = 56 ∧ j = 18) → ¬ S k j) : TxM m' l P n nl song := by
  obtain ⟨h1, h2, h3, h4, h5, h6⟩ := h
  exact ⟨by rw [hf.I _ _ (hs _ _ (by omega))]; exact h1, h2, by rw [hf.I _ _ (hs _ _ (by omega))]; exact h3, by rw [hf.I _ _ (hs _ _ (by omega))]; exact h4, by rw [hf.I _ _ (hs _ _ (by omega))]; exact h5, by rw [hf.I _ _ (hs _ _ (by omega))]; exact h6⟩
theorem LwM.fr2 {S : Nat → Nat → Prop} {m m' : M2} {l nl : Nat} {ev : Ev} (h : LwM m l nl ev) (hf : Fr S m m') (hs : ∀ k j, lvs l k j → ¬ S k j) : LwM m' l nl ev := by
  intro q hq v m2 t P h1 h2 h3 h4 hf2 hv
  refine h q hq v m2 t P h1 h2 (by rw [← hf.I 66 l (hs _ _ (by unfold lvs; omega))]; exact h3) h4 (fun k j hn => ?_) hv
  have h1 := hf2 k j hn
  have h2 := hf k j (hs k j (Classical.not_not.mp hn))
  exact ⟨h1.1.trans h2.1, h1.2.trans h2.2⟩
theorem LwM.fr {S : Nat → Nat → Prop} {m m' : M2} {l nl : Nat} {ev : Ev} (h : LwM m l nl ev) (hf : Fr S m m') (hs : ∀ k j, (66 ≤ k ∧ k ≤ 90) ∨ (k = 56 ∧ j = 18) → ¬ S k j) : LwM m' l nl ev := h.fr2 hf (fun k j z => hs k j z.a)
/-- a drum: none, or a part -/
def Dr (P : Nat) (drum : Int32) : Prop := drum = -1 ∨ ∃ d, d < P ∧ drum = nI d
def hrd (P lag : Nat) (drum : Int32) (fog : Int32) (t : Nat → Nat) (b : Nat) : Nat := if fog = 0 ∧ ¬ drum = -1 then (drum.toNatClampNeg + lag * b) % P else t b
def lk (P lag : Nat) (song drum fog : Int32) (t : Nat → Nat) (b : Nat) : Nat → Int32 := fun i => match i with
  | 0 => nI (t b)
  | 1 => nI (t (b - 1))
  | 2 => nI (t (b - 2))
  | 3 => nI (hrd P lag drum fog t b)
  | 4 => nI b
  | _ => if song = -1 then nI (t b) else song
/-- the time of bench b behind a stroke -/
def stp (ev : Ev) (P lag : Nat) (song : Int32) (laws : Nat → Int32) (drum fog : Int32) (t : Nat → Nat) (b : Nat) : Nat := if laws b = -1 then t b else ev (laws b).toNatClampNeg (lk P lag song drum fog t b)
def LwOk (nl n : Nat) (laws : Nat → Int32) : Prop := ∀ b, b < n → laws b = -1 ∨ ∃ q, q < nl ∧ laws b = nI q
def EvOk (ev : Ev) (P nl : Nat) : Prop := ∀ q, q < nl → ∀ v, ev q v < P
theorem nI_m1 {d : Nat} (h : d < 2 ^ 31) : ¬ nI d = -1 := by
  intro e
  have := congrArg Int32.toInt e
  rw [nI_toInt h, show (-1 : Int32).toInt = -1 from rfl] at this
  omega
theorem stp_lt {ev : Ev} {P lag nl n : Nat} {song : Int32} {laws : Nat → Int32} {drum fog : Int32} {t : Nat → Nat} (he : EvOk ev P nl) (hL : LwOk nl n laws) (hnl : nl ≤ 6) (ht : ∀ b, b < n → t b < P) : ∀ b, b < n → stp ev P lag song laws drum fog t b < P := by
  intro b hb
  unfold stp
  split
  · exact ht b hb
  · next h =>
    rcases hL b hb with h1 | ⟨q, hq, h1⟩
    · exact absurd h1 h
    · rw [h1, nI_clamp (by omega)]
      exact he q hq _
theorem x_heard {m : M2} {c P n nl lag : Nat} {song drum fog : Int32} (hT : TxC m c P n nl lag song) (hd : Dr P drum) (t : Nat → Nat) {b : Nat} (hb : b < 12) : F_X5_heard c (nI b) (nI (t b)) drum fog m = some (nI (hrd P lag drum fog t b), m) := by
  obtain ⟨⟨h1, h2, h3, h4, h5⟩, hP, hn, hnl, hlag, hso, hc⟩ := hT
  unfold F_X5_heard hrd
  by_cases hf : fog = 0
  · rw [if_pos hf]
    rcases hd with rfl | ⟨d, hd, rfl⟩
    · rw [if_neg (by decide), if_neg (fun z => z.2 rfl)]
      rfl
    · rw [if_pos (nI_pos' (by omega)), if_pos ⟨hf, nI_m1 (by omega)⟩, h4, h1, pk_mul, nI_add, nI_clamp (by omega)]
      have : lag * b ≤ 23 * 11 := Nat.mul_le_mul (by omega) (by omega)
      rw [rmI_of (nI_nz (by omega) (by omega)), bind_s, pk_rem (by omega) (by omega) (by omega)]
  · rw [if_neg hf, if_neg (fun z => hf z.1)]
    rfl
theorem x_turned {m : M2} {c P n nl lag : Nat} {song drum fog L : Int32} {ev : Ev} (hT : TxC m c P n nl lag song) (hW : LwC m c P nl ev) (hd : Dr P drum) (t : Nat → Nat) {b : Nat} (hb : b < 12) (hL : L = -1 ∨ ∃ q, q < nl ∧ L = nI q) {laws : Nat → Int32} (hl : laws b = L) : ∃ m', F_X5_turned c L (nI b) (nI (t b)) (nI (t (b - 1))) (nI (t (b - 2))) drum fog m = some (nI (stp ev P lag song laws drum fog t b), m') ∧ Fr (fun k _ => k = 24 ∨ k = 25) m m' := by
  have hT0 := hT
  obtain ⟨⟨h1, h2, h3, h4, h5⟩, hP, hn, hnl, hlag, hso, hc⟩ := hT
  unfold F_X5_turned stp
  rcases hL with rfl | ⟨q, hq, rfl⟩
  · rw [if_pos (by decide), hl, if_pos rfl]
    exact ⟨m, rfl, Fr.rf⟩
  · rw [if_neg (nI_pos (by omega)), h3, if_pos (nI_lt hq (by omega)), hl, if_neg (nI_m1 (by omega)), nI_clamp (by omega)]
    have hc25 : ¬ c = 25 ∧ ¬ c + 1 = 25 ∧ ¬ (c = 24) ∧ ¬ (c + 1 = 24) := by rcases hc with rfl | rfl <;> omega
    rw [bI_e m 25 (n := 6) (i := 0) (j := 0) _ rfl (by omega) (by omega), bind_s, bI_e _ 25 (n := 6) (i := 1) (j := 1) _ rfl (by omega) (by omega), bind_s, bI_e _ 25 (n := 6) (i := 2) (j := 2) _ rfl (by omega) (by omega), bind_s]
    have f1 : Fr (fun k _ => k = 24 ∨ k = 25) m (tI (tI (tI m 25 0 (nI (t b))) 25 1 (nI (t (b - 1)))) 25 2 (nI (t (b - 2)))) := ((Fr.rf.tI _ (Or.inr rfl)).tI _ (Or.inr rfl)).tI _ (Or.inr rfl)
    rw [x_heard (hT0.fr f1 (fun j z => by omega)) hd t hb, bind_s]
    dsimp only
    rw [bI_e _ 25 (n := 6) (i := 3) (j := 3) _ rfl (by omega) (by omega), bind_s, bI_e _ 25 (n := 6) (i := 4) (j := 4) _ rfl (by omega) (by omega), bind_s]
    have f2 := ((f1.tI (k := 25) (j := 3) (nI (hrd P lag drum fog t b)) (Or.inr rfl)).tI (k := 25) (j := 4) (nI b) (Or.inr rfl))
    generalize hm2 : tI (tI (tI (tI (tI m 25 0 (nI (t b))) 25 1 (nI (t (b - 1)))) 25 2 (nI (t (b - 2)))) 25 3 (nI (hrd P lag drum fog t b))) 25 4 (nI b) = m2 at f2 ⊢
    have hT2 := hT0.fr f2 (fun j z => by omega)
    have key : ∀ s5 : Int32, s5 = (if song = -1 then nI (t b) else song) → ∃ m', f_X5_turned_89 c (nI q) (nI (t b)) 5 s5 m2 = some (nI (ev q (lk P lag song drum fog t b)), m') ∧ Fr (fun k _ => k = 24 ∨ k = 25) m m' := by
      intro s5 hs5
      unfold f_X5_turned_89
      rw [bI_e _ 25 (n := 6) (i := 5) (j := 5) _ rfl (by omega) (by omega), bind_s]
      have f3 := f2.tI (k := 25) (j := 5) s5 (Or.inr rfl)
      have hT3 := hT0.fr f3 (fun j z => by omega)
      have hlk : ∀ i, i < 6 → hI (tI m2 25 5 s5) 25 i = lk P lag song drum fog t b i := by
        intro i hi
        rw [← hm2]
        match i, hi with
        | 0, _ => simp [hI_tI, lk]
        | 1, _ => simp [hI_tI, lk]
        | 2, _ => simp [hI_tI, lk]
        | 3, _ => simp [hI_tI, lk]
        | 4, _ => simp [hI_tI, lk]
        | 5, _ => simp [hI_tI, lk, hs5]
      generalize tI m2 25 5 s5 = m3 at f3 hT3 hlk ⊢
      rw [aI_n _ (c + 1) (show q < 6 by omega) (by omega), bind_s, f3.I (c + 1) q (fun z => by omega)]
      obtain ⟨w, m4, e1, e2, e3⟩ := hW q hq (lk P lag song drum fog t b) m3 (f3.mono (fun k j z => by rcases hc with rfl | rfl <;> omega)) hlk
      have e1' : F_X5_worked c (hI m (c + 1) q) (nI (t b)) m3 = some (w, m4) := e1
      rw [e1', bind_s]
      have f4 : Fr (fun k _ => k = 24 ∨ k = 25) m m4 := f3.tr (e3.mono (fun k j z => Or.inl z))
      have hT4 := hT0.fr f4 (fun j z => by omega)
      rw [x_rest hT4.1.1 (by omega) (by omega), bind_s, e2]
      exact ⟨m4, rfl, f4⟩
    have h10 : hI m2 c 10 = song := hT2.1.2.2.2.2
    rw [h10]
    rcases hso with rfl | ⟨s, hs, rfl⟩
    · rw [if_neg (by decide)]
      exact key _ (by rw [if_pos rfl])
    · rw [if_pos (nI_pos' (by omega))]
      exact key _ (by rw [if_neg (nI_m1 (by omega))])
theorem x_stroke {m : M2} {c P n nl lag a : Nat} {song drum fog : Int32} {ev : Ev} {laws : Nat → Int32} {t : Nat → Nat} (hT : TxC m c P n nl lag song) (hW : LwC m c P nl ev) (he : EvOk ev P nl) (hd : Dr P drum) (hL : LwOk nl n laws) (ha : ∀ b, b < n → hI m a b = laws b) (ha2 : ¬ a = 24 ∧ ¬ a = 25) (ht : ∀ b, b < n → t b < P) : ∃ m', F_X5_stroke c (lN (pk t n)) a drum fog m = some (lN (pk (stp ev P lag song laws drum fog t) n), m') ∧ Fr (fun k _ => k = 24 ∨ k = 25) m m' := by
  have hT0 := hT
  obtain ⟨⟨h1, h2, h3, h4, h5⟩, hP, hn, hnl, hlag, hso, hc⟩ := hT
  have hc25 : ¬ c = 25 ∧ ¬ c = 24 ∧ c + 5 < 24 := by rcases hc with rfl | rfl <;> omega
  have ht32 : ∀ b, b < n → t b < 32 := fun b hb => by have := ht b hb; omega
  have hs := stp_lt (lag := lag) (song := song) (drum := drum) (fog := fog) he hL hnl ht
  have hs32 : ∀ b, b < n → stp ev P lag song laws drum fog t b < 32 := fun b hb => by have := hs b hb; omega
  have p60 : ∀ (u : Nat → Nat) (k : Nat), k ≤ n → (∀ b, b < k → u b < 32) → pk u k < 2 ^ 60 := by
    intro u k hk hu
    have h := pk_lt32 hu
    have : 32 ^ k ≤ 32 ^ 12 := Nat.pow_le_pow_right (by omega) (by omega)
    omega
  unfold F_X5_stroke
  have hz : ∃ z : Nat, F_X11_timeAt (lN (pk t n)) 0 m = some (nI z, m) ∧ (0 < n → z = t 0) := by
    refine ⟨_, x_timeAt (b := 0) (p60 t n (Nat.le_refl n) ht32) (by omega), fun h => pk_dig ht32 h⟩
  obtain ⟨z, e0, hz⟩ := hz
  rw [e0, bind_s]
  dsimp only
  have key : ∃ e, loop (g_X5_stroke_17 c (lN (pk t n)) a drum fog) ((0 : Int64), nI z, nI z, (0 : Int32), m) = some e ∧ e.1 = lN (pk (stp ev P lag song laws drum fog t) n) ∧ Fr (fun k _ => k = 24 ∨ k = 25) m e.2 := by
    refine loop_to n
      (fun k s => s.1 = lN (pk (stp ev P lag song laws drum fog t) k) ∧ (k < n → s.2.1 = nI (t (k - 1)) ∧ s.2.2.1 = nI (t (k - 2))) ∧ s.2.2.2.1 = nI k ∧ Fr (fun k _ => k = 24 ∨ k = 25) m s.2.2.2.2)
      _ (by omega) ?_ ?_ ⟨rfl, fun h => by rw [hz h]; exact ⟨rfl, rfl⟩, rfl, Fr.rf⟩
    · rintro k ⟨nx, ah, tw, bb, m1⟩ hk ⟨i1, i2, i3, i4⟩
      dsimp only at i1 i2 i3 i4
      obtain ⟨i2, i2'⟩ := i2 hk
      subst i1 i2 i2' i3
      have hT1 := hT0.fr i4 (fun j z => by omega)
      have hW1 := hW.fr i4 (fun k j z1 z2 z => by omega)
      show ∃ s', f_X5_stroke_17 c (lN (pk t n)) a drum fog _ _ _ _ m1 = some (Sum.inl s') ∧ _
      unfold f_X5_stroke_17
      rw [hT1.1.2.1, if_neg (nI_ge hk (by omega)), if_neg (nI_ge (show k < 12 by omega) (by omega)), x_timeAt (p60 t n (Nat.le_refl n) ht32) (by omega), bind_s]
      dsimp only
      rw [aI_n _ a (show k < 12 by omega) (by omega), bind_s, i4.I a k (fun z => by omega), pk_dig ht32 hk, ha k hk]
      obtain ⟨m2, e3, e4⟩ := x_turned (fog := fog) hT1 hW1 hd t (b := k) (by omega) (hL k hk) (laws := laws) rfl
      rw [e3, bind_s]
      dsimp only
      rw [x_withTime (p60 _ k (by omega) (fun b hb => hs32 b (by omega))) (by omega) (hs32 k hk), bind_s, nmI_e, bind_s, sd_top (fun b hb => hs32 b (by omega))]
      refine ⟨_, rfl, rfl, fun _ => ⟨rfl, ?_⟩, ?_, i4.tr e4⟩
      · show nI (t (k - 1)) = nI (t (k + 1 - 2))
        congr 2
      · exact nI_1 k
    · rintro ⟨nx, ah, tw, bb, m1⟩ ⟨i1, i2, i3, i4⟩
      dsimp only at i1 i3 i4
      subst i1 i3
      have hT1 := hT0.fr i4 (fun j z => by omega)
      show ∃ e, f_X5_stroke_17 c (lN (pk t n)) a drum fog _ _ _ _ m1 = some (Sum.inr e) ∧ _
      unfold f_X5_stroke_17
      rw [hT1.1.2.1, if_pos (nI_le (Nat.le_refl n) (by omega))]
      exact ⟨_, rfl, rfl, i4⟩
  obtain ⟨e, e1, e2⟩ := key
  rw [e1, bind_s]
  obtain ⟨r1, r2⟩ := e
  obtain ⟨q1, q2⟩ := e2
  dsimp only at q1 q2
  subst q1
  exact ⟨r2, rfl, q2⟩
