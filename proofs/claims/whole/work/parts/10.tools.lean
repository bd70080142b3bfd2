/-! ===== pure tools ===== -/
theorem hI_tI (m : M2) (k j : Nat) (v : Int32) (a b : Nat) : hI (tI m k j v) a b = if a = k ∧ b = j then v else hI m a b := rfl
theorem hJ_tI (m : M2) (k j : Nat) (v : Int32) (a b : Nat) : hJ (tI m k j v) a b = hJ m a b := rfl
theorem hI_tJ (m : M2) (k j : Nat) (v : Int64) (a b : Nat) : hI (tJ m k j v) a b = hI m a b := rfl
theorem hJ_tJ (m : M2) (k j : Nat) (v : Int64) (a b : Nat) : hJ (tJ m k j v) a b = if a = k ∧ b = j then v else hJ m a b := rfl
theorem hI_tC (m : M2) (r0 r1 sp dp n a b : Nat) : hI (tC m r0 r1 sp dp n) a b = if a = r1 then va_cpy (hI m r0) (hI m r1) sp dp n b else hI m a b := rfl
theorem hJ_tC (m : M2) (r0 r1 sp dp n a b : Nat) : hJ (tC m r0 r1 sp dp n) a b = hJ m a b := rfl
theorem lit_0 : (0 : Int32) = nI 0 := rfl
theorem lit_1 : (1 : Int32) = nI 1 := rfl
theorem lit_2 : (2 : Int32) = nI 2 := rfl
theorem lit_3 : (3 : Int32) = nI 3 := rfl
theorem lit_4 : (4 : Int32) = nI 4 := rfl
theorem lit_5 : (5 : Int32) = nI 5 := rfl
theorem lit_6 : (6 : Int32) = nI 6 := rfl
theorem lit_7 : (7 : Int32) = nI 7 := rfl
theorem lit_8 : (8 : Int32) = nI 8 := rfl
theorem lit_9 : (9 : Int32) = nI 9 := rfl
theorem lit_10 : (10 : Int32) = nI 10 := rfl
theorem lit_11 : (11 : Int32) = nI 11 := rfl
theorem lit_12 : (12 : Int32) = nI 12 := rfl
theorem lit_13 : (13 : Int32) = nI 13 := rfl
theorem lit_14 : (14 : Int32) = nI 14 := rfl
theorem lit_15 : (15 : Int32) = nI 15 := rfl
theorem lit_16 : (16 : Int32) = nI 16 := rfl
theorem lit_17 : (17 : Int32) = nI 17 := rfl
theorem lit_18 : (18 : Int32) = nI 18 := rfl
theorem lit_19 : (19 : Int32) = nI 19 := rfl
theorem lit_20 : (20 : Int32) = nI 20 := rfl
theorem lit_21 : (21 : Int32) = nI 21 := rfl
theorem lit_22 : (22 : Int32) = nI 22 := rfl
theorem lit_23 : (23 : Int32) = nI 23 := rfl
theorem lit_24 : (24 : Int32) = nI 24 := rfl
theorem lit_25 : (25 : Int32) = nI 25 := rfl
theorem lit_26 : (26 : Int32) = nI 26 := rfl
theorem lit_27 : (27 : Int32) = nI 27 := rfl
theorem lit_28 : (28 : Int32) = nI 28 := rfl
theorem lit_29 : (29 : Int32) = nI 29 := rfl
theorem lit_30 : (30 : Int32) = nI 30 := rfl
theorem lit_31 : (31 : Int32) = nI 31 := rfl
theorem lit_32 : (32 : Int32) = nI 32 := rfl
theorem lit_33 : (33 : Int32) = nI 33 := rfl
theorem lit_36 : (36 : Int32) = nI 36 := rfl
theorem lit_48 : (48 : Int32) = nI 48 := rfl
theorem lit_54 : (54 : Int32) = nI 54 := rfl
theorem lit_57 : (57 : Int32) = nI 57 := rfl
theorem lit_60 : (60 : Int32) = nI 60 := rfl
theorem lit_63 : (63 : Int32) = nI 63 := rfl
theorem lit_64 : (64 : Int32) = nI 64 := rfl
theorem lit_97 : (97 : Int32) = nI 97 := rfl
theorem lit_99 : (99 : Int32) = nI 99 := rfl
theorem lit_100 : (100 : Int32) = nI 100 := rfl
theorem lit_122 : (122 : Int32) = nI 122 := rfl
theorem lit_140 : (140 : Int32) = nI 140 := rfl
theorem lit_150 : (150 : Int32) = nI 150 := rfl
theorem lit_255 : (255 : Int32) = nI 255 := rfl
theorem lit_300 : (300 : Int32) = nI 300 := rfl
theorem lit_400 : (400 : Int32) = nI 400 := rfl
theorem lit_401 : (401 : Int32) = nI 401 := rfl
theorem lit_403 : (403 : Int32) = nI 403 := rfl
theorem lit_420 : (420 : Int32) = nI 420 := rfl
theorem lit_720 : (720 : Int32) = nI 720 := rfl
theorem lit_840 : (840 : Int32) = nI 840 := rfl
theorem lit_999 : (999 : Int32) = nI 999 := rfl
theorem lit_1188 : (1188 : Int32) = nI 1188 := rfl
theorem lit_1200 : (1200 : Int32) = nI 1200 := rfl
theorem lit_2000 : (2000 : Int32) = nI 2000 := rfl
theorem lit_4812 : (4812 : Int32) = nI 4812 := rfl
theorem lit_9999 : (9999 : Int32) = nI 9999 := rfl
theorem lit_20736 : (20736 : Int32) = nI 20736 := rfl
theorem ixb_nI {j n : Nat} (h : j < n) (hn : n < 2 ^ 31) : ixb (nI j) n = true := by
  unfold ixb
  rw [nI_clamp (by omega)]
  simp [nI_pos (show j < 2 ^ 31 by omega), h]
theorem aI_n (m : M2) (r : Nat) {n j : Nat} (h : j < n) (hn : n < 2 ^ 31) : aI m r n (nI j) = some (hI m r j) := by
  unfold aI
  rw [if_pos (ixb_nI h hn), nI_clamp (by omega)]
theorem aJ_n (m : M2) (r : Nat) {n j : Nat} (h : j < n) (hn : n < 2 ^ 31) : aJ m r n (nI j) = some (hJ m r j) := by
  unfold aJ
  rw [if_pos (ixb_nI h hn), nI_clamp (by omega)]
theorem bI_n (m : M2) (r : Nat) {n j : Nat} (v : Int32) (h : j < n) (hn : n < 2 ^ 31) : bI m r n (nI j) v = some (tI m r j v) := by
  unfold bI
  rw [if_pos (ixb_nI h hn), nI_clamp (by omega)]
theorem bB_n (m : M2) (r : Nat) {n j : Nat} (v : Int32) (h : j < n) (hn : n < 2 ^ 31) : bB m r n (nI j) v = some (tI m r j v.toInt8.toInt32) := by
  unfold bB
  rw [if_pos (ixb_nI h hn), nI_clamp (by omega)]
theorem bJ_n (m : M2) (r : Nat) {n j : Nat} (v : Int64) (h : j < n) (hn : n < 2 ^ 31) : bJ m r n (nI j) v = some (tJ m r j v) := by
  unfold bJ
  rw [if_pos (ixb_nI h hn), nI_clamp (by omega)]
theorem ixC_n {n j : Nat} (h : j < n) (hn : n < 2 ^ 31) : ixC (nI j) n = some j := by
  unfold ixC
  rw [if_pos (ixb_nI h hn), nI_clamp (by omega)]
theorem nmI_e (x : Int32) : nmI x = some x := rfl
theorem nmJ_e (x : Int64) : nmJ x = some x := rfl
theorem qI_e (m : M2) (k j : Nat) (v : Int32) : qI m k j v = some (tI m k j v) := rfl
theorem qJ_e (m : M2) (k j : Nat) (v : Int64) : qJ m k j v = some (tJ m k j v) := rfl
theorem zb_0 : zb 0 = some 0 := rfl
theorem zb_1 : zb 1 = some 1 := rfl
theorem bind_s {α β : Type} (a : α) (f : α → Option β) : (some a).bind f = f a := rfl
/-! loops -/
theorem lpN_wf {σ ε : Type} {f : σ → Option (σ ⊕ ε)} (I : σ → Prop) (μ : σ → Nat) (Q : ε → Prop) (hs : ∀ s, I s → (∃ s', f s = some (.inl s') ∧ I s' ∧ μ s' < μ s) ∨ (∃ e, f s = some (.inr e) ∧ Q e)) : ∀ (n : Nat) (s : σ), I s → μ s < n → ∃ e, lpN f n s = some e ∧ Q e := by
  intro n
  induction n with
  | zero => intro s _ h; omega
  | succ n ih =>
    intro s hI hμ
    rcases hs s hI with ⟨s', h1, h2, h3⟩ | ⟨e, h1, h2⟩
    · obtain ⟨e, h4, h5⟩ := ih s' h2 (by omega)
      refine ⟨e, ?_, h5⟩
      unfold lpN
      rw [h1]
      exact h4
    · refine ⟨e, ?_, h2⟩
      unfold lpN
      rw [h1]
theorem loop_wf {σ ε : Type} {f : σ → Option (σ ⊕ ε)} (I : σ → Prop) (μ : σ → Nat) (Q : ε → Prop) (hs : ∀ s, I s → (∃ s', f s = some (.inl s') ∧ I s' ∧ μ s' < μ s) ∨ (∃ e, f s = some (.inr e) ∧ Q e)) {s : σ} (h : I s) (hb : μ s < 1000000) : ∃ e, loop f s = some e ∧ Q e := lpN_wf I μ Q hs big s h hb
/-- N rounds, or an end before -/
theorem loop_ex {σ ε : Type} {f : σ → Option (σ ⊕ ε)} (N : Nat) (I : Nat → σ → Prop) (Q : ε → Prop) (hN : N < 999999) (hs : ∀ k s, k < N → I k s → (∃ s', f s = some (.inl s') ∧ I (k + 1) s') ∨ (∃ e, f s = some (.inr e) ∧ Q e)) (he : ∀ s, I N s → ∃ e, f s = some (.inr e) ∧ Q e) {s : σ} (h : I 0 s) : ∃ e, loop f s = some e ∧ Q e := by
  have key : ∀ (j k : Nat) (s : σ), k + j = N → I k s → ∃ e, lpN f (j + 1) s = some e ∧ Q e := by
    intro j
    induction j with
    | zero =>
      intro k s hk hI
      have : k = N := by omega
      subst this
      obtain ⟨e, h1, h2⟩ := he s hI
      exact ⟨e, by unfold lpN; rw [h1], h2⟩
    | succ j ih =>
      intro k s hk hI
      rcases hs k s (by omega) hI with ⟨s', h1, h2⟩ | ⟨e, h1, h2⟩
      · obtain ⟨e, h3, h4⟩ := ih (k + 1) s' (by omega) h2
        exact ⟨e, by unfold lpN; rw [h1]; exact h3, h4⟩
      · exact ⟨e, by unfold lpN; rw [h1], h2⟩
  obtain ⟨e, h1, h2⟩ := key N 0 s (by omega) h
  refine ⟨e, ?_, h2⟩
  have mono : ∀ (a b : Nat) (s : σ) (e : ε), a ≤ b → lpN f a s = some e → lpN f b s = some e := by
    intro a
    induction a with
    | zero => intro b s e _ h; cases h
    | succ a ih =>
      intro b s e hab h
      cases b with
      | zero => omega
      | succ b =>
        unfold lpN at h ⊢
        split at h
        · cases h
        · next s' h1 => exact ih b s' e (by omega) h
        · exact h
  exact mono (N + 1) big s e (by show N + 1 ≤ 1000000; omega) h1
theorem loop_to {σ ε : Type} {f : σ → Option (σ ⊕ ε)} (N : Nat) (I : Nat → σ → Prop) (Q : ε → Prop) (hN : N < 999999) (hs : ∀ k s, k < N → I k s → ∃ s', f s = some (.inl s') ∧ I (k + 1) s') (he : ∀ s, I N s → ∃ e, f s = some (.inr e) ∧ Q e) {s : σ} (h : I 0 s) : ∃ e, loop f s = some e ∧ Q e :=
  loop_ex N I Q hN (fun k s hk hI => Or.inl (hs k s hk hI)) he h
/-! frames: what may have changed -/
def Fr (S : Nat → Nat → Prop) (m m' : M2) : Prop := ∀ k j, ¬ S k j → hI m' k j = hI m k j ∧ hJ m' k j = hJ m k j
theorem Fr.rf {S : Nat → Nat → Prop} {m : M2} : Fr S m m := fun _ _ _ => ⟨rfl, rfl⟩
theorem Fr.tr {S : Nat → Nat → Prop} {m m1 m2 : M2} (h : Fr S m m1) (h' : Fr S m1 m2) : Fr S m m2 := fun k j hn => ⟨(h' k j hn).1.trans (h k j hn).1, (h' k j hn).2.trans (h k j hn).2⟩
theorem Fr.mono {S S' : Nat → Nat → Prop} {m m' : M2} (h : Fr S m m') (hs : ∀ k j, S k j → S' k j) : Fr S' m m' := fun k j hn => h k j (fun z => hn (hs k j z))
theorem Fr.I {S : Nat → Nat → Prop} {m m' : M2} (h : Fr S m m') (k j : Nat) (hn : ¬ S k j) : hI m' k j = hI m k j := (h k j hn).1
theorem Fr.J {S : Nat → Nat → Prop} {m m' : M2} (h : Fr S m m') (k j : Nat) (hn : ¬ S k j) : hJ m' k j = hJ m k j := (h k j hn).2
theorem Fr.tI {S : Nat → Nat → Prop} {m m' : M2} (h : Fr S m m') {k j : Nat} (v : Int32) (hs : S k j) : Fr S m (tI m' k j v) := by
  intro a b hn
  refine ⟨?_, (h a b hn).2⟩
  rw [hI_tI, if_neg (fun z => hn (by rw [z.1, z.2]; exact hs))]
  exact (h a b hn).1
theorem Fr.tJ {S : Nat → Nat → Prop} {m m' : M2} (h : Fr S m m') {k j : Nat} (v : Int64) (hs : S k j) : Fr S m (tJ m' k j v) := by
  intro a b hn
  refine ⟨(h a b hn).1, ?_⟩
  rw [hJ_tJ, if_neg (fun z => hn (by rw [z.1, z.2]; exact hs))]
  exact (h a b hn).2
/-! rests and gaps -/
/-- the rest by P, 0 and more -/
def rst (P : Nat) (x : Int32) : Nat := (x.toInt % (P : Int)).toNat
theorem rst_lt {P : Nat} (x : Int32) (h : 0 < P) : rst P x < P := by
  unfold rst
  have h1 := Int.emod_nonneg x.toInt (show (P : Int) ≠ 0 by omega)
  have h2 := Int.emod_lt_of_pos x.toInt (show (0 : Int) < P by omega)
  omega
theorem rmn_toInt (x : Int32) {P : Nat} (h0 : 0 < P) (hP : P < 2 ^ 30) : (x - x / nI P * nI P).toInt = Int.tmod x.toInt P := by
  have hp : (nI P).toInt = P := nI_toInt (by omega)
  have hb := tmod_bounds (a := x.toInt) (show (0 : Int) < P by omega)
  have hd : (P : Int) * Int.tdiv x.toInt P + Int.tmod x.toInt P = x.toInt := Int.mul_tdiv_add_tmod ..
  have hq : (x / nI P).toInt = Int.tdiv x.toInt P := by
    rw [Int32.toInt_div_of_ne_right _ _ (fun h => ?_), hp]
    have h2 := congrArg Int32.toInt h
    rw [hp, show (-1 : Int32).toInt = -1 from rfl] at h2
    omega
  rw [Int32.toInt_sub, Int32.toInt_mul, hq, hp, Int.sub_bmod_bmod, show x.toInt - Int.tdiv x.toInt P * P = Int.tmod x.toInt P by rw [Int.mul_comm]; omega]
  exact Int.bmod_eq_of_le (by omega) (by omega)
theorem tmod_emod (a : Int) (P : Int) : Int.tmod a P % P = a % P := by
  have hd : P * Int.tdiv a P + Int.tmod a P = a := Int.mul_tdiv_add_tmod ..
  rw [← hd, Int.mul_add_emod_self_left]
  congr 1
  rw [hd]
theorem rst_a {x : Int32} {P : Nat} (h0 : 0 < P) (hP : P < 2 ^ 30) (h : 0 ≤ x - x / nI P * nI P) : x - x / nI P * nI P = nI (rst P x) := by
  apply Int32.toInt_inj.mp
  have h1 := rmn_toInt x h0 hP
  have hb := tmod_bounds (a := x.toInt) (show (0 : Int) < P by omega)
  have h2 := Int32.le_iff_toInt_le.mp h
  rw [h1, show (0 : Int32).toInt = 0 from rfl] at h2
  have h3 := rst_lt x h0
  rw [h1, nI_toInt (by omega)]
  unfold rst
  rw [← tmod_emod, Int.emod_eq_of_lt h2 hb.2]
  omega
theorem rst_b {x : Int32} {P : Nat} (h0 : 0 < P) (hP : P < 2 ^ 30) (h : ¬ 0 ≤ x - x / nI P * nI P) : x - x / nI P * nI P + nI P = nI (rst P x) := by
  apply Int32.toInt_inj.mp
  have h1 := rmn_toInt x h0 hP
  have hb := tmod_bounds (a := x.toInt) (show (0 : Int) < P by omega)
  have h2 : Int.tmod x.toInt P < 0 := by
    rw [Int32.le_iff_toInt_le, h1, show (0 : Int32).toInt = 0 from rfl] at h
    omega
  have h3 := rst_lt x h0
  rw [Int32.toInt_add, h1, nI_toInt (show P < 2 ^ 31 by omega), nI_toInt (by omega), Int.bmod_eq_of_le (by omega) (by omega)]
  unfold rst
  rw [← tmod_emod, ← Int.add_emod_right, Int.emod_eq_of_lt (by omega) (by omega)]
  omega
theorem rmI_of {x y : Int32} (h : ¬ y = 0) : rmI x y = some (x - x / y * y) := if_neg h
theorem dvI_of {x y : Int32} (h : ¬ y = 0) : dvI x y = some (x / y) := if_neg h
/-- the gap of a to b -/
def gp (P : Nat) (a b : Int32) : Int := if 2 * (rst P (a - b) : Int) > P then (rst P (a - b) : Int) - P else rst P (a - b)
def iI (z : Int) : Int32 := Int32.ofInt z
theorem iI_toInt {z : Int} (h1 : -2 ^ 31 ≤ z) (h2 : z < 2 ^ 31) : (iI z).toInt = z := Int32.toInt_ofInt_of_le h1 h2
theorem iI_nat (n : Nat) : iI n = nI n := by
  unfold iI nI
  exact Int32.ofInt_eq_ofNat ..
theorem gp_bounds {P : Nat} (a b : Int32) (h0 : 0 < P) : -(P : Int) < 2 * gp P a b ∧ 2 * gp P a b ≤ P := by
  have := rst_lt (a - b) h0
  unfold gp
  split <;> omega
