/-! ===== the whole state ===== -/
/-- text, crew, what can be undone, slots, what is told, the tape, the place -/
abbrev SS : Type := TD × CD × (Nat × (Nat → Nat → Nat)) × ((Nat → Bool) × (Nat → CD)) × (Nat × (Nat → Int32) × (Nat → Int32) × (Nat → Int32)) × (Nat × (Nat → Int32)) × Int32
def ssD (s : SS) : TD := s.1
def ssK (s : SS) : CD := s.2.1
def ssU (s : SS) : Nat := s.2.2.1.1
def ssH (s : SS) : Nat → Nat → Nat := s.2.2.1.2
def ssB (s : SS) : Nat → Bool := s.2.2.2.1.1
def ssC (s : SS) : Nat → CD := s.2.2.2.1.2
def ssQ (s : SS) : Nat := s.2.2.2.2.1.1
def ss1 (s : SS) : Nat → Int32 := s.2.2.2.2.1.2.1
def ss2 (s : SS) : Nat → Int32 := s.2.2.2.2.1.2.2.1
def ss3 (s : SS) : Nat → Int32 := s.2.2.2.2.1.2.2.2
def ssT (s : SS) : Nat := s.2.2.2.2.2.1.1
def ssY (s : SS) : Nat → Int32 := s.2.2.2.2.2.1.2
def ssP (s : SS) : Int32 := s.2.2.2.2.2.2
def bI1 (b : Bool) : Int32 := if b then 1 else 0
/-- the class's past: a ring -/
def XU (m : M2) (n u : Nat) (h : Nat → Nat → Nat) : Prop := ∃ x, x < 100 ∧ hI m 32 1 = nI u ∧ hI m 32 2 = nI x ∧ ∀ i, i < u → hJ m 33 ((x + 100 - u + i) % 100) = lN (pk (h i) n)
def MU (m : M2) (n u : Nat) (h : Nat → Nat → Nat) : Prop := hI m 56 61 = nI u ∧ ∀ i, i < u → ∀ b, b < n → hI m 96 (12 * i + b) = nI (h i b)
def XB (m : M2) (n : Nat) (f : Nat → Bool) (g : Nat → CD) : Prop := ∀ s, s < 3 → hI m (47 + 3 * s) 5 = bI1 (f s) ∧ (f s = true → XC m (47 + 3 * s) n (g s))
def MB2 (m : M2) (n lag : Nat) (f : Nat → Bool) (g : Nat → CD) : Prop := ∀ s, s < 3 → hI m 113 s = bI1 (f s) ∧ (f s = true → (∀ b, b < n → hI m 114 (12 * s + b) = nI (cdT (g s) b) ∧ hI m 115 (12 * s + b) = cdM (g s) b ∧ hI m 116 (12 * s + b) = cdL (g s) b) ∧ hI m 117 s = cdD (g s) ∧ hI m 118 s = nI lag ∧ hI m 119 s = cdS (g s))
def XQ (m : M2) (q : Nat) (a b c : Nat → Int32) : Prop := hI m 41 1 = nI q ∧ ∀ i, i < q → hI m 42 i = a i ∧ hI m 43 i = b i ∧ hI m 44 i = c i
def MQ2 (m : M2) (q : Nat) (a b c : Nat → Int32) : Prop := hI m 56 79 = nI q ∧ ∀ i, i < q → hI m 109 i = a i ∧ hI m 110 i = b i ∧ hI m 111 i = c i
def XS (m : M2) (c : Nat) (s : SS) : Prop := XT m c (ssD s) ∧ XC m 28 (tdN (ssD s)) (ssK s) ∧ XU m (tdN (ssD s)) (ssU s) (ssH s) ∧ XB m (tdN (ssD s)) (ssB s) (ssC s) ∧ XQ m (ssQ s) (ss1 s) (ss2 s) (ss3 s) ∧ (hI m 0 1 = nI (ssT s) ∧ ∀ i, hI m 1 i = ssY s i) ∧ hI m 14 5 = ssP s
def MS (m : M2) (l : Nat) (s : SS) : Prop := MT m l (ssD s) ∧ MC m (tdN (ssD s)) (tdG (ssD s)) (ssK s) ∧ MU m (tdN (ssD s)) (ssU s) (ssH s) ∧ MB2 m (tdN (ssD s)) (tdG (ssD s)) (ssB s) (ssC s) ∧ MQ2 m (ssQ s) (ss1 s) (ss2 s) (ss3 s) ∧ (hI m 56 2 = nI (ssT s) ∧ ∀ i, hI m 57 i = ssY s i) ∧ hI m 56 17 = ssP s
def VS (s : SS) : Prop := VT (ssD s) ∧ VC (ssD s) (ssK s) ∧ (ssU s ≤ 100 ∧ ∀ i, i < ssU s → ∀ b, b < tdN (ssD s) → ssH s i b < tdP (ssD s)) ∧ (∀ i, i < 3 → ssB s i = true → VC (ssD s) (ssC s i)) ∧ (ssQ s ≤ 20 ∧ ∀ i, i < ssQ s → (∃ a, a < 100 ∧ ss1 s i = nI a) ∧ (∃ b, 0 < b ∧ b < tdN (ssD s) ∧ ss2 s i = nI b) ∧ (ss3 s i = 0 ∨ ss3 s i = 1)) ∧ ssT s ≤ 2000
def xk (k : Nat) : Prop := k ≤ 14 ∨ (28 ≤ k ∧ k ≤ 30) ∨ k = 32 ∨ k = 33 ∨ (41 ≤ k ∧ k ≤ 44) ∨ (47 ≤ k ∧ k ≤ 55)
def mk2 (k j : Nat) : Prop := (k = 56 ∧ (j = 2 ∨ j = 17 ∨ j = 18 ∨ j = 58 ∨ j = 59 ∨ j = 60 ∨ j = 61 ∨ j = 79)) ∨ k = 57 ∨ (66 ≤ k ∧ k ≤ 90) ∨ (93 ≤ k ∧ k ≤ 96) ∨ (109 ≤ k ∧ k ≤ 111) ∨ (113 ≤ k ∧ k ≤ 119)
theorem XS.fr {S : Nat → Nat → Prop} {m m' : M2} {c : Nat} {s : SS} (h : XS m c s) (hf : Fr S m m') (hs : ∀ k j, xk k → ¬ S k j) : XS m' c s := by
  obtain ⟨h1, h2, h3, h4, h5, h6, h7⟩ := h
  have hc : tx c := h1.1.2.2.2.2.2.2
  have hc' : c + 5 ≤ 14 := by rcases hc with rfl | rfl <;> omega
  have I : ∀ k j, xk k → hI m' k j = hI m k j := fun k j hk => hf.I k j (hs k j hk)
  have J : ∀ k j, xk k → hJ m' k j = hJ m k j := fun k j hk => hf.J k j (hs k j hk)
  refine ⟨h1.fr hf (fun k j z1 z2 => hs k j (by unfold xk; omega)), h2.fr hf (fun k j z1 z2 => hs k j (by unfold xk; omega)), ?_, ?_, ?_, ⟨by rw [I 0 1 (by unfold xk; omega)]; exact h6.1, fun i => by rw [I 1 i (by unfold xk; omega)]; exact h6.2 i⟩, by rw [I 14 5 (by unfold xk; omega)]; exact h7⟩
  · obtain ⟨x, a1, a2, a3, a4⟩ := h3
    exact ⟨x, a1, by rw [I 32 1 (by unfold xk; omega)]; exact a2, by rw [I 32 2 (by unfold xk; omega)]; exact a3, fun i hi => by rw [J 33 _ (by unfold xk; omega)]; exact a4 i hi⟩
  · intro t ht
    obtain ⟨a1, a2⟩ := h4 t ht
    exact ⟨by rw [I _ 5 (by unfold xk; omega)]; exact a1, fun e => (a2 e).fr hf (fun k j z1 z2 => hs k j (by unfold xk; omega))⟩
  · obtain ⟨a1, a2⟩ := h5
    exact ⟨by rw [I 41 1 (by unfold xk; omega)]; exact a1, fun i hi => ⟨by rw [I 42 i (by unfold xk; omega)]; exact (a2 i hi).1, by rw [I 43 i (by unfold xk; omega)]; exact (a2 i hi).2.1, by rw [I 44 i (by unfold xk; omega)]; exact (a2 i hi).2.2⟩⟩
theorem MS.fr {S : Nat → Nat → Prop} {m m' : M2} {l : Nat} {s : SS} (h : MS m l s) (hf : Fr S m m') (hs : ∀ k j, mk2 k j → ¬ S k j) : MS m' l s := by
  obtain ⟨h1, h2, h3, h4, h5, h6, h7⟩ := h
  have I : ∀ k j, mk2 k j → hI m' k j = hI m k j := fun k j hk => hf.I k j (hs k j hk)
  refine ⟨h1.fr hf (fun k j z => hs k j (by unfold mk2; omega)), h2.fr hf (fun k j z => hs k j (by unfold mk2; omega)), ?_, ?_, ?_, ⟨by rw [I 56 2 (by unfold mk2; omega)]; exact h6.1, fun i => by rw [I 57 i (by unfold mk2; omega)]; exact h6.2 i⟩, by rw [I 56 17 (by unfold mk2; omega)]; exact h7⟩
  · obtain ⟨a1, a2⟩ := h3
    exact ⟨by rw [I 56 61 (by unfold mk2; omega)]; exact a1, fun i hi b hb => by rw [I 96 _ (by unfold mk2; omega)]; exact a2 i hi b hb⟩
  · intro t ht
    obtain ⟨a1, a2⟩ := h4 t ht
    refine ⟨by rw [I 113 t (by unfold mk2; omega)]; exact a1, fun e => ?_⟩
    obtain ⟨b1, b2, b3, b4⟩ := a2 e
    exact ⟨fun b hb => ⟨by rw [I 114 _ (by unfold mk2; omega)]; exact (b1 b hb).1, by rw [I 115 _ (by unfold mk2; omega)]; exact (b1 b hb).2.1, by rw [I 116 _ (by unfold mk2; omega)]; exact (b1 b hb).2.2⟩, by rw [I 117 _ (by unfold mk2; omega)]; exact b2, by rw [I 118 _ (by unfold mk2; omega)]; exact b3, by rw [I 119 _ (by unfold mk2; omega)]; exact b4⟩
  · obtain ⟨a1, a2⟩ := h5
    exact ⟨by rw [I 56 79 (by unfold mk2; omega)]; exact a1, fun i hi => ⟨by rw [I 109 i (by unfold mk2; omega)]; exact (a2 i hi).1, by rw [I 110 i (by unfold mk2; omega)]; exact (a2 i hi).2.1, by rw [I 111 i (by unfold mk2; omega)]; exact (a2 i hi).2.2⟩⟩
/-- the class's side changes nothing of the reference's, and the other way round -/
abbrev SX : Nat → Nat → Prop := fun k _ => ¬ ((56 ≤ k ∧ k < 120) ∨ k = 19)
abbrev SM2 : Nat → Nat → Prop := fun k _ => (56 ≤ k ∧ k < 63) ∨ (63 < k ∧ k < 120)
/-- a call of the class: its answer, the state behind it -/
def OkX (m : M2) (c : Nat) (r : Option (Int32 × M2)) (v : Int32) (s' : SS) : Prop := ∃ m', r = some (v, m') ∧ XS m' c s' ∧ Fr SX m m'
def OkM (m : M2) (l : Nat) (r : Option (Int32 × M2)) (v : Int32) (s' : SS) : Prop := ∃ m', r = some (v, m') ∧ MS m' l s' ∧ Fr SM2 m m'
theorem OkX.same {m : M2} {c : Nat} {s : SS} {v : Int32} (h : XS m c s) : OkX m c (some (v, m)) v s := ⟨m, rfl, h, Fr.rf⟩
theorem OkM.same {m : M2} {l : Nat} {s : SS} {v : Int32} (h : MS m l s) : OkM m l (some (v, m)) v s := ⟨m, rfl, h, Fr.rf⟩
theorem OkX.scr {S : Nat → Nat → Prop} {m m' : M2} {c : Nat} {s : SS} {v : Int32} (h : XS m c s) (hf : Fr S m m') (hs : ∀ k j, S k j → ¬ xk k ∧ SX k j) : OkX m c (some (v, m')) v s := ⟨m', rfl, h.fr hf (fun k j hk z => (hs k j z).1 hk), hf.mono (fun k j z => (hs k j z).2)⟩
theorem OkM.scr {S : Nat → Nat → Prop} {m m' : M2} {l : Nat} {s : SS} {v : Int32} (h : MS m l s) (hf : Fr S m m') (hs : ∀ k j, S k j → ¬ mk2 k j ∧ SM2 k j) : OkM m l (some (v, m')) v s := ⟨m', rfl, h.fr hf (fun k j hk z => (hs k j z).1 hk), hf.mono (fun k j z => (hs k j z).2)⟩
theorem VT.n {d : TD} (h : VT d) : tdN d ≤ 12 := h.2.1
theorem VT.p {d : TD} (h : VT d) : 3 ≤ tdP d ∧ tdP d ≤ 24 := h.1
theorem VT.l {d : TD} (h : VT d) : tdL d ≤ 6 := h.2.2.1
theorem VT.g {d : TD} (h : VT d) : tdG d ≤ 23 := h.2.2.2.1
theorem VT.e {d : TD} (h : VT d) : EvOk (tdE d) (tdP d) (tdL d) := h.2.2.2.2.2.2.2.2.2.1
theorem t32 {d : TD} {k : CD} (hV : VT d) (h : VC d k) : ∀ b, b < tdN d → cdT k b < 32 := fun b hb => by have := h.1 b hb; have := hV.p; omega
/-! the calls that only look -/
theorem k_place {m : M2} {c l : Nat} {s : SS} (hX : XS m c s) (hM : MS m l s) : OkX m c (F_X11_place c m) (ssP s) s ∧ OkM m l (F_X12_place m) (ssP s) s := by
  refine ⟨?_, ?_⟩
  · unfold F_X11_place
    rw [hX.2.2.2.2.2.2]
    exact OkX.same hX
  · unfold F_X12_place
    rw [hM.2.2.2.2.2.2]
    exact OkM.same hM
theorem k_clashes_x {m : M2} {c : Nat} {s : SS} (hX : XS m c s) (hV : VS s) : OkX m c (F_X11_clashes c m) (clb (tdP (ssD s)) (cdT (ssK s)) (tdN (ssD s))) s := by
  unfold F_X11_clashes
  rw [hX.2.1.1, x_clash hX.1.1 (t32 hV.1 hV.2.1), bind_s]
  exact OkX.same hX
theorem k_clashes_m {m : M2} {l : Nat} {s : SS} (hM : MS m l s) (hV : VS s) : OkM m l (F_X12_clashes m) (clb (tdP (ssD s)) (cdT (ssK s)) (tdN (ssD s))) s := by
  unfold F_X12_clashes
  have hT := hM.1.1
  obtain ⟨m1, e1, R1, f1⟩ := m_takes hT.1 hT.2.1 hT.2.2.2.1 hV.1.n hM.2.1
  rw [e1, bind_s, m_clash (hT.fr f1 (fun k j z1 z2 => by omega)) hV.1.p R1 hV.1.n, bind_s]
  exact OkM.scr hM f1 (fun k j z => ⟨fun z2 => by unfold mk2 at z2; omega, by omega⟩)
theorem k_way_x {m : M2} {c : Nat} {s : SS} (hX : XS m c s) (hV : VS s) (x : Int32) : OkX m c (F_X11_way c x m) (if x = 0 ∨ x = 1 then (if tdN (ssD s) = 0 then -1 else if x = 0 then nI (wyn (tdP (ssD s)) (cdT (ssK s)) (tdN (ssD s))) else nI (wyp (tdP (ssD s)) (cdT (ssK s)) (tdN (ssD s)))) else -1) s := by
  unfold F_X11_way
  have hn := hV.1.n
  have hx : (x < 0 ∨ 1 < x) ∨ x = 0 ∨ x = 1 := by
    have e0 : (0 : Int32).toInt = 0 := rfl
    have e1 : (1 : Int32).toInt = 1 := rfl
    rw [Int32.lt_iff_toInt_lt, Int32.lt_iff_toInt_lt, ← Int32.toInt_inj, ← Int32.toInt_inj, e0, e1]
    omega
  by_cases h01 : x = 0 ∨ x = 1
  · rw [if_pos h01]
    have n1 : ¬ x < 0 := by rcases h01 with rfl | rfl <;> decide
    have n2 : ¬ 1 < x := by rcases h01 with rfl | rfl <;> decide
    rw [if_neg n1, if_neg n2, hX.1.1.1.2.1]
    by_cases h0 : tdN (ssD s) = 0
    · rw [if_pos (by rw [h0]; rfl), if_pos h0]
      exact OkX.same hX
    · rw [if_neg (nI_ne0 (by omega) (by omega)), if_neg h0, hX.2.1.1]
      obtain ⟨m1, e1, C1, f1⟩ := x_wayPart hX.1.1 hV.2.1.1
      have hc := hX.1.1.2.2.2.2.2.2
      have hc26 : ¬ c = 26 := by rcases hc with rfl | rfl <;> omega
      rw [e1, bind_s]
      dsimp only
      have hs : ∀ k j, k = 26 → ¬ xk k ∧ SX k j := fun k j z => ⟨fun z2 => by unfold xk at z2; omega, fun z2 => by omega⟩
      by_cases hz : x = 0
      · rw [if_pos hz, if_pos hz, x_menNear (by rw [f1.I _ _ hc26]; exact hX.1.1.1.1) hV.1.p hn C1 hV.2.1.1 (wyp_lt (by have := hV.1.p; omega)), bind_s]
        exact OkX.scr hX f1 hs
      · rw [if_neg hz, if_neg hz]
        exact OkX.scr hX f1 hs
  · rw [if_neg h01]
    rcases hx with (h | h) | h
    · rw [if_pos h]
      exact OkX.same hX
    · by_cases h2 : x < 0
      · rw [if_pos h2]
        exact OkX.same hX
      · rw [if_neg h2, if_pos h]
        exact OkX.same hX
    · exact absurd h h01
theorem k_way_m {m : M2} {l : Nat} {s : SS} (hM : MS m l s) (hV : VS s) (x : Int32) : OkM m l (F_X12_way x m) (if x = 0 ∨ x = 1 then (if tdN (ssD s) = 0 then -1 else if x = 0 then nI (wyn (tdP (ssD s)) (cdT (ssK s)) (tdN (ssD s))) else nI (wyp (tdP (ssD s)) (cdT (ssK s)) (tdN (ssD s)))) else -1) s := by
  unfold F_X12_way
  have hn := hV.1.n
  have hP := hV.1.p
  have hT := hM.1.1
  have hx : ((0 : Int32) ≤ x ∧ x ≤ 1) ↔ (x = 0 ∨ x = 1) := by
    have e0 : (0 : Int32).toInt = 0 := rfl
    have e1 : (1 : Int32).toInt = 1 := rfl
    rw [Int32.le_iff_toInt_le, Int32.le_iff_toInt_le, ← Int32.toInt_inj, ← Int32.toInt_inj, e0, e1]
    omega
  rw [m_in, bind_s]
  dsimp only
  by_cases h01 : x = 0 ∨ x = 1
  · rw [if_pos (hx.mpr h01), if_neg (by decide), if_pos h01, m_menNow hT.1 hT.2.1 hT.2.2.2.1, bind_s]
    dsimp only
    by_cases h0 : tdN (ssD s) = 0
    · rw [if_pos (by rw [h0]; rfl), if_pos h0]
      exact OkM.same hM
    · rw [if_neg (nI_ne0 (by omega) (by omega)), if_neg h0]
      obtain ⟨m1, e1, R1, f1⟩ := m_takes hT.1 hT.2.1 hT.2.2.2.1 hn hM.2.1
      have hT1 := hT.fr f1 (fun k j z1 z2 => by omega)
      rw [e1, bind_s, m_wayNow hT1 hP R1 hn, bind_s]
      dsimp only
      have key : ∃ e, loop (g_X12_way_29 x (nI (wyn (tdP (ssD s)) (cdT (ssK s)) (tdN (ssD s))))) ((0 : Int32), m1) = some e ∧ e = (nI (wyp (tdP (ssD s)) (cdT (ssK s)) (tdN (ssD s))), m1) := by
        refine loop_to (wyp (tdP (ssD s)) (cdT (ssK s)) (tdN (ssD s))) (fun j z => z = (nI j, m1)) _ (by have := wyp_lt (P := tdP (ssD s)) (n := tdN (ssD s)) (t := cdT (ssK s)) (by omega); omega) ?_ ?_ rfl
        · rintro j z hj rfl
          show ∃ s', f_X12_way_29 x _ (nI j) m1 = some (Sum.inl s') ∧ _
          unfold f_X12_way_29
          have hlt := bst_fst (fun y => ner (tdP (ssD s)) (cdT (ssK s)) y (tdN (ssD s))) (tdP (ssD s) - 1) j hj
          have l1 := ner_le (tdP (ssD s)) (cdT (ssK s)) j (tdN (ssD s))
          have l2 := ner_le (tdP (ssD s)) (cdT (ssK s)) (wyp (tdP (ssD s)) (cdT (ssK s)) (tdN (ssD s))) (tdN (ssD s))
          rw [m_nearTo hT1 hP R1 hn, bind_s]
          dsimp only
          have hne : ¬ nI (ner (tdP (ssD s)) (cdT (ssK s)) j (tdN (ssD s))) = nI (wyn (tdP (ssD s)) (cdT (ssK s)) (tdN (ssD s))) := by
            intro z
            have := (nI_eq (by omega) (by unfold wyn; omega)).mp z
            unfold wyn wyp at this
            omega
          rw [if_neg hne, nmI_e, bind_s]
          exact ⟨_, rfl, by rw [nI_1]⟩
        · rintro z rfl
          show ∃ e, f_X12_way_29 x _ (nI _) m1 = some (Sum.inr e) ∧ _
          unfold f_X12_way_29
          rw [m_nearTo hT1 hP R1 hn, bind_s]
          dsimp only
          rw [if_pos (show nI (ner (tdP (ssD s)) (cdT (ssK s)) (wyp (tdP (ssD s)) (cdT (ssK s)) (tdN (ssD s))) (tdN (ssD s))) = nI (wyn (tdP (ssD s)) (cdT (ssK s)) (tdN (ssD s))) from rfl)]
          exact ⟨_, rfl, rfl⟩
      obtain ⟨e, e2, rfl⟩ := key
      rw [e2, bind_s]
      have hs : ∀ k j, StM k j → ¬ mk2 k j ∧ SM2 k j := fun k j z => ⟨fun z2 => by unfold mk2 at z2; omega, by omega⟩
      by_cases hz : x = 0
      · rw [if_pos hz, if_pos hz]
        exact OkM.scr hM f1 hs
      · rw [if_neg hz, if_neg hz]
        exact OkM.scr hM f1 hs
  · rw [if_neg (fun z => h01 (hx.mp z)), if_pos rfl, if_neg h01]
    exact OkM.same hM
