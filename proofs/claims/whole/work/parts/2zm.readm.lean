/-! ===== the reference's read ===== -/
theorem pItem_U {K V N : Nat → Nat} (hV : ∀ i, K i = 3 → V i < 10000) {i j : Nat} {s s' : IS} (h : pItem K V N i s = .inl (j, s')) (hT : TB s) (hU : ∀ t, t ∈ ttU s → t < i) : ∀ t, t ∈ ttU s' → t < j := by
  have h3 := (pItem_TB hV h hT).2
  have same : ttU s' = ttU s → ∀ t, t ∈ ttU s' → t < j := fun e t ht => by
    rw [e] at ht
    have := hU t ht
    omega
  have one : ∀ x, x < j → ttU s' = ttU s ++ [x] → ∀ t, t ∈ ttU s' → t < j := fun x hx e t ht => by
    rw [e, List.mem_append, List.mem_singleton] at ht
    rcases ht with ht | ht
    · have := hU t ht
      omega
    · omega
  unfold pItem at h
  by_cases k17 : K i = 17
  · rw [if_pos k17] at h
    obtain ⟨q1, rfl⟩ := sqR_in h
    exact same rfl
  rw [if_neg k17] at h
  by_cases k18 : K i = 18
  · rw [if_pos k18] at h
    by_cases h6 : 6 ≤ (ttL s).length
    · rw [if_pos h6] at h; cases h
    · rw [if_neg h6] at h
      obtain ⟨z, y, _, _, rfl, _, _⟩ := pLaw_in h
      exact same rfl
  rw [if_neg k18] at h
  by_cases k19 : K i = 19
  · rw [if_pos k19] at h
    by_cases h6 : 12 ≤ (ttM s).length
    · rw [if_pos h6] at h; cases h
    · rw [if_neg h6] at h
      obtain ⟨q1, rfl⟩ := sqR_in h
      have := sqk_le q1
      simp only [List.length_cons, List.length_nil] at this
      exact one (i + 3) (by omega) rfl
  rw [if_neg k19] at h
  by_cases k31 : K i = 31
  · rw [if_pos k31] at h
    obtain ⟨q1, rfl⟩ := sqR_in h
    exact one (i + 1) (by omega) rfl
  rw [if_neg k31] at h
  by_cases k33 : K i = 33
  · rw [if_pos k33] at h
    obtain ⟨q1, rfl⟩ := sqR_in h
    exact one (i + 1) (by omega) rfl
  rw [if_neg k33] at h
  by_cases k20 : K i = 20
  · rw [if_pos k20] at h
    by_cases h6 : 4 ≤ (ttF s).length
    · rw [if_pos h6] at h; cases h
    · rw [if_neg h6] at h
      obtain ⟨q1, rfl⟩ := sqR_in h
      exact same rfl
  rw [if_neg k20] at h
  cases h
theorem pT_U {K V N : Nat → Nat} (hV : ∀ i, K i = 3 → V i < 10000) : ∀ {f i j : Nat} {s s' : IS}, pT K V N f i s = .inl (j, s') → TB s → (∀ t, t ∈ ttU s → t < i) → ∀ t, t ∈ ttU s' → t < j
  | 0, i, j, s, s', h, _, hU => by cases h; exact hU
  | f + 1, i, j, s, s', h, hT, hU => by
    have h' : (if K i = 0 then .inl (i, s) else match pItem K V N i s with
      | .inr e => .inr e
      | .inl z => pT K V N f z.1 z.2) = Sum.inl (j, s') := h
    by_cases h0 : K i = 0
    · rw [if_pos h0] at h'; cases h'; exact hU
    · rw [if_neg h0] at h'
      cases hp : pItem K V N i s with
      | inr e => rw [hp] at h'; cases h'
      | inl z =>
        rw [hp] at h'
        exact pT_U hV h' (pItem_TB hV hp hT).1 (pItem_U hV hp hT hU)
section KN3
variable {m : M2} {By : Nat → Nat} {n sd : Nat}
theorem MI.mt {i : Nat} {s : IS} {m' : M2} {S : Nat → Nat → Prop} (hsd : sd < 2) (hM : MI m sd By n i s) (hT : TB s) (hW : ttW s = none) (hP : 3 ≤ ttP s ∧ ttP s ≤ 24) (hf : Fr S m m') (hs : ∀ k j, 66 ≤ k ∧ k ≤ 90 → ¬ S k j) (h18 : hI m' 56 18 = nI sd) : MT m' sd (tdOf s) := by
  obtain ⟨C, k1, b1, hB, h19, hK, ⟨hl1, hl2⟩, ⟨⟨a1, a2, a3, a4, a5, a6⟩, c1, c2⟩, _⟩ := hM
  have hte := te_le By n
  have hit := hB.2.2.1
  obtain ⟨t1, t2, t3, t4⟩ := hT
  have I : ∀ k j, 66 ≤ k ∧ k ≤ 90 → hI m' k j = hI m k j := fun k j z => hf.I _ _ (hs k j z)
  obtain ⟨d1, d2, d3, d4, d5, d6, d7⟩ := hK
  have h66 : hI m' 66 sd = nI (ttP s) := (I _ _ (by omega)).trans (a6 hW)
  refine ⟨⟨h18, hsd, h66, (I _ _ (by omega)).trans a1, (I _ _ (by omega)).trans d5, (I _ _ (by omega)).trans a4⟩, (I _ _ (by omega)).trans a2, (I _ _ (by omega)).trans a3, (I _ _ (by omega)).trans a5, fun q hq => ?_, fun b hb => ?_, ?_⟩
  · obtain ⟨p, p1, p2, _⟩ := getD_some (d := ((0 : Nat), (0 : Nat))) (show q < (ttF s).length from hq)
    show hI m' 81 (4 * sd + q) = nI ((ttF s).getD q (0, 0)).1 ∧ hI m' 82 (4 * sd + q) = nI ((ttF s).getD q (0, 0)).2
    rw [p2]
    exact ⟨(I _ _ (by omega)).trans (c2 q p p1).1, (I _ _ (by omega)).trans (c2 q p p1).2⟩
  · obtain ⟨p, p1, p2, _⟩ := getD_some (d := ((0 : Int32), (0 : Nat))) (show b < (ttM s).length from hb)
    show hI m' 75 (12 * sd + b) = ((ttM s).getD b (0, 0)).1 ∧ hI m' 76 (12 * sd + b) = nI ((ttM s).getD b (0, 0)).2
    rw [p2]
    exact ⟨(I _ _ (by omega)).trans ((c1 b p p1).2 hW), (I _ _ (by omega)).trans (c1 b p p1).1⟩
  · refine LwM_of h18 hsd h66 hP t1 (fun q w hw => ?_)
    refine (d7 q w hw).mono (by omega) (by omega) (fun a L h => ?_) (fun p j g1 g2 _ _ => I _ _ (by omega)) (fun p j g1 g2 _ _ => I _ _ (by omega)) (fun p g => I _ _ (by omega))
    have hg := GC.gs d1 (show C.length ≤ 420 by omega) a L h
    exact ⟨fun j o ho => ⟨(I _ _ (by omega)).trans (hg.1 j o ho).1, (I _ _ (by omega)).trans (hg.1 j o ho).2⟩, hg.2⟩
theorem m_crewBegin {d : TD} {l : Nat} (hM : MT m l d) (hV : VT d) : ∃ m', F_X12_begins m = some m' ∧ MC m' (tdN d) (tdG d) (cwB d) ∧ Fr (fun k j => (93 ≤ k ∧ k ≤ 95) ∨ (k = 56 ∧ (j = 58 ∨ j = 59 ∨ j = 60))) m m' := by
  have hn := hV.n
  obtain ⟨⟨t1, t2, t3, t4, t5, t6⟩, h2, h3, h4, h5, h6, h7⟩ := hM
  unfold F_X12_begins
  have key : ∃ z, loop g_X12_begins_2 ((0 : Int32), m) = some z ∧ (∀ b, b < tdN d → hI z 93 b = nI (tdT d b) ∧ hI z 94 b = nI b ∧ hI z 95 b = tdO d b) ∧ Fr (fun k _ => 93 ≤ k ∧ k ≤ 95) m z := by
    refine loop_to (tdN d) (fun k z => z.1 = nI k ∧ (∀ b, b < k → hI z.2 93 b = nI (tdT d b) ∧ hI z.2 94 b = nI b ∧ hI z.2 95 b = tdO d b) ∧ Fr (fun k _ => 93 ≤ k ∧ k ≤ 95) m z.2) _ (by omega) ?_ ?_ ⟨rfl, fun b hb => by omega, Fr.rf⟩
    · rintro k ⟨z1, m2⟩ hk ⟨i1, i2, i4⟩
      dsimp only at i1 i2 i4
      subst i1
      show ∃ s', f_X12_begins_2 (nI k) m2 = some (Sum.inl s') ∧ _
      unfold f_X12_begins_2
      have s18 : hI m2 56 18 = nI l := (i4.I _ _ (by omega)).trans t1
      rw [m_menNow s18 t2 ((i4.I _ _ (by omega)).trans t4), bind_s]
      dsimp only
      rw [if_neg (nI_ge hk (by omega)), s18, lit_12, pk_mul, nI_add, aI_n _ 76 (show 12 * l + k < 24 by omega) (by omega), bind_s, show hI m2 76 (12 * l + k) = nI (tdT d k) from (i4.I _ _ (by omega)).trans (h6 k hk).2, bI_n _ 93 _ (show k < 12 by omega) (by omega), bind_s, bI_n _ 94 _ (show k < 12 by omega) (by omega), bind_s]
      have g18 : hI (tI (tI m2 93 k (nI (tdT d k))) 94 k (nI k)) 56 18 = nI l := by rw [hI_tI, if_neg (by omega), hI_tI, if_neg (by omega)]; exact s18
      rw [g18, pk_mul, nI_add, aI_n _ 75 (show 12 * l + k < 24 by omega) (by omega), bind_s, hI_tI, if_neg (by omega), hI_tI, if_neg (by omega), show hI m2 75 (12 * l + k) = tdO d k from (i4.I _ _ (by omega)).trans (h6 k hk).1, bI_n _ 95 _ (show k < 12 by omega) (by omega), bind_s, nmI_e, bind_s, nI_1]
      have f5 : Fr (fun a b => (93 ≤ a ∧ a ≤ 95) ∧ b = k) m2 (tI (tI (tI m2 93 k (nI (tdT d k))) 94 k (nI k)) 95 k (tdO d k)) := ((Fr.rf.tI _ (by omega)).tI _ (by omega)).tI _ (by omega)
      refine ⟨_, rfl, rfl, fun b hb => ?_, i4.tr (f5.mono (fun k j z => z.1))⟩
      by_cases q : b = k
      · subst q
        refine ⟨?_, ?_, ?_⟩
        · rw [hI_tI, if_neg (by omega), hI_tI, if_neg (by omega), hI_tI, if_pos ⟨rfl, rfl⟩]
        · rw [hI_tI, if_neg (by omega), hI_tI, if_pos ⟨rfl, rfl⟩]
        · rw [hI_tI, if_pos ⟨rfl, rfl⟩]
      · have := i2 b (by omega)
        exact ⟨(f5.I _ _ (by omega)).trans this.1, (f5.I _ _ (by omega)).trans this.2.1, (f5.I _ _ (by omega)).trans this.2.2⟩
    · rintro ⟨z1, m2⟩ ⟨i1, i2, i4⟩
      dsimp only at i1 i2 i4
      subst i1
      show ∃ z, f_X12_begins_2 (nI (tdN d)) m2 = some (Sum.inr z) ∧ _
      unfold f_X12_begins_2
      have s18 : hI m2 56 18 = nI l := (i4.I _ _ (by omega)).trans t1
      rw [m_menNow s18 t2 ((i4.I _ _ (by omega)).trans t4), bind_s]
      dsimp only
      rw [if_pos (nI_le (Nat.le_refl _) (by omega))]
      exact ⟨_, rfl, i2, i4⟩
  obtain ⟨m1, e1, q1, f1⟩ := key
  rw [e1, bind_s, show hI m1 56 18 = nI l from (f1.I _ _ (by omega)).trans t1, aI_n _ 77 t2 (by omega), bind_s, show hI m1 77 l = tdD d from (f1.I _ _ (by omega)).trans h2, qI_e, bind_s, hI_tI, if_neg (by omega), show hI m1 56 18 = nI l from (f1.I _ _ (by omega)).trans t1, aI_n _ 78 t2 (by omega), bind_s, hI_tI, if_neg (by omega), show hI m1 78 l = nI (tdG d) from (f1.I _ _ (by omega)).trans h3, qI_e, bind_s, qI_e, bind_s]
  have f2 : Fr (fun k j => k = 56 ∧ (j = 58 ∨ j = 59 ∨ j = 60)) m1 (tI (tI (tI m1 56 58 (tdD d)) 56 59 (nI (tdG d))) 56 60 0) := ((Fr.rf.tI _ (by omega)).tI _ (by omega)).tI _ (by omega)
  refine ⟨_, rfl, ⟨fun b hb => ⟨(f2.I _ _ (by omega)).trans (q1 b hb).1, (f2.I _ _ (by omega)).trans (q1 b hb).2.1, (f2.I _ _ (by omega)).trans (q1 b hb).2.2⟩, ?_, ?_, ?_⟩, (f1.mono (fun k j z => Or.inl z)).tr (f2.mono (fun k j z => Or.inr z))⟩
  · rw [hI_tI, if_neg (by omega), hI_tI, if_neg (by omega), hI_tI, if_pos ⟨rfl, rfl⟩]; rfl
  · rw [hI_tI, if_neg (by omega), hI_tI, if_pos ⟨rfl, rfl⟩]
  · rw [hI_tI, if_pos ⟨rfl, rfl⟩]; rfl
/-- what is laid ahead of the first token -/
def rdM (m : M2) (sd : Nat) : M2 := tI (tI (tI (tI (tI (tI (tI (tI (tI (tI (tI (tI (tI (tI (tI (tI (tI m 56 11 0) 56 12 0) 56 13 0) 56 15 0) 56 19 (nI sd)) 56 20 0) 66 sd 24) 67 sd 0) 56 27 (nI (54 * sd))) 74 sd 0) 77 sd (-1)) 78 sd 0) 79 sd (-1)) 80 sd 0) 56 41 (nI (150 * sd))) 56 48 (nI (420 * sd))) 56 51 0
theorem rdM_fr (hsd : sd < 2) : Fr (fun k j => SRm sd k j ∨ (k = 56 ∧ j = 19)) m (rdM m sd) := by
  have a : ∀ j, j = 11 ∨ j = 12 ∨ j = 13 ∨ j = 15 ∨ j = 20 ∨ j = 27 ∨ j = 41 ∨ j = 48 ∨ j = 51 → SRm sd 56 j ∨ ((56 : Nat) = 56 ∧ j = 19) := fun j z => Or.inl (Or.inl ⟨rfl, by omega⟩)
  have b : ∀ K, K = 66 ∨ K = 67 ∨ K = 74 ∨ (77 ≤ K ∧ K ≤ 80) → SRm sd K sd ∨ (K = 56 ∧ sd = 19) := fun K z => Or.inl (SRm.v z ⟨rfl, rfl⟩)
  unfold rdM
  exact ((((((((((((((((Fr.rf.tI _ (a 11 (by omega))).tI _ (a 12 (by omega))).tI _ (a 13 (by omega))).tI _ (a 15 (by omega))).tI _ (Or.inr ⟨rfl, rfl⟩)).tI _ (a 20 (by omega))).tI _ (b 66 (by omega))).tI _ (b 67 (by omega))).tI _ (a 27 (by omega))).tI _ (b 74 (by omega))).tI _ (b 77 (by omega))).tI _ (b 78 (by omega))).tI _ (b 79 (by omega))).tI _ (b 80 (by omega))).tI _ (a 41 (by omega))).tI _ (a 48 (by omega))).tI _ (a 51 (by omega))
theorem rdM_mi (hsd : sd < 2) (hT : TkM m By n (te By n + 1)) : MI (rdM m sd) sd By n 0 is0 := by
  have hf := rdM_fr (m := m) hsd
  have hT' : TkM (rdM m sd) By n (te By n + 1) := hT.fr hf (fun k j z y => by
    rcases y with y | y
    · unfold SRm lvs at y
      omega
    · omega)
  have v : hI (rdM m sd) 56 11 = 0 ∧ hI (rdM m sd) 56 12 = 0 ∧ hI (rdM m sd) 56 13 = 0 ∧ hI (rdM m sd) 56 15 = 0 ∧ hI (rdM m sd) 56 19 = nI sd ∧ hI (rdM m sd) 56 20 = 0 ∧ hI (rdM m sd) 66 sd = 24 ∧ hI (rdM m sd) 67 sd = 0 ∧ hI (rdM m sd) 56 27 = nI (54 * sd) ∧ hI (rdM m sd) 74 sd = 0 ∧ hI (rdM m sd) 77 sd = -1 ∧ hI (rdM m sd) 78 sd = 0 ∧ hI (rdM m sd) 79 sd = -1 ∧ hI (rdM m sd) 80 sd = 0 ∧ hI (rdM m sd) 56 41 = nI (150 * sd) ∧ hI (rdM m sd) 56 48 = nI (420 * sd) ∧ hI (rdM m sd) 56 51 = 0 := by
    unfold rdM
    simp [hI_tI]
  obtain ⟨v11, v12, v13, v15, v19, v20, v66, v67, v27, v74, v77, v78, v79, v80, v41, v48, v51⟩ := v
  exact ⟨[], 0, 0, ⟨v13, v11, Nat.zero_le _, hT'⟩, v19, ⟨⟨v48, fun j o ho => (by cases ho)⟩, v12, v41, v27, v67, Nat.zero_le _, fun q w hw => (by cases hw)⟩, ⟨Nat.le_refl _, Nat.le_refl _⟩, ⟨⟨v74, v77, v78, v79, v80, fun _ => v66⟩, fun b p hp => (by cases hp), fun q p hp => (by cases hp)⟩, ⟨v20, fun k p hp => (by cases hp)⟩, v15, ⟨v51, fun k t ht => (by cases ht)⟩, Nat.le_refl _⟩
theorem m_findBelow {i : Nat} {s : IS} (hsd : sd < 2) (hM : MI m sd By n i s) (hA : AV (tk By n) (vI By n) (v5 By n) s) (hW : ttW s = none) (hUi : ∀ t, t ∈ ttU s → t < i) : ∃ e, loop g_X12_read_272 ((0 : Int32), m) = some e ∧ ((∃ k t, e = Sum.inl (nI k, m) ∧ (ttU s)[k]? = some t ∧ fbl (vI By n) (ttP s) (ttU s) = some t) ∨ (e = Sum.inr m ∧ fbl (vI By n) (ttP s) (ttU s) = none)) := by
  obtain ⟨C, k1, b1, hB, h19, hK, _, ⟨⟨a1, a2, a3, a4, a5, a6⟩, c1, c2⟩, hN, hW', hU, hl3⟩ := hM
  have hte := te_le By n
  have hit := hB.2.2.1
  have hP := hA.1
  refine loop_ex (ttU s).length (fun k z => z = (nI k, m) ∧ fbl (vI By n) (ttP s) ((ttU s).drop k) = fbl (vI By n) (ttP s) (ttU s)) _ (by omega) ?_ ?_ ⟨rfl, rfl⟩
  · rintro k z hk ⟨rfl, i2⟩
    show (∃ s', f_X12_read_272 (nI k) m = some (Sum.inl s') ∧ _) ∨ ∃ e, f_X12_read_272 (nI k) m = some (Sum.inr e) ∧ _
    obtain ⟨t, ho⟩ : ∃ t, (ttU s)[k]? = some t := ⟨(ttU s)[k], List.getElem?_eq_getElem hk⟩
    have kt := hA.2.2.2.2.2.2.2.1 t (List.mem_of_getElem? ho)
    have hv := vI_lt kt
    have htt := hUi t (List.mem_of_getElem? ho)
    unfold f_X12_read_272
    rw [hU.1, if_neg (nI_ge hk (by omega)), aI_n _ 91 (show k < 140 by omega) (by omega), bind_s, hU.2 k t ho, aI_n _ 61 (show t < 403 by omega) (by omega), bind_s, (hB.2.2.2 t (by omega)).2.2.1 kt, h19, aI_n _ 66 hsd (by omega), bind_s, a6 hW]
    rw [drop_c ho] at i2
    have i2' : (if ttP s ≤ vI By n t then some t else fbl (vI By n) (ttP s) ((ttU s).drop (k + 1))) = fbl (vI By n) (ttP s) (ttU s) := i2
    by_cases c : ttP s ≤ vI By n t
    · right
      rw [if_pos c] at i2'
      rw [if_pos (nI_le c (by omega))]
      exact ⟨_, rfl, Or.inl ⟨k, t, rfl, ho, i2'.symm⟩⟩
    · left
      rw [if_neg c] at i2'
      rw [if_neg (nI_ge (by omega) (by omega)), nmI_e, bind_s, nI_1]
      exact ⟨_, rfl, rfl, i2'⟩
  · rintro z ⟨rfl, i2⟩
    show ∃ e, f_X12_read_272 (nI (ttU s).length) m = some (Sum.inr e) ∧ _
    unfold f_X12_read_272
    rw [hU.1, if_pos (nI_le (Nat.le_refl _) (by omega))]
    rw [List.drop_length] at i2
    exact ⟨_, rfl, Or.inr ⟨rfl, i2.symm⟩⟩
theorem m_unheld : ∃ m', loop g_X12_read_354 ((0 : Int32), m) = some m' ∧ (∀ t, t < 3 → hI m' 113 t = 0) ∧ Fr (fun k _ => k = 113) m m' := by
  refine loop_to 3 (fun k z => z.1 = nI k ∧ (∀ t, t < k → hI z.2 113 t = 0) ∧ Fr (fun k _ => k = 113) m z.2) _ (by omega) ?_ ?_ ⟨rfl, fun t ht => by omega, Fr.rf⟩
  · rintro k ⟨z1, m1⟩ hk ⟨i1, i2, i3⟩
    dsimp only at i1 i2 i3
    subst i1
    show ∃ s', f_X12_read_354 (nI k) m1 = some (Sum.inl s') ∧ _
    unfold f_X12_read_354
    rw [lit_3, if_neg (nI_ge hk (by omega)), bI_n _ 113 _ hk (by omega), bind_s, nmI_e, bind_s, nI_1]
    refine ⟨_, rfl, rfl, fun t ht => ?_, i3.tI _ rfl⟩
    show hI (tI m1 113 k 0) 113 t = 0
    rw [hI_tI]
    by_cases q : t = k
    · rw [if_pos ⟨rfl, q⟩]
    · rw [if_neg (fun z => q z.2)]; exact i2 t (by omega)
  · rintro ⟨z1, m1⟩ ⟨i1, i2, i3⟩
    dsimp only at i1 i2 i3
    subst i1
    show ∃ z, f_X12_read_354 (nI 3) m1 = some (Sum.inr z) ∧ _
    unfold f_X12_read_354
    rw [lit_3, if_pos (nI_le (Nat.le_refl _) (by omega))]
    exact ⟨_, rfl, i2, i3⟩
end KN3
section KO3
variable {m : M2} {l : Nat} {s : SS}
/-- what a read may change of the reference beside the text and the tape -/
abbrev SRe (sd : Nat) : Nat → Nat → Prop := fun k j => SRm sd k j ∨ (k = 56 ∧ (j = 2 ∨ j = 4 ∨ j = 10 ∨ j = 17 ∨ j = 19)) ∨ (58 ≤ k ∧ k ≤ 62)
theorem SRe.nn {k j sd : Nat} (h : mk2 k j) (hn : ¬ (66 ≤ k ∧ k ≤ 90)) (h2 : ¬ (k = 56 ∧ (j = 2 ∨ j = 17))) : ¬ SRe sd k j := by
  intro z
  unfold mk2 at h
  rcases z with z | z | z
  · rcases z with z | z | z | z | z | z
    · omega
    · omega
    · omega
    · omega
    · omega
    · have := z.1.a
      omega
  · omega
  · omega
theorem MS.fail {m' : M2} {p : Int32} (hM : MS m l s) (hV : VS s) (hl : l < 2) (hf : Fr (SRe (1 - l)) m m') (h2 : hI m' 56 2 = 0) (h17 : hI m' 56 17 = p) : MS m' l (sFail s p) := by
  obtain ⟨h1, hc, h3, h4, h5, ⟨h6, h6b⟩, h7⟩ := hM
  have I : ∀ k j, mk2 k j → ¬ (66 ≤ k ∧ k ≤ 90) → ¬ (k = 56 ∧ (j = 2 ∨ j = 17)) → hI m' k j = hI m k j := fun k j z1 z2 z3 => hf.I _ _ (SRe.nn z1 z2 z3)
  have live : ∀ k j, lvs l k j → ¬ SRe (1 - l) k j := by
    intro k j h z
    have ha := h.a
    rcases z with z | z | z
    · rcases z with z | z | z | z | z | z
      · omega
      · omega
      · omega
      · omega
      · omega
      · exact lvs_dis hl h z
    · omega
    · omega
  refine ⟨h1.fr2 hV.1.n hV.1.2.2.2.2.2.2.1 hf live, ?_, ?_, ?_, ?_, ⟨h2, fun i => (I _ _ (by unfold mk2; omega) (by omega) (by omega)).trans (h6b i)⟩, h17⟩
  · obtain ⟨a1, a2, a3, a4⟩ := hc
    exact ⟨fun b hb => ⟨(I _ _ (by unfold mk2; omega) (by omega) (by omega)).trans (a1 b hb).1, (I _ _ (by unfold mk2; omega) (by omega) (by omega)).trans (a1 b hb).2.1, (I _ _ (by unfold mk2; omega) (by omega) (by omega)).trans (a1 b hb).2.2⟩, (I _ _ (by unfold mk2; omega) (by omega) (by omega)).trans a2, (I _ _ (by unfold mk2; omega) (by omega) (by omega)).trans a3, (I _ _ (by unfold mk2; omega) (by omega) (by omega)).trans a4⟩
  · obtain ⟨a1, a2⟩ := h3
    exact ⟨(I _ _ (by unfold mk2; omega) (by omega) (by omega)).trans a1, fun i hi b hb => (I _ _ (by unfold mk2; omega) (by omega) (by omega)).trans (a2 i hi b hb)⟩
  · intro t ht
    obtain ⟨a1, a2⟩ := h4 t ht
    refine ⟨(I _ _ (by unfold mk2; omega) (by omega) (by omega)).trans a1, fun e => ?_⟩
    obtain ⟨b1, b2, b3, b4⟩ := a2 e
    exact ⟨fun b hb => ⟨(I _ _ (by unfold mk2; omega) (by omega) (by omega)).trans (b1 b hb).1, (I _ _ (by unfold mk2; omega) (by omega) (by omega)).trans (b1 b hb).2.1, (I _ _ (by unfold mk2; omega) (by omega) (by omega)).trans (b1 b hb).2.2⟩, (I _ _ (by unfold mk2; omega) (by omega) (by omega)).trans b2, (I _ _ (by unfold mk2; omega) (by omega) (by omega)).trans b3, (I _ _ (by unfold mk2; omega) (by omega) (by omega)).trans b4⟩
  · obtain ⟨a1, a2⟩ := h5
    exact ⟨(I _ _ (by unfold mk2; omega) (by omega) (by omega)).trans a1, fun i hi => ⟨(I _ _ (by unfold mk2; omega) (by omega) (by omega)).trans (a2 i hi).1, (I _ _ (by unfold mk2; omega) (by omega) (by omega)).trans (a2 i hi).2.1, (I _ _ (by unfold mk2; omega) (by omega) (by omega)).trans (a2 i hi).2.2⟩⟩
theorem SRe.mm {k j sd : Nat} (z : SRe sd k j) : SM2 k j := by
  rcases z with z | z | z
  · rcases z with z | z | z | z | z | z
    · omega
    · omega
    · omega
    · omega
    · omega
    · have := z.1.a
      omega
  · omega
  · omega
theorem k_read_m (hM : MS m l s) (hV : VS s) (hW : ∀ w, w < 17 → hJ m 63 (mkd (17 + w) - 20) = lN (W27 w)) : (∀ q, rdS s = .inl q → ∃ m', F_X12_read m = some (0, m') ∧ MS m' (1 - l) (sRead s (tdOf q)) ∧ Fr SM2 m m') ∧ (∀ f t, rdS s = .inr (f, t) → ∃ m', F_X12_read m = some (nI f, m') ∧ MS m' l (sFail s (nI (tp (sBy s) (ssT s) t))) ∧ Fr SM2 m m') := by
  have hM0 := hM
  obtain ⟨h1, hc, h3, h4, h5, ⟨h6, h6b⟩, h7⟩ := hM
  have hl : l < 2 := h1.1.2.1
  have h18 : hI m 56 18 = nI l := h1.1.1
  have hn : ssT s ≤ 2000 := hV.2.2.2.2.2
  have hsd : 1 - l < 2 := by omega
  unfold F_X12_read
  rw [h6, qI_e, bind_s]
  have f1 : Fr (fun k j => k = 56 ∧ j = 4) m (tI m 56 4 (nI (ssT s))) := Fr.rf.tI _ ⟨rfl, rfl⟩
  have w1 : hI (tI m 56 4 (nI (ssT s))) 56 4 = nI (ssT s) := by rw [hI_tI, if_pos ⟨rfl, rfl⟩]
  generalize tI m 56 4 (nI (ssT s)) = m1 at f1 w1 ⊢
  obtain ⟨m2, e2, y2, f2⟩ := m_copy (m := m1) (Y := ssY s) hn w1 (fun i => (f1.I _ _ (by omega)).trans (h6b i))
  rw [e2, bind_s, qI_e, bind_s]
  have f3 : Fr (fun k j => k = 56 ∧ j = 2) m2 (tI m2 56 2 0) := Fr.rf.tI _ ⟨rfl, rfl⟩
  have w3 : hI (tI m2 56 2 0) 56 2 = 0 := by rw [hI_tI, if_pos ⟨rfl, rfl⟩]
  generalize tI m2 56 2 0 = m3 at f3 w3 ⊢
  have f03 : Fr (fun k j => (k = 56 ∧ (j = 2 ∨ j = 4)) ∨ k = 58) m m3 := ((f1.mono (fun k j z => by omega)).tr (f2.mono (fun k j z => by omega))).tr (f3.mono (fun k j z => by omega))
  have bm : BM m3 (sBy s) (ssT s) := ⟨by rw [f3.I _ _ (by omega), f2.I _ _ (by omega)]; exact w1, hn, fun i hi => by rw [f3.I _ _ (by omega)]; exact y2 i hi, fun i => byt_lt _, fun w hw => (f03.J _ _ (by omega)).trans (hW w hw)⟩
  obtain ⟨m4, e4, t4, f4⟩ := m_cut bm
  have f04 : Fr (fun k j => (k = 56 ∧ (j = 2 ∨ j = 4 ∨ j = 10)) ∨ (58 ≤ k ∧ k ≤ 62)) m m4 := (f03.mono (fun k j z => by omega)).tr (f4.mono (fun k j z => by omega))
  have s18 : hI m4 56 18 = nI l := (f04.I _ _ (by omega)).trans h18
  rw [e4, bind_s]
  have hb : ∀ (mm : M2) (k : Nat) (v : Int32), hI mm 56 19 = nI (1 - l) → bI mm k 2 (hI mm 56 19) v = some (tI mm k (1 - l) v) := fun mm k v z => by rw [z, bI_n _ k _ hsd (by omega)]
  have hm : ∀ (mm : M2) (a : Nat), hI mm 56 19 = nI (1 - l) → nI a * hI mm 56 19 = nI (a * (1 - l)) := fun mm a z => by rw [z, pk_mul]
  have e1l : (1 : Int32) - nI l = nI (1 - l) := by rw [lit_1, pk_sub (by omega)]
  rw [qI_e, bind_s, qI_e, bind_s, qI_e, bind_s, qI_e, bind_s, show hI (tI (tI (tI (tI m4 56 11 0) 56 12 0) 56 13 0) 56 15 0) 56 18 = nI l from by simp [hI_tI, s18], e1l, qI_e, bind_s, qI_e, bind_s]
  rw [hb _ 66 _ (by simp [hI_tI]), bind_s, hb _ 67 _ (by simp [hI_tI]), bind_s, show (54 : Int32) = nI 54 from rfl, hm _ 54 (by simp [hI_tI]), qI_e, bind_s, hb _ 74 _ (by simp [hI_tI]), bind_s, hb _ 77 _ (by simp [hI_tI]), bind_s, hb _ 78 _ (by simp [hI_tI]), bind_s, hb _ 79 _ (by simp [hI_tI]), bind_s, hb _ 80 _ (by simp [hI_tI]), bind_s, show (150 : Int32) = nI 150 from rfl, hm _ 150 (by simp [hI_tI]), qI_e, bind_s, show (420 : Int32) = nI 420 from rfl, hm _ 420 (by simp [hI_tI]), qI_e, bind_s, qI_e, bind_s]
  show (∀ q, rdS s = .inl q → ∃ m', ((loop g_X12_read_191 (rdM m4 (1 - l))).bind fun e43 => f_X12_read_213 e43) = some (0, m') ∧ _ ∧ _) ∧ (∀ f t, rdS s = .inr (f, t) → ∃ m', ((loop g_X12_read_191 (rdM m4 (1 - l))).bind fun e43 => f_X12_read_213 e43) = some (nI f, m') ∧ _ ∧ _)
  have mi := rdM_mi (m := m4) hsd t4
  have f5 := rdM_fr (m := m4) (sd := 1 - l) hsd
  generalize rdM m4 (1 - l) = m5 at mi f5 ⊢
  obtain ⟨m6, e6, f6, o6⟩ := m_text hsd hn mi
  rw [e6, bind_s]
  have ff6 : Fr (SRe (1 - l)) m m6 := ((f04.mono (fun k j z => by omega)).tr (f5.mono (fun k j z => by
    rcases z with z | z
    · exact Or.inl z
    · exact Or.inr (Or.inl (by omega))))).tr (f6.mono (fun k j z => Or.inl z))
  have g2 : hI m6 56 2 = 0 := by
    have n1 : ¬ SRm (1 - l) 56 2 := fun z => by
      rcases z with z | z | z | z | z | z <;> omega
    rw [f6.I _ _ n1, f5.I _ _ (fun z => by rcases z with z | z; exact n1 z; omega), f4.I _ _ (by omega)]
    exact w3
  unfold rdS rdA f_X12_read_213 f_X12_read_243
  rcases o6 with ⟨i, q, ep, hI6, hT⟩ | ⟨f, t, ep, r6⟩
  · have hKV : ∀ i, tk (sBy s) (ssT s) i = 3 → vI (sBy s) (ssT s) i < 10000 := fun i hi => vI_lt hi
    have hA : AV (tk (sBy s) (ssT s)) (vI (sBy s) (ssT s)) (v5 (sBy s) (ssT s)) q := pT_AV ep (AV0 _ _ _)
    have hUi := pT_U hKV ep ⟨by decide, by decide, by decide, rfl⟩ (fun t ht => (by cases ht))
    have hI7 := hI6
    obtain ⟨C, k1, b1, hB, h19, hK, hls, hG, hN, hWw, hU, hl3⟩ := hI6
    rw [ep]
    dsimp only
    rw [if_pos hB.le]
    unfold rdW
    cases hw : ttW q with
    | some w =>
      rw [hw] at hWw
      obtain ⟨v1, v2, v3, v4⟩ := hWw
      dsimp only
      have g15 : ∀ x, hI (tI m6 56 17 x) 56 15 = nI w.1 := fun x => by rw [hI_tI, if_neg (by omega)]; exact v1
      have g13 : ∀ x, hI (tI m6 56 17 x) 56 13 ≤ 0 := fun x => by rw [hI_tI, if_neg (by omega)]; exact hB.le
      rw [if_neg (by rw [v1]; exact nI_nle v2.1 (by omega)), v3, qI_e, bind_s, if_pos (g13 _), if_neg (by rw [g15]; exact nI_nle v2.1 (by omega)), g15]
      refine ⟨fun q' z => (by cases z), fun f t z => ?_⟩
      cases z
      have f7 : Fr (SRe (1 - l)) m (tI m6 56 17 (nI (tp (sBy s) (ssT s) t))) := ff6.tI _ (Or.inr (Or.inl (by omega)))
      exact ⟨_, rfl, hM0.fail hV hl f7 (by rw [hI_tI, if_neg (by omega)]; exact g2) (by rw [hI_tI, if_pos ⟨rfl, rfl⟩]), f7.mono (fun k j z => z.mm)⟩
    | none =>
      rw [hw] at hWw
      have v1 : hI m6 56 15 = 0 := hWw
      dsimp only
      rw [if_pos (by rw [v1]; decide), qI_e, bind_s]
      have f7 : Fr (fun k j => k = 56 ∧ j = 17) m6 (tI m6 56 17 (-1)) := Fr.rf.tI _ ⟨rfl, rfl⟩
      have w7 : hI (tI m6 56 17 (-1)) 56 17 = -1 := by rw [hI_tI, if_pos ⟨rfl, rfl⟩]
      generalize tI m6 56 17 (-1) = m7 at f7 w7 ⊢
      have ff7 : Fr (SRe (1 - l)) m m7 := ff6.tr (f7.mono (fun k j z => Or.inr (Or.inl (by omega))))
      have mi7 : MI m7 (1 - l) (sBy s) (ssT s) i q := by
        refine ⟨C, k1, b1, hB.fr f7 (fun k j z => by omega), (f7.I _ _ (by omega)).trans h19, hK.fr f7 (fun k j z => by omega), hls, hG.fr f7 (fun k j z => by omega), hN.fr f7 (fun k j z => by omega), ?_, hU.fr f7 (fun k j z => by omega), hl3⟩
        rw [hw]
        exact (f7.I _ _ (by omega)).trans v1
      rw [if_pos (by rw [f7.I _ _ (by omega)]; exact hB.le), if_pos (by rw [f7.I _ _ (by omega), v1]; decide)]
      obtain ⟨e8, e8', o8⟩ := m_findBelow hsd mi7 hA hw hUi
      rw [e8', bind_s]
      rcases o8 with ⟨k, t, rfl, ho, hb8⟩ | ⟨rfl, hb8⟩
      · rw [Sum.elim_inl]
        dsimp only
        rw [hb8]
        have hU7 := hU.fr f7 (fun k j z => by omega)
        have hte := te_le (sBy s) (ssT s)
        have hit := hB.2.2.1
        have htt := hUi t (List.mem_of_getElem? ho)
        have hkl := lt_of_get ho
        have hB7 := hB.fr f7 (fun k j z => by omega)
        rw [aI_n _ 91 (show k < 140 by omega) (by omega), bind_s, hU7.2 k t ho, aI_n _ 60 (show t < 403 by omega) (by omega), bind_s, (hB7.2.2.2 t (by omega)).2.1, qI_e, bind_s]
        refine ⟨fun q' z => (by cases z), fun f' t' z => ?_⟩
        cases z
        have f9 : Fr (SRe (1 - l)) m (tI m7 56 17 (nI (tp (sBy s) (ssT s) t))) := ff7.tI _ (Or.inr (Or.inl (by omega)))
        exact ⟨_, rfl, hM0.fail hV hl f9 (by rw [hI_tI, if_neg (by omega), f7.I _ _ (by omega)]; exact g2) (by rw [hI_tI, if_pos ⟨rfl, rfl⟩]), f9.mono (fun k j z => z.mm)⟩
      · rw [Sum.elim_inr, hb8]
        have hVT := td_ok hT hA hw hb8
        rw [show hI m7 56 19 = nI (1 - l) from (f7.I _ _ (by omega)).trans h19, qI_e, bind_s]
        have f8 : Fr (fun k j => k = 56 ∧ j = 18) m7 (tI m7 56 18 (nI (1 - l))) := Fr.rf.tI _ ⟨rfl, rfl⟩
        have w8 : hI (tI m7 56 18 (nI (1 - l))) 56 18 = nI (1 - l) := by rw [hI_tI, if_pos ⟨rfl, rfl⟩]
        generalize tI m7 56 18 (nI (1 - l)) = m8 at f8 w8 ⊢
        have mt8 : MT m8 (1 - l) (tdOf q) := mi7.mt hsd hT hw hA.1 f8 (fun k j z => by omega) w8
        obtain ⟨m9, e9, c9, f9⟩ := m_crewBegin mt8 hVT
        rw [e9, bind_s, qI_e, bind_s, qI_e, bind_s]
        have fa : Fr (fun k j => k = 56 ∧ (j = 61 ∨ j = 79)) m9 (tI (tI m9 56 61 0) 56 79 0) := (Fr.rf.tI _ (by omega)).tI _ (by omega)
        have wa : hI (tI (tI m9 56 61 0) 56 79 0) 56 61 = 0 ∧ hI (tI (tI m9 56 61 0) 56 79 0) 56 79 = 0 := by simp [hI_tI]
        generalize tI (tI m9 56 61 0) 56 79 0 = ma at fa wa ⊢
        obtain ⟨mb, eb, ub, fb⟩ := m_unheld (m := ma)
        rw [eb, bind_s]
        have f9b : Fr (fun k j => (k = 56 ∧ (j = 61 ∨ j = 79)) ∨ k = 113) m9 mb := (fa.mono (fun k j z => Or.inl z)).tr (fb.mono (fun k j z => Or.inr z))
        have f8b : Fr (fun k j => (93 ≤ k ∧ k ≤ 95) ∨ (k = 56 ∧ (j = 58 ∨ j = 59 ∨ j = 60 ∨ j = 61 ∨ j = 79)) ∨ k = 113) m8 mb := (f9.mono (fun k j z => by omega)).tr (f9b.mono (fun k j z => by omega))
        refine ⟨fun q' z => ?_, fun f' t' z => (by cases z)⟩
        cases z
        refine ⟨mb, rfl, ⟨mt8.fr f8b (fun k j z => by omega), c9.fr f9b (fun k j z => by omega), ⟨(fb.I _ _ (by omega)).trans wa.1, fun i hi => absurd hi (Nat.not_lt_zero _)⟩, fun t ht => ⟨ub t ht, fun z => (by cases z)⟩, ⟨(fb.I _ _ (by omega)).trans wa.2, fun i hi => absurd hi (Nat.not_lt_zero _)⟩, ⟨?_, fun x => ?_⟩, ?_⟩, ?_⟩
        · show hI mb 56 2 = 0
          rw [f8b.I _ _ (by omega), f8.I _ _ (by omega), f7.I _ _ (by omega)]; exact g2
        · show hI mb 57 x = ssY s x
          rw [f8b.I _ _ (by omega), f8.I _ _ (by omega), ff7.I _ _ (SRe.nn (by unfold mk2; omega) (by omega) (by omega))]; exact h6b x
        · show hI mb 56 17 = -1
          rw [f8b.I _ _ (by omega), f8.I _ _ (by omega)]; exact w7
        · exact ((ff7.mono (fun k j z => z.mm)).tr (f8.mono (fun k j z => by omega))).tr (f8b.mono (fun k j z => by omega))
  · rw [ep, if_neg r6.nl]
    have g13 : ∀ x, hI (tI m6 56 17 x) 56 13 = nI f := fun x => by rw [hI_tI, if_neg (by omega)]; exact r6.1
    have g14 : hI m6 56 14 = nI (tp (sBy s) (ssT s) t) := r6.2.2.1
    rw [g14, qI_e, bind_s, if_neg (by rw [g13]; exact nI_nle r6.2.1.1 (by have := r6.2.1.2; omega)), g13]
    refine ⟨fun q' z => (by cases z), fun f' t' z => ?_⟩
    cases z
    have f7 : Fr (SRe (1 - l)) m (tI m6 56 17 (nI (tp (sBy s) (ssT s) t))) := ff6.tI _ (Or.inr (Or.inl (by omega)))
    exact ⟨_, rfl, hM0.fail hV hl f7 (by rw [hI_tI, if_neg (by omega)]; exact g2) (by rw [hI_tI, if_pos ⟨rfl, rfl⟩]), f7.mono (fun k j z => z.mm)⟩
end KO3
