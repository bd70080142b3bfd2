/-! ===== the reference reads expressions: its small steps ===== -/
def Sg (s : List Nat) : Prop := s = [] ∨ (∃ a, (a = 9 ∨ a = 10) ∧ s = [a]) ∨ (∃ b, (b = 7 ∨ b = 8) ∧ s = [b]) ∨ ∃ a b, (a = 9 ∨ a = 10) ∧ (b = 7 ∨ b = 8) ∧ s = [a, b]
def Sh : Nat → List Nat → Prop
  | 0, W => Sg W
  | o + 1, W => ∃ s w W', Sg s ∧ wll w = true ∧ Sh o W' ∧ W = s ++ w :: W'
theorem Sg.len {s : List Nat} (h : Sg s) : s.length ≤ 2 := by
  rcases h with rfl | ⟨a, _, rfl⟩ | ⟨a, _, rfl⟩ | ⟨a, b, _, _, rfl⟩
  · exact Nat.zero_le _
  · show 1 ≤ 2; omega
  · show 1 ≤ 2; omega
  · exact Nat.le_refl _
theorem Sh.len : ∀ {o : Nat} {W : List Nat}, Sh o W → W.length ≤ 3 * o + 2
  | 0, W, h => by have := Sg.len h; omega
  | o + 1, W, ⟨s, w, W', h1, h2, h3, e⟩ => by
    have a := h1.len
    have b := Sh.len h3
    rw [e, List.length_append, List.length_cons]
    omega
/-- what a row of signs leaves when all comes out -/
theorem Sg.cf {s R : List Nat} (h : Sg s) (hR : tO0 R) (C : List Op) : co false (s ++ R) C = (R, C ++ s.map (fun w => (w, 0))) := by
  have n9 : ∀ a, (a = 9 ∨ a = 10) → ¬ (wll a = true ∨ (false = true ∧ (a = 7 ∨ a = 8))) := fun a ha z => by
    rcases z with z | z
    · exact wll_n (by omega) z
    · cases z.1
  have n7 : ∀ a, (a = 7 ∨ a = 8) → ¬ (wll a = true ∨ (false = true ∧ (a = 7 ∨ a = 8))) := fun a ha z => by
    rcases z with z | z
    · exact wll_n (by omega) z
    · cases z.1
  rcases h with rfl | ⟨a, ha, rfl⟩ | ⟨a, ha, rfl⟩ | ⟨a, b, ha, hb, rfl⟩
  · rw [List.nil_append, co_t0 hR]
    show (R, C) = (R, C ++ [])
    rw [List.append_nil]
  · show co false (a :: R) C = _
    rw [co_c (n9 a ha), co_t0 hR]
    rfl
  · show co false (a :: R) C = _
    rw [co_c (n7 a ha), co_t0 hR]
    rfl
  · show co false (a :: b :: R) C = _
    rw [co_c (n9 a ha), co_c (n7 b hb), co_t0 hR, List.append_assoc]
    rfl
theorem Sg.ct {s R : List Nat} (h : Sg s) (hR : tO0 R) (C : List Op) : ∃ s2, (s2 = [] ∨ ∃ b, (b = 7 ∨ b = 8) ∧ s2 = [b]) ∧ (co true (s ++ R) C).1 = s2 ++ R ∧ (co true (s ++ R) C).2.length + (s2 ++ R).length = C.length + (s ++ R).length := by
  have n9 : ∀ a, (a = 9 ∨ a = 10) → ¬ (wll a = true ∨ (true = true ∧ (a = 7 ∨ a = 8))) := fun a ha z => by
    rcases z with z | z
    · exact wll_n (by omega) z
    · omega
  rcases h with rfl | ⟨a, ha, rfl⟩ | ⟨a, ha, rfl⟩ | ⟨a, b, ha, hb, rfl⟩
  · refine ⟨[], Or.inl rfl, ?_, ?_⟩
    · rw [List.nil_append, co_t0 hR]
    · rw [List.nil_append, co_t0 hR]
  · refine ⟨[], Or.inl rfl, ?_, ?_⟩
    · show (co true (a :: R) C).1 = R
      rw [co_c (n9 a ha), co_t0 hR]
    · show (co true (a :: R) C).2.length + R.length = C.length + (a :: R).length
      rw [co_c (n9 a ha), co_t0 hR, List.length_append, List.length_singleton, List.length_cons]
      omega
  · refine ⟨[a], Or.inr ⟨a, ha, rfl⟩, ?_, ?_⟩
    · show (co true (a :: R) C).1 = a :: R
      rw [co_t1 (Or.inr ⟨a, R, rfl, Or.inr ha⟩)]
    · show (co true (a :: R) C).2.length + (a :: R).length = C.length + (a :: R).length
      rw [co_t1 (Or.inr ⟨a, R, rfl, Or.inr ha⟩)]
  · refine ⟨[b], Or.inr ⟨b, hb, rfl⟩, ?_, ?_⟩
    · show (co true (a :: b :: R) C).1 = b :: R
      rw [co_c (n9 a ha), co_t1 (Or.inr ⟨b, R, rfl, Or.inr hb⟩)]
    · show (co true (a :: b :: R) C).2.length + (b :: R).length = C.length + (a :: b :: R).length
      rw [co_c (n9 a ha), co_t1 (Or.inr ⟨b, R, rfl, Or.inr hb⟩), List.length_append, List.length_singleton]
      show C.length + 1 + (R.length + 1) = C.length + (R.length + 1 + 1)
      omega
def mo1 (o : Op) : Nat := if o.1 = 3 then 0 else if 28 ≤ o.1 then 1 else if o.1 = 7 then 2 else if o.1 = 8 then 3 else if o.1 = 9 then 4 else if o.1 = 10 then 5 else 6
def mo2 (o : Op) : Nat := if o.1 = 3 then o.2 else if 28 ≤ o.1 then o.1 - 28 else 0
section KJ2
variable {m : M2} {By : Nat → Nat} {n sd : Nat}
def CdM (m : M2) (sd : Nat) (C : List Op) : Prop := hI m 56 48 = nI (420 * sd + C.length) ∧ ∀ j o, C[j]? = some o → hI m 89 (420 * sd + j) = nI (mo1 o) ∧ hI m 90 (420 * sd + j) = nI (mo2 o)
def WtR (m : M2) : List Nat → Prop
  | [] => True
  | w :: W => hI m 92 W.length = nI (mkd w) ∧ WtR m W
theorem WtR.fr {S : Nat → Nat → Prop} {m' : M2} : ∀ {W : List Nat}, WtR m W → Fr S m m' → (∀ j, j < W.length → ¬ S 92 j) → WtR m' W
  | [], _, _, _ => trivial
  | w :: W, h, hf, hs => ⟨by rw [hf.I _ _ (hs _ (by rw [List.length_cons]; omega))]; exact h.1, WtR.fr h.2 hf (fun j hj => hs j (by rw [List.length_cons]; omega))⟩
theorem CdM.fr {S : Nat → Nat → Prop} {m' : M2} {C : List Op} (h : CdM m sd C) (hf : Fr S m m') (hs : ∀ k j, (k = 56 ∧ j = 48) ∨ k = 89 ∨ k = 90 → ¬ S k j) : CdM m' sd C := ⟨(hf.I _ _ (hs _ _ (by omega))).trans h.1, fun j o ho => ⟨(hf.I _ _ (hs _ _ (by omega))).trans (h.2 j o ho).1, (hf.I _ _ (hs _ _ (by omega))).trans (h.2 j o ho).2⟩⟩
theorem TkM.fr {S : Nat → Nat → Prop} {m' : M2} {T : Nat} (h : TkM m By n T) (hf : Fr S m m') (hs : ∀ k j, 59 ≤ k ∧ k ≤ 62 → ¬ S k j) : TkM m' By n T := fun t ht => by
  rw [hf.I _ _ (hs _ _ (by omega)), hf.I _ _ (hs _ _ (by omega)), hf.I _ _ (hs _ _ (by omega)), hf.J _ _ (hs _ _ (by omega))]
  exact h t ht
abbrev SEc (sd : Nat) : Nat → Nat → Prop := fun k j => (k = 56 ∧ j = 48) ∨ ((k = 89 ∨ k = 90) ∧ 420 * sd ≤ j ∧ j < 420 * sd + 420)
theorem m_emit {C : List Op} {o : Op} (hsd : sd < 2) (h : CdM m sd C) (hl : C.length < 419) : ∃ m', F_X12_emit (nI (mo1 o)) (nI (mo2 o)) m = some m' ∧ CdM m' sd (C ++ [o]) ∧ Fr (SEc sd) m m' := by
  unfold F_X12_emit
  rw [h.1, bI_n _ 89 _ (show 420 * sd + C.length < 840 by omega) (by omega), bind_s, hI_tI, if_neg (by omega), h.1, bI_n _ 90 _ (show 420 * sd + C.length < 840 by omega) (by omega), bind_s, hI_tI, if_neg (by omega), hI_tI, if_neg (by omega), h.1, nI_1, qI_e, bind_s]
  refine ⟨_, rfl, ⟨?_, fun j o' ho => ?_⟩, ((Fr.rf.tI _ (by omega)).tI _ (by omega)).tI _ (by omega)⟩
  · rw [hI_tI, if_pos ⟨rfl, rfl⟩, List.length_append, List.length_singleton, Nat.add_assoc]
  · by_cases q : j = C.length
    · rw [q, List.getElem?_append_right (Nat.le_refl _), Nat.sub_self] at ho
      cases ho
      rw [q]
      refine ⟨?_, ?_⟩
      · rw [hI_tI, if_neg (by omega), hI_tI, if_neg (by omega), hI_tI, if_pos ⟨rfl, rfl⟩]
      · rw [hI_tI, if_neg (by omega), hI_tI, if_pos ⟨rfl, rfl⟩]
    · have hj : j < C.length := by
        have : j < (C ++ [o]).length := by
          apply Classical.byContradiction
          intro z
          rw [List.getElem?_eq_none (by omega)] at ho
          cases ho
        rw [List.length_append, List.length_singleton] at this
        omega
      rw [List.getElem?_append_left hj] at ho
      refine ⟨?_, ?_⟩
      · rw [hI_tI, if_neg (by omega), hI_tI, if_neg (by omega), hI_tI, if_neg (by omega)]
        exact (h.2 j o' ho).1
      · rw [hI_tI, if_neg (by omega), hI_tI, if_neg (by omega), hI_tI, if_neg (by omega)]
        exact (h.2 j o' ho).2
def WtM (m : M2) (W : List Nat) : Prop := hI m 56 54 = nI W.length ∧ WtR m W
theorem WtM.fr {S : Nat → Nat → Prop} {m' : M2} {W : List Nat} (h : WtM m W) (hf : Fr S m m') (hs : ∀ k j, (k = 56 ∧ j = 54) ∨ k = 92 → ¬ S k j) : WtM m' W := ⟨(hf.I _ _ (hs _ _ (by omega))).trans h.1, h.2.fr hf (fun j hj => hs _ _ (by omega))⟩
theorem m_push {W : List Nat} {w : Nat} (h : WtM m W) (hl : W.length < 64) : ∃ m', F_X12_pushes (nI (mkd w)) m = some m' ∧ WtM m' (w :: W) ∧ Fr (fun k j => (k = 56 ∧ j = 54) ∨ k = 92) m m' := by
  unfold F_X12_pushes
  rw [h.1, bI_n _ 92 _ hl (by omega), bind_s, hI_tI, if_neg (by omega), h.1, nI_1, qI_e, bind_s]
  refine ⟨_, rfl, ⟨?_, ?_, ?_⟩, (Fr.rf.tI _ (by omega)).tI _ (by omega)⟩
  · rw [hI_tI, if_pos ⟨rfl, rfl⟩]; rfl
  · rw [hI_tI, if_neg (by omega), hI_tI, if_pos ⟨rfl, rfl⟩]
  · exact h.2.fr (S := fun k j => (k = 56 ∧ j = 54) ∨ (k = 92 ∧ j = W.length)) ((Fr.rf.tI _ (by omega)).tI _ (by omega)) (fun j hj => by omega)
theorem wll_m {w : Nat} (hw : w < 34) : F_X12_isWall (nI (mkd w)) m = some (bI1 (wll w), m) := by
  have T : ∀ w, w < 34 → ((mkd w = 6 ↔ w = 15) ∧ (mkd w = 36 ↔ w = 27) ∧ (mkd w = 16 ↔ w = 6)) := by decide +kernel
  obtain ⟨t1, t2, t3⟩ := T w hw
  have hm := mkd_lt w hw
  unfold F_X12_isWall
  rw [show (6 : Int32) = nI 6 from rfl, show (36 : Int32) = nI 36 from rfl, show (16 : Int32) = nI 16 from rfl]
  by_cases a1 : w = 15
  · rw [if_pos (by rw [t1.mpr a1]), show wll w = true from decide_eq_true (by omega)]; rfl
  rw [if_neg (eq_nI (by omega) (by omega) (fun z => a1 (t1.mp z)))]
  by_cases a2 : w = 27
  · rw [if_pos (by rw [t2.mpr a2]), show wll w = true from decide_eq_true (by omega)]; rfl
  rw [if_neg (eq_nI (by omega) (by omega) (fun z => a2 (t2.mp z)))]
  by_cases a3 : w = 6
  · rw [if_pos (by rw [t3.mpr a3]), show wll w = true from decide_eq_true (by omega)]; rfl
  rw [if_neg (eq_nI (by omega) (by omega) (fun z => a3 (t3.mp z))), show wll w = false from decide_eq_false (by omega)]; rfl
def Wok (W : List Nat) : Prop := ∀ w, w ∈ W → wll w = true ∨ (7 ≤ w ∧ w ≤ 10)
abbrev SCo (sd : Nat) : Nat → Nat → Prop := fun k j => (k = 56 ∧ (j = 48 ∨ j = 54)) ∨ ((k = 89 ∨ k = 90) ∧ 420 * sd ≤ j ∧ j < 420 * sd + 420)
theorem m_comesOut {s : Bool} {W : List Nat} {C : List Op} (hsd : sd < 2) (hW : WtM m W) (hC : CdM m sd C) (hok : Wok W) (hlW : W.length < 64) (hl : C.length + W.length < 419) : ∃ m', F_X12_comesOut (bI1 s) m = some m' ∧ WtM m' (co s W C).1 ∧ CdM m' sd (co s W C).2 ∧ Fr (SCo sd) m m' := by
  unfold F_X12_comesOut
  have T : mkd 7 = 8 ∧ mkd 8 = 9 ∧ mkd 9 = 10 ∧ mkd 10 = 15 := by decide
  have key : ∃ e, loop (g_X12_comesOut_0 (bI1 s)) m = some e ∧ ∃ m', (e = Sum.inl m' ∨ e = Sum.inr m') ∧ WtM m' (co s W C).1 ∧ CdM m' sd (co s W C).2 ∧ Fr (SCo sd) m m' := by
    refine loop_wf (fun z => ∃ W2 C2, co s W2 C2 = co s W C ∧ WtM z W2 ∧ CdM z sd C2 ∧ Wok W2 ∧ W2.length < 64 ∧ C2.length + W2.length < 419 ∧ Fr (SCo sd) m z) (fun z => (hI z 56 54).toNatClampNeg) _ ?_ ⟨W, C, rfl, hW, hC, hok, hlW, hl, Fr.rf⟩ (by rw [hW.1, nI_clamp (by omega)]; omega)
    rintro m1 ⟨W2, C2, i1, i2, i3, i4, i5, i6, i7⟩
    show (∃ s', f_X12_comesOut_0 (bI1 s) m1 = some (Sum.inl s') ∧ _) ∨ ∃ e, f_X12_comesOut_0 (bI1 s) m1 = some (Sum.inr e) ∧ _
    unfold f_X12_comesOut_0
    match W2, i1, i2, i4, i5, i6 with
    | [], i1, i2, i4, i5, i6 =>
      right
      rw [i2.1, if_pos (by decide)]
      refine ⟨_, rfl, m1, Or.inr rfl, ?_, ?_, i7⟩
      · rw [← i1]; exact i2
      · rw [← i1]; exact i3
    | w :: W2, i1, i2, i4, i5, i6 =>
      rw [List.length_cons] at i5 i6
      have hw := i4 w (List.mem_cons_self ..)
      have hw34 : w < 34 := by
        rcases hw with z | z
        · have := of_decide_eq_true z; omega
        · omega
      have hlen : hI m1 56 54 = nI (W2.length + 1) := i2.1
      rw [hlen, if_neg (nI_nle (by omega) (by omega)), nI_m1s (by omega), show W2.length + 1 - 1 = W2.length from rfl, aI_n _ 92 (show W2.length < 64 by omega) (by omega), bind_s, i2.2.1, wll_m hw34, bind_s]
      dsimp only
      by_cases hwl : wll w = true
      · right
        rw [b1_1 hwl, if_neg (by decide)]
        have : co s (w :: W2) C2 = (w :: W2, C2) := if_pos (Or.inl hwl)
        rw [this] at i1
        refine ⟨_, rfl, m1, Or.inl rfl, ?_, ?_, i7⟩
        · rw [← i1]; exact i2
        · rw [← i1]; exact i3
      · have hw7 : 7 ≤ w ∧ w ≤ 10 := by
          rcases hw with z | z
          · exact absurd z hwl
          · exact z
        rw [b1_f (Bool.eq_false_iff.mpr hwl), if_pos rfl]
        have pop : ¬ (s = true ∧ (w = 7 ∨ w = 8)) → ∃ s', f_X12_comesOut_43 (bI1 s) (nI (mkd w)) m1 = some (Sum.inl s') ∧ (∃ W2 C2, co s W2 C2 = co s W C ∧ WtM s' W2 ∧ CdM s' sd C2 ∧ Wok W2 ∧ W2.length < 64 ∧ C2.length + W2.length < 419 ∧ Fr (SCo sd) m s') ∧ (hI s' 56 54).toNatClampNeg < (nI (W2.length + 1)).toNatClampNeg := by
          intro hns
          rw [co_c (fun z => by rcases z with z | z; · exact hwl z
                                · exact hns z)] at i1
          unfold f_X12_comesOut_43
          rw [hlen, nI_m1s (by omega), show W2.length + 1 - 1 = W2.length from rfl, qI_e, bind_s]
          have h1 : WtM (tI m1 56 54 (nI W2.length)) W2 := ⟨by rw [hI_tI, if_pos ⟨rfl, rfl⟩], i2.2.2.fr (S := fun k j => k = 56 ∧ j = 54) (Fr.rf.tI _ (by omega)) (fun j hj => by omega)⟩
          have h2 : CdM (tI m1 56 54 (nI W2.length)) sd C2 := i3.fr (S := fun k j => k = 56 ∧ j = 54) (Fr.rf.tI _ (by omega)) (fun k j z => by omega)
          have h7 : Fr (SCo sd) m (tI m1 56 54 (nI W2.length)) := i7.tI _ (by omega)
          generalize tI m1 56 54 (nI W2.length) = m2 at h1 h2 h7 ⊢
          obtain ⟨m3, e3, c3, f3⟩ := m_emit (o := (w, 0)) hsd h2 (by omega)
          have fin : ∃ s', f_X12_comesOut_85 (bI1 s) (nI (mo1 (w, 0))) m2 = some (Sum.inl s') ∧ (∃ W2 C2, co s W2 C2 = co s W C ∧ WtM s' W2 ∧ CdM s' sd C2 ∧ Wok W2 ∧ W2.length < 64 ∧ C2.length + W2.length < 419 ∧ Fr (SCo sd) m s') ∧ (hI s' 56 54).toNatClampNeg < (nI (W2.length + 1)).toNatClampNeg := by
            unfold f_X12_comesOut_85
            have e4 : mo2 (w, 0) = 0 := by unfold mo2; rw [if_neg (show ¬ w = 3 by omega), if_neg (show ¬ 28 ≤ w by omega)]
            rw [e4] at e3
            rw [lit_0, e3, bind_s]
            have h3 : WtM m3 W2 := h1.fr f3 (fun k j z => by omega)
            refine ⟨_, rfl, ⟨W2, _, i1, h3, c3, fun x hx => i4 x (List.mem_cons_of_mem _ hx), by omega, by rw [List.length_append, List.length_singleton]; omega, h7.tr (f3.mono (fun k j z => by omega))⟩, ?_⟩
            rw [h3.1, nI_clamp (by omega), nI_clamp (by omega)]
            omega
          rcases (show w = 7 ∨ w = 8 ∨ w = 9 ∨ w = 10 by omega) with rfl | rfl | rfl | rfl
          · exact fin
          · exact fin
          · exact fin
          · exact fin
        cases s with
        | false =>
          left
          rw [if_pos (show bI1 false = 0 from rfl)]
          exact pop (fun z => by cases z.1)
        | true =>
          rw [if_neg (by decide)]
          by_cases h78 : w = 7 ∨ w = 8
          · right
            have : co true (w :: W2) C2 = (w :: W2, C2) := if_pos (Or.inr ⟨rfl, h78⟩)
            rw [this] at i1
            have fin : ∃ e, (some (Sum.inr (Sum.inl m1)) : Option (M2 ⊕ (M2 ⊕ M2))) = some (Sum.inr e) ∧ ∃ m', (e = Sum.inl m' ∨ e = Sum.inr m') ∧ WtM m' (co true W C).1 ∧ CdM m' sd (co true W C).2 ∧ Fr (SCo sd) m m' := ⟨_, rfl, m1, Or.inl rfl, by rw [← i1]; exact i2, by rw [← i1]; exact i3, i7⟩
            rcases h78 with rfl | rfl
            · exact fin
            · exact fin
          · left
            have hp := pop (fun z => h78 z.2)
            rcases (show w = 9 ∨ w = 10 by omega) with rfl | rfl
            · exact hp
            · exact hp
  obtain ⟨e, e1, m', r, h1, h2, h3⟩ := key
  rw [e1, bind_s]
  rcases r with rfl | rfl
  · exact ⟨m', rfl, h1, h2, h3⟩
  · exact ⟨m', rfl, h1, h2, h3⟩
end KJ2
