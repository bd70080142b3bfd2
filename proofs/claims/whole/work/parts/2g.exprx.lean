/-! ===== the class reads expressions ===== -/
theorem shl6 {a : Nat} (h : a < 2 ^ 24) : nI a <<< ((6 : Int32) &&& 31) = nI (64 * a) := by
  apply Int32.toBitVec_inj.mp
  apply BitVec.eq_of_toNat_eq
  rw [Int32.toBitVec_shiftLeft, show ((6 : Int32) &&& 31).toBitVec.smod 32 = 6#32 by decide, BitVec.shiftLeft_eq', BitVec.toNat_shiftLeft]
  show (Int32.ofNat a).toBitVec.toNat <<< 6 % 2 ^ 32 = (Int32.ofNat (64 * a)).toBitVec.toNat
  rw [Int32.toBitVec_ofNat', BitVec.toNat_ofNat, Int32.toBitVec_ofNat', BitVec.toNat_ofNat, Nat.shiftLeft_eq, Nat.mod_eq_of_lt (show a < 2 ^ 32 by omega)]
  omega
def cwN (o : Op) : Nat := 64 * o.2 + o.1
theorem cw_ok {a b : Nat} (ha : a < 2 ^ 24) (hb : b < 64) : (nI a <<< ((6 : Int32) &&& 31)) ||| nI b = nI (cwN (b, a)) := by
  rw [shl6 ha, nI_or (by omega) (by omega)]
  show nI (64 * a ||| b) = nI (64 * a + b)
  rw [show 64 * a + b = 64 * a ||| b from Nat.two_pow_add_eq_or_of_lt (i := 6) (by omega) a]
section KG
variable {m : M2} {e : Nat} {By : Nat → Nat} {n : Nat}
def CdX (m : M2) (e : Nat) (Cd : List Op) : Prop := hI m e 4 = nI Cd.length ∧ ∀ j o, Cd[j]? = some o → hI m (e + 2) j = nI (cwN o)
def XRd (m : M2) (e : Nat) (By : Nat → Nat) (n i : Nat) (Cd : List Op) : Prop := hI m 14 4 = 0 ∧ hI m 14 1 = nI i ∧ hI m 14 2 = nI (tk By n i) ∧ i ≤ te By n ∧ Cd.length ≤ i ∧ CdX m e Cd ∧ TkX m By n (te By n + 1) ∧ hI m 14 5 = -1
def XFt (m : M2) (By : Nat → Nat) (n f t : Nat) : Prop := hI m 14 4 = nI f ∧ (0 < f ∧ f < 7) ∧ hI m 14 5 = nI (tp By n t) ∧ (∃ i, i ≤ te By n ∧ hI m 14 1 = nI i ∧ hI m 14 2 = nI (tk By n i)) ∧ TkX m By n (te By n + 1)
abbrev SXe (e c : Nat) : Nat → Nat → Prop := fun k j => (k = 14 ∧ (j = 1 ∨ j = 2 ∨ j = 4 ∨ j = 5)) ∨ (k = e ∧ j = 4) ∨ (k = e + 2 ∧ c ≤ j)
theorem TkX.fr {S : Nat → Nat → Prop} {m' : M2} {T : Nat} (h : TkX m By n T) (hf : Fr S m m') (hs : ∀ k j, 20 ≤ k ∧ k ≤ 22 → ¬ S k j) : TkX m' By n T := fun t ht => by
  rw [hf.I _ _ (hs _ _ (by omega)), hf.I _ _ (hs _ _ (by omega)), hf.J _ _ (hs _ _ (by omega))]
  exact h t ht
theorem CdX.fr {S : Nat → Nat → Prop} {m' : M2} {Cd : List Op} (h : CdX m e Cd) (hf : Fr S m m') (hs : ∀ k j, (k = e ∧ j = 4) ∨ k = e + 2 → ¬ S k j) : CdX m' e Cd := ⟨(hf.I _ _ (hs _ _ (by omega))).trans h.1, fun j o ho => (hf.I _ _ (hs _ _ (by omega))).trans (h.2 j o ho)⟩
theorem XFt.ne {f t : Nat} (h : XFt m By n f t) : ¬ hI m 14 4 = 0 := by rw [h.1]; exact nI_ne0 h.2.1.1 (by have := h.2.1.2; omega)
theorem xf_take {w : Int32} (h : ¬ hI m 14 4 = 0) : F_X4_take e w m = some (0, m) := if_neg h
theorem xf_fail {w : Int32} (h : ¬ hI m 14 4 = 0) : F_X4_fail e w m = some m := if_neg h
theorem xf_emit {a b : Int32} (h : ¬ hI m 14 4 = 0) : F_X4_emit e a b m = some (-1, m) := by
  unfold F_X4_emit
  rw [nmI_e, bind_s, if_neg h]
  rfl
theorem xf_expr {f : Nat} {a b : Int32} (h : ¬ hI m 14 4 = 0) : F_X4_readExpression (f + 1) e a b m = some m := by
  show B_X4_readExpression (F_X4_readExpression f) e a b m = some m
  unfold B_X4_readExpression
  rw [if_neg h]
theorem te_nx {i : Nat} (hi : i ≤ te By n) (h4 : i < 400) (h2 : 2 ≤ tk By n i) : i + 1 ≤ te By n := by
  apply Classical.byContradiction
  intro z
  have e : i = te By n := by omega
  have := te_e (By := By) (n := n) (by omega)
  rw [← e] at this
  omega
theorem XRd.tok {i : Nat} {Cd : List Op} (h : XRd m e By n i Cd) {t : Nat} (ht : t ≤ te By n) : hI m 20 t = nI (tk By n t) ∧ hI m 22 t = nI (tp By n t) := ⟨(h.2.2.2.2.2.2.1 t (by omega)).1, (h.2.2.2.2.2.2.1 t (by omega)).2.1⟩
theorem x_failAt {i f c : Nat} {Cd : List Op} (he : tx e) (h : XRd m e By n i Cd) (hf : 0 < f ∧ f < 7) : ∃ m', F_X4_fail e (nI f) m = some m' ∧ XFt m' By n f i ∧ Fr (SXe e c) m m' := by
  obtain ⟨a1, a2, a3, a4, a5, a6, a7, a8⟩ := h
  have hte := te_le By n
  unfold tx at he
  unfold F_X4_fail
  rw [if_pos a1, qI_e, bind_s, hI_tI, if_neg (by omega), a2, aI_n _ 22 (show i < 401 by omega) (by omega), bind_s, hI_tI, if_neg (by omega), (a7 i (by omega)).2.1, qI_e, bind_s]
  have f1 : Fr (fun k j => k = 14 ∧ (j = 4 ∨ j = 5)) m (tI (tI m 14 4 (nI f)) 14 5 (nI (tp By n i))) := (Fr.rf.tI _ (by omega)).tI _ (by omega)
  refine ⟨_, rfl, ⟨?_, hf, ?_, ⟨i, a4, ?_, ?_⟩, a7.fr f1 (fun k j z => by omega)⟩, f1.mono (fun k j z => by omega)⟩
  · rw [hI_tI, if_neg (by omega), hI_tI, if_pos ⟨rfl, rfl⟩]
  · rw [hI_tI, if_pos ⟨rfl, rfl⟩]
  · rw [f1.I _ _ (by omega)]; exact a2
  · rw [f1.I _ _ (by omega)]; exact a3
theorem x_take_ok {i : Nat} {Cd : List Op} (he : tx e) (h : XRd m e By n i Cd) (h2 : 2 ≤ tk By n i) (h4 : i < 400) : ∃ m', F_X4_take e (nI (tk By n i)) m = some (1, m') ∧ XRd m' e By n (i + 1) Cd ∧ Fr (fun k j => k = 14 ∧ (j = 1 ∨ j = 2)) m m' := by
  obtain ⟨a1, a2, a3, a4, a5, a6, a7, a8⟩ := h
  have hte := te_le By n
  have hnx := te_nx a4 h4 h2
  unfold tx at he
  unfold F_X4_take
  rw [if_pos a1, if_pos a3, a2, show (400 : Int32) = nI 400 from rfl, if_pos (nI_lt h4 (by omega)), qI_e, bind_s, nI_1, hI_tI, if_pos ⟨rfl, rfl⟩, aI_n _ 20 (show i + 1 < 401 by omega) (by omega), bind_s, hI_tI, if_neg (by omega), (a7 (i + 1) (by omega)).1, qI_e, bind_s]
  have f1 : Fr (fun k j => k = 14 ∧ (j = 1 ∨ j = 2)) m (tI (tI m 14 1 (nI (i + 1))) 14 2 (nI (tk By n (i + 1)))) := (Fr.rf.tI _ (by omega)).tI _ (by omega)
  refine ⟨_, rfl, ⟨?_, ?_, ?_, hnx, by omega, a6.fr f1 (fun k j z => by omega), a7.fr f1 (fun k j z => by omega), (f1.I _ _ (by omega)).trans a8⟩, f1⟩
  · rw [f1.I _ _ (by omega)]; exact a1
  · rw [hI_tI, if_neg (by omega), hI_tI, if_pos ⟨rfl, rfl⟩]
  · rw [hI_tI, if_pos ⟨rfl, rfl⟩]
theorem x_take_no {i w c : Nat} {Cd : List Op} (he : tx e) (h : XRd m e By n i Cd) (hw : w < 64) (hn : ¬ (tk By n i = w ∧ i < 400)) : ∃ m', F_X4_take e (nI w) m = some (0, m') ∧ XFt m' By n (if tk By n i = w then 2 else 1) i ∧ Fr (SXe e c) m m' := by
  obtain ⟨a1, a2, a3, a4, a5, a6, a7, a8⟩ := h
  have hte := te_le By n
  have hkl := lexK_lt By n (tp By n i)
  have hkl' : tk By n i < 34 := hkl
  unfold tx at he
  have fin : ∀ f, 0 < f → f < 7 → ∃ m', f_X4_take_41 e (nI f) m = some (0, m') ∧ XFt m' By n f i ∧ Fr (SXe e c) m m' := by
    intro f h0 h7
    unfold f_X4_take_41
    rw [qI_e, bind_s, hI_tI, if_neg (by omega), a2, aI_n _ 22 (show i < 401 by omega) (by omega), bind_s, hI_tI, if_neg (by omega), (a7 i (by omega)).2.1, qI_e, bind_s]
    have f1 : Fr (fun k j => k = 14 ∧ (j = 4 ∨ j = 5)) m (tI (tI m 14 4 (nI f)) 14 5 (nI (tp By n i))) := (Fr.rf.tI _ (by omega)).tI _ (by omega)
    refine ⟨_, rfl, ⟨?_, ⟨h0, h7⟩, ?_, ⟨i, a4, ?_, ?_⟩, a7.fr f1 (fun k j z => by omega)⟩, f1.mono (fun k j z => by omega)⟩
    · rw [hI_tI, if_neg (by omega), hI_tI, if_pos ⟨rfl, rfl⟩]
    · rw [hI_tI, if_pos ⟨rfl, rfl⟩]
    · rw [f1.I _ _ (by omega)]; exact a2
    · rw [f1.I _ _ (by omega)]; exact a3
  unfold F_X4_take
  rw [if_pos a1, a3]
  by_cases q : tk By n i = w
  · rw [if_pos (by rw [q]), a2, show (400 : Int32) = nI 400 from rfl, if_neg (fun z => absurd (nI_le (show 400 ≤ i by omega) (by omega)) (lt_nle z)), if_pos q]
    unfold f_X4_take_27
    rw [a3, if_pos (by rw [q])]
    exact fin 2 (by omega) (by omega)
  · rw [if_neg (eq_nI (by omega) (by omega) q), if_neg q]
    unfold f_X4_take_27
    rw [a3, if_neg (eq_nI (by omega) (by omega) q)]
    exact fin 1 (by omega) (by omega)
theorem x_emit {i a b : Nat} {Cd : List Op} (he : tx e) (h : XRd m e By n i Cd) (hl : Cd.length < i) (ha : a < 64) (hb : b < 2 ^ 24) : ∃ m', F_X4_emit e (nI a) (nI b) m = some (nI Cd.length, m') ∧ XRd m' e By n i (Cd ++ [(a, b)]) ∧ Fr (fun k j => (k = e ∧ j = 4) ∨ (k = e + 2 ∧ j = Cd.length)) m m' := by
  obtain ⟨a1, a2, a3, a4, a5, a6, a7, a8⟩ := h
  have hte := te_le By n
  unfold tx at he
  unfold F_X4_emit
  rw [a6.1, nmI_e, bind_s, if_pos a1, show (400 : Int32) = nI 400 from rfl, if_pos (nI_lt (by omega) (by omega)), cw_ok hb ha, bI_n _ (e + 2) _ (show Cd.length < 400 by omega) (by omega), bind_s, hI_tI, if_neg (by omega), a6.1, nI_1, qI_e, bind_s]
  have f1 : Fr (fun k j => (k = e ∧ j = 4) ∨ (k = e + 2 ∧ j = Cd.length)) m (tI (tI m (e + 2) Cd.length (nI (cwN (a, b)))) e 4 (nI (Cd.length + 1))) := (Fr.rf.tI _ (by omega)).tI _ (by omega)
  refine ⟨_, rfl, ⟨?_, ?_, ?_, a4, by rw [List.length_append, List.length_singleton]; omega, ⟨?_, fun j o ho => ?_⟩, a7.fr f1 (fun k j z => by omega), (f1.I _ _ (by omega)).trans a8⟩, f1⟩
  · rw [f1.I _ _ (by omega)]; exact a1
  · rw [f1.I _ _ (by omega)]; exact a2
  · rw [f1.I _ _ (by omega)]; exact a3
  · rw [hI_tI, if_pos ⟨rfl, rfl⟩, List.length_append, List.length_singleton]
  · rw [hI_tI, if_neg (by omega), hI_tI]
    by_cases q : j = Cd.length
    · rw [if_pos ⟨rfl, q⟩]
      rw [q, List.getElem?_append_right (Nat.le_refl _), Nat.sub_self] at ho
      cases ho
      rfl
    · rw [if_neg (fun z => q z.2)]
      have hj : j < Cd.length := by
        have : j < (Cd ++ [(a, b)]).length := by
          apply Classical.byContradiction
          intro z
          rw [List.getElem?_eq_none (by omega)] at ho
          cases ho
        rw [List.length_append, List.length_singleton] at this
        omega
      rw [List.getElem?_append_left hj] at ho
      exact a6.2 j o ho
theorem x_taken {i : Nat} {Cd : List Op} (h : XRd m e By n (i + 1) Cd) (hk : tk By n i = 3) : F_X4_taken e m = some (lN (vI By n i), m) := by
  obtain ⟨a1, a2, a3, a4, a5, a6, a7, a8⟩ := h
  have hte := te_le By n
  unfold F_X4_taken
  rw [a2, if_neg (nI_nle (by omega) (by omega)), nI_m1s (by omega), show i + 1 - 1 = i from rfl, aJ_n _ 21 (show i < 401 by omega) (by omega), bind_s, (a7 i (by omega)).2.2.1 hk]
  rfl
theorem vI_lt {i : Nat} (hk : tk By n i = 3) : vI By n i < 10000 := by
  have hp := tk_p (By := By) (n := n) (t := i) (by omega)
  unfold tk lexK at hk
  rw [if_neg (by omega)] at hk
  have hkn := kN_lt (vB 32 (ltr By (tp By n i)) (rl isLt By n (tp By n i)))
  have hs := sgK_lt (By (tp By n i)) (nxB By n (tp By n i + 1))
  by_cases q1 : isLt (By (tp By n i)) = true
  · rw [if_pos q1] at hk
    exfalso
    by_cases h8 : 8 < rl isLt By n (tp By n i)
    · rw [if_pos h8] at hk; omega
    · rw [if_neg h8] at hk
      unfold kN at hk
      split at hk <;> omega
  · rw [if_neg q1] at hk
    by_cases q2 : isDi (By (tp By n i)) = true
    · rw [if_pos q2] at hk
      by_cases h4 : 4 < rl isDi By n (tp By n i)
      · rw [if_pos h4] at hk; omega
      · exact vB_10 (n := n) (by omega) (Nat.le_refl _)
    · rw [if_neg q2] at hk; omega
theorem joins_ok {lv k : Nat} (hl : lv < 2) (hk : k < 64) : F_X4_joinsAt (nI lv) (nI k) m = some (bI1 (joins lv k), m) := by
  unfold F_X4_joinsAt joins
  rw [lit_7, lit_8, lit_9, lit_10]
  by_cases h0 : lv = 0
  · rw [if_pos (by rw [h0]; rfl), if_pos h0]
    by_cases h7 : k = 7
    · rw [if_pos (by rw [h7]), decide_eq_true (Or.inl h7)]; rfl
    · rw [if_neg (eq_nI (by omega) (by omega) h7)]
      by_cases h8 : k = 8
      · rw [if_pos (by rw [h8]), decide_eq_true (Or.inr h8)]; rfl
      · rw [if_neg (eq_nI (by omega) (by omega) h8), decide_eq_false (by omega)]; rfl
  · rw [if_neg (nI_ne0 (by omega) (by omega)), if_neg h0]
    by_cases h7 : k = 9
    · rw [if_pos (by rw [h7]), decide_eq_true (Or.inl h7)]; rfl
    · rw [if_neg (eq_nI (by omega) (by omega) h7)]
      by_cases h8 : k = 10
      · rw [if_pos (by rw [h8]), decide_eq_true (Or.inr h8)]; rfl
      · rw [if_neg (eq_nI (by omega) (by omega) h8), decide_eq_false (by omega)]; rfl
end KG
