/-! ===== every: the class's answer, its rows made ===== -/
section KQ
variable {m : M2} {c l : Nat} {s : SS}
def f_every_34 (c : Nat) (m : M2) : Option (Int32 × M2) := some ((-1 : Int32), m)
def f_every_102 (c : Nat) (s0 : Int32) (m : M2) : Option (Int32 × M2) := some (s0, m)
def f_every_81 (c : Nat) (x3 : Int32) (m : M2) : Option (Int32 × M2) := if x3 = 0 then f_every_102 c (hI m 38 3) m else f_every_102 c (hI m 38 4) m
/-- a call of every that must look at the rows -/
def evGo (c : Nat) (x1 x2 x3 : Int32) (m : M2) : Prop := ¬ x1 < 0 ∧ ¬ hI m c 1 ≤ x1 ∧ ¬ x2 < 1 ∧ ¬ (4 : Int32) < x2 ∧ ¬ x3 < 0 ∧ x3 ≤ (2 : Int32)
theorem evGo_ok (hX : XS m c s) (hV : VS s) (x1 x2 x3 : Int32) : evGo c x1 x2 x3 m ↔ evOk s x1 x2 x3 := by
  have hL := hV.1.l
  unfold evGo evOk
  rw [isBx (by omega), isRx (by omega) (by omega), isRx (by omega) (by omega), hX.nl]
  constructor
  · rintro ⟨a, b, c, d, e, f⟩
    exact ⟨⟨a, b⟩, ⟨c, d⟩, e, fun z => lt_nle z f⟩
  · rintro ⟨⟨a, b⟩, ⟨c, d⟩, e, f⟩
    exact ⟨a, b, c, d, e, nlt_le f⟩
theorem k_every_x1 (hX : XS m c s) (hV : VS s) {q k w : Nat} (hq : q < tdL (ssD s)) (hk1 : 1 ≤ k) (hk : k ≤ 4) (hw : w ≤ 2) : (20736 < evA s k → evV s q k w = -2) ∧ (¬ 20736 < evA s k → w = 2 → evV s q k w = nI (evA s k)) ∧ (¬ 20736 < evA s k → ¬ w = 2 → ∀ m0 : M2, Fr (fun k _ => k = 120 ∨ k = 121) m m0 → ∃ m1, f_prove_32 c (nI q) (nI k) (hI m0 28 3) m0 = some m1 ∧ OkX m c (f_every_81 c (nI w) m1) (evV s q k w) s) := by
  have hP := hV.1.p
  have hL := hV.1.l
  have hc := hX.tx
  unfold evV
  refine ⟨fun h => if_pos h, fun h h2 => by rw [if_neg h, if_pos h2], fun h h2 m0 f0 => ?_⟩
  have hX0 : XS m0 c s := hX.fr f0 (fun k j z1 z2 => by unfold xk at z1; omega)
  obtain ⟨m1, e1, g1, g2, f1⟩ := x_prove (m := m0) (D := cdD (ssK s)) hX0.1 hV.1 hq hV.2.1.2.2.1 hk1 hk (show tdP (ssD s) ^ k ≤ 20736 by unfold evA at h; omega)
  refine ⟨m1, by rw [hX0.2.1.2.2.1]; exact e1, ?_⟩
  rw [if_neg h, if_neg h2]
  unfold f_every_81
  have ff : Fr (fun k j => SPv k j) m m1 := (f0.mono (fun k j z => by omega)).tr f1
  by_cases w0 : w = 0
  · rw [if_pos (by rw [w0]; rfl), if_pos w0]
    unfold f_every_102
    rw [g1]
    exact OkX.scr hX ff (fun k j z => ⟨fun z2 => by unfold xk at z2; omega, by show ¬ _; omega⟩)
  · rw [if_neg (nI_ne0 (by omega) (by omega)), if_neg w0]
    unfold f_every_102
    rw [g2]
    exact OkX.scr hX ff (fun k j z => ⟨fun z2 => by unfold xk at z2; omega, by show ¬ _; omega⟩)
end KQ
