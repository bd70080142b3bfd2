/-! ===== where both begin ===== -/
def d00 : TD := (fun _ _ => 0, 24, 0, 0, 0, -1, -1, 0, fun _ => 0, fun _ => 0, fun _ => 0, fun _ => 0)
def k00 : CD := (fun _ => 0, fun _ => 0, fun _ => 0, -1, 0)
def s00 : SS := (d00, k00, (0, fun _ _ => 0), (fun _ => false, fun _ => k00), (0, fun _ => 0, fun _ => 0, fun _ => 0), (0, fun _ => 0), -1)
def mm0 : Mem := muM mX29
def m00 : M2 := (mm0.1, mm0.2.1)
def RR0 : RM := mm0.2.2
theorem mm0_mk : mm0 = mk m00 RR0 := rfl
theorem n0l {P : Nat → Prop} : ∀ b, b < 0 → P b := fun b hb => absurd hb (Nat.not_lt_zero _)
set_option maxRecDepth 100000 in
theorem TM_T0 : TM (TG56 ++ [.inl 11]) = T0 := rfl
theorem vs0 : VS s00 := by
  have hV : VT d00 := ⟨⟨by decide, by decide⟩, by decide, by decide, by decide, Or.inl rfl, Or.inl rfl, by decide, n0l, n0l, n0l, fun _ => rfl⟩
  exact ⟨hV, ⟨n0l, n0l, Or.inl rfl, fun _ => rfl⟩, ⟨by decide, n0l⟩, fun i _ h => (by cases h), ⟨by decide, n0l⟩, by decide⟩
set_option maxRecDepth 100000 in
set_option maxHeartbeats 4000000 in
theorem xs0 : XS m00 2 s00 := by
  refine ⟨⟨⟨⟨rfl, rfl, rfl, rfl, rfl⟩, ⟨by decide, by decide⟩, by decide, by decide, by decide, Or.inl rfl, Or.inl rfl⟩, rfl, rfl, n0l, n0l, rfl, n0l⟩, ⟨rfl, n0l, rfl, rfl⟩, ⟨0, by decide, rfl, rfl, n0l⟩, ?_, ⟨rfl, n0l⟩, ⟨rfl, fun i => rfl⟩, rfl⟩
  intro i hi
  have h3 : i = 0 ∨ i = 1 ∨ i = 2 := by omega
  rcases h3 with rfl | rfl | rfl
  · exact ⟨rfl, fun h => by cases h⟩
  · exact ⟨rfl, fun h => by cases h⟩
  · exact ⟨rfl, fun h => by cases h⟩
set_option maxRecDepth 100000 in
set_option maxHeartbeats 4000000 in
theorem ms0 : MS m00 0 s00 := by
  refine ⟨⟨⟨rfl, by decide, rfl, rfl, rfl, rfl⟩, rfl, rfl, rfl, n0l, n0l, n0l⟩, ⟨n0l, rfl, rfl, rfl⟩, ⟨rfl, n0l⟩, ?_, ⟨rfl, n0l⟩, ⟨rfl, fun i => rfl⟩, rfl⟩
  intro i hi
  have h3 : i = 0 ∨ i = 1 ∨ i = 2 := by omega
  rcases h3 with rfl | rfl | rfl
  · exact ⟨rfl, fun h => by cases h⟩
  · exact ⟨rfl, fun h => by cases h⟩
  · exact ⟨rfl, fun h => by cases h⟩
set_option maxRecDepth 100000 in
set_option maxHeartbeats 4000000 in
theorem bs0 : BS m00 2 0 s00 := by
  refine ⟨xs0, ms0, vs0, fun w hw => ?_, ?_⟩
  · have e : hJ m00 19 w = tkG 76 w := rfl
    rw [e]
    exact tkG_end w hw
  · decide +kernel
set_option maxRecDepth 100000 in
set_option maxHeartbeats 4000000 in
theorem geo0 : Geo T0 RR0 2 8 := by
  refine ⟨fun _ _ h => h, ?_, ⟨Or.inl rfl, Or.inr rfl⟩, rfl, rfl, rfl, rfl⟩
  intro k j r h
  unfold R0 at h
  split at h <;> first | (cases h; done) | (split at h <;> first | (cases h; rfl) | (cases h; done))
