/-! ===== the string on the way: one row for ldc and the call ===== -/
def alS (a v f : Nat) : Nat → Nat := fun k => if k = 0 then a else if k = 1 then v else f
section WPF
variable {X : CX} {cc : ByteArray} {nL : Nat} {T : List Dsc} {μ : Mem} {n1 n2 pc : Nat} {lo : List (Nat × Value)} {st : List Value} {d a v f : Nat}
theorem Wd.nil {D : va_G} {A B : Nat → Prop} {T : List Dsc} {μ : Mem} {α β : Nat → Nat} {cA : Nat → ClassId} {s : State} {H : Heap} (h : Wd D A T μ α cA s H) : Wd D B [] μ β cA s H := by
  obtain ⟨tys, hK, hP, hD, ht, hn⟩ := h
  exact ⟨tys, hK, fun k q hk => (by cases hk), ⟨fun i j p q hi => (by cases hi), fun k q hk => (by cases hk)⟩, fun k n ty hk => (by cases hk), hn⟩
/-- behind a call of the string's methods the caller's world stands -/
theorem Wd.past {D : va_G} {A : Nat → Prop} {T : List Dsc} {μ : Mem} {α : Nat → Nat} {cA : Nat → ClassId} {s : State} {H H1 : Heap} (h : Wd D A T μ α cA s H) (hq : ∀ q : Nat, q < H.size → H1[q]? = H[q]?) : Wd D A T μ α cA s H1 := by
  obtain ⟨tys, hK, hP, hD, ht, hn⟩ := h
  exact ⟨tys, hK, hP.kept (fun k q hk => hq _ (hP k q hk).lt), hD, ht, hn⟩
end WPF
