/-! ===== the string constant's world ===== -/
def txS : String := "parts law man fog if then else or and not gap own ahead two drum bench song "
def byS : List Int32 := [112, 97, 114, 116, 115, 32, 108, 97, 119, 32, 109, 97, 110, 32, 102, 111, 103, 32, 105, 102, 32, 116, 104, 101, 110, 32, 101, 108, 115, 101, 32, 111, 114, 32, 97, 110, 100, 32, 110, 111, 116, 32, 103, 97, 112, 32, 111, 119, 110, 32, 97, 104, 101, 97, 100, 32, 116, 119, 111, 32, 100, 114, 117, 109, 32, 98, 101, 110, 99, 104, 32, 115, 111, 110, 103, 32]
/-- a: the string, v: its bytes, f: the formatter of its tests -/
def SW (a v f : Nat) (A : Nat → Prop) (U : State) (H : Heap) : Prop :=
  vk_S 1 [76] [byS] (fun _ => a) (fun _ => v) A U H ∧ vk_R RX8 31 txS a U ∧ va_Z "java/lang/String" "COMPACT_STRINGS" "Z" (.int 1) A U H ∧ (va_Z "jdk/internal/util/Preconditions" "SIOOBE_FORMATTER" "Ljava/util/function/BiFunction;" (.ref f) A U H ∨ va_Z "jdk/internal/util/Preconditions" "SIOOBE_FORMATTER" "Ljava/util/function/BiFunction;" .null A U H)
theorem SW.kept {a v f : Nat} {A : Nat → Prop} {U : State} {H H1 : Heap} (h : SW a v f A U H) (hq : ∀ q : Nat, q < H.size → ¬ A q → H1[q]? = H[q]?) : SW a v f A U H1 := ⟨h.1.kept hq, h.2.1, h.2.2.1.kept hq, h.2.2.2.imp (fun z => z.kept hq) (fun z => z.kept hq)⟩
theorem SW.narrow {a v f : Nat} {A B : Nat → Prop} {U : State} {H : Heap} (h : SW a v f A U H) (hAB : ∀ q, B q → A q) : SW a v f B U H := ⟨h.1.narrow hAB, h.2.1, h.2.2.1.narrow hAB, h.2.2.2.imp (fun z => z.narrow hAB) (fun z => z.narrow hAB)⟩
theorem SW.warm {a v f : Nat} {A : Nat → Prop} {s U : State} {H : Heap} (hW : s.WarmedH U.vm) (h : SW a v f A s H) : SW a v f A U H := ⟨h.1.moved hW.alike, h.2.1.warm hW, h.2.2.1.moved hW.alike, h.2.2.2.imp (fun z => z.moved hW.alike) (fun z => z.moved hW.alike)⟩
theorem SW.blind {a v f : Nat} {A : Nat → Prop} {U : State} {g : JFrame} {mk : MethodId} {as : Array Value} {H : Heap} (h : SW a v f A U H) : SW a v f A (U.calling g mk as) H :=
  ⟨h.1.moved (u := U) (U := U.calling g mk as) (Vm.Alike.refl U.vm), vk_R.same (u := U) (U := U.calling g mk as) rfl h.2.1, h.2.2.1.moved (u := U) (U := U.calling g mk as) (Vm.Alike.refl U.vm), h.2.2.2.imp (fun z => z.moved (u := U) (U := U.calling g mk as) (Vm.Alike.refl U.vm)) (fun z => z.moved (u := U) (U := U.calling g mk as) (Vm.Alike.refl U.vm))⟩
/-- the walk's start knows the string -/
def XSt (X : CX) (a v f : Nat) : Prop := match X with
  | (_, _, _, _, s, _, _, _, _, _, _, A, _, _, _) => SW a v f A s s.heap
/-- the walk's cells 0, 1, 2 are the string, its bytes and the formatter -/
def XSa (X : CX) (a v f : Nat) : Prop := match X with
  | (_, _, _, _, _, _, _, _, _, _, _, _, _, n0, α0) => (n0 0 ∧ α0 0 = a) ∧ (n0 1 ∧ α0 1 = v) ∧ (n0 2 ∧ α0 2 = f)
/-- a contract whose start knows the string (a constructor that makes mc cells of ms slots) -/
def CtS (d : Nat) (y : MethodName) (cc : ByteArray) (nL : Nat) (ret : Option FieldType) (T : List Dsc) (μ : Mem) (av : List Value) (rv : Option Value) (T' : List Dsc) (μ' : Mem) (mc ms : Nat) : Prop :=
  ∀ (l : Launch) (D : va_G) (α : Nat → Nat) (cA : Nat → ClassId) (sz a v f : Nat),
    Met l y (Cond.code y cc nL ret :: gw) { frames := d, cells := mc, slots := ms, locals := 60 * d }
      (va_Pc (av.map (gv α)) (fun U => U.heap.size = sz ∧ Wd D (fun _ => True) T μ α cA U U.heap ∧ SW a v f (va_A (wS T μ α cA) sz) U U.heap))
      (fun _ st oc t => oc = .returned (rv.map (gv α)) ∧ (∃ (α' : Nat → Nat) (cA' : Nat → ClassId), (∀ k, k < T.length → α' k = α k) ∧ Wd D (va_A (wS T μ α cA) sz) T' μ' α' cA' t t.heap) ∧ va_F (va_A (wS T μ α cA) sz) st t)
      mc ms (va_A (wS T μ α cA) sz)
/-- a contract of the string's own methods: no cell, the references 0, 1, 2 are the string, its bytes, the formatter -/
def CtJ (d : Nat) (y : MethodName) (cc : ByteArray) (nL : Nat) (ret : Option FieldType) (av : List Value) (rv : Option Value) : Prop :=
  ∀ (l : Launch) (D : va_G) (α : Nat → Nat) (cA : Nat → ClassId) (sz : Nat) (μ : Mem),
    Met l y (Cond.code y cc nL ret :: gw) { frames := d, cells := 0, slots := 0, locals := 60 * d }
      (va_Pc (av.map (gv α)) (fun U => U.heap.size = sz ∧ Wd D (fun _ => True) [] μ α cA U U.heap ∧ SW (α 0) (α 1) (α 2) (va_A (wS [] μ α cA) sz) U U.heap))
      (fun _ st oc t => oc = .returned (rv.map (gv α)) ∧ (∃ cA' : Nat → ClassId, Wd D (va_A (wS [] μ α cA) sz) [] μ α cA' t t.heap) ∧ va_F (va_A (wS [] μ α cA) sz) st t)
      0 0 (va_A (wS [] μ α cA) sz)
section WPS
variable {X : CX} {cc : ByteArray} {own : String} {nL : Nat} {T : List Dsc} {μ : Mem} {n1 n2 pc : Nat} {lo : List (Nat × Value)} {st : List Value} {d a v f ix : Nat}
/-- the string's bytes -/
theorem Wp.sVal (hS0 : XSt X a v f) (hA0 : XSa X a v f) (hl : Cond.fieldLink own ix "java/lang/String" "value" "[B" ∈ gw) (hd : decode cc pc = .ok (.getfield ix, 3)) (kk : Wp X cc own nL T μ n1 n2 (pc + 3) lo (.ref 1 :: st)) : Wp X cc own nL T μ n1 n2 pc lo (.ref 0 :: st) := by
  obtain ⟨p, l, e, R, s, m, args, below, meth, c, Q, A, D, n0, α0⟩ := X
  intro hx hb hml hown hts hlk hA H locs ls α cA ha hW hS hl'
  obtain ⟨⟨k0, e0⟩, ⟨k1, e1⟩, -, -⟩ := hA0
  have h0 : α 0 = a := (ha 0 k0).trans e0
  have h1 : α 1 = v := (ha 1 k1).trans e1
  have hgo := kk hx hb hml hown hts hlk hA H locs ls α cA ha hW hS hl'
  show W p l e R s m args below meth c H locs n1 n2 Q (F0 m pc ls (.ref (α 0) :: st.map (gv α)))
  rw [h0]
  refine vk_getf (v := .ref v) hx hb (hS0.1.1 0 (by decide)).2.2.1 hS hown (hts _ hl) (fun x hx => hx) hd ?_
  rw [← h1]
  exact hgo
theorem Wp.sCod (hS0 : XSt X a v f) (hA0 : XSa X a v f) (hl : Cond.fieldLink own ix "java/lang/String" "coder" "B" ∈ gw) (hd : decode cc pc = .ok (.getfield ix, 3)) (kk : Wp X cc own nL T μ n1 n2 (pc + 3) lo (.int 0 :: st)) : Wp X cc own nL T μ n1 n2 pc lo (.ref 0 :: st) := by
  obtain ⟨p, l, e, R, s, m, args, below, meth, c, Q, A, D, n0, α0⟩ := X
  intro hx hb hml hown hts hlk hA H locs ls α cA ha hW hS hl'
  obtain ⟨⟨k0, e0⟩, -, -, -⟩ := hA0
  have h0 : α 0 = a := (ha 0 k0).trans e0
  have hgo := kk hx hb hml hown hts hlk hA H locs ls α cA ha hW hS hl'
  show W p l e R s m args below meth c H locs n1 n2 Q (F0 m pc ls (.ref (α 0) :: st.map (gv α)))
  rw [h0]
  exact vk_getf (v := .int 0) hx hb (hS0.1.1 0 (by decide)).2.1 hS hown (hts _ hl) (fun x hx => hx) hd hgo
theorem Wp.sCom (hS0 : XSt X a v f) (hl : Cond.fieldLink own ix "java/lang/String" "COMPACT_STRINGS" "Z" ∈ gw) (hd : decode cc pc = .ok (.getstatic ix, 3)) (kk : Wp X cc own nL T μ n1 n2 (pc + 3) lo (.int 1 :: st)) : Wp X cc own nL T μ n1 n2 pc lo st := by
  obtain ⟨p, l, e, R, s, m, args, below, meth, c, Q, A, D, n0, α0⟩ := X
  intro hx hb hml hown hts hlk hA H locs ls α cA ha hW hS hl'
  exact va_gets hx hb hS0.2.2.1 hS hown (hts _ hl) (fun x hx => hx) hd (kk hx hb hml hown hts hlk hA H locs ls α cA ha hW hS hl')
theorem Wp.sFor (hS0 : XSt X a v f) (hA0 : XSa X a v f) (hl : Cond.fieldLink own ix "jdk/internal/util/Preconditions" "SIOOBE_FORMATTER" "Ljava/util/function/BiFunction;" ∈ gw) (hd : decode cc pc = .ok (.getstatic ix, 3)) (kk : ∀ w : Value, w = .ref 2 ∨ w = .null → Wp X cc own nL T μ n1 n2 (pc + 3) lo (w :: st)) : Wp X cc own nL T μ n1 n2 pc lo st := by
  obtain ⟨p, l, e, R, s, m, args, below, meth, c, Q, A, D, n0, α0⟩ := X
  intro hx hb hml hown hts hlk hA H locs ls α cA ha hW hS hl'
  obtain ⟨-, -, k2, e2⟩ := hA0
  have h2 : α 2 = f := (ha 2 k2).trans e2
  rcases hS0.2.2.2 with hz | hz
  · refine va_gets hx hb hz hS hown (hts _ hl) (fun x hx => hx) hd ?_
    rw [← h2]
    exact kk (.ref 2) (Or.inl rfl) hx hb hml hown hts hlk hA H locs ls α cA ha hW hS hl'
  · exact va_gets hx hb hz hS hown (hts _ hl) (fun x hx => hx) hd (kk .null (Or.inr rfl) hx hb hml hown hts hlk hA H locs ls α cA ha hW hS hl')
theorem Wp.sAln (hS0 : XSt X a v f) (hA0 : XSa X a v f) (hd : decode cc pc = .ok (.arraylength, 1)) (kk : Wp X cc own nL T μ n1 n2 (pc + 1) lo (.int 76 :: st)) : Wp X cc own nL T μ n1 n2 pc lo (.ref 1 :: st) := by
  obtain ⟨p, l, e, R, s, m, args, below, meth, c, Q, A, D, n0, α0⟩ := X
  intro hx hb hml hown hts hlk hA H locs ls α cA ha hW hS hl'
  obtain ⟨-, ⟨k1, e1⟩, -, -⟩ := hA0
  have h1 : α 1 = v := (ha 1 k1).trans e1
  show W p l e R s m args below meth c H locs n1 n2 Q (F0 m pc ls (.ref (α 1) :: st.map (gv α)))
  rw [h1]
  exact va_tlen hx hb (hS0.1.1 0 (by decide)).2.2.2 hS (v := 76) (by decide) hd (kk hx hb hml hown hts hlk hA H locs ls α cA ha hW hS hl')
theorem Wp.sBld {i : Int32} (hS0 : XSt X a v f) (hA0 : XSa X a v f) (hi : ixb i 76 = true) (hd : decode cc pc = .ok (.baload, 1)) (kk : Wp X cc own nL T μ n1 n2 (pc + 1) lo (.int (byS.getD i.toNatClampNeg 0) :: st)) : Wp X cc own nL T μ n1 n2 pc lo (.int i :: .ref 1 :: st) := by
  obtain ⟨p, l, e, R, s, m, args, below, meth, c, Q, A, D, n0, α0⟩ := X
  intro hx hb hml hown hts hlk hA H locs ls α cA ha hW hS hl'
  obtain ⟨-, ⟨k1, e1⟩, -, -⟩ := hA0
  have h1 : α 1 = v := (ha 1 k1).trans e1
  show W p l e R s m args below meth c H locs n1 n2 Q (F0 m pc ls (.int i :: .ref (α 1) :: st.map (gv α)))
  rw [h1]
  exact va_tb hx hb (hS0.1.1 0 (by decide)).2.2.2 hS (ixb_in hi) rfl hd (kk hx hb hml hown hts hlk hA H locs ls α cA ha hW hS hl')
end WPS
