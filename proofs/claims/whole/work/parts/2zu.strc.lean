/-! ===== contracts of the string's own methods ===== -/
section WPJ
variable {cc : ByteArray} {nL : Nat} {d : Nat} {y : MethodName} {ret : Option FieldType} {rv : Option Value}
theorem CtJ.of {av : List Value} (hrv : nrv rv = true) (hy : plainName y.cls = true) (hfit : (lg_sl av).length ≤ nL)
    (h : ∀ (X : CX) (μ : Mem) (a v f : Nat), XR X d 0 0 → XSt X a v f → XSa X a v f → (∀ (p : Program) (l : Launch) (e : Env) (R : Room) (s : State) (m : MethodId) (args : Array Value) (below : List Frame) (meth : Method) (c : Code) (Q : State → Prop) (A : Nat → Prop) (D : va_G) (n0 : Nat → Prop) (α0 : Nat → Nat), X = (p, l, e, R, s, m, args, below, meth, c, Q, A, D, n0, α0) → meth.sig.returnType = ret ∧ meth.locks = false ∧ ∃ Qc free, Q = MQ below Qc args s 0 0 free ∧ (∀ q, A q → free q) ∧ ∀ (t : State) (H : Heap) (locs : List Loc) (α : Nat → Nat) (cA : Nat → ClassId), (∀ k, n0 k → α k = α0 k) → Wd D A [] μ α cA s H → va_S A s.heap H locs → t.heap = H → s.WarmedH t.vm → Qc args s (.returned rv) t) → Wp X cc y.cls nL [] μ 0 0 0 (lv_args 0 av) []) :
    CtJ d y cc nL ret av rv := by
  intro l D α cA sz μ
  refine Met.ofW (cc := cc) (maxL := nL) (ret := ret) hy rfl ?_
  intro p e s m args below meth c s₁ B hml hv
  obtain ⟨rfl, hsz, hWd, hSW⟩ := hv
  subst hsz
  have hx := B.exec
  have hb := B.bytes
  have hr := B.returns
  have hts := atoms_spec (ws := Cond.code y cc nL ret :: gw) B.pre
  have hown : s.vm.findClass y.cls = some m.cls := findClass_of_methodNamed B.named
  have hlocks := B.notSynchronized
  have hl := lv_entry (av.map (gv α)) (n := nL) (by rw [lg_sl_gv]; exact hfit)
  rw [lg_entry_eq]
  generalize (lg_sl (av.map (gv α)) ++ List.replicate (nL - (lg_sl (av.map (gv α))).length) Slot.unset).toArray = ls at hl ⊢
  rw [lv_args_gv] at hl
  obtain ⟨tys, hK, hP, hD, ht, hnw⟩ := id hWd
  have key := h (p, l, e, (headSpec (Cond.code y cc nL ret :: gw) { frames := d, cells := 0, slots := 0, locals := 60 * d }).room, s, m, (av.map (gv α)).toArray, below, meth, c, MQ below (fun _ st oc t => oc = .returned (rv.map (gv α)) ∧ (∃ cA' : Nat → ClassId, Wd D (va_A (wS [] μ α cA) s.heap.size) [] μ α cA' t t.heap) ∧ va_F (va_A (wS [] μ α cA) s.heap.size) st t) (av.map (gv α)).toArray s 0 0 (va_A (wS [] μ α cA) s.heap.size), va_A (wS [] μ α cA) s.heap.size, D, (fun _ => True), α) μ (α 0) (α 1) (α 2) ⟨Nat.le_refl _, Nat.le_refl _, Nat.le_refl _, Nat.le_refl _⟩ hSW ⟨⟨trivial, rfl⟩, ⟨trivial, rfl⟩, trivial, rfl⟩ ?_
  · exact key hx hb hml hown (fun w hw => hts w (List.mem_cons_of_mem _ hw)) hlocks (fun q h => Or.inr h) s.heap [] ls α cA (fun _ _ => rfl) ⟨tys, hK, hP, hD.self, ht, hnw⟩ va_S.rf hl
  · intro p' l' e' R' s' m' args' below' meth' c' Q' A' D' n0' α0' hX
    cases hX
    refine ⟨hr, hlocks, _, _, rfl, fun q h => h, ?_⟩
    intro t H locs α' cA' ha hW hS hH hWm
    have hα : α' = α := funext fun k => ha k trivial
    subst hα
    refine ⟨by rw [nrv_gv hrv], ⟨cA', ?_⟩, hS.F hH⟩
    rw [hH]
    exact hW.warm hWm (fun _ h => h)
theorem CtJ.ofI {av : List Value} {v0 : Int32} {ty : FieldType} (hn : narrow ty (.int v0) = .int v0) (hy : plainName y.cls = true) (hfit : (lg_sl av).length ≤ nL) (h : ∀ (X : CX) (μ : Mem) (a v f : Nat), XR X d 0 0 → XSt X a v f → XSa X a v f → FnI X cc y.cls nL [] 0 0 (v0, μ) → Wp X cc y.cls nL [] μ 0 0 0 (lv_args 0 av) []) : CtJ d y cc nL (some ty) av (some (.int v0)) := by
  refine CtJ.of rfl hy hfit (fun X μ a v f hX h1 h2 hq => h X μ a v f hX h1 h2 ?_)
  intro pc lo hd
  obtain ⟨p, l, e, R, s, m, args, below, meth, c, Q, A, D, n0, α0⟩ := X
  intro hx hb hml hown hts hlk hA H locs ls α cA ha hW hS hl
  obtain ⟨g1, g2, Qc, free, rfl, h4, h5⟩ := hq _ _ _ _ _ _ _ _ _ _ _ _ _ _ _ rfl
  exact W.zret hx hb g1 hn (fun t ht hw => h5 t H locs α cA ha hW hS ht hw) (fun q hq => h4 _ (hS.2.2 q hq)) hd g2
theorem CtJ.ofV {av : List Value} (hy : plainName y.cls = true) (hfit : (lg_sl av).length ≤ nL) (h : ∀ (X : CX) (μ : Mem) (a v f : Nat), XR X d 0 0 → XSt X a v f → XSa X a v f → FnV X cc y.cls nL [] 0 0 μ → Wp X cc y.cls nL [] μ 0 0 0 (lv_args 0 av) []) : CtJ d y cc nL none av none := by
  refine CtJ.of rfl hy hfit (fun X μ a v f hX h1 h2 hq => h X μ a v f hX h1 h2 ?_)
  intro pc lo hd
  obtain ⟨p, l, e, R, s, m, args, below, meth, c, Q, A, D, n0, α0⟩ := X
  intro hx hb hml hown hts hlk hA H locs ls α cA ha hW hS hl
  obtain ⟨g1, g2, Qc, free, rfl, h4, h5⟩ := hq _ _ _ _ _ _ _ _ _ _ _ _ _ _ _ rfl
  exact W.vret hx hb g1 (fun t ht hw => h5 t H locs α cA ha hW hS ht hw) (fun q hq => h4 _ (hS.2.2 q hq)) hd g2
variable {X : CX} {own : String} {μ : Mem} {n1 n2 pc ix n d' nL2 a v f : Nat} {lo : List (Nat × Value)} {st stk as : List Value} {c2 : ByteArray}
theorem va_A_nil {μ : Mem} {α : Nat → Nat} {cA : Nat → ClassId} {sz q : Nat} (h : va_A (wS [] μ α cA) sz q) : sz ≤ q := by
  rcases h with ⟨k, e, h⟩ | h
  · cases h
  · exact h
theorem Wp.jS (hc : CtJ d' y c2 nL2 ret as rv) (hrv : nrv rv = true) (hS0 : XSt X a v f) (hA0 : XSa X a v f) (hl1 : ML own ix y) (hv : Cond.static y ∈ gw) (hm : MB y c2 nL2 ret n) (hX : XR X d n1 n2) (hdd : d' + 1 ≤ d) (hnl : nL2 + 19 ≤ 60) (hn : as.length = n) (hcat : (st.map fun v => v.category).sum ≤ 8) (hd : decode cc pc = .ok (.invokestatic ix, 3)) (hst : stk = as.reverse ++ st)
    (kk : Wp X cc own nL [] μ n1 n2 (pc + 3) lo (rv.toList ++ st)) : Wp X cc own nL [] μ n1 n2 pc lo stk := by
  obtain ⟨p, l, e, R, s, m, args, below, meth, c, Q, A, D, n0, α0⟩ := X
  intro hx hb hml hown hts hlk hA H locs ls α cA ha hW hS hl
  obtain ⟨tys, hK, hP, hD, ht, hnw⟩ := id hW
  obtain ⟨m1, m2, m3, m4, m5⟩ := hm
  obtain ⟨r1, r2, r3, r4⟩ := hX
  have hF := wS_free hD hS hA
  obtain ⟨⟨k0, e0⟩, ⟨k1, e1⟩, k2, e2⟩ := hA0
  have hsw : SW (α 0) (α 1) (α 2) (va_A (wS [] μ α cA) H.size) s H := by
    rw [(ha 0 k0).trans e0, (ha 1 k1).trans e1, (ha 2 k2).trans e2]
    exact (hS0.kept hS.2.1).narrow hF
  have hmet := hc l D α cA H.size μ
  have hmet2 : Met l y (Cond.code y c2 nL2 ret :: gw) { frames := d', cells := 0, slots := 0, locals := 60 * d' } (va_Pc (as.map (gv α)) (fun U => U.heap.size = H.size ∧ Wd D (fun _ => True) [] μ α cA U U.heap ∧ SW (α 0) (α 1) (α 2) (va_A (wS [] μ α cA) H.size) U U.heap)) (fun _ st oc t => oc = .returned (rv.map (gv α)) ∧ (∃ (α' : Nat → Nat) (cA' : Nat → ClassId), α' = α ∧ Wd D (va_A (wS [] μ α cA) H.size) [] μ α' cA' t t.heap) ∧ va_F (va_A (wS [] μ α cA) H.size) st t) 0 0 (va_A (wS [] μ α cA) H.size) := by
    have eq : (fun (_ : Array Value) (st : State) (oc : Outcome) (t : State) => oc = .returned (rv.map (gv α)) ∧ (∃ (α' : Nat → Nat) (cA' : Nat → ClassId), α' = α ∧ Wd D (va_A (wS [] μ α cA) H.size) [] μ α' cA' t t.heap) ∧ va_F (va_A (wS [] μ α cA) H.size) st t) = (fun (_ : Array Value) (st : State) (oc : Outcome) (t : State) => oc = .returned (rv.map (gv α)) ∧ (∃ cA' : Nat → ClassId, Wd D (va_A (wS [] μ α cA) H.size) [] μ α cA' t t.heap) ∧ va_F (va_A (wS [] μ α cA) H.size) st t) := by
      funext _ st oc t
      apply propext
      constructor
      · rintro ⟨h1, ⟨α', cA', rfl, h2⟩, h3⟩
        exact ⟨h1, ⟨cA', h2⟩, h3⟩
      · rintro ⟨h1, ⟨cA', h2⟩, h3⟩
        exact ⟨h1, ⟨α, cA', rfl, h2⟩, h3⟩
    rw [eq]
    exact hmet
  refine cg (ag := fun α' => α' = α) (va_runS (Ts := gw) (As := as.map (gv α)) (rest := st.map (gv α)) (n := n) ⟨hx, hb, hml, hown, hts⟩ hmet2 ⟨callB_of n hts (gw_self m2) rfl rfl rfl (hts _ m1) (hts _ hl1) ⟨m3, m4, m5⟩ ⟨Nat.le_trans hdd r1, by show 8 + (nL2 + 11) + 60 * d' ≤ R.locals; omega⟩, hts _ hv⟩ ⟨fun a U g mk h => ⟨h.1, h.2.1, h.2.2.1.blind, h.2.2.2.blind⟩, fun U hU hWm => ⟨rfl, by rw [hU], by rw [hU]; exact hW.warm hWm (fun _ _ => trivial), by rw [hU]; exact hsw.warm hWm⟩⟩ rfl (by simp [hn]) hl.1 (by rw [hst, map_app]) (lv_room (by rw [cat_gv]; exact hcat)) hd ⟨by simpa using r3, by simpa using r4⟩) hS hF hnw (fun H1 locs1 α' cA' hag hW1 hS1 => ?_)
  subst hag
  rw [rv_app hrv]
  exact kk hx hb hml hown hts hlk hA H1 locs1 ls α' cA' ha hW1 hS1 hl
end WPJ
