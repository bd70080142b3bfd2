/-! ===== constructors that know the string ===== -/
section WPQ
variable {X : CX} {cc : ByteArray} {own : String} {nL : Nat} {T T' : List Dsc} {μ μ' : Mem} {n1 n2 pc : Nat} {lo : List (Nat × Value)} {st stk as : List Value} {d d' mc ms : Nat} {y : MethodName} {c2 : ByteArray} {nL2 n ix b ci : Nat} {ret : Option FieldType} {rv : Option Value} {host : String}
theorem Wp.callIS {a v f : Nat} (hS0 : XSt X a v f) (hc : CtS d' y c2 nL2 none T μ (.ref b :: as) none T' μ' mc ms) (hin : y.name = "<init>") (hl1 : ML own ix y) (hv : Cond.instanceMethod y ∈ gw) (hm : MB y c2 nL2 none n) (hX : XR X d (n1 + mc) (n2 + ms)) (hO : XOl X T.length) (hst : ∀ v ∈ st, vbl T.length v) (hlo : ∀ q ∈ lo, vbl T.length q.2) (hdd : d' + 1 ≤ d) (hnl : nL2 + 19 ≤ 60) (hn : as.length = n) (hcat : (st.map fun v => v.category).sum ≤ 8) (hd : decode cc pc = .ok (.invokespecial ix, 3)) (hstk : stk = as.reverse ++ .ref b :: st)
    (kk : Wp X cc own nL T' μ' (n1 + mc) (n2 + ms) (pc + 3) lo st) : Wp X cc own nL T μ n1 n2 pc lo stk := by
  obtain ⟨p, l, e, R, s, m, args, below, meth, c, Q, A, D, n0, α0⟩ := X
  intro hx hb hml hown hts hlk hA H locs ls α cA ha hW hS hl
  obtain ⟨tys, hK, hP, hD, ht, hnw⟩ := id hW
  obtain ⟨m1, m2, m3, m4, m5⟩ := hm
  obtain ⟨r1, r2, r3, r4⟩ := hX
  have hF := wS_free hD hS hA
  have hsw : SW a v f (va_A (wS T μ α cA) H.size) s H := (hS0.kept hS.2.1).narrow hF
  refine cg (rv := none) (mc := mc) (ms := ms) (ag := fun α' => ∀ k, k < T.length → α' k = α k) (va_runI (Ts := gw) (As := as.map (gv α)) (rest := st.map (gv α)) (n := n) (b := α b) ⟨hx, hb, hml, hown, hts⟩ (hc l D α cA H.size a v f) ⟨callB_of n hts (gw_self m2) rfl rfl rfl (hts _ m1) (hts _ hl1) ⟨m3, m4, m5⟩ ⟨Nat.le_trans hdd r1, by show 8 + (nL2 + 11) + 60 * d' ≤ R.locals; omega⟩, hin, hts _ hv⟩ ⟨fun a U g mk h => ⟨h.1, h.2.1, h.2.2.1.blind, h.2.2.2.blind⟩, fun U hU hWm => ⟨rfl, by rw [hU], by rw [hU]; exact hW.warm hWm (fun _ _ => trivial), by rw [hU]; exact hsw.warm hWm⟩⟩ rfl (by simp [hn]) hl.1 (by rw [hstk, map_app]; rfl) (lv_room (by rw [cat_gv]; exact hcat)) hd ⟨r3, r4⟩) hS hF hnw (fun H1 locs1 α' cA' hag hW1 hS1 => ?_)
  have hgo := kk hx hb hml hown hts hlk hA H1 locs1 ls α' cA' (fun k hk => by rw [hag k (hO k hk)]; exact ha k hk) hW1 hS1 (by rw [lo_ag hag hlo]; exact hl)
  rw [gvs_ag hag hst] at hgo
  exact hgo
theorem Wp.callINS {a v f : Nat} (hS0 : XSt X a v f) (hc : CtS d' y c2 nL2 none T μ (.ref b :: as) none T' μ' mc ms) (hin : y.name = "<init>") (hl1 : MLN own ix y host) (hv : Cond.instanceMethod y ∈ gw) (hm : MB y c2 nL2 none n) (hX : XR X d (n1 + mc) (n2 + ms)) (hO : XOl X T.length) (hst : ∀ v ∈ st, vbl T.length v) (hlo : ∀ q ∈ lo, vbl T.length q.2) (hdd : d' + 1 ≤ d) (hnl : nL2 + 19 ≤ 60) (hn : as.length = n) (hcat : (st.map fun v => v.category).sum ≤ 8) (hd : decode cc pc = .ok (.invokespecial ix, 3)) (hstk : stk = as.reverse ++ .ref b :: st)
    (kk : Wp X cc own nL T' μ' (n1 + mc) (n2 + ms) (pc + 3) lo st) : Wp X cc own nL T μ n1 n2 pc lo stk := by
  obtain ⟨p, l, e, R, s, m, args, below, meth, c, Q, A, D, n0, α0⟩ := X
  intro hx hb hml hown hts hlk hA H locs ls α cA ha hW hS hl
  obtain ⟨tys, hK, hP, hD, ht, hnw⟩ := id hW
  obtain ⟨m1, m2, m3, m4, m5⟩ := hm
  obtain ⟨r1, r2, r3, r4⟩ := hX
  have hF := wS_free hD hS hA
  have hsw : SW a v f (va_A (wS T μ α cA) H.size) s H := (hS0.kept hS.2.1).narrow hF
  refine cg (rv := none) (mc := mc) (ms := ms) (ag := fun α' => ∀ k, k < T.length → α' k = α k) (va_runIN (host := host) (Ts := gw) (As := as.map (gv α)) (rest := st.map (gv α)) (n := n) (b := α b) ⟨hx, hb, hml, hown, hts⟩ (hc l D α cA H.size a v f) ⟨va_cnB n hts (gw_self m2) rfl rfl rfl (hnw _ hl1) (hts _ m1) ⟨m3, m4, m5⟩ ⟨Nat.le_trans hdd r1, by show 8 + (nL2 + 11) + 60 * d' ≤ R.locals; omega⟩, hin, hts _ hv⟩ ⟨fun a U g mk h => ⟨h.1, h.2.1, h.2.2.1.blind, h.2.2.2.blind⟩, fun U hU hWm => ⟨rfl, by rw [hU], by rw [hU]; exact hW.warm hWm (fun _ _ => trivial), by rw [hU]; exact hsw.warm hWm⟩⟩ rfl (by simp [hn]) hl.1 (by rw [hstk, map_app]; rfl) (lv_room (by rw [cat_gv]; exact hcat)) hd ⟨r3, r4⟩) hS hF hnw (fun H1 locs1 α' cA' hag hW1 hS1 => ?_)
  have hgo := kk hx hb hml hown hts hlk hA H1 locs1 ls α' cA' (fun k hk => by rw [hag k (hO k hk)]; exact ha k hk) hW1 hS1 (by rw [lo_ag hag hlo]; exact hl)
  rw [gvs_ag hag hst] at hgo
  exact hgo
theorem CtS.of {av : List Value} (hrv : nrv rv = true) (hy : plainName y.cls = true) (hfit : (lg_sl av).length ≤ nL)
    (h : ∀ (X : CX) (a v f : Nat), XR X d mc ms → XN X y.name → XOl X T.length → XSt X a v f → (∀ (p : Program) (l : Launch) (e : Env) (R : Room) (s : State) (m : MethodId) (args : Array Value) (below : List Frame) (meth : Method) (c : Code) (Q : State → Prop) (A : Nat → Prop) (D : va_G) (n0 : Nat → Prop) (α0 : Nat → Nat), X = (p, l, e, R, s, m, args, below, meth, c, Q, A, D, n0, α0) → meth.sig.returnType = ret ∧ meth.locks = false ∧ ∃ Qc free, Q = MQ below Qc args s mc ms free ∧ (∀ q, A q → free q) ∧ ∀ (t : State) (H : Heap) (locs : List Loc) (α : Nat → Nat) (cA : Nat → ClassId), (∀ k, n0 k → α k = α0 k) → Wd D A T' μ' α cA s H → va_S A s.heap H locs → t.heap = H → s.WarmedH t.vm → Qc args s (.returned rv) t) → Wp X cc y.cls nL T μ 0 0 0 (lv_args 0 av) []) :
    CtS d y cc nL ret T μ av rv T' μ' mc ms := by
  intro l D α cA sz a v f
  refine Met.ofW (cc := cc) (maxL := nL) (ret := ret) hy rfl ?_
  intro p e s m args below meth c s₁ B hml hv
  obtain ⟨rfl, hsz, hWd, hSW⟩ := hv
  subst hsz
  have hx := B.exec
  have hb := B.bytes
  have hr := B.returns
  have hts := atoms_spec (ws := Cond.code y cc nL ret :: gw) B.pre
  have hown : s.vm.findClass y.cls = some m.cls := findClass_of_methodNamed B.named
  have hlocks := B.notSynchronized
  have hin : meth.name = y.name := (name_of_methodNamed B.named B.method).1
  have hl := lv_entry (av.map (gv α)) (n := nL) (by rw [lg_sl_gv]; exact hfit)
  rw [lg_entry_eq]
  generalize (lg_sl (av.map (gv α)) ++ List.replicate (nL - (lg_sl (av.map (gv α))).length) Slot.unset).toArray = ls at hl ⊢
  rw [lv_args_gv] at hl
  obtain ⟨tys, hK, hP, hD, ht, hnw⟩ := id hWd
  have key := h (p, l, e, (headSpec (Cond.code y cc nL ret :: gw) { frames := d, cells := mc, slots := ms, locals := 60 * d }).room, s, m, (av.map (gv α)).toArray, below, meth, c, MQ below (fun _ st oc t => oc = .returned (rv.map (gv α)) ∧ (∃ (α' : Nat → Nat) (cA' : Nat → ClassId), (∀ k, k < T.length → α' k = α k) ∧ Wd D (va_A (wS T μ α cA) s.heap.size) T' μ' α' cA' t t.heap) ∧ va_F (va_A (wS T μ α cA) s.heap.size) st t) (av.map (gv α)).toArray s mc ms (va_A (wS T μ α cA) s.heap.size), va_A (wS T μ α cA) s.heap.size, D, (fun k => k < T.length), α) a v f ⟨Nat.le_refl _, Nat.le_refl _, Nat.le_refl _, Nat.le_refl _⟩ hin (fun k hk => hk) hSW ?_
  · exact key hx hb hml hown (fun w hw => hts w (List.mem_cons_of_mem _ hw)) hlocks (fun q h => Or.inr h) s.heap [] ls α cA (fun _ _ => rfl) ⟨tys, hK, hP, hD.self, ht, hnw⟩ va_S.rf hl
  · intro p' l' e' R' s' m' args' below' meth' c' Q' A' D' n0' α0' hX
    cases hX
    refine ⟨hr, hlocks, _, _, rfl, fun q h => h, ?_⟩
    intro t H locs α' cA' ha hW hS hH hWm
    refine ⟨by rw [nrv_gv hrv], ⟨α', cA', ha, ?_⟩, hS.F hH⟩
    rw [hH]
    exact hW.warm hWm (fun _ h => h)
theorem CtS.ofV {av : List Value} (hy : plainName y.cls = true) (hfit : (lg_sl av).length ≤ nL) (h : ∀ (X : CX) (a v f : Nat), XR X d mc ms → XN X y.name → XOl X T.length → XSt X a v f → FnV X cc y.cls nL T' mc ms μ' → Wp X cc y.cls nL T μ 0 0 0 (lv_args 0 av) []) : CtS d y cc nL none T μ av none T' μ' mc ms := by
  refine CtS.of rfl hy hfit (fun X a v f hX hN hO hs hq => h X a v f hX hN hO hs ?_)
  intro pc lo hd
  obtain ⟨p, l, e, R, s, m, args, below, meth, c, Q, A, D, n0, α0⟩ := X
  intro hx hb hml hown hts hlk hA H locs ls α cA ha hW hS hl
  obtain ⟨h1, h2, Qc, free, rfl, h4, h5⟩ := hq _ _ _ _ _ _ _ _ _ _ _ _ _ _ _ rfl
  exact W.vret hx hb h1 (fun t ht hw => h5 t H locs α cA ha hW hS ht hw) (fun q hq => h4 _ (hS.2.2 q hq)) hd h2
end WPQ
