/-! ===== contracts and calls ===== -/
def XR (X : CX) (d n1 n2 : Nat) : Prop := match X with
  | (_, _, _, R, _, _, _, _, _, _, _, _, _, _, _) => d ≤ R.frames ∧ 60 * d ≤ R.locals ∧ n1 ≤ R.cells ∧ n2 ≤ R.slots
def XN (X : CX) (nm : String) : Prop := match X with
  | (_, _, _, _, _, _, _, _, meth, _, _, _, _, _, _) => meth.name = nm
/-- a method's contract, at one start, of a method that makes nothing -/
def Ct (d : Nat) (y : MethodName) (cc : ByteArray) (nL : Nat) (ret : Option FieldType) (T : List Dsc) (μ : Mem) (av : List Value) (rv : Option Value) (μ' : Mem) : Prop :=
  ∀ (l : Launch) (D : va_G) (α : Nat → Nat) (cA : Nat → ClassId) (sz : Nat),
    Met l y (Cond.code y cc nL ret :: gw) { frames := d, cells := 0, slots := 0, locals := 60 * d }
      (va_Pc (av.map (gv α)) (fun U => U.heap.size = sz ∧ Wd D (fun _ => True) T μ α cA U U.heap))
      (fun _ st oc t => oc = .returned (rv.map (gv α)) ∧ (∃ cA' : Nat → ClassId, Wd D (va_A (wS T μ α cA) sz) T μ' α cA' t t.heap) ∧ va_F (va_A (wS T μ α cA) sz) st t)
      0 0 (va_A (wS T μ α cA) sz)
/-- the same of one that makes mc cells of ms slots -/
def CtA (d : Nat) (y : MethodName) (cc : ByteArray) (nL : Nat) (ret : Option FieldType) (T : List Dsc) (μ : Mem) (av : List Value) (rv : Option Value) (T' : List Dsc) (μ' : Mem) (mc ms : Nat) : Prop :=
  ∀ (l : Launch) (D : va_G) (α : Nat → Nat) (cA : Nat → ClassId) (sz : Nat),
    Met l y (Cond.code y cc nL ret :: gw) { frames := d, cells := mc, slots := ms, locals := 60 * d }
      (va_Pc (av.map (gv α)) (fun U => U.heap.size = sz ∧ Wd D (fun _ => True) T μ α cA U U.heap))
      (fun _ st oc t => oc = .returned (rv.map (gv α)) ∧ (∃ (α' : Nat → Nat) (cA' : Nat → ClassId), (∀ k, k < T.length → α' k = α k) ∧ Wd D (va_A (wS T μ α cA) sz) T' μ' α' cA' t t.heap) ∧ va_F (va_A (wS T μ α cA) sz) st t)
      mc ms (va_A (wS T μ α cA) sz)
theorem Wd.warm {D : va_G} {A B : Nat → Prop} {T : List Dsc} {μ : Mem} {α : Nat → Nat} {cA : Nat → ClassId} {s U : State} {H : Heap} (hW : s.WarmedH U.vm) (h : Wd D A T μ α cA s H) (hB : ∀ q, A q → B q) : Wd D B T μ α cA U H := by
  obtain ⟨tys, hK, hP, hD, ht, hn⟩ := h
  exact ⟨tys, va_K.moved hW.alike hK, hP, hD.weaken (fun _ q _ h => hB _ h), ht, fun q hq => va_Nw.warmM hW (hn q hq)⟩
theorem Wd.blind {D : va_G} {A : Nat → Prop} {T : List Dsc} {μ : Mem} {α : Nat → Nat} {cA : Nat → ClassId} {U : State} {g : JFrame} {mk : MethodId} {a : Array Value} {H : Heap} (h : Wd D A T μ α cA U H) : Wd D A T μ α cA (U.calling g mk a) H := by
  obtain ⟨tys, hK, hP, hD, ht, hn⟩ := h
  exact ⟨tys, va_K.moved (u := U) (U := U.calling g mk a) (Vm.Alike.refl U.vm) hK, hP, hD, ht, fun q hq => va_Nw.same rfl rfl (hn q hq)⟩
theorem cat_gv (st : List Value) (α : Nat → Nat) : ((st.map (gv α)).map fun v => v.category).sum = (st.map fun v => v.category).sum := by
  rw [List.map_map]
  congr 1
  apply List.map_congr_left
  intro v _
  exact gv_cat α v
theorem gw_self {y : MethodName} {cc : ByteArray} {nL : Nat} {ret : Option FieldType} (h : Cond.code y cc nL ret ∈ gw) : GoodIn gw (Cond.code y cc nL ret :: gw) :=
  gw_good (fun w hw => (List.mem_cons.mp hw).elim (fun e => e ▸ h) id) (fun _ h => h)
/-- behind a call -/
theorem cg {p : Program} {l : Launch} {e : Env} {R : Room} {s : State} {m : MethodId} {args : Array Value} {below : List Frame} {meth : Method} {c : Code} {H : Heap} {locs : List Loc} {n1 n2 mc ms pc : Nat} {Q : State → Prop} {ls : Array Slot} {st0 rest : List Value} {D : va_G} {A : Nat → Prop} {T T' : List Dsc} {μ μ' : Mem} {α : Nat → Nat} {cA : Nat → ClassId} {rv : Option Value} {ag : (Nat → Nat) → Prop}
    (hr : va_Run p l e R s m args below meth c H locs n1 n2 mc ms (F0 m pc ls st0) rest (fun st oc t => oc = .returned (rv.map (gv α)) ∧ (∃ (α' : Nat → Nat) (cA' : Nat → ClassId), ag α' ∧ Wd D (va_A (wS T μ α cA) H.size) T' μ' α' cA' t t.heap) ∧ va_F (va_A (wS T μ α cA) H.size) st t) (va_A (wS T μ α cA) H.size))
    (hS : va_S A s.heap H locs) (hF : ∀ q, va_A (wS T μ α cA) H.size q → A q) (hnw : ∀ q ∈ nwl, va_Nw (.methodLinkNest q.1 q.2.1 q.2.2.1 q.2.2.2) s)
    (kk : ∀ (H1 : Heap) (locs1 : List Loc) (α' : Nat → Nat) (cA' : Nat → ClassId), ag α' → Wd D A T' μ' α' cA' s H1 → va_S A s.heap H1 locs1 → W p l e R s m args below meth c H1 locs1 (n1 + mc) (n2 + ms) Q (F0 m (pc + 3) ls ((rv.map (gv α)).toList ++ rest))) :
    W p l e R s m args below meth c H locs n1 n2 Q (F0 m pc ls st0) := by
  intro U hU X
  obtain ⟨v, st₀, t, U', L, h0, X', hL, e1, e2, hq, st⟩ := hr U hU X
  obtain ⟨hv, ⟨α', cA', hag, hWd⟩, hz, hk⟩ := hq
  have hv' : v = rv.map (gv α) := by injection hv
  subst hv'
  rw [h0] at hz hk
  have hvm : s.vm.Alike t.vm := by rw [← e2]; exact X'.warmed.alike
  obtain ⟨tys, hK, hP, hD, ht, hn⟩ := hWd
  obtain ⟨t2, a1, b1⟩ := kk U'.heap (locs ++ L) α' cA' hag ⟨tys, va_K.moved hvm.symm hK, by rw [e1]; exact hP, hD.weaken (fun _ q _ h => hF _ h), ht, hnw⟩
    ⟨Nat.le_trans hS.1 (by rw [e1]; exact hz), fun q h1 h2 => by rw [e1, hk q (Nat.lt_of_lt_of_le h1 hS.1) (fun z => h2 (hF q z))]; exact hS.2.1 q h1 h2, fun q hq => by
      rcases List.mem_append.mp hq with h | h
      · exact hS.2.2 q h
      · exact hF _ (hL q h)⟩ U' rfl X'
  exact ⟨t2, st t2 a1, b1⟩
theorem wS_free {A : Nat → Prop} {T : List Dsc} {μ : Mem} {α : Nat → Nat} {cA : Nat → ClassId} {s : State} {H : Heap} {locs : List Loc} (hD : va_D A (wS T μ α cA)) (hS : va_S A s.heap H locs) (hA : ∀ q, s.heap.size ≤ q → A q) : ∀ q, va_A (wS T μ α cA) H.size q → A q := by
  intro q h
  rcases h with ⟨k, e, h⟩ | h
  · exact hD.2 k (q, e) h
  · exact hA q (Nat.le_trans hS.1 h)
def MB (y : MethodName) (cc : ByteArray) (nL : Nat) (ret : Option FieldType) (n : Nat) : Prop := Cond.initialized y.cls ∈ gw ∧ Cond.code y cc nL ret ∈ gw ∧ y.cls ≠ "java/lang/invoke/MethodHandle" ∧ y.cls ≠ "java/lang/invoke/VarHandle" ∧ (parseMethodDescriptor y.desc).map (fun d => d.parameters.length) = some n
def MV (y : MethodName) : Prop := Cond.instanceMethod y ∈ gw ∧ Cond.selects y.cls y y ∈ gw
def ML (own : String) (ix : Nat) (y : MethodName) : Prop := Cond.methodLink own ix y ∈ gw
def MLN (own : String) (ix : Nat) (y : MethodName) (host : String) : Prop := (own, ix, y, host) ∈ nwl
theorem map_app {α : Nat → Nat} (as st : List Value) : (as.reverse ++ st).map (gv α) = (as.map (gv α)).reverse ++ st.map (gv α) := by simp
/-- an answer that is no reference -/
def nrv (rv : Option Value) : Bool := match rv with
  | none => true
  | some (.int _) => true
  | some (.long _) => true
  | _ => false
theorem nrv_gv {rv : Option Value} (h : nrv rv = true) (α : Nat → Nat) : rv.map (gv α) = rv := by
  cases rv with
  | none => rfl
  | some v => cases v <;> first | rfl | cases h
section WPC
variable {X : CX} {cc : ByteArray} {own : String} {nL : Nat} {T : List Dsc} {μ μ' : Mem} {n1 n2 pc : Nat} {lo : List (Nat × Value)} {st stk as : List Value} {d d' : Nat} {y : MethodName} {c2 : ByteArray} {nL2 n ix b ci : Nat} {ret : Option FieldType} {rv : Option Value} {host : String}
theorem rv_app {α : Nat → Nat} (hrv : nrv rv = true) : (rv.map (gv α)).toList ++ st.map (gv α) = (rv.toList ++ st).map (gv α) := by
  rw [nrv_gv hrv, List.map_append]
  congr 1
  cases rv with
  | none => rfl
  | some v => cases v <;> first | rfl | cases hrv
theorem pre_blind {D : va_G} {α : Nat → Nat} {cA : Nat → ClassId} {sz : Nat} {av : List Value} : FrameBlind (va_Pc (av.map (gv α)) (fun U => U.heap.size = sz ∧ Wd D (fun _ => True) T μ α cA U U.heap)) := by
  intro a U g mk h
  exact ⟨h.1, h.2.1, h.2.2.blind⟩
theorem Ct.run {D : va_G} {α : Nat → Nat} {cA : Nat → ClassId} {sz : Nat} {l : Launch} {av : List Value} (hc : Ct d' y c2 nL2 ret T μ av rv μ') : Met l y (Cond.code y c2 nL2 ret :: gw) { frames := d', cells := 0, slots := 0, locals := 60 * d' }
      (va_Pc (av.map (gv α)) (fun U => U.heap.size = sz ∧ Wd D (fun _ => True) T μ α cA U U.heap))
      (fun _ st oc t => oc = .returned (rv.map (gv α)) ∧ (∃ (α' : Nat → Nat) (cA' : Nat → ClassId), α' = α ∧ Wd D (va_A (wS T μ α cA) sz) T μ' α' cA' t t.heap) ∧ va_F (va_A (wS T μ α cA) sz) st t)
      0 0 (va_A (wS T μ α cA) sz) := by
  have h := hc l D α cA sz
  unfold Met at h ⊢
  have e : (fun (_ : Array Value) (st : State) (oc : Outcome) (t : State) => oc = .returned (rv.map (gv α)) ∧ (∃ cA' : Nat → ClassId, Wd D (va_A (wS T μ α cA) sz) T μ' α cA' t t.heap) ∧ va_F (va_A (wS T μ α cA) sz) st t) = (fun (_ : Array Value) (st : State) (oc : Outcome) (t : State) => oc = .returned (rv.map (gv α)) ∧ (∃ (α' : Nat → Nat) (cA' : Nat → ClassId), α' = α ∧ Wd D (va_A (wS T μ α cA) sz) T μ' α' cA' t t.heap) ∧ va_F (va_A (wS T μ α cA) sz) st t) := by
    funext _ st oc t
    apply propext
    constructor
    · rintro ⟨h1, ⟨cA', h2⟩, h3⟩
      exact ⟨h1, ⟨α, cA', rfl, h2⟩, h3⟩
    · rintro ⟨h1, ⟨α', cA', rfl, h2⟩, h3⟩
      exact ⟨h1, ⟨cA', h2⟩, h3⟩
  rw [← e]
  exact h
theorem Wp.callV (hc : Ct d' y c2 nL2 ret T μ (.ref b :: as) rv μ') (hrv : nrv rv = true) (hl1 : ML own ix y) (hv : MV y) (hm : MB y c2 nL2 ret n) (hX : XR X d n1 n2) (hdd : d' + 1 ≤ d) (hnl : nL2 + 19 ≤ 60) (hn : as.length = n) (hT : T[b]? = some (.inl ci)) (hcl : (vwCl[ci]?).map (fun q => q.1) = some y.cls) (hcat : (st.map fun v => v.category).sum ≤ 8) (hd : decode cc pc = .ok (.invokevirtual ix, 3)) (hst : stk = as.reverse ++ .ref b :: st)
    (kk : Wp X cc own nL T μ' n1 n2 (pc + 3) lo (rv.toList ++ st)) : Wp X cc own nL T μ n1 n2 pc lo stk := by
  obtain ⟨p, l, e, R, s, m, args, below, meth, c, Q, A, D, n0, α0⟩ := X
  intro hx hb hml hown hts hlk hA H locs ls α cA ha hW hS hl
  obtain ⟨tys, hK, hP, hD, ht, hnw⟩ := id hW
  obtain ⟨m1, m2, m3, m4, m5⟩ := hm
  obtain ⟨r1, r2, r3, r4⟩ := hX
  obtain ⟨q, hq, hqc⟩ := Option.map_eq_some_iff.mp hcl
  have hF := wS_free hD hS hA
  have hrcv := va_recv hK hP hq (q0 := b) (fs := (List.range (cN ci)).map (fun j => fV μ α (fT ci j) b j)) (by rw [wS_at hT, eN_obj hT])
  rw [hqc] at hrcv
  refine cg (ag := fun α' => α' = α) (va_runV (Ts := gw) (As := as.map (gv α)) (rest := st.map (gv α)) (n := n) (b := α b) (C := y.cls) ⟨hx, hb, hml, hown, hts⟩ (hc.run (D := D) (α := α) (cA := cA) (sz := H.size)) ⟨callB_of n hts (gw_self m2) rfl rfl rfl (hts _ m1) (hts _ hl1) ⟨m3, m4, m5⟩ ⟨Nat.le_trans hdd r1, by show 8 + (nL2 + 11) + 60 * d' ≤ R.locals; omega⟩, hts _ hv.1, hts _ hv.2⟩ ⟨pre_blind, hrcv, fun U hU hWm => ⟨rfl, by rw [hU], by rw [hU]; exact hW.warm hWm (fun _ _ => trivial)⟩⟩ rfl (by simp [hn]) hl.1 (by rw [hst, map_app]; rfl) (lv_room (by rw [cat_gv]; exact hcat)) hd ⟨by simpa using r3, by simpa using r4⟩) hS hF hnw (fun H1 locs1 α' cA' hag hW1 hS1 => ?_)
  subst hag
  rw [rv_app hrv]
  exact kk hx hb hml hown hts hlk hA H1 locs1 ls α' cA' ha hW1 hS1 hl
theorem Wp.callS (hc : Ct d' y c2 nL2 ret T μ as rv μ') (hrv : nrv rv = true) (hl1 : ML own ix y) (hv : Cond.static y ∈ gw) (hm : MB y c2 nL2 ret n) (hX : XR X d n1 n2) (hdd : d' + 1 ≤ d) (hnl : nL2 + 19 ≤ 60) (hn : as.length = n) (hcat : (st.map fun v => v.category).sum ≤ 8) (hd : decode cc pc = .ok (.invokestatic ix, 3)) (hst : stk = as.reverse ++ st)
    (kk : Wp X cc own nL T μ' n1 n2 (pc + 3) lo (rv.toList ++ st)) : Wp X cc own nL T μ n1 n2 pc lo stk := by
  obtain ⟨p, l, e, R, s, m, args, below, meth, c, Q, A, D, n0, α0⟩ := X
  intro hx hb hml hown hts hlk hA H locs ls α cA ha hW hS hl
  obtain ⟨tys, hK, hP, hD, ht, hnw⟩ := id hW
  obtain ⟨m1, m2, m3, m4, m5⟩ := hm
  obtain ⟨r1, r2, r3, r4⟩ := hX
  have hF := wS_free hD hS hA
  refine cg (ag := fun α' => α' = α) (va_runS (Ts := gw) (As := as.map (gv α)) (rest := st.map (gv α)) (n := n) ⟨hx, hb, hml, hown, hts⟩ (hc.run (D := D) (α := α) (cA := cA) (sz := H.size)) ⟨callB_of n hts (gw_self m2) rfl rfl rfl (hts _ m1) (hts _ hl1) ⟨m3, m4, m5⟩ ⟨Nat.le_trans hdd r1, by show 8 + (nL2 + 11) + 60 * d' ≤ R.locals; omega⟩, hts _ hv⟩ ⟨pre_blind, fun U hU hWm => ⟨rfl, by rw [hU], by rw [hU]; exact hW.warm hWm (fun _ _ => trivial)⟩⟩ rfl (by simp [hn]) hl.1 (by rw [hst, map_app]) (lv_room (by rw [cat_gv]; exact hcat)) hd ⟨by simpa using r3, by simpa using r4⟩) hS hF hnw (fun H1 locs1 α' cA' hag hW1 hS1 => ?_)
  subst hag
  rw [rv_app hrv]
  exact kk hx hb hml hown hts hlk hA H1 locs1 ls α' cA' ha hW1 hS1 hl
theorem Wp.callSN (hc : Ct d' y c2 nL2 ret T μ as rv μ') (hrv : nrv rv = true) (hl1 : MLN own ix y host) (hv : Cond.static y ∈ gw) (hm : MB y c2 nL2 ret n) (hX : XR X d n1 n2) (hdd : d' + 1 ≤ d) (hnl : nL2 + 19 ≤ 60) (hn : as.length = n) (hcat : (st.map fun v => v.category).sum ≤ 8) (hd : decode cc pc = .ok (.invokestatic ix, 3)) (hst : stk = as.reverse ++ st)
    (kk : Wp X cc own nL T μ' n1 n2 (pc + 3) lo (rv.toList ++ st)) : Wp X cc own nL T μ n1 n2 pc lo stk := by
  obtain ⟨p, l, e, R, s, m, args, below, meth, c, Q, A, D, n0, α0⟩ := X
  intro hx hb hml hown hts hlk hA H locs ls α cA ha hW hS hl
  obtain ⟨tys, hK, hP, hD, ht, hnw⟩ := id hW
  obtain ⟨m1, m2, m3, m4, m5⟩ := hm
  obtain ⟨r1, r2, r3, r4⟩ := hX
  have hF := wS_free hD hS hA
  refine cg (ag := fun α' => α' = α) (va_runSN (host := host) (Ts := gw) (As := as.map (gv α)) (rest := st.map (gv α)) (n := n) ⟨hx, hb, hml, hown, hts⟩ (hc.run (D := D) (α := α) (cA := cA) (sz := H.size)) ⟨va_cnB n hts (gw_self m2) rfl rfl rfl (hnw _ hl1) (hts _ m1) ⟨m3, m4, m5⟩ ⟨Nat.le_trans hdd r1, by show 8 + (nL2 + 11) + 60 * d' ≤ R.locals; omega⟩, hts _ hv, trivial⟩ ⟨pre_blind, fun U hU hWm => ⟨rfl, by rw [hU], by rw [hU]; exact hW.warm hWm (fun _ _ => trivial)⟩⟩ rfl (by simp [hn]) hl.1 (by rw [hst, map_app]) (lv_room (by rw [cat_gv]; exact hcat)) hd ⟨by simpa using r3, by simpa using r4⟩) hS hF hnw (fun H1 locs1 α' cA' hag hW1 hS1 => ?_)
  subst hag
  rw [rv_app hrv]
  exact kk hx hb hml hown hts hlk hA H1 locs1 ls α' cA' ha hW1 hS1 hl
/-- a walk's end: the return -/
def FnI (X : CX) (cc : ByteArray) (own : String) (nL : Nat) (T : List Dsc) (n1 n2 : Nat) (r : Int32 × Mem) : Prop := ∀ (pc : Nat) (lo : List (Nat × Value)), decode cc pc = .ok (.ireturn, 1) → Wp X cc own nL T r.2 n1 n2 pc lo [.int r.1]
def FnZ (X : CX) (cc : ByteArray) (own : String) (nL : Nat) (T : List Dsc) (n1 n2 : Nat) (r : Int32 × Mem) : Prop := ∀ (pc : Nat) (lo : List (Nat × Value)), (r.1 = 0 ∨ r.1 = 1) → decode cc pc = .ok (.ireturn, 1) → Wp X cc own nL T r.2 n1 n2 pc lo [.int r.1]
def FnJ (X : CX) (cc : ByteArray) (own : String) (nL : Nat) (T : List Dsc) (n1 n2 : Nat) (r : Int64 × Mem) : Prop := ∀ (pc : Nat) (lo : List (Nat × Value)), decode cc pc = .ok (.lreturn, 1) → Wp X cc own nL T r.2 n1 n2 pc lo [.long r.1]
def FnV (X : CX) (cc : ByteArray) (own : String) (nL : Nat) (T : List Dsc) (n1 n2 : Nat) (r : Mem) : Prop := ∀ (pc : Nat) (lo : List (Nat × Value)), decode cc pc = .ok (.return_, 1) → Wp X cc own nL T r n1 n2 pc lo []
theorem lv_args_gv (α : Nat → Nat) : ∀ (vs : List Value) (i : Nat), lv_args i (vs.map (gv α)) = (lv_args i vs).map (fun q => (q.1, gv α q.2))
  | [], _ => rfl
  | v :: vs, i => by
    simp only [List.map_cons, lv_args, gv_cat]
    rw [lv_args_gv α vs]
theorem lg_sl_gv (α : Nat → Nat) (vs : List Value) : (lg_sl (vs.map (gv α))).length = (lg_sl vs).length := by
  induction vs with
  | nil => rfl
  | cons v vs ih =>
    simp only [lg_sl, List.map_cons, List.flatMap_cons, List.length_append] at ih ⊢
    rw [ih]
    congr 1
    cases v <;> rfl
theorem Ct.of {av : List Value} (hy : plainName y.cls = true) (hfit : (lg_sl av).length ≤ nL)
    (h : ∀ (X : CX), XR X d 0 0 → XN X y.name → (∀ (p : Program) (l : Launch) (e : Env) (R : Room) (s : State) (m : MethodId) (args : Array Value) (below : List Frame) (meth : Method) (c : Code) (Q : State → Prop) (A : Nat → Prop) (D : va_G) (n0 : Nat → Prop) (α0 : Nat → Nat), X = (p, l, e, R, s, m, args, below, meth, c, Q, A, D, n0, α0) → meth.sig.returnType = ret ∧ meth.locks = false ∧ ∃ Qc free, Q = MQ below Qc args s 0 0 free ∧ (∀ q, A q → free q) ∧ ∀ (t : State) (H : Heap) (locs : List Loc) (α : Nat → Nat) (cA : Nat → ClassId), (∀ k, n0 k → α k = α0 k) → Wd D A T μ' α cA s H → va_S A s.heap H locs → t.heap = H → s.WarmedH t.vm → Qc args s (.returned (rv.map (gv α))) t) → Wp X cc y.cls nL T μ 0 0 0 (lv_args 0 av) []) :
    Ct d y cc nL ret T μ av rv μ' := by
  intro l D α cA sz
  refine Met.ofW (cc := cc) (maxL := nL) (ret := ret) hy rfl ?_
  intro p e s m args below meth c s₁ B hml hv
  obtain ⟨rfl, hsz, hWd⟩ := hv
  subst hsz
  have hx := B.exec
  have hb := B.bytes
  have hr := B.returns
  have hts := atoms_spec (ws := Cond.code y cc nL ret :: gw) B.pre
  have hown : s.vm.findClass y.cls = some m.cls := findClass_of_methodNamed B.named
  have hlocks := B.notSynchronized
  have hin : meth.name = y.name := (name_of_methodNamed B.named B.method).1
  have hl := lv_entry (av.map (gv α)) (n := nL) (by rw [lg_sl_gv]; exact hfit)
  rw [lg_entry_eq]
  generalize (lg_sl (av.map (gv α)) ++ List.replicate (nL - (lg_sl (av.map (gv α))).length) Slot.unset).toArray = ls at hl ⊢
  rw [lv_args_gv] at hl
  obtain ⟨tys, hK, hP, hD, ht, hnw⟩ := id hWd
  have key := h (p, l, e, (headSpec (Cond.code y cc nL ret :: gw) { frames := d, cells := 0, slots := 0, locals := 60 * d }).room, s, m, (av.map (gv α)).toArray, below, meth, c, MQ below (fun _ st oc t => oc = .returned (rv.map (gv α)) ∧ (∃ cA' : Nat → ClassId, Wd D (va_A (wS T μ α cA) s.heap.size) T μ' α cA' t t.heap) ∧ va_F (va_A (wS T μ α cA) s.heap.size) st t) (av.map (gv α)).toArray s 0 0 (va_A (wS T μ α cA) s.heap.size), va_A (wS T μ α cA) s.heap.size, D, (fun _ => True), α) ⟨Nat.le_refl _, Nat.le_refl _, Nat.le_refl _, Nat.le_refl _⟩ hin ?_
  · exact key hx hb hml hown (fun w hw => hts w (List.mem_cons_of_mem _ hw)) hlocks (fun q h => Or.inr h) s.heap [] ls α cA (fun _ _ => rfl) ⟨tys, hK, hP, hD.self, ht, hnw⟩ va_S.rf hl
  · intro p' l' e' R' s' m' args' below' meth' c' Q' A' D' n0' α0' hX
    cases hX
    refine ⟨hr, hlocks, _, _, rfl, fun q h => h, ?_⟩
    intro t H locs α' cA' ha hW hS hH hWm
    have hα : α' = α := funext fun k => ha k trivial
    subst hα
    refine ⟨rfl, ⟨cA', ?_⟩, hS.F hH⟩
    rw [hH]
    exact hW.warm hWm (fun _ h => h)
theorem Ct.ofI {av : List Value} {r : Int32 × Mem} (hy : plainName y.cls = true) (hfit : (lg_sl av).length ≤ nL) (h : ∀ (X : CX), XR X d 0 0 → FnI X cc y.cls nL T 0 0 r → Wp X cc y.cls nL T μ 0 0 0 (lv_args 0 av) []) : Ct d y cc nL (some .int) T μ av (some (.int r.1)) r.2 := by
  refine Ct.of hy hfit (fun X hX _ hq => h X hX ?_)
  intro pc lo hd
  obtain ⟨p, l, e, R, s, m, args, below, meth, c, Q, A, D, n0, α0⟩ := X
  intro hx hb hml hown hts hlk hA H locs ls α cA ha hW hS hl
  obtain ⟨h1, h2, Qc, free, rfl, h4, h5⟩ := hq _ _ _ _ _ _ _ _ _ _ _ _ _ _ _ rfl
  exact W.iret hx hb h1 (fun t ht hw => h5 t H locs α cA ha hW hS ht hw) (fun q hq => h4 _ (hS.2.2 q hq)) hd h2
theorem Ct.ofZ {av : List Value} {r : Int32 × Mem} (hy : plainName y.cls = true) (hfit : (lg_sl av).length ≤ nL) (h : ∀ (X : CX), XR X d 0 0 → FnZ X cc y.cls nL T 0 0 r → Wp X cc y.cls nL T μ 0 0 0 (lv_args 0 av) []) : Ct d y cc nL (some .boolean) T μ av (some (.int r.1)) r.2 := by
  refine Ct.of hy hfit (fun X hX _ hq => h X hX ?_)
  intro pc lo hz hd
  obtain ⟨p, l, e, R, s, m, args, below, meth, c, Q, A, D, n0, α0⟩ := X
  intro hx hb hml hown hts hlk hA H locs ls α cA ha hW hS hl
  obtain ⟨h1, h2, Qc, free, rfl, h4, h5⟩ := hq _ _ _ _ _ _ _ _ _ _ _ _ _ _ _ rfl
  exact W.zret hx hb h1 (by rcases hz with e | e <;> rw [e] <;> rfl) (fun t ht hw => h5 t H locs α cA ha hW hS ht hw) (fun q hq => h4 _ (hS.2.2 q hq)) hd h2
theorem Ct.ofJ {av : List Value} {r : Int64 × Mem} (hy : plainName y.cls = true) (hfit : (lg_sl av).length ≤ nL) (h : ∀ (X : CX), XR X d 0 0 → FnJ X cc y.cls nL T 0 0 r → Wp X cc y.cls nL T μ 0 0 0 (lv_args 0 av) []) : Ct d y cc nL (some .long) T μ av (some (.long r.1)) r.2 := by
  refine Ct.of hy hfit (fun X hX _ hq => h X hX ?_)
  intro pc lo hd
  obtain ⟨p, l, e, R, s, m, args, below, meth, c, Q, A, D, n0, α0⟩ := X
  intro hx hb hml hown hts hlk hA H locs ls α cA ha hW hS hl
  obtain ⟨h1, h2, Qc, free, rfl, h4, h5⟩ := hq _ _ _ _ _ _ _ _ _ _ _ _ _ _ _ rfl
  exact W.lret hx hb h1 (fun t ht hw => h5 t H locs α cA ha hW hS ht hw) (fun q hq => h4 _ (hS.2.2 q hq)) hd h2
theorem Ct.ofV {av : List Value} {r : Mem} (hy : plainName y.cls = true) (hfit : (lg_sl av).length ≤ nL) (h : ∀ (X : CX), XR X d 0 0 → FnV X cc y.cls nL T 0 0 r → Wp X cc y.cls nL T μ 0 0 0 (lv_args 0 av) []) : Ct d y cc nL none T μ av none r := by
  refine Ct.of hy hfit (fun X hX _ hq => h X hX ?_)
  intro pc lo hd
  obtain ⟨p, l, e, R, s, m, args, below, meth, c, Q, A, D, n0, α0⟩ := X
  intro hx hb hml hown hts hlk hA H locs ls α cA ha hW hS hl
  obtain ⟨h1, h2, Qc, free, rfl, h4, h5⟩ := hq _ _ _ _ _ _ _ _ _ _ _ _ _ _ _ rfl
  exact W.vret hx hb h1 (fun t ht hw => h5 t H locs α cA ha hW hS ht hw) (fun q hq => h4 _ (hS.2.2 q hq)) hd h2
end WPC
/-! loops -/
def lpN {σ ε : Type} (f : σ → Option (σ ⊕ ε)) : Nat → σ → Option ε
  | 0, _ => none
  | n + 1, s => match f s with
    | none => none
    | some (.inl s') => lpN f n s'
    | some (.inr e) => some e
def big : Nat := 1000000
def loop {σ ε : Type} (f : σ → Option (σ ⊕ ε)) (s : σ) : Option ε := lpN f big s
theorem loop_ok {σ ε : Type} {f : σ → Option (σ ⊕ ε)} {K : σ ⊕ ε → Prop} (hs : ∀ s r, f s = some r → K r → K (.inl s)) {s : σ} {e : ε} (h : loop f s = some e) (he : K (.inr e)) : K (.inl s) := by
  unfold loop at h
  generalize big = n at h
  induction n generalizing s with
  | zero => cases h
  | succ n ih =>
    unfold lpN at h
    split at h
    · cases h
    · next s' h1 => exact hs s _ h1 (ih h)
    · next e' h1 => cases h; exact hs s _ h1 he
