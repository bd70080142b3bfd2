/-! ===== contracts of what makes cells, and their calls ===== -/
theorem gv_ag {α β : Nat → Nat} {N : Nat} {v : Value} (ha : ∀ k, k < N → β k = α k) (h : vbl N v) : gv β v = gv α v := by
  cases v with
  | ref r => exact congrArg Value.ref (ha r h)
  | _ => rfl
theorem gvs_ag {α β : Nat → Nat} {N : Nat} {st : List Value} (ha : ∀ k, k < N → β k = α k) (h : ∀ v ∈ st, vbl N v) : st.map (gv β) = st.map (gv α) := List.map_congr_left (fun v hv => gv_ag ha (h v hv))
theorem lo_ag {α β : Nat → Nat} {N : Nat} {lo : List (Nat × Value)} (ha : ∀ k, k < N → β k = α k) (h : ∀ x ∈ lo, vbl N x.2) : lo.map (fun x => (x.1, gv β x.2)) = lo.map (fun x => (x.1, gv α x.2)) := List.map_congr_left (fun x hx => by rw [gv_ag ha (h x hx)])
theorem wS_stR {T : List Dsc} {μ : Mem} {α : Nat → Nat} {cA : Nat → ClassId} {k n i r : Nat} {C : String} (h : T[k]? = some (.inr (.object C, n))) : (wS T μ α cA).set k (α k, .inl (cA k, n, .inr (.inr (.inr (.inr (va_up (fun j => (gR μ k j).map α) i (some (α r)))))))) = wS T (sR μ k i (some r)) α cA := by
  apply wS_set
  · rw [eN_arr h]
    show Sum.inl (cA k, n, Sum.inr (Sum.inr (Sum.inr (Sum.inr (fun j => (gR (sR μ k i (some r)) k j).map α))))) = _
    congr 7
    funext j
    by_cases hj : j = i
    · simp [gR_sR, va_up, hj]
    · simp [gR_sR, va_up, hj]
  · intro q hq
    exact eN_off (fun _ => rfl) (fun _ => rfl) (fun j => by simp [gR_sR, hq])
def OI (own : String) (ix : Nat) : Prop := Cond.methodLink own ix Lib.objectInit ∈ gw ∧ Cond.instanceMethod Lib.objectInit ∈ gw ∧ Cond.code Lib.objectInit ⟨#[0xb1]⟩ 1 none ∈ gw
section WPB
variable {X : CX} {cc : ByteArray} {own : String} {nL : Nat} {T T' : List Dsc} {μ μ' : Mem} {n1 n2 pc : Nat} {lo : List (Nat × Value)} {st stk as : List Value} {d d' mc ms : Nat} {y : MethodName} {c2 : ByteArray} {nL2 n ix b ci : Nat} {ret : Option FieldType} {rv : Option Value} {host : String}
theorem Wp.objI (h : OI own ix) (hX : XR X d n1 n2) (hdd : 1 ≤ d) (hcat : (st.map fun v => v.category).sum ≤ 8) (hd : decode cc pc = .ok (.invokespecial ix, 3)) (kk : Wp X cc own nL T μ n1 n2 (pc + 3) lo st) : Wp X cc own nL T μ n1 n2 pc lo (.ref b :: st) := by
  obtain ⟨p, l, e, R, s, m, args, below, meth, c, Q, A, D, n0, α0⟩ := X
  intro hx hb hml hown hts hlk hA H locs ls α cA ha hW hS hl
  obtain ⟨h1, h2, h3⟩ := h
  obtain ⟨r1, r2, r3, r4⟩ := hX
  have hr : 2 * (F0 m pc ls ((Value.ref b :: st).map (gv α))).monitorRoom + ((st.map (gv α)).map fun v => v.category).sum ≤ 8 := lv_room (by rw [cat_gv]; exact hcat)
  exact W.objInit hx hb hown (hts _ h1) (hts _ h2) (hts _ h3) rfl (hl.1.trans hml.symm) rfl hd (by omega) (by omega) (kk hx hb hml hown hts hlk hA H locs ls α cA ha hW hS hl)
theorem Wp.nnull {off : Int} {tgt : Nat} (hd : decode cc pc = .ok (.ifnonnull off, 3)) (ht : (pc : Int) + off = (tgt : Int)) (kk : Wp X cc own nL T μ n1 n2 tgt lo st) : Wp X cc own nL T μ n1 n2 pc lo (.ref b :: st) := by
  obtain ⟨p, l, e, R, s, m, args, below, meth, c, Q, A, D, n0, α0⟩ := X
  intro hx hb hml hown hts hlk hA H locs ls α cA ha hW hS hl
  exact lv_ifnonnull hx hb hd ht (kk hx hb hml hown hts hlk hA H locs ls α cA ha hW hS hl)
theorem Wp.nnullN {off : Int} (hd : decode cc pc = .ok (.ifnonnull off, 3)) (kk : Wp X cc own nL T μ n1 n2 (pc + 3) lo st) : Wp X cc own nL T μ n1 n2 pc lo (.null :: st) := by
  obtain ⟨p, l, e, R, s, m, args, below, meth, c, Q, A, D, n0, α0⟩ := X
  intro hx hb hml hown hts hlk hA H locs ls α cA ha hW hS hl
  exact lv_ifnonnullN hx hb hd (kk hx hb hml hown hts hlk hA H locs ls α cA ha hW hS hl)
theorem Wp.aast {k n r : Nat} {C : String} {i : Int32} (hT : T[k]? = some (.inr (.object C, n))) (hr : T[r]? = some (.inl ci)) (hC : (vwCl[ci]?).map (fun q => q.1) = some C) (hi : ixb i n = true) (hd : decode cc pc = .ok (.aastore, 1)) (kk : Wp X cc own nL T (sR μ k i.toNatClampNeg (some r)) n1 n2 (pc + 1) lo st) : Wp X cc own nL T μ n1 n2 pc lo (.ref r :: .int i :: .ref k :: st) := by
  obtain ⟨p, l, e, R, s, m, args, below, meth, c, Q, A, D, n0, α0⟩ := X
  intro hx hb hml hown hts hlk hA H locs ls α cA ha hW hS hl
  obtain ⟨tys, hK, hP, hD, ht, hn⟩ := hW
  obtain ⟨q, hq, hqc⟩ := Option.map_eq_some_iff.mp hC
  obtain ⟨t0, h0⟩ := ht k n _ hT
  refine va_astq (f := fun j => (gR μ k j).map α) (v := α r) (vs := (List.range (cN ci)).map (fun j => fV μ α (fT ci j) r j)) hx hb hK hP hD hS k t0 r ci (by rw [wS_at hT, eN_arr hT]; rfl) (by rw [hqc]; exact h0) (by rw [wS_at hr, eN_obj hr]) hq (ixb_in hi) hd (fun H1 locs1 hP1 hD1 hS1 => ?_)
  rw [wS_stR hT] at hP1 hD1
  exact kk hx hb hml hown hts hlk hA H1 locs1 ls α cA ha ⟨tys, hK, hP1, hD1, ht, hn⟩ hS1 hl
theorem XN.ini (h : XN X "<init>") : ∀ p l e R s m args below meth c Q A D n0 α0, X = (p, l, e, R, s, m, args, below, meth, c, Q, A, D, n0, α0) → meth.name = "<init>" := by
  intro p l e R s m args below meth c Q A D n0 α0 hX
  subst hX
  exact h
theorem Wp.putFR {k ci j ix r : Nat} (hN : XN X "<init>") (hT : T[k]? = some (.inl ci)) (hf : FK own ix ci j) (hff : FKf own ci j true) (hty : isP (fT ci j) = true) (hd : decode cc pc = .ok (.putfield ix, 3)) (kk : Wp X cc own nL T (sR μ k j (some r)) n1 n2 (pc + 3) lo st) : Wp X cc own nL T μ n1 n2 pc lo (.ref r :: .ref k :: st) :=
  Wp.putFV (v := .ref r) hT hf hff hN.ini rfl (fun _ => nar_P hty _) (fun α => fit_P hty _) (fun α cA => wS_putR (v := some r) hT hty) hd kk
theorem Wp.putFI {k ci j ix : Nat} {v : Int32} (hN : XN X "<init>") (hT : T[k]? = some (.inl ci)) (hf : FK own ix ci j) (hff : FKf own ci j true) (hty : fT ci j = .int) (hd : decode cc pc = .ok (.putfield ix, 3)) (kk : Wp X cc own nL T (sI μ k j v) n1 n2 (pc + 3) lo st) : Wp X cc own nL T μ n1 n2 pc lo (.int v :: .ref k :: st) :=
  Wp.putFV (v := .int v) hT hf hff hN.ini hty (fun _ => rfl) (fun _ => rfl) (fun α cA => wS_putI hT (by rw [hty]; rfl)) hd kk
/-- a constructor called -/
theorem Wp.callI (hc : CtA d' y c2 nL2 none T μ (.ref b :: as) none T' μ' mc ms) (hin : y.name = "<init>") (hl1 : ML own ix y) (hv : Cond.instanceMethod y ∈ gw) (hm : MB y c2 nL2 none n) (hX : XR X d (n1 + mc) (n2 + ms)) (hO : XOl X T.length) (hst : ∀ v ∈ st, vbl T.length v) (hlo : ∀ q ∈ lo, vbl T.length q.2) (hdd : d' + 1 ≤ d) (hnl : nL2 + 19 ≤ 60) (hn : as.length = n) (hcat : (st.map fun v => v.category).sum ≤ 8) (hd : decode cc pc = .ok (.invokespecial ix, 3)) (hstk : stk = as.reverse ++ .ref b :: st)
    (kk : Wp X cc own nL T' μ' (n1 + mc) (n2 + ms) (pc + 3) lo st) : Wp X cc own nL T μ n1 n2 pc lo stk := by
  obtain ⟨p, l, e, R, s, m, args, below, meth, c, Q, A, D, n0, α0⟩ := X
  intro hx hb hml hown hts hlk hA H locs ls α cA ha hW hS hl
  obtain ⟨tys, hK, hP, hD, ht, hnw⟩ := id hW
  obtain ⟨m1, m2, m3, m4, m5⟩ := hm
  obtain ⟨r1, r2, r3, r4⟩ := hX
  have hF := wS_free hD hS hA
  refine cg (rv := none) (mc := mc) (ms := ms) (ag := fun α' => ∀ k, k < T.length → α' k = α k) (va_runI (Ts := gw) (As := as.map (gv α)) (rest := st.map (gv α)) (n := n) (b := α b) ⟨hx, hb, hml, hown, hts⟩ (hc l D α cA H.size) ⟨callB_of n hts (gw_self m2) rfl rfl rfl (hts _ m1) (hts _ hl1) ⟨m3, m4, m5⟩ ⟨Nat.le_trans hdd r1, by show 8 + (nL2 + 11) + 60 * d' ≤ R.locals; omega⟩, hin, hts _ hv⟩ ⟨pre_blind, fun U hU hWm => ⟨rfl, by rw [hU], by rw [hU]; exact hW.warm hWm (fun _ _ => trivial)⟩⟩ rfl (by simp [hn]) hl.1 (by rw [hstk, map_app]; rfl) (lv_room (by rw [cat_gv]; exact hcat)) hd ⟨r3, r4⟩) hS hF hnw (fun H1 locs1 α' cA' hag hW1 hS1 => ?_)
  have hgo := kk hx hb hml hown hts hlk hA H1 locs1 ls α' cA' (fun k hk => by rw [hag k (hO k hk)]; exact ha k hk) hW1 hS1 (by rw [lo_ag hag hlo]; exact hl)
  rw [gvs_ag hag hst] at hgo
  exact hgo
theorem Wp.callIN (hc : CtA d' y c2 nL2 none T μ (.ref b :: as) none T' μ' mc ms) (hin : y.name = "<init>") (hl1 : MLN own ix y host) (hv : Cond.instanceMethod y ∈ gw) (hm : MB y c2 nL2 none n) (hX : XR X d (n1 + mc) (n2 + ms)) (hO : XOl X T.length) (hst : ∀ v ∈ st, vbl T.length v) (hlo : ∀ q ∈ lo, vbl T.length q.2) (hdd : d' + 1 ≤ d) (hnl : nL2 + 19 ≤ 60) (hn : as.length = n) (hcat : (st.map fun v => v.category).sum ≤ 8) (hd : decode cc pc = .ok (.invokespecial ix, 3)) (hstk : stk = as.reverse ++ .ref b :: st)
    (kk : Wp X cc own nL T' μ' (n1 + mc) (n2 + ms) (pc + 3) lo st) : Wp X cc own nL T μ n1 n2 pc lo stk := by
  obtain ⟨p, l, e, R, s, m, args, below, meth, c, Q, A, D, n0, α0⟩ := X
  intro hx hb hml hown hts hlk hA H locs ls α cA ha hW hS hl
  obtain ⟨tys, hK, hP, hD, ht, hnw⟩ := id hW
  obtain ⟨m1, m2, m3, m4, m5⟩ := hm
  obtain ⟨r1, r2, r3, r4⟩ := hX
  have hF := wS_free hD hS hA
  refine cg (rv := none) (mc := mc) (ms := ms) (ag := fun α' => ∀ k, k < T.length → α' k = α k) (va_runIN (host := host) (Ts := gw) (As := as.map (gv α)) (rest := st.map (gv α)) (n := n) (b := α b) ⟨hx, hb, hml, hown, hts⟩ (hc l D α cA H.size) ⟨va_cnB n hts (gw_self m2) rfl rfl rfl (hnw _ hl1) (hts _ m1) ⟨m3, m4, m5⟩ ⟨Nat.le_trans hdd r1, by show 8 + (nL2 + 11) + 60 * d' ≤ R.locals; omega⟩, hin, hts _ hv⟩ ⟨pre_blind, fun U hU hWm => ⟨rfl, by rw [hU], by rw [hU]; exact hW.warm hWm (fun _ _ => trivial)⟩⟩ rfl (by simp [hn]) hl.1 (by rw [hstk, map_app]; rfl) (lv_room (by rw [cat_gv]; exact hcat)) hd ⟨r3, r4⟩) hS hF hnw (fun H1 locs1 α' cA' hag hW1 hS1 => ?_)
  have hgo := kk hx hb hml hown hts hlk hA H1 locs1 ls α' cA' (fun k hk => by rw [hag k (hO k hk)]; exact ha k hk) hW1 hS1 (by rw [lo_ag hag hlo]; exact hl)
  rw [gvs_ag hag hst] at hgo
  exact hgo
/-- a method called that makes cells -/
theorem Wp.callVA (hc : CtA d' y c2 nL2 ret T μ (.ref b :: as) rv T' μ' mc ms) (hrv : nrv rv = true) (hl1 : ML own ix y) (hv : MV y) (hm : MB y c2 nL2 ret n) (hX : XR X d (n1 + mc) (n2 + ms)) (hO : XOl X T.length) (hst : ∀ v ∈ st, vbl T.length v) (hlo : ∀ q ∈ lo, vbl T.length q.2) (hdd : d' + 1 ≤ d) (hnl : nL2 + 19 ≤ 60) (hn : as.length = n) (hT : T[b]? = some (.inl ci)) (hcl : (vwCl[ci]?).map (fun q => q.1) = some y.cls) (hcat : (st.map fun v => v.category).sum ≤ 8) (hd : decode cc pc = .ok (.invokevirtual ix, 3)) (hstk : stk = as.reverse ++ .ref b :: st)
    (kk : Wp X cc own nL T' μ' (n1 + mc) (n2 + ms) (pc + 3) lo (rv.toList ++ st)) : Wp X cc own nL T μ n1 n2 pc lo stk := by
  obtain ⟨p, l, e, R, s, m, args, below, meth, c, Q, A, D, n0, α0⟩ := X
  intro hx hb hml hown hts hlk hA H locs ls α cA ha hW hS hl
  obtain ⟨tys, hK, hP, hD, ht, hnw⟩ := id hW
  obtain ⟨m1, m2, m3, m4, m5⟩ := hm
  obtain ⟨r1, r2, r3, r4⟩ := hX
  obtain ⟨q, hq, hqc⟩ := Option.map_eq_some_iff.mp hcl
  have hF := wS_free hD hS hA
  have hrcv := va_recv hK hP hq (q0 := b) (fs := (List.range (cN ci)).map (fun j => fV μ α (fT ci j) b j)) (by rw [wS_at hT, eN_obj hT])
  rw [hqc] at hrcv
  refine cg (mc := mc) (ms := ms) (ag := fun α' => ∀ k, k < T.length → α' k = α k) (va_runV (Ts := gw) (As := as.map (gv α)) (rest := st.map (gv α)) (n := n) (b := α b) (C := y.cls) ⟨hx, hb, hml, hown, hts⟩ (hc l D α cA H.size) ⟨callB_of n hts (gw_self m2) rfl rfl rfl (hts _ m1) (hts _ hl1) ⟨m3, m4, m5⟩ ⟨Nat.le_trans hdd r1, by show 8 + (nL2 + 11) + 60 * d' ≤ R.locals; omega⟩, hts _ hv.1, hts _ hv.2⟩ ⟨pre_blind, hrcv, fun U hU hWm => ⟨rfl, by rw [hU], by rw [hU]; exact hW.warm hWm (fun _ _ => trivial)⟩⟩ rfl (by simp [hn]) hl.1 (by rw [hstk, map_app]; rfl) (lv_room (by rw [cat_gv]; exact hcat)) hd ⟨r3, r4⟩) hS hF hnw (fun H1 locs1 α' cA' hag hW1 hS1 => ?_)
  have hgo := kk hx hb hml hown hts hlk hA H1 locs1 ls α' cA' (fun k hk => by rw [hag k (hO k hk)]; exact ha k hk) hW1 hS1 (by rw [lo_ag hag hlo]; exact hl)
  rw [← rv_app hrv, gvs_ag hag hst, nrv_gv hrv] at hgo
  rw [nrv_gv hrv]
  exact hgo
theorem CtA.of {av : List Value} (hrv : nrv rv = true) (hy : plainName y.cls = true) (hfit : (lg_sl av).length ≤ nL)
    (h : ∀ (X : CX), XR X d mc ms → XN X y.name → XOl X T.length → (∀ (p : Program) (l : Launch) (e : Env) (R : Room) (s : State) (m : MethodId) (args : Array Value) (below : List Frame) (meth : Method) (c : Code) (Q : State → Prop) (A : Nat → Prop) (D : va_G) (n0 : Nat → Prop) (α0 : Nat → Nat), X = (p, l, e, R, s, m, args, below, meth, c, Q, A, D, n0, α0) → meth.sig.returnType = ret ∧ meth.locks = false ∧ ∃ Qc free, Q = MQ below Qc args s mc ms free ∧ (∀ q, A q → free q) ∧ ∀ (t : State) (H : Heap) (locs : List Loc) (α : Nat → Nat) (cA : Nat → ClassId), (∀ k, n0 k → α k = α0 k) → Wd D A T' μ' α cA s H → va_S A s.heap H locs → t.heap = H → s.WarmedH t.vm → Qc args s (.returned rv) t) → Wp X cc y.cls nL T μ 0 0 0 (lv_args 0 av) []) :
    CtA d y cc nL ret T μ av rv T' μ' mc ms := by
  intro l D α cA sz
  refine Met.ofW (cc := cc) (maxL := nL) (ret := ret) hy rfl ?_
  intro p e s m args below meth c s₁ B hml hv
  obtain ⟨rfl, hsz, hWd⟩ := hv
  subst hsz
  have hx := B.exec
  have hb := B.bytes
  have hr := B.returns
  have hts := atoms_spec (ws := Cond.code y cc nL ret :: gw) B.pre
  have hown : s.vm.findClass y.cls = some m.cls := findClass_of_methodNamed B.named
  have hlocks := B.notSynchronized
  have hin : meth.name = y.name := (name_of_methodNamed B.named B.method).1
  have hl := lv_entry (av.map (gv α)) (n := nL) (by rw [lg_sl_gv]; exact hfit)
  rw [lg_entry_eq]
  generalize (lg_sl (av.map (gv α)) ++ List.replicate (nL - (lg_sl (av.map (gv α))).length) Slot.unset).toArray = ls at hl ⊢
  rw [lv_args_gv] at hl
  obtain ⟨tys, hK, hP, hD, ht, hnw⟩ := id hWd
  have key := h (p, l, e, (headSpec (Cond.code y cc nL ret :: gw) { frames := d, cells := mc, slots := ms, locals := 60 * d }).room, s, m, (av.map (gv α)).toArray, below, meth, c, MQ below (fun _ st oc t => oc = .returned (rv.map (gv α)) ∧ (∃ (α' : Nat → Nat) (cA' : Nat → ClassId), (∀ k, k < T.length → α' k = α k) ∧ Wd D (va_A (wS T μ α cA) s.heap.size) T' μ' α' cA' t t.heap) ∧ va_F (va_A (wS T μ α cA) s.heap.size) st t) (av.map (gv α)).toArray s mc ms (va_A (wS T μ α cA) s.heap.size), va_A (wS T μ α cA) s.heap.size, D, (fun k => k < T.length), α) ⟨Nat.le_refl _, Nat.le_refl _, Nat.le_refl _, Nat.le_refl _⟩ hin (fun k hk => hk) ?_
  · exact key hx hb hml hown (fun w hw => hts w (List.mem_cons_of_mem _ hw)) hlocks (fun q h => Or.inr h) s.heap [] ls α cA (fun _ _ => rfl) ⟨tys, hK, hP, hD.self, ht, hnw⟩ va_S.rf hl
  · intro p' l' e' R' s' m' args' below' meth' c' Q' A' D' n0' α0' hX
    cases hX
    refine ⟨hr, hlocks, _, _, rfl, fun q h => h, ?_⟩
    intro t H locs α' cA' ha hW hS hH hWm
    refine ⟨by rw [nrv_gv hrv], ⟨α', cA', ha, ?_⟩, hS.F hH⟩
    rw [hH]
    exact hW.warm hWm (fun _ h => h)
theorem CtA.ofV {av : List Value} (hy : plainName y.cls = true) (hfit : (lg_sl av).length ≤ nL) (h : ∀ (X : CX), XR X d mc ms → XN X y.name → XOl X T.length → FnV X cc y.cls nL T' mc ms μ' → Wp X cc y.cls nL T μ 0 0 0 (lv_args 0 av) []) : CtA d y cc nL none T μ av none T' μ' mc ms := by
  refine CtA.of rfl hy hfit (fun X hX hN hO hq => h X hX hN hO ?_)
  intro pc lo hd
  obtain ⟨p, l, e, R, s, m, args, below, meth, c, Q, A, D, n0, α0⟩ := X
  intro hx hb hml hown hts hlk hA H locs ls α cA ha hW hS hl
  obtain ⟨h1, h2, Qc, free, rfl, h4, h5⟩ := hq _ _ _ _ _ _ _ _ _ _ _ _ _ _ _ rfl
  exact W.vret hx hb h1 (fun t ht hw => h5 t H locs α cA ha hW hS ht hw) (fun q hq => h4 _ (hS.2.2 q hq)) hd h2
theorem CtA.ofI {av : List Value} {v : Int32} (hy : plainName y.cls = true) (hfit : (lg_sl av).length ≤ nL) (h : ∀ (X : CX), XR X d mc ms → XN X y.name → XOl X T.length → FnI X cc y.cls nL T' mc ms (v, μ') → Wp X cc y.cls nL T μ 0 0 0 (lv_args 0 av) []) : CtA d y cc nL (some .int) T μ av (some (.int v)) T' μ' mc ms := by
  refine CtA.of rfl hy hfit (fun X hX hN hO hq => h X hX hN hO ?_)
  intro pc lo hd
  obtain ⟨p, l, e, R, s, m, args, below, meth, c, Q, A, D, n0, α0⟩ := X
  intro hx hb hml hown hts hlk hA H locs ls α cA ha hW hS hl
  obtain ⟨h1, h2, Qc, free, rfl, h4, h5⟩ := hq _ _ _ _ _ _ _ _ _ _ _ _ _ _ _ rfl
  exact W.iret hx hb h1 (fun t ht hw => h5 t H locs α cA ha hW hS ht hw) (fun q hq => h4 _ (hS.2.2 q hq)) hd h2
theorem CtA.ofJ {av : List Value} {v : Int64} (hy : plainName y.cls = true) (hfit : (lg_sl av).length ≤ nL) (h : ∀ (X : CX), XR X d mc ms → XN X y.name → XOl X T.length → FnJ X cc y.cls nL T' mc ms (v, μ') → Wp X cc y.cls nL T μ 0 0 0 (lv_args 0 av) []) : CtA d y cc nL (some .long) T μ av (some (.long v)) T' μ' mc ms := by
  refine CtA.of rfl hy hfit (fun X hX hN hO hq => h X hX hN hO ?_)
  intro pc lo hd
  obtain ⟨p, l, e, R, s, m, args, below, meth, c, Q, A, D, n0, α0⟩ := X
  intro hx hb hml hown hts hlk hA H locs ls α cA ha hW hS hl
  obtain ⟨h1, h2, Qc, free, rfl, h4, h5⟩ := hq _ _ _ _ _ _ _ _ _ _ _ _ _ _ _ rfl
  exact W.lret hx hb h1 (fun t ht hw => h5 t H locs α cA ha hW hS ht hw) (fun q hq => h4 _ (hS.2.2 q hq)) hd h2
end WPB
