/-! ===== a constructor that knows the string and the rows of crews ===== -/
def XAo (X : CX) : Prop := match X with
  | (_, _, _, _, s, _, _, _, _, _, _, _, _, _, _) => va_AO "GalleyStroke$Crew" s
def CtQ (d : Nat) (y : MethodName) (cc : ByteArray) (nL : Nat) (ret : Option FieldType) (T : List Dsc) (μ : Mem) (av : List Value) (rv : Option Value) (T' : List Dsc) (μ' : Mem) (mc ms : Nat) : Prop :=
  ∀ (l : Launch) (D : va_G) (α : Nat → Nat) (cA : Nat → ClassId) (sz a v f : Nat),
    Met l y (Cond.code y cc nL ret :: gw) { frames := d, cells := mc, slots := ms, locals := 60 * d }
      (va_Pc (av.map (gv α)) (fun U => U.heap.size = sz ∧ Wd D (fun _ => True) T μ α cA U U.heap ∧ SW a v f (va_A (wS T μ α cA) sz) U U.heap ∧ va_AO "GalleyStroke$Crew" U))
      (fun _ st oc t => oc = .returned (rv.map (gv α)) ∧ (∃ (α' : Nat → Nat) (cA' : Nat → ClassId), (∀ k, k < T.length → α' k = α k) ∧ Wd D (va_A (wS T μ α cA) sz) T' μ' α' cA' t t.heap) ∧ va_F (va_A (wS T μ α cA) sz) st t)
      mc ms (va_A (wS T μ α cA) sz)
section WPQ2
variable {cc : ByteArray} {nL : Nat} {T T' : List Dsc} {μ μ' : Mem} {d mc ms : Nat} {y : MethodName} {ret : Option FieldType} {rv : Option Value}
theorem CtQ.of {av : List Value} (hrv : nrv rv = true) (hy : plainName y.cls = true) (hfit : (lg_sl av).length ≤ nL)
    (h : ∀ (X : CX) (a v f : Nat), XR X d mc ms → XN X y.name → XOl X T.length → XSt X a v f → XAo X → (∀ (p : Program) (l : Launch) (e : Env) (R : Room) (s : State) (m : MethodId) (args : Array Value) (below : List Frame) (meth : Method) (c : Code) (Q : State → Prop) (A : Nat → Prop) (D : va_G) (n0 : Nat → Prop) (α0 : Nat → Nat), X = (p, l, e, R, s, m, args, below, meth, c, Q, A, D, n0, α0) → meth.sig.returnType = ret ∧ meth.locks = false ∧ ∃ Qc free, Q = MQ below Qc args s mc ms free ∧ (∀ q, A q → free q) ∧ ∀ (t : State) (H : Heap) (locs : List Loc) (α : Nat → Nat) (cA : Nat → ClassId), (∀ k, n0 k → α k = α0 k) → Wd D A T' μ' α cA s H → va_S A s.heap H locs → t.heap = H → s.WarmedH t.vm → Qc args s (.returned rv) t) → Wp X cc y.cls nL T μ 0 0 0 (lv_args 0 av) []) :
    CtQ d y cc nL ret T μ av rv T' μ' mc ms := by
  intro l D α cA sz a v f
  refine Met.ofW (cc := cc) (maxL := nL) (ret := ret) hy rfl ?_
  intro p e s m args below meth c s₁ B hml hv
  obtain ⟨rfl, hsz, hWd, hSW, hAo⟩ := hv
  subst hsz
  have hx := B.exec
  have hb := B.bytes
  have hr := B.returns
  have hts := atoms_spec (ws := Cond.code y cc nL ret :: gw) B.pre
  have hown : s.vm.findClass y.cls = some m.cls := findClass_of_methodNamed B.named
  have hlocks := B.notSynchronized
  have hin : meth.name = y.name := (name_of_methodNamed B.named B.method).1
  have hl := lv_entry (av.map (gv α)) (n := nL) (by rw [lg_sl_gv]; exact hfit)
  rw [lg_entry_eq]
  generalize (lg_sl (av.map (gv α)) ++ List.replicate (nL - (lg_sl (av.map (gv α))).length) Slot.unset).toArray = ls at hl ⊢
  rw [lv_args_gv] at hl
  obtain ⟨tys, hK, hP, hD, ht, hnw⟩ := id hWd
  have key := h (p, l, e, (headSpec (Cond.code y cc nL ret :: gw) { frames := d, cells := mc, slots := ms, locals := 60 * d }).room, s, m, (av.map (gv α)).toArray, below, meth, c, MQ below (fun _ st oc t => oc = .returned (rv.map (gv α)) ∧ (∃ (α' : Nat → Nat) (cA' : Nat → ClassId), (∀ k, k < T.length → α' k = α k) ∧ Wd D (va_A (wS T μ α cA) s.heap.size) T' μ' α' cA' t t.heap) ∧ va_F (va_A (wS T μ α cA) s.heap.size) st t) (av.map (gv α)).toArray s mc ms (va_A (wS T μ α cA) s.heap.size), va_A (wS T μ α cA) s.heap.size, D, (fun k => k < T.length), α) a v f ⟨Nat.le_refl _, Nat.le_refl _, Nat.le_refl _, Nat.le_refl _⟩ hin (fun k hk => hk) hSW hAo ?_
  · exact key hx hb hml hown (fun w hw => hts w (List.mem_cons_of_mem _ hw)) hlocks (fun q h => Or.inr h) s.heap [] ls α cA (fun _ _ => rfl) ⟨tys, hK, hP, hD.self, ht, hnw⟩ va_S.rf hl
  · intro p' l' e' R' s' m' args' below' meth' c' Q' A' D' n0' α0' hX
    cases hX
    refine ⟨hr, hlocks, _, _, rfl, fun q h => h, ?_⟩
    intro t H locs α' cA' ha hW hS hH hWm
    refine ⟨by rw [nrv_gv hrv], ⟨α', cA', ha, ?_⟩, hS.F hH⟩
    rw [hH]
    exact hW.warm hWm (fun _ h => h)
theorem CtQ.ofV {av : List Value} (hy : plainName y.cls = true) (hfit : (lg_sl av).length ≤ nL) (h : ∀ (X : CX) (a v f : Nat), XR X d mc ms → XN X y.name → XOl X T.length → XSt X a v f → XAo X → FnV X cc y.cls nL T' mc ms μ' → Wp X cc y.cls nL T μ 0 0 0 (lv_args 0 av) []) : CtQ d y cc nL none T μ av none T' μ' mc ms := by
  refine CtQ.of rfl hy hfit (fun X a v f hX hN hO hs hao hq => h X a v f hX hN hO hs hao ?_)
  intro pc lo hd
  obtain ⟨p, l, e, R, s, m, args, below, meth, c, Q, A, D, n0, α0⟩ := X
  intro hx hb hml hown hts hlk hA H locs ls α cA ha hW hS hl
  obtain ⟨h1, h2, Qc, free, rfl, h4, h5⟩ := hq _ _ _ _ _ _ _ _ _ _ _ _ _ _ _ rfl
  exact W.vret hx hb h1 (fun t ht hw => h5 t H locs α cA ha hW hS ht hw) (fun q hq => h4 _ (hS.2.2 q hq)) hd h2
variable {X : CX} {own : String} {n1 n2 pc : Nat} {lo : List (Nat × Value)} {st : List Value}
theorem Wp.newQa {C : String} {n : Int32} {N ix : Nat} (hF : Frs μ T.length) (hO : XOl X T.length) (hX : XR X d (n1 + 1) (n2 + N)) (hst : ∀ v ∈ st, vbl T.length v) (hlo : ∀ q ∈ lo, vbl T.length q.2) (hcl : Cond.classLink own ix C ∈ gw) (hao : XAo X) (hC : C = "GalleyStroke$Crew") (hn0 : ¬ n < 0) (hN : n.toNatClampNeg = N) (hbytes : N * 4 ≤ 536870912) (hd : decode cc pc = .ok (.anewarray ix, 3))
    (kk : Wp X cc own nL (T ++ [.inr (.object C, N)]) μ (n1 + 1) (n2 + N) (pc + 3) lo (.ref T.length :: st)) : Wp X cc own nL T μ n1 n2 pc lo (.int n :: st) := by
  obtain ⟨p, l, e, R, s, m, args, below, meth, c, Q, A, D, n0, α0⟩ := X
  intro hx hb hml hown hts hlk hA H locs ls α cA ha hW hS hl
  obtain ⟨tys, hK, hP, hD, ht, hn⟩ := hW
  obtain ⟨r1, r2, r3, r4⟩ := hX
  refine va_newq hx hb hown (hts _ hcl) (by rw [hC]; exact hao) hK hP hD hS hA hn0 hN hbytes r3 r4 hd (fun q cB H1 hK1 hP1 hD1 hS1 => ?_)
  have hT : (T ++ [Sum.inr (.object C, N)])[T.length]? = some (Sum.inr (.object C, N) : Dsc) := by simp
  have e := wS_push (T := T) (μ := μ) (α := α) (cA := cA) (q := q) (cB := cB) (d := .inr (.object C, N)) hF
  have eR : aE μ α (.object C) T.length = .inr (.inr (.inr (.inr (fun _ => none)))) := by
    show Sum.inr (Sum.inr (Sum.inr (Sum.inr (fun j => (gR μ T.length j).map α)))) = _
    congr 4
    funext j
    rw [(hF.1 T.length j (Nat.le_refl _)).2.2]
    rfl
  rw [eN_arr hT, al_at, eR] at e
  rw [← e] at hP1 hD1
  have hgo := kk hx hb hml hown hts hlk hA H1 locs ls (al α T.length q) (al cA T.length cB) (fun k hk => by rw [al_lt α q (hO k hk)]; exact ha k hk) ⟨tys ++ [(cB, .object C)], hK1, hP1, hD1, ?_, hn⟩ hS1 (by rw [lo_al hlo]; exact hl)
  · rw [List.map_cons, gvs_al hst] at hgo
    have e2 : gv (al α T.length q) (.ref T.length) = .ref q := congrArg Value.ref (al_at α T.length q)
    rw [e2] at hgo
    exact hgo
  · intro k n ty' hk
    by_cases hl' : k < T.length
    · rw [List.getElem?_append_left hl'] at hk
      rw [al_lt cA _ hl']
      obtain ⟨t0, h0⟩ := ht k n ty' hk
      exact ⟨t0, by rw [List.getElem?_append_left (List.getElem?_eq_some_iff.mp h0).1]; exact h0⟩
    · rw [List.getElem?_append_right (by omega)] at hk
      have hz : k - T.length < 1 := (List.getElem?_eq_some_iff.mp hk).1
      have hk0 : k = T.length := by omega
      subst hk0
      rw [Nat.sub_self] at hk
      cases hk
      exact ⟨tys.length, by rw [al_at]; simp⟩
end WPQ2
