/-! ===== rows of the law's own ===== -/
/-- the script: L ints xs at the cell b; the walk's number 1000 is its reference -/
def XLw (X : CX) (b L : Nat) (xs : Nat → Int32) : Prop := match X with
  | (_, _, _, _, s, _, _, _, _, _, _, A, _, n0, α0) => va_X b L xs s s.heap ∧ b < s.heap.size ∧ ¬ A b ∧ (∀ k, n0 k ↔ k = 1000) ∧ α0 1000 = b
def vbx (N : Nat) (v : Value) : Prop := match v with
  | .ref r => r ≠ N
  | _ => True
def vby (a b : Nat) (v : Value) : Prop := match v with
  | .ref r => r < a ∨ b ≤ r
  | _ => True
theorem gv_alx {α : Nat → Nat} {N q : Nat} {v : Value} (h : vbx N v) : gv (al α N q) v = gv α v := by
  cases v with
  | ref r => exact congrArg Value.ref (if_neg h)
  | _ => rfl
theorem gvs_alx {α : Nat → Nat} {N q : Nat} {st : List Value} (h : ∀ v ∈ st, vbx N v) : st.map (gv (al α N q)) = st.map (gv α) := List.map_congr_left (fun v hv => gv_alx (h v hv))
theorem lo_alx {α : Nat → Nat} {N q : Nat} {lo : List (Nat × Value)} (h : ∀ x ∈ lo, vbx N x.2) : lo.map (fun x => (x.1, gv (al α N q) x.2)) = lo.map (fun x => (x.1, gv α x.2)) := List.map_congr_left (fun x hx => by rw [gv_alx (h x hx)])
/-- the cells' addresses; the others as they were -/
def fixA (α α' : Nat → Nat) (N : Nat) : Nat → Nat := fun k => if k < N then α' k else α k
theorem gv_fix {α α' : Nat → Nat} {a N : Nat} {v : Value} (ha : ∀ k, k < a → α' k = α k) (h : vby a N v) : gv (fixA α α' N) v = gv α v := by
  cases v with
  | ref r =>
    refine congrArg Value.ref ?_
    show (if r < N then α' r else α r) = α r
    rcases h with h | h
    · split
      · exact ha r h
      · rfl
    · exact if_neg (Nat.not_lt.mpr h)
  | _ => rfl
theorem gvs_fix {α α' : Nat → Nat} {a N : Nat} {st : List Value} (ha : ∀ k, k < a → α' k = α k) (h : ∀ v ∈ st, vby a N v) : st.map (gv (fixA α α' N)) = st.map (gv α) := List.map_congr_left (fun v hv => gv_fix ha (h v hv))
theorem lo_fix {α α' : Nat → Nat} {a N : Nat} {lo : List (Nat × Value)} (ha : ∀ k, k < a → α' k = α k) (h : ∀ x ∈ lo, vby a N x.2) : lo.map (fun x => (x.1, gv (fixA α α' N) x.2)) = lo.map (fun x => (x.1, gv α x.2)) := List.map_congr_left (fun x hx => by rw [gv_fix ha (h x hx)])
theorem wS_fix {T : List Dsc} {μ : Mem} {α α' : Nat → Nat} {cA : Nat → ClassId} (hF : ∀ k j r, gR μ k j = some r → r < T.length) : wS T μ (fixA α α' T.length) cA = wS T μ α' cA := by
  have hf : ∀ r, r < T.length → fixA α α' T.length r = α' r := fun r hr => if_pos hr
  have hm : ∀ k j, (gR μ k j).map (fixA α α' T.length) = (gR μ k j).map α' := by
    intro k j
    cases h : gR μ k j with
    | none => rfl
    | some r => exact congrArg some (hf r (hF k j r h))
  unfold wS
  apply List.map_congr_left
  intro k hk
  rw [hf k (List.mem_range.mp hk)]
  congr 1
  unfold eN
  split
  · congr 2
    apply List.map_congr_left
    intro j _
    unfold fV
    split <;> first | rfl | rw [hm]
  · congr 3
    unfold aE
    split <;> first | rfl | (congr 4; funext j; exact hm _ _)
  · rfl
theorem Wd.fix {D : va_G} {A : Nat → Prop} {T : List Dsc} {μ : Mem} {α α' : Nat → Nat} {cA : Nat → ClassId} {s : State} {H : Heap} (h : Wd D A T μ α' cA s H) (hF : ∀ k j r, gR μ k j = some r → r < T.length) : Wd D A T μ (fixA α α' T.length) cA s H := by
  unfold Wd at h ⊢
  rw [wS_fix hF]
  exact h
theorem vyn {a b : Nat} : ∀ v ∈ ([] : List Value), vby a b v := fun v h => by cases h
theorem vyc {a b : Nat} {v : Value} {l : List Value} (h : vby a b v) (hl : ∀ v ∈ l, vby a b v) : ∀ u ∈ v :: l, vby a b u := fun u hu => (List.mem_cons.mp hu).elim (fun e => e ▸ h) (hl u)
theorem lyn {a b : Nat} : ∀ q ∈ ([] : List (Nat × Value)), vby a b q.2 := fun v h => by cases h
theorem lyc {a b i : Nat} {v : Value} {l : List (Nat × Value)} (h : vby a b v) (hl : ∀ q ∈ l, vby a b q.2) : ∀ q ∈ (i, v) :: l, vby a b q.2 := fun u hu => (List.mem_cons.mp hu).elim (fun e => e ▸ h) (hl u)
theorem vxn {M : Nat} : ∀ v ∈ ([] : List Value), vbx M v := fun v h => by cases h
theorem vxc {M : Nat} {v : Value} {l : List Value} (h : vbx M v) (hl : ∀ v ∈ l, vbx M v) : ∀ u ∈ v :: l, vbx M u := fun u hu => (List.mem_cons.mp hu).elim (fun e => e ▸ h) (hl u)
theorem lxn {M : Nat} : ∀ q ∈ ([] : List (Nat × Value)), vbx M q.2 := fun v h => by cases h
theorem lxc {M i : Nat} {v : Value} {l : List (Nat × Value)} (h : vbx M v) (hl : ∀ q ∈ l, vbx M q.2) : ∀ q ∈ (i, v) :: l, vbx M q.2 := fun u hu => (List.mem_cons.mp hu).elim (fun e => e ▸ h) (hl u)
section WLW
variable {X : CX} {cc : ByteArray} {own : String} {nL : Nat} {T T' : List Dsc} {μ μ' : Mem} {n1 n2 pc : Nat} {lo : List (Nat × Value)} {st stk as : List Value} {d d' mc ms bs L : Nat} {xs : Nat → Int32} {y : MethodName} {c2 : ByteArray} {nL2 n ix b ci : Nat} {ret : Option FieldType} {rv : Option Value}
theorem Wp.slen (hLw : XLw X bs L xs) (hd : decode cc pc = .ok (.arraylength, 1)) (kk : Wp X cc own nL T μ n1 n2 (pc + 1) lo (.int (nI L) :: st)) : Wp X cc own nL T μ n1 n2 pc lo (.ref 1000 :: st) := by
  obtain ⟨p, l, e, R, s, m, args, below, meth, c, Q, A, D, n0, α0⟩ := X
  intro hx hb hml hown hts hlk hA H locs ls α cA ha hW hS hl
  obtain ⟨w1, w2, w3, w4, w5⟩ := hLw
  have h1 : α 1000 = bs := (ha 1000 ((w4 1000).mpr rfl)).trans w5
  show W p l e R s m args below meth c H locs n1 n2 Q (F0 m pc ls (.ref (α 1000) :: st.map (gv α)))
  rw [h1]
  exact va_slen hx hb w1 w2 w3 hS hd (kk hx hb hml hown hts hlk hA H locs ls α cA ha hW hS hl)
theorem Wp.sld {i : Int32} (hLw : XLw X bs L xs) (hi : vp_in i L) (hd : decode cc pc = .ok (.iaload, 1)) (kk : Wp X cc own nL T μ n1 n2 (pc + 1) lo (.int (xs i.toNatClampNeg) :: st)) : Wp X cc own nL T μ n1 n2 pc lo (.int i :: .ref 1000 :: st) := by
  obtain ⟨p, l, e, R, s, m, args, below, meth, c, Q, A, D, n0, α0⟩ := X
  intro hx hb hml hown hts hlk hA H locs ls α cA ha hW hS hl
  obtain ⟨w1, w2, w3, w4, w5⟩ := hLw
  have h1 : α 1000 = bs := (ha 1000 ((w4 1000).mpr rfl)).trans w5
  show W p l e R s m args below meth c H locs n1 n2 Q (F0 m pc ls (.int i :: .ref (α 1000) :: st.map (gv α)))
  rw [h1]
  exact va_sld hx hb w1 w2 w3 hS hi hd (kk hx hb hml hown hts hlk hA H locs ls α cA ha hW hS hl)
theorem Wp.sarg {i k : Nat} {kI : Int32} (hLw : XLw X bs L xs) (hk : kI = nI k) (h : i + k < L) (hLL : L ≤ 3072) (hd : decode cc pc = .ok (.iaload, 1)) (kk : Wp X cc own nL T μ n1 n2 (pc + 1) lo (.int (xs (i + k)) :: st)) : Wp X cc own nL T μ n1 n2 pc lo (.int (nI i + kI) :: .ref 1000 :: st) := by
  subst hk
  rw [nI_add]
  refine Wp.sld hLw (vp_in_nI h (by omega)) hd ?_
  rw [nI_clamp (by omega)]
  exact kk
theorem Wp.newOx {M : Nat} (hM : T.length = M) (hF : Frs μ M) (hLw : XLw X bs L xs) (hM1 : M ≠ 1000) (hX : XR X d (n1 + 1) (n2 + cN ci)) (hst : ∀ v ∈ st, vbx M v) (hlo : ∀ q ∈ lo, vbx M q.2) (hc : NwK own ix ci) (hd : decode cc pc = .ok (.new ix, 3))
    (kk : Wp X cc own nL (T ++ [.inl ci]) μ (n1 + 1) (n2 + cN ci) (pc + 3) lo (.ref M :: st)) : Wp X cc own nL T μ n1 n2 pc lo st := by
  subst hM
  obtain ⟨p, l, e, R, s, m, args, below, meth, c, Q, A, D, n0, α0⟩ := X
  intro hx hb hml hown hts hlk hA H locs ls α cA ha hW hS hl
  obtain ⟨w1, w2, w3, w4, w5⟩ := hLw
  obtain ⟨C, TT, N, h1, h2, h3, h4, h5⟩ := hc
  obtain ⟨k1, k2, k3, k4, k5⟩ := ck h1
  obtain ⟨tys, hK, hP, hD, ht, hn⟩ := hW
  obtain ⟨r1, r2, r3, r4⟩ := hX
  refine va_new hx hb hts k3 (fT ci) k1 hown (hts _ h2) (hts _ h3) (hts _ h4) hK hP hD hS hA h1 (fs := (List.range (cN ci)).map (fun j => fV μ α (fT ci j) T.length j)) (fun j hj => ?_) r3 (by rw [← k5]; exact r4) hd (fun q H1 hP1 hD1 hS1 => ?_)
  · rw [fV_df (α := α) (j := j) hF (h5 j hj), k5]
    simp [vp_V, hj]
  · have hT : (T ++ [Sum.inl ci])[T.length]? = some (Sum.inl ci : Dsc) := by simp
    have e := wS_push (T := T) (μ := μ) (α := α) (cA := cA) (q := q) (cB := cA T.length) (d := .inl ci) hF
    rw [eN_obj hT] at e
    rw [← e] at hP1 hD1
    rw [← k5]
    have hgo := kk hx hb hml hown hts hlk hA H1 locs ls (al α T.length q) (al cA T.length (cA T.length)) (fun k hk => by
      have hk1 := (w4 k).mp hk
      rw [show al α T.length q k = α k from if_neg (by omega)]
      exact ha k hk) ⟨tys, hK, hP1, hD1, ?_, hn⟩ hS1 (by rw [lo_alx hlo]; exact hl)
    · rw [List.map_cons, gvs_alx hst] at hgo
      have e2 : gv (al α T.length q) (.ref T.length) = .ref q := congrArg Value.ref (al_at α T.length q)
      rw [e2] at hgo
      exact hgo
    · intro k n ty hk
      by_cases hl' : k < T.length
      · rw [List.getElem?_append_left hl'] at hk
        rw [al_lt cA _ hl']
        exact ht k n ty hk
      · exfalso
        rw [List.getElem?_append_right (by omega)] at hk
        have hz : k - T.length < 1 := (List.getElem?_eq_some_iff.mp hk).1
        rw [show k - T.length = 0 by omega] at hk
        cases hk
theorem Wp.callIx (hc : CtA d' y c2 nL2 none T μ (.ref b :: as) none T' μ' mc ms) (hin : y.name = "<init>") (hl1 : ML own ix y) (hv : Cond.instanceMethod y ∈ gw) (hm : MB y c2 nL2 none n) (hX : XR X d (n1 + mc) (n2 + ms)) (hLw : XLw X bs L xs) (hF : ∀ k j r, gR μ' k j = some r → r < T'.length) (hK1 : T'.length ≤ 1000) (hst : ∀ v ∈ st, vby T.length T'.length v) (hlo : ∀ q ∈ lo, vby T.length T'.length q.2) (hdd : d' + 1 ≤ d) (hnl : nL2 + 19 ≤ 60) (hn : as.length = n) (hcat : (st.map fun v => v.category).sum ≤ 8) (hd : decode cc pc = .ok (.invokespecial ix, 3)) (hstk : stk = as.reverse ++ .ref b :: st)
    (kk : Wp X cc own nL T' μ' (n1 + mc) (n2 + ms) (pc + 3) lo st) : Wp X cc own nL T μ n1 n2 pc lo stk := by
  obtain ⟨p, l, e, R, s, m, args, below, meth, c, Q, A, D, n0, α0⟩ := X
  intro hx hb hml hown hts hlk hA H locs ls α cA ha hW hS hl
  obtain ⟨w1, w2, w3, w4, w5⟩ := hLw
  obtain ⟨tys, hK, hP, hD, ht, hnw⟩ := id hW
  obtain ⟨m1, m2, m3, m4, m5⟩ := hm
  obtain ⟨r1, r2, r3, r4⟩ := hX
  have hF0 := wS_free hD hS hA
  refine cg (rv := none) (mc := mc) (ms := ms) (ag := fun α' => ∀ k, k < T.length → α' k = α k) (va_runI (Ts := gw) (As := as.map (gv α)) (rest := st.map (gv α)) (n := n) (b := α b) ⟨hx, hb, hml, hown, hts⟩ (hc l D α cA H.size) ⟨callB_of n hts (gw_self m2) rfl rfl rfl (hts _ m1) (hts _ hl1) ⟨m3, m4, m5⟩ ⟨Nat.le_trans hdd r1, by show 8 + (nL2 + 11) + 60 * d' ≤ R.locals; omega⟩, hin, hts _ hv⟩ ⟨pre_blind, fun U hU hWm => ⟨rfl, by rw [hU], by rw [hU]; exact hW.warm hWm (fun _ _ => trivial)⟩⟩ rfl (by simp [hn]) hl.1 (by rw [hstk, map_app]; rfl) (lv_room (by rw [cat_gv]; exact hcat)) hd ⟨r3, r4⟩) hS hF0 hnw (fun H1 locs1 α' cA' hag hW1 hS1 => ?_)
  have hgo := kk hx hb hml hown hts hlk hA H1 locs1 ls (fixA α α' T'.length) cA' (fun k hk => by
    have hk1 := (w4 k).mp hk
    rw [show fixA α α' T'.length k = α k from if_neg (by omega)]
    exact ha k hk) (hW1.fix hF) hS1 (by rw [lo_fix hag hlo]; exact hl)
  rw [gvs_fix hag hst] at hgo
  exact hgo
theorem Wp.callIQx {a v f : Nat} (hS0 : XSt X a v f) (hAo : XAo X) (hc : CtQ d' y c2 nL2 none T μ (.ref b :: as) none T' μ' mc ms) (hin : y.name = "<init>") (hl1 : ML own ix y) (hv : Cond.instanceMethod y ∈ gw) (hm : MB y c2 nL2 none n) (hX : XR X d (n1 + mc) (n2 + ms)) (hLw : XLw X bs L xs) (hF : ∀ k j r, gR μ' k j = some r → r < T'.length) (hK1 : T'.length ≤ 1000) (hst : ∀ v ∈ st, vby T.length T'.length v) (hlo : ∀ q ∈ lo, vby T.length T'.length q.2) (hdd : d' + 1 ≤ d) (hnl : nL2 + 19 ≤ 60) (hn : as.length = n) (hcat : (st.map fun v => v.category).sum ≤ 8) (hd : decode cc pc = .ok (.invokespecial ix, 3)) (hstk : stk = as.reverse ++ .ref b :: st)
    (kk : Wp X cc own nL T' μ' (n1 + mc) (n2 + ms) (pc + 3) lo st) : Wp X cc own nL T μ n1 n2 pc lo stk := by
  obtain ⟨p, l, e, R, s, m, args, below, meth, c, Q, A, D, n0, α0⟩ := X
  intro hx hb hml hown hts hlk hA H locs ls α cA ha hW hS hl
  obtain ⟨w1, w2, w3, w4, w5⟩ := hLw
  obtain ⟨tys, hK, hP, hD, ht, hnw⟩ := id hW
  obtain ⟨m1, m2, m3, m4, m5⟩ := hm
  obtain ⟨r1, r2, r3, r4⟩ := hX
  have hF0 := wS_free hD hS hA
  have hsw : SW a v f (va_A (wS T μ α cA) H.size) s H := (hS0.kept hS.2.1).narrow hF0
  refine cg (rv := none) (mc := mc) (ms := ms) (ag := fun α' => ∀ k, k < T.length → α' k = α k) (va_runI (Ts := gw) (As := as.map (gv α)) (rest := st.map (gv α)) (n := n) (b := α b) ⟨hx, hb, hml, hown, hts⟩ (hc l D α cA H.size a v f) ⟨callB_of n hts (gw_self m2) rfl rfl rfl (hts _ m1) (hts _ hl1) ⟨m3, m4, m5⟩ ⟨Nat.le_trans hdd r1, by show 8 + (nL2 + 11) + 60 * d' ≤ R.locals; omega⟩, hin, hts _ hv⟩ ⟨fun a U g mk h => ⟨h.1, h.2.1, h.2.2.1.blind, h.2.2.2.1.blind, va_AO.moved (u := U) (U := U.calling g mk a) (Vm.Alike.refl U.vm) h.2.2.2.2⟩, fun U hU hWm => ⟨rfl, by rw [hU], by rw [hU]; exact hW.warm hWm (fun _ _ => trivial), by rw [hU]; exact hsw.warm hWm, va_AO.moved hWm.alike hAo⟩⟩ rfl (by simp [hn]) hl.1 (by rw [hstk, map_app]; rfl) (lv_room (by rw [cat_gv]; exact hcat)) hd ⟨r3, r4⟩) hS hF0 hnw (fun H1 locs1 α' cA' hag hW1 hS1 => ?_)
  have hgo := kk hx hb hml hown hts hlk hA H1 locs1 ls (fixA α α' T'.length) cA' (fun k hk => by
    have hk1 := (w4 k).mp hk
    rw [show fixA α α' T'.length k = α k from if_neg (by omega)]
    exact ha k hk) (hW1.fix hF) hS1 (by rw [lo_fix hag hlo]; exact hl)
  rw [gvs_fix hag hst] at hgo
  exact hgo
theorem Wp.callVAx (hc : CtA d' y c2 nL2 ret T μ (.ref b :: as) rv T' μ' mc ms) (hrv : nrv rv = true) (hl1 : ML own ix y) (hv : MV y) (hm : MB y c2 nL2 ret n) (hX : XR X d (n1 + mc) (n2 + ms)) (hLw : XLw X bs L xs) (hF : ∀ k j r, gR μ' k j = some r → r < T'.length) (hK1 : T'.length ≤ 1000) (hst : ∀ v ∈ st, vby T.length T'.length v) (hlo : ∀ q ∈ lo, vby T.length T'.length q.2) (hdd : d' + 1 ≤ d) (hnl : nL2 + 19 ≤ 60) (hn : as.length = n) (hT : T[b]? = some (.inl ci)) (hcl : (vwCl[ci]?).map (fun q => q.1) = some y.cls) (hcat : (st.map fun v => v.category).sum ≤ 8) (hd : decode cc pc = .ok (.invokevirtual ix, 3)) (hstk : stk = as.reverse ++ .ref b :: st)
    (kk : Wp X cc own nL T' μ' (n1 + mc) (n2 + ms) (pc + 3) lo (rv.toList ++ st)) : Wp X cc own nL T μ n1 n2 pc lo stk := by
  obtain ⟨p, l, e, R, s, m, args, below, meth, c, Q, A, D, n0, α0⟩ := X
  intro hx hb hml hown hts hlk hA H locs ls α cA ha hW hS hl
  obtain ⟨w1, w2, w3, w4, w5⟩ := hLw
  obtain ⟨tys, hK, hP, hD, ht, hnw⟩ := id hW
  obtain ⟨m1, m2, m3, m4, m5⟩ := hm
  obtain ⟨r1, r2, r3, r4⟩ := hX
  obtain ⟨q, hq, hqc⟩ := Option.map_eq_some_iff.mp hcl
  have hF0 := wS_free hD hS hA
  have hrcv := va_recv hK hP hq (q0 := b) (fs := (List.range (cN ci)).map (fun j => fV μ α (fT ci j) b j)) (by rw [wS_at hT, eN_obj hT])
  rw [hqc] at hrcv
  refine cg (mc := mc) (ms := ms) (ag := fun α' => ∀ k, k < T.length → α' k = α k) (va_runV (Ts := gw) (As := as.map (gv α)) (rest := st.map (gv α)) (n := n) (b := α b) (C := y.cls) ⟨hx, hb, hml, hown, hts⟩ (hc l D α cA H.size) ⟨callB_of n hts (gw_self m2) rfl rfl rfl (hts _ m1) (hts _ hl1) ⟨m3, m4, m5⟩ ⟨Nat.le_trans hdd r1, by show 8 + (nL2 + 11) + 60 * d' ≤ R.locals; omega⟩, hts _ hv.1, hts _ hv.2⟩ ⟨pre_blind, hrcv, fun U hU hWm => ⟨rfl, by rw [hU], by rw [hU]; exact hW.warm hWm (fun _ _ => trivial)⟩⟩ rfl (by simp [hn]) hl.1 (by rw [hstk, map_app]; rfl) (lv_room (by rw [cat_gv]; exact hcat)) hd ⟨r3, r4⟩) hS hF0 hnw (fun H1 locs1 α' cA' hag hW1 hS1 => ?_)
  have hgo := kk hx hb hml hown hts hlk hA H1 locs1 ls (fixA α α' T'.length) cA' (fun k hk => by
    have hk1 := (w4 k).mp hk
    rw [show fixA α α' T'.length k = α k from if_neg (by omega)]
    exact ha k hk) (hW1.fix hF) hS1 (by rw [lo_fix hag hlo]; exact hl)
  rw [← rv_app hrv, gvs_fix hag hst, nrv_gv hrv] at hgo
  rw [nrv_gv hrv]
  exact hgo
end WLW
