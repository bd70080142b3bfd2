/-! ===== length and charAt ===== -/
section WPJ2
variable {cc : ByteArray} {nL : Nat} {d : Nat} {y : MethodName} {ret : Option FieldType} {rv : Option Value}
variable {X : CX} {own : String} {μ : Mem} {n1 n2 pc ix n d' nL2 a v f : Nat} {lo : List (Nat × Value)} {st stk as : List Value} {c2 : ByteArray}
theorem Wp.jV (hyc : y.cls = "java/lang/String") (hc : CtJ d' y c2 nL2 ret (.ref 0 :: as) rv) (hrv : nrv rv = true) (hS0 : XSt X a v f) (hA0 : XSa X a v f) (hl1 : ML own ix y) (hv : MV y) (hm : MB y c2 nL2 ret n) (hX : XR X d n1 n2) (hdd : d' + 1 ≤ d) (hnl : nL2 + 19 ≤ 60) (hn : as.length = n) (hcat : (st.map fun v => v.category).sum ≤ 8) (hd : decode cc pc = .ok (.invokevirtual ix, 3)) (hst : stk = as.reverse ++ .ref 0 :: st)
    (kk : Wp X cc own nL [] μ n1 n2 (pc + 3) lo (rv.toList ++ st)) : Wp X cc own nL [] μ n1 n2 pc lo stk := by
  obtain ⟨p, l, e, R, s, m, args, below, meth, c, Q, A, D, n0, α0⟩ := X
  intro hx hb hml hown hts hlk hA H locs ls α cA ha hW hS hl
  obtain ⟨tys, hK, hP, hD, ht, hnw⟩ := id hW
  obtain ⟨m1, m2, m3, m4, m5⟩ := hm
  obtain ⟨r1, r2, r3, r4⟩ := hX
  have hF := wS_free hD hS hA
  obtain ⟨⟨k0, e0⟩, ⟨k1, e1⟩, k2, e2⟩ := hA0
  have hsw : SW (α 0) (α 1) (α 2) (va_A (wS [] μ α cA) H.size) s H := by
    rw [(ha 0 k0).trans e0, (ha 1 k1).trans e1, (ha 2 k2).trans e2]
    exact (hS0.kept hS.2.1).narrow hF
  have hmet := hc l D α cA H.size μ
  have hmet2 : Met l y (Cond.code y c2 nL2 ret :: gw) { frames := d', cells := 0, slots := 0, locals := 60 * d' } (va_Pc ((.ref 0 :: as).map (gv α)) (fun U => U.heap.size = H.size ∧ Wd D (fun _ => True) [] μ α cA U U.heap ∧ SW (α 0) (α 1) (α 2) (va_A (wS [] μ α cA) H.size) U U.heap)) (fun _ st oc t => oc = .returned (rv.map (gv α)) ∧ (∃ (α' : Nat → Nat) (cA' : Nat → ClassId), α' = α ∧ Wd D (va_A (wS [] μ α cA) H.size) [] μ α' cA' t t.heap) ∧ va_F (va_A (wS [] μ α cA) H.size) st t) 0 0 (va_A (wS [] μ α cA) H.size) := by
    have eq : (fun (_ : Array Value) (st : State) (oc : Outcome) (t : State) => oc = .returned (rv.map (gv α)) ∧ (∃ (α' : Nat → Nat) (cA' : Nat → ClassId), α' = α ∧ Wd D (va_A (wS [] μ α cA) H.size) [] μ α' cA' t t.heap) ∧ va_F (va_A (wS [] μ α cA) H.size) st t) = (fun (_ : Array Value) (st : State) (oc : Outcome) (t : State) => oc = .returned (rv.map (gv α)) ∧ (∃ cA' : Nat → ClassId, Wd D (va_A (wS [] μ α cA) H.size) [] μ α cA' t t.heap) ∧ va_F (va_A (wS [] μ α cA) H.size) st t) := by
      funext _ st oc t
      apply propext
      constructor
      · rintro ⟨h1, ⟨α', cA', rfl, h2⟩, h3⟩
        exact ⟨h1, ⟨cA', h2⟩, h3⟩
      · rintro ⟨h1, ⟨cA', h2⟩, h3⟩
        exact ⟨h1, ⟨α, cA', rfl, h2⟩, h3⟩
    rw [eq]
    exact hmet
  have hrcv := vk_recv hS0.1 (i := 0) (by decide) hS
  rw [← hyc, ← (ha 0 k0).trans e0] at hrcv
  refine cg (ag := fun α' => α' = α) (va_runV (Ts := gw) (As := as.map (gv α)) (rest := st.map (gv α)) (n := n) (b := α 0) (C := y.cls) ⟨hx, hb, hml, hown, hts⟩ hmet2 ⟨callB_of n hts (gw_self m2) rfl rfl rfl (hts _ m1) (hts _ hl1) ⟨m3, m4, m5⟩ ⟨Nat.le_trans hdd r1, by show 8 + (nL2 + 11) + 60 * d' ≤ R.locals; omega⟩, hts _ hv.1, hts _ hv.2⟩ ⟨fun a U g mk h => ⟨h.1, h.2.1, h.2.2.1.blind, h.2.2.2.blind⟩, hrcv, fun U hU hWm => ⟨rfl, by rw [hU], by rw [hU]; exact hW.warm hWm (fun _ _ => trivial), by rw [hU]; exact hsw.warm hWm⟩⟩ rfl (by simp [hn]) hl.1 (by rw [hst, map_app]; rfl) (lv_room (by rw [cat_gv]; exact hcat)) hd ⟨by simpa using r3, by simpa using r4⟩) hS hF hnw (fun H1 locs1 α' cA' hag hW1 hS1 => ?_)
  subst hag
  rw [rv_app hrv]
  exact kk hx hb hml hown hts hlk hA H1 locs1 ls α' cA' ha hW1 hS1 hl
end WPJ2
theorem dJ0_length_8abf5_0 : decode cJ0_length_8abf5 0 = .ok (.aload_n 0, 1) := by decide +kernel
theorem dJ0_length_8abf5_1 : decode cJ0_length_8abf5 1 = .ok (.getfield 9, 3) := by decide +kernel
theorem dJ0_length_8abf5_4 : decode cJ0_length_8abf5 4 = .ok (.arraylength, 1) := by decide +kernel
theorem dJ0_length_8abf5_5 : decode cJ0_length_8abf5 5 = .ok (.aload_n 0, 1) := by decide +kernel
theorem dJ0_length_8abf5_6 : decode cJ0_length_8abf5 6 = .ok (.invokevirtual 335, 3) := by decide +kernel
theorem dJ0_length_8abf5_9 : decode cJ0_length_8abf5 9 = .ok (.ishr, 1) := by decide +kernel
theorem dJ0_length_8abf5_10 : decode cJ0_length_8abf5 10 = .ok (.ireturn, 1) := by decide +kernel
theorem jmv_J0_coder_7d493 : MV yJ0_coder_7d493 := ⟨gw_tb 138 (by decide +kernel) rfl, gw_tb 139 (by decide +kernel) rfl⟩
theorem cj_len : CtJ 2 yJ0_length_8abf5 cJ0_length_8abf5 1 (some .int) [.ref 0] (some (.int 76)) := by
  refine CtJ.ofI rfl (by decide +kernel) (Nat.le_of_ble_eq_true rfl) (fun X μ a v f hX hS hA hQ => ?_)
  refine Wp.lo' (lo' := [(0, .ref 0)]) [0] rfl ?_
  refine Wp.aload_n (pc := 0) 0 rfl rfl dJ0_length_8abf5_0 ?_
  refine Wp.sVal (pc := 1) hS hA (gw_tb 1714 (by decide +kernel) rfl) dJ0_length_8abf5_1 ?_
  refine Wp.sAln (pc := 4) hS hA dJ0_length_8abf5_4 ?_
  refine Wp.aload_n (pc := 5) 0 rfl rfl dJ0_length_8abf5_5 ?_
  refine Wp.jV (pc := 6) (st := [.int 76]) (as := []) rfl cj_co rfl hS hA (gw_tb 137 (by decide +kernel) rfl) jmv_J0_coder_7d493 jmb_J0_coder_7d493 hX (by decide) (by decide) rfl (by decide) dJ0_length_8abf5_6 rfl ?_
  refine Wp.ishr (pc := 9) dJ0_length_8abf5_9 ?_
  exact hQ 10 _ dJ0_length_8abf5_10
