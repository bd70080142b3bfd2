/-! ===== the string on the way: ldc and the call in one row ===== -/
section WPG
theorem cg2 {p : Program} {l : Launch} {e : Env} {R : Room} {s : State} {m : MethodId} {args : Array Value} {below : List Frame} {meth : Method} {c : Code} {H : Heap} {locs : List Loc} {n1 n2 pc : Nat} {Q : State → Prop} {ls : Array Slot} {st0 rest : List Value} {D : va_G} {A : Nat → Prop} {μ : Mem} {α : Nat → Nat} {cA : Nat → ClassId} {rv : Option Value}
    (hr : va_Run p l e R s m args below meth c H locs n1 n2 0 0 (F0 m pc ls st0) rest (fun st oc t => oc = .returned (rv.map (gv α)) ∧ (∃ cA' : Nat → ClassId, Wd D (va_A (wS [] μ α cA) H.size) [] μ α cA' t t.heap) ∧ va_F (va_A (wS [] μ α cA) H.size) st t) (va_A (wS [] μ α cA) H.size))
    (hS : va_S A s.heap H locs) (hF : ∀ q, va_A (wS [] μ α cA) H.size q → A q)
    (kk : ∀ (H1 : Heap) (locs1 : List Loc), (∀ q : Nat, q < H.size → H1[q]? = H[q]?) → va_S A s.heap H1 locs1 → W p l e R s m args below meth c H1 locs1 n1 n2 Q (F0 m (pc + 3) ls ((rv.map (gv α)).toList ++ rest))) :
    W p l e R s m args below meth c H locs n1 n2 Q (F0 m pc ls st0) := by
  intro U hU X
  obtain ⟨v, st₀, t, U', L, h0, X', hL, e1, e2, hq, st⟩ := hr U hU X
  obtain ⟨hv, -, hz, hk⟩ := hq
  have hv' : v = rv.map (gv α) := by injection hv
  subst hv'
  rw [h0] at hz hk
  obtain ⟨t2, a1, b1⟩ := kk U'.heap (locs ++ L) (fun q hq => by rw [e1]; exact hk q hq (fun z => absurd (va_A_nil z) (by omega)))
    ⟨Nat.le_trans hS.1 (by rw [e1]; exact hz), fun q h1 h2 => by rw [e1, hk q (Nat.lt_of_lt_of_le h1 hS.1) (fun z => h2 (hF q z))]; exact hS.2.1 q h1 h2, fun q hq => by
      rcases List.mem_append.mp hq with h | h
      · exact hS.2.2 q h
      · exact hF _ (hL q h)⟩ U' rfl X'
  exact ⟨t2, st t2 a1, b1⟩
variable {X : CX} {cc : ByteArray} {nL : Nat} {T : List Dsc} {μ : Mem} {n1 n2 pc : Nat} {lo : List (Nat × Value)} {st : List Value} {d a v f : Nat}
theorem SW.nil {a v f : Nat} {A : Nat → Prop} {μ : Mem} {cA : Nat → ClassId} {s : State} {H : Heap} {locs : List Loc} (h : SW a v f A s s.heap) (hS : va_S A s.heap H locs) (hA : ∀ q, s.heap.size ≤ q → A q) : SW (alS a v f 0) (alS a v f 1) (alS a v f 2) (va_A (wS [] μ (alS a v f) cA) H.size) s H := by
  have h1 : SW a v f A s H := h.kept hS.2.1
  exact h1.narrow (fun q hq => hA q (Nat.le_trans hS.1 (va_A_nil hq)))
theorem Wp.sLen (hS0 : XSt X a v f) (hX : XR X d n1 n2) (hdd : 3 ≤ d) (hcat : (st.map fun v => v.category).sum ≤ 8) (hd1 : decode cc pc = .ok (.ldc 31, 2)) (hd2 : decode cc (pc + 2) = .ok (.invokevirtual 33, 3))
    (kk : Wp X cc RX8 nL T μ n1 n2 (pc + 5) lo (.int 76 :: st)) : Wp X cc RX8 nL T μ n1 n2 pc lo st := by
  obtain ⟨p, l, e, R, s, m, args, below, meth, c, Q, A, D, n0, α0⟩ := X
  intro hx hb hml hown hts hlk hA H locs ls α cA ha hW hS hl
  obtain ⟨r1, r2, r3, r4⟩ := hX
  refine va_ldcS hx hb hown hS0.2.1 hd1 ?_
  have hrcv := vk_recv hS0.1 (i := 0) (by decide) hS
  have hsw := SW.nil (μ := μ) (cA := cA) hS0 hS hA
  have hW0 : Wd D (fun _ => True) [] μ (alS a v f) cA s H := hW.nil
  refine cg2 (va_runV (Ts := gw) (As := []) (rest := st.map (gv α)) (n := 0) (b := a) (C := "java/lang/String") ⟨hx, hb, hml, hown, hts⟩ (cj_len l D (alS a v f) cA H.size μ) ⟨callB_of 0 hts (gw_self (gw_tb 136 (by decide +kernel) rfl)) rfl rfl rfl (hts _ (gw_tb 5 (by decide +kernel) rfl)) (hts _ (gw_tb 133 (by decide +kernel) rfl)) ⟨by decide +kernel, by decide +kernel, by decide +kernel⟩ ⟨Nat.le_trans hdd r1, by show 8 + (1 + 11) + 60 * 2 ≤ R.locals; omega⟩, hts _ (gw_tb 134 (by decide +kernel) rfl), hts _ (gw_tb 135 (by decide +kernel) rfl)⟩ ⟨fun a U g mk h => ⟨h.1, h.2.1, h.2.2.1.blind, h.2.2.2.blind⟩, hrcv, fun U hU hWm => ⟨rfl, by rw [hU], by rw [hU]; exact hW0.warm hWm (fun _ _ => trivial), by rw [hU]; exact hsw.warm hWm⟩⟩ rfl rfl hl.1 rfl (lv_room (by rw [cat_gv]; exact hcat)) hd2 ⟨by simpa using r3, by simpa using r4⟩) hS (fun q hq => hA q (Nat.le_trans hS.1 (va_A_nil hq))) (fun H1 locs1 hk hS1 => ?_)
  exact kk hx hb hml hown hts hlk hA H1 locs1 ls α cA ha (hW.past hk) hS1 hl
theorem Wp.sAt {i : Int32} {j : Nat} (q : Nat) (h : lo[q]? = some (j, .int i)) {k : Fin 4} (hj : (k : Nat) = j) (hi : ixb i 76 = true) (hS0 : XSt X a v f) (hX : XR X d n1 n2) (hdd : 5 ≤ d) (hcat : (st.map fun v => v.category).sum ≤ 8) (hd1 : decode cc pc = .ok (.ldc 31, 2)) (hd2 : decode cc (pc + 2) = .ok (.iload_n k, 1)) (hd3 : decode cc (pc + 3) = .ok (.invokevirtual 39, 3))
    (kk : Wp X cc RX8 nL T μ n1 n2 (pc + 6) lo (.int (byS.getD i.toNatClampNeg 0) :: st)) : Wp X cc RX8 nL T μ n1 n2 pc lo st := by
  obtain ⟨p, l, e, R, s, m, args, below, meth, c, Q, A, D, n0, α0⟩ := X
  intro hx hb hml hown hts hlk hA H locs ls α cA ha hW hS hl
  obtain ⟨r1, r2, r3, r4⟩ := hX
  refine va_ldcS hx hb hown hS0.2.1 hd1 ?_
  refine lv_iload_n hx hb hd2 hj (lo_get hl h) ?_
  have hrcv := vk_recv hS0.1 (i := 0) (by decide) hS
  have hsw := SW.nil (μ := μ) (cA := cA) hS0 hS hA
  have hW0 : Wd D (fun _ => True) [] μ (alS a v f) cA s H := hW.nil
  refine cg2 (va_runV (Ts := gw) (As := [.int i]) (rest := st.map (gv α)) (n := 1) (b := a) (C := "java/lang/String") ⟨hx, hb, hml, hown, hts⟩ (cj_at hi l D (alS a v f) cA H.size μ) ⟨callB_of 1 hts (gw_self (gw_tb 146 (by decide +kernel) rfl)) rfl rfl rfl (hts _ (gw_tb 5 (by decide +kernel) rfl)) (hts _ (gw_tb 143 (by decide +kernel) rfl)) ⟨by decide +kernel, by decide +kernel, by decide +kernel⟩ ⟨Nat.le_trans hdd r1, by show 8 + (2 + 11) + 60 * 4 ≤ R.locals; omega⟩, hts _ (gw_tb 144 (by decide +kernel) rfl), hts _ (gw_tb 145 (by decide +kernel) rfl)⟩ ⟨fun a U g mk h => ⟨h.1, h.2.1, h.2.2.1.blind, h.2.2.2.blind⟩, hrcv, fun U hU hWm => ⟨rfl, by rw [hU], by rw [hU]; exact hW0.warm hWm (fun _ _ => trivial), by rw [hU]; exact hsw.warm hWm⟩⟩ rfl rfl hl.1 rfl (lv_room (by rw [cat_gv]; exact hcat)) hd3 ⟨by simpa using r3, by simpa using r4⟩) hS (fun q hq => hA q (Nat.le_trans hS.1 (va_A_nil hq))) (fun H1 locs1 hk hS1 => ?_)
  exact kk hx hb hml hown hts hlk hA H1 locs1 ls α cA ha (hW.past hk) hS1 hl
end WPG
