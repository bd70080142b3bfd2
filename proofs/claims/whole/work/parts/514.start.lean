/-! THE CLAIM OUT OF ONE WALK OF THE LAW'S BODY. Your part is whole_start (and what it stands on); all else here is the same for every law, but numbers. -/
def R_law : String := "GalleyStrokeLaw"
def lw_P (b : Addr) (xs : List Int32) (args : Array Value) (s : State) : Prop := args = #[.ref b] ∧ s.IntsAt b xs ∧ xs.length ≤ 3072 ∧ (Jvm.Cond.and given_1 narrow_1).before args s = true
def lw_Q (_ : Array Value) (s : State) (o : Outcome) (t : State) : Prop := o = .returned (some (.int 1)) ∧ Framed s o t [] 600000 7302250
def lw_Z (below : List Frame) (a : Array Value) (s : State) : State → Prop := fun t => ∃ o, t.status = .running ∧ Ended t below o ∧ lw_Q a s o t
/-- the law's own end, with 1 on the stack, nothing written that was there before, its room as the claim has it -/
theorem lw_ret {p : Program} {l : Launch} {e : Env} {s : State} {m : MethodId} {below : List Frame} {meth : Method} {c : Code} {b : Nat} (hx : p.tables.exec = Jvm.exec) (hb : c.code = code) (hr : meth.sig.returnType = ret) (hlocks : meth.locks = false) {pc : Nat} {H : Heap} {ls : Array Slot} (hdg : decode code pc = .ok (.ireturn, 1)) : W p l e room_1 s m #[Value.ref b] below meth c H [] 600000 7302250 (lw_Z below #[Value.ref b] s) (F0 m pc ls [.int 1]) := by
  intro T hT X
  obtain ⟨fs, hret, hrun, hended, hW, hframe⟩ := X.leave (v := some (.int 1)) (hlocks := hlocks) (fun h => by rw [hr] at h; cases h)
  have hmeth' : T.vm.method? m = some meth := X.method'
  refine ⟨T.setFrames fs, ?_, .returned (some (.int 1)), hrun, hended, rfl, ⟨_, rfl⟩, hW, hframe⟩
  jvm_step X.here [X.here.top, hx, hb, hdg, hmeth', hr, ret, narrow_b1]
  (try refine ⟨rfl, ?_⟩); (try refine ⟨rfl, ?_⟩)
  first | (intro acts; rw [hret _ acts rfl rfl rfl]) | rw [hret _ _ rfl rfl rfl]
  exact Steps.refl _
/-- what holds at the law's entry: the machine, the code, the tables' words (any of lw_tbl by 'hts w (by decide +kernel)'), the script of L ints xs at the cell b, what the Statement gives of the start (any of its parts by flat_of_before) -/
def lw_At (p : Program) (s : State) (m : MethodId) (meth : Method) (c : Code) (b L : Nat) (xs : Nat → Int32) : Prop :=
  p.tables.exec = Jvm.exec ∧ c.code = code ∧ meth.sig.returnType = ret ∧ c.maxLocals = 4 ∧ s.vm.findClass R_law = some m.cls ∧ (∀ w ∈ lw_tbl, w.before #[Value.ref b] s = true) ∧ va_X b L xs s s.heap ∧ b < s.heap.size ∧ meth.locks = false ∧ (Jvm.Cond.and given_1 narrow_1).before #[Value.ref b] s = true
/-! the start: the classes, the string, the rows of crews -/
theorem ins_gw {k : Nat} {C : String} {TT : u_T} {N : Nat} (h : vwCl[k]? = some (C, TT, N)) : Cond.instantiable C N ∈ gw := by
  match k, h with
  | 0, h => cases h; exact gw_tb 358 (by decide +kernel) rfl
  | 1, h => cases h; exact gw_tb 279 (by decide +kernel) rfl
  | 2, h => cases h; exact gw_tb 321 (by decide +kernel) rfl
  | 3, h => cases h; exact gw_tb 121 (by decide +kernel) rfl
  | 4, h => cases h; exact gw_tb 252 (by decide +kernel) rfl
  | 5, h => cases h; exact gw_tb 338 (by decide +kernel) rfl
  | 6, h => cases h; exact gw_tb 30 (by decide +kernel) rfl
  | 7, h => cases h; exact gw_tb 127 (by decide +kernel) rfl
  | 8, h => cases h; exact gw_tb 382 (by decide +kernel) rfl
  | 9, h => cases h; exact gw_tb 415 (by decide +kernel) rfl
  | 10, h => cases h; exact gw_tb 22 (by decide +kernel) rfl
  | 11, h => cases h; exact gw_tb 1030 (by decide +kernel) rfl
  | k + 12, h => simp [vwCl] at h
theorem kn_all {args : Array Value} {s : State} (hts : ∀ w ∈ gw, w.before args s = true) : ∀ k : Nat, ∃ q : ClassId × (Nat → Nat), ∀ c : vw_C, vwCl[k]? = some c → u_Kn s c.1 c.2.1 c.2.2 q.1 q.2 := by
  intro k
  cases h : vwCl[k]? with
  | none =>
    obtain ⟨cC, iS, -⟩ := u_known (C := RX0) (T := TX0) (N := 5) (n := 5) hts (ck (ci := 0) rfl).2.2.1 (hts _ (ins_gw (k := 0) rfl))
    exact ⟨(cC, iS), fun c hc => by cases hc⟩
  | some c =>
    obtain ⟨C, TT, N⟩ := c
    obtain ⟨cC, iS, hk⟩ := u_known (n := N) hts (ck h).2.2.1 (hts _ (ins_gw h))
    exact ⟨(cC, iS), fun c hc => by cases hc; exact hk⟩
theorem nw_all {b : Nat} {s : State} (hts : ∀ w ∈ lw_tbl, w.before #[Value.ref b] s = true) : ∀ q ∈ nwl, va_Nw (.methodLinkNest q.1 q.2.1 q.2.2.1 q.2.2.2) s := by
  have hw : ∀ q ∈ nwl, Cond.methodLinkNest q.1 q.2.1 q.2.2.1 q.2.2.2 ∈ tables_1 := by decide +kernel
  exact fun q hq => va_Nw.of rfl (hts _ (List.mem_append_right _ (hw q hq)))
theorem el_all : ∀ j, j < 76 → Cond.eq (.elem (.field (.string RX8 31) "java/lang/String" "value" "[B") (.int (Int32.ofNat j))) (.int (byS.getD j 0)) ∈ flatC (Jvm.Cond.and given_1 narrow_1) := by decide +kernel
theorem tw {w : Cond} (i : Nat) (h : tables_1[i]? = some w) : w ∈ lw_tbl := List.mem_append_right _ (List.mem_of_getElem? h)
theorem sw_start {b : Nat} {s : State} (hts : ∀ w ∈ lw_tbl, w.before #[Value.ref b] s = true) (hgv : (Jvm.Cond.and given_1 narrow_1).before #[Value.ref b] s = true) : ∃ a v f : Nat, SW a v f (fun q => s.heap.size ≤ q) s s.heap := by
  have hs := flat_of_before _ hgv
  have hA : ∀ a : Nat, a < s.heap.size → ¬ (fun q : Nat => s.heap.size ≤ q) a := fun a h => Nat.not_le.mpr h
  obtain ⟨adK, adV, h1, h2⟩ := vk_Sof (args := #[Value.ref b]) (s := s) (N := 1) (tm := fun _ => .string RX8 31) (len := [76]) (byt := [byS]) (A := fun q : Nat => s.heap.size ≤ q)
    (fun i hi => by
      have : i = 0 := by omega
      subst this
      decide)
    (fun i hi => hs (Cond.exactly (.string RX8 31) "java/lang/String") (by decide +kernel)) (fun i hi => hs (Cond.eq (.field (.string RX8 31) "java/lang/String" "coder" "B") (.int 0)) (by decide +kernel)) (fun i hi => hs (Cond.arrayOf (.field (.string RX8 31) "java/lang/String" "value" "[B") .byte) (by decide +kernel))
    (fun i hi => by
      have : i = 0 := by omega
      subst this
      exact hs (Cond.eq (.length (.field (.string RX8 31) "java/lang/String" "value" "[B")) (.int 76)) (by decide +kernel))
    (fun i hi j hj => by
      have : i = 0 := by omega
      subst this
      exact hs _ (el_all j hj))
    (fun i j hi hj hn => absurd (show i = j by omega) hn) hA
  have hS : vk_S 1 [76] [byS] (fun _ => adK 0) (fun _ => adV 0) (fun q => s.heap.size ≤ q) s s.heap := by
    refine ⟨fun i hi => ?_, fun i j hi hj _ => by omega⟩
    have : i = 0 := by omega
    subst this
    exact h1.1 0 (by decide)
  have hR : vk_R RX8 31 txS (adK 0) s := vk_R.of (A := #[Value.ref b]) (hts _ (tw 132 (by decide +kernel))) (h2 0 (by decide))
  have hC : va_Z "java/lang/String" "COMPACT_STRINGS" "Z" (.int 1) (fun q => s.heap.size ≤ q) s s.heap := va_Zof (args := #[Value.ref b]) (hts _ (tw 142 (by decide +kernel))) (hts _ (tw 5 (by decide +kernel))) (va_eqt (hs _ (by decide +kernel))) hA
  have hF : va_Zq "jdk/internal/util/Preconditions" "SIOOBE_FORMATTER" "Ljava/util/function/BiFunction;" (fun q => s.heap.size ≤ q) s s.heap := va_Zqof (args := #[Value.ref b]) (hts _ (tw 158 (by decide +kernel))) (hts _ (tw 7 (by decide +kernel))) (hs _ (by decide +kernel)) hA
  rcases hF with hF | ⟨t, hF⟩
  · exact ⟨adK 0, adV 0, 0, hS, hR, hC, Or.inr hF⟩
  · exact ⟨adK 0, adV 0, t, hS, hR, hC, Or.inl hF⟩
