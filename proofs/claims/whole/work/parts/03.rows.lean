/-! ===== the walk's goal over the abstract memory ===== -/
abbrev CX : Type := Program × Launch × Env × Room × State × MethodId × Array Value × List Frame × Method × Code × (State → Prop) × (Nat → Prop) × va_G × (Nat → Prop) × (Nat → Nat)
def nwl : List (String × Nat × MethodName × String) := [("GalleyStroke", 15, ⟨"GalleyStroke$Text", "<init>", "()V"⟩, "GalleyStroke"), ("GalleyStroke", 43, ⟨"GalleyStroke$Crew", "<init>", "()V"⟩, "GalleyStroke"), ("GalleyStroke", 54, ⟨"GalleyStroke$Past", "<init>", "()V"⟩, "GalleyStroke"), ("GalleyStroke$Reader", 172, ⟨"GalleyStroke", "withTime", "(JII)J"⟩, "GalleyStroke"), ("GalleyStroke$Rowing", 39, ⟨"GalleyStroke", "timeAt", "(JI)I"⟩, "GalleyStroke"), ("GalleyStroke$Rowing", 50, ⟨"GalleyStroke", "withTime", "(JII)J"⟩, "GalleyStroke"), ("GalleyStroke$Crew", 46, ⟨"GalleyStroke", "timeAt", "(JI)I"⟩, "GalleyStroke"), ("GalleyStroke$Crew", 50, ⟨"GalleyStroke", "withTime", "(JII)J"⟩, "GalleyStroke"), ("GalleyStroke$Seats", 64, ⟨"GalleyStroke", "timeAt", "(JI)I"⟩, "GalleyStroke"), ("GalleyStroke$Seats", 68, ⟨"GalleyStroke", "withTime", "(JII)J"⟩, "GalleyStroke")]
def Wd (D : va_G) (A : Nat → Prop) (T : List Dsc) (μ : Mem) (α : Nat → Nat) (cA : Nat → ClassId) (s : State) (H : Heap) : Prop :=
  ∃ tys : List (ClassId × FieldType), va_K D vwCl tys s ∧ va_P D vwCl (wS T μ α cA) H ∧ va_D A (wS T μ α cA) ∧ (∀ (k n : Nat) (ty : FieldType), T[k]? = some (.inr (ty, n)) → ∃ t0 : Nat, tys[t0]? = some (cA k, ty)) ∧ ∀ q ∈ nwl, va_Nw (.methodLinkNest q.1 q.2.1 q.2.2.1 q.2.2.2) s
def Wp (X : CX) (cc : ByteArray) (own : String) (nL : Nat) (T : List Dsc) (μ : Mem) (n1 n2 pc : Nat) (lo : List (Nat × Value)) (st : List Value) : Prop := match X with
  | (p, l, e, R, s, m, args, below, meth, c, Q, A, D, n0, α0) =>
    p.tables.exec = Jvm.exec → c.code = cc → c.maxLocals = nL → s.vm.findClass own = some m.cls → (∀ w ∈ gw, w.before args s = true) → meth.locks = false → (∀ q, s.heap.size ≤ q → A q) →
    ∀ (H : Heap) (locs : List Loc) (ls : Array Slot) (α : Nat → Nat) (cA : Nat → ClassId), (∀ k, n0 k → α k = α0 k) → Wd D A T μ α cA s H → va_S A s.heap H locs → lv_has ls nL (lo.map (fun q => (q.1, gv α q.2))) →
    W p l e R s m args below meth c H locs n1 n2 Q (F0 m pc ls (st.map (gv α)))
theorem lo_get {lo : List (Nat × Value)} {α : Nat → Nat} {ls : Array Slot} {nL k i : Nat} {v : Value} (hl : lv_has ls nL (lo.map (fun q => (q.1, gv α q.2)))) (h : lo[k]? = some (i, v)) : ls[i]? = some (.val (gv α v)) :=
  lv_at hl k (by rw [List.getElem?_map, h]; rfl)
theorem lo_pick {lo lo' : List (Nat × Value)} {α : Nat → Nat} {ls : Array Slot} {nL : Nat} (ks : List Nat) (hl : lv_has ls nL (lo.map (fun q => (q.1, gv α q.2)))) (h : lv_pick lo ks = lo') : lv_has ls nL (lo'.map (fun q => (q.1, gv α q.2))) := by
  refine lv_sub hl ks ?_
  subst h
  simp only [lv_pick, List.getElem?_map]
  clear hl
  induction ks with
  | nil => rfl
  | cons a ks ih =>
    simp only [List.filterMap_cons]
    cases lo[a]? <;> simp_all
theorem lo_f1 (lo : List (Nat × Value)) (α : Nat → Nat) (i : Nat) : (lo.map (fun q => (q.1, gv α q.2))).filter (fun q => !(q.1 == i) && !(q.1 + 1 == i && q.2.category == 2)) = (lo.filter (fun q => !(q.1 == i) && !(q.1 + 1 == i && q.2.category == 2))).map (fun q => (q.1, gv α q.2)) := by
  rw [List.filter_map]
  congr 1
  apply List.filter_congr
  intro q _
  simp [gv_cat]
theorem lo_f2 (lo : List (Nat × Value)) (α : Nat → Nat) (i : Nat) : (lo.map (fun q => (q.1, gv α q.2))).filter (fun q => !(q.1 == i) && (!(q.1 == i + 1) && !(q.1 + 1 == i && q.2.category == 2))) = (lo.filter (fun q => !(q.1 == i) && (!(q.1 == i + 1) && !(q.1 + 1 == i && q.2.category == 2)))).map (fun q => (q.1, gv α q.2)) := by
  rw [List.filter_map]
  congr 1
  apply List.filter_congr
  intro q _
  simp [gv_cat]
theorem lo_s1 {lo lo' : List (Nat × Value)} {α : Nat → Nat} {ls : Array Slot} {nL i : Nat} {v : Value} (ks : List Nat) (hl : lv_has ls nL ((i, gv α v) :: (lo.map (fun q => (q.1, gv α q.2))).filter (fun q => !(q.1 == i) && !(q.1 + 1 == i && q.2.category == 2)))) (h : lv_pick ((i, v) :: lo.filter (fun q => !(q.1 == i) && !(q.1 + 1 == i && q.2.category == 2))) ks = lo') : lv_has ls nL (lo'.map (fun q => (q.1, gv α q.2))) := by
  rw [lo_f1] at hl
  exact lo_pick (lo := (i, v) :: lo.filter (fun q => !(q.1 == i) && !(q.1 + 1 == i && q.2.category == 2))) ks hl h
theorem lo_s2 {lo lo' : List (Nat × Value)} {α : Nat → Nat} {ls : Array Slot} {nL i : Nat} {v : Value} (ks : List Nat) (hl : lv_has ls nL ((i, gv α v) :: (lo.map (fun q => (q.1, gv α q.2))).filter (fun q => !(q.1 == i) && (!(q.1 == i + 1) && !(q.1 + 1 == i && q.2.category == 2))))) (h : lv_pick ((i, v) :: lo.filter (fun q => !(q.1 == i) && (!(q.1 == i + 1) && !(q.1 + 1 == i && q.2.category == 2)))) ks = lo') : lv_has ls nL (lo'.map (fun q => (q.1, gv α q.2))) := by
  rw [lo_f2] at hl
  exact lo_pick (lo := (i, v) :: lo.filter (fun q => !(q.1 == i) && (!(q.1 == i + 1) && !(q.1 + 1 == i && q.2.category == 2)))) ks hl h
section WPR
variable {X : CX} {cc : ByteArray} {own : String} {nL : Nat} {T : List Dsc} {μ : Mem} {n1 n2 pc : Nat} {lo : List (Nat × Value)} {st : List Value}
theorem Wp.lo' {lo' : List (Nat × Value)} (ks : List Nat) (h : lv_pick lo ks = lo') (kk : Wp X cc own nL T μ n1 n2 pc lo' st) : Wp X cc own nL T μ n1 n2 pc lo st := by
  obtain ⟨p, l, e, R, s, m, args, below, meth, c, Q, A, D, n0, α0⟩ := X
  intro hx hb hml hown hts hlk hA H locs ls α cA ha hW hS hl
  exact kk hx hb hml hown hts hlk hA H locs ls α cA ha hW hS (lo_pick ks hl h)
theorem Wp.iadd {x y : Int32} (hd : decode cc pc = .ok (.iadd, 1)) (kk : Wp X cc own nL T μ n1 n2 (pc + 1) lo (.int (x + y) :: st)) : Wp X cc own nL T μ n1 n2 pc lo (.int y :: .int x :: st) := by
  obtain ⟨p, l, e, R, s, m, args, below, meth, c, Q, A, D, n0, α0⟩ := X
  intro hx hb hml hown hts hlk hA H locs ls α cA ha hW hS hl
  exact lv_iadd hx hb hd (kk hx hb hml hown hts hlk hA H locs ls α cA ha hW hS hl)
theorem Wp.isub {x y : Int32} (hd : decode cc pc = .ok (.isub, 1)) (kk : Wp X cc own nL T μ n1 n2 (pc + 1) lo (.int (x - y) :: st)) : Wp X cc own nL T μ n1 n2 pc lo (.int y :: .int x :: st) := by
  obtain ⟨p, l, e, R, s, m, args, below, meth, c, Q, A, D, n0, α0⟩ := X
  intro hx hb hml hown hts hlk hA H locs ls α cA ha hW hS hl
  exact lv_isub hx hb hd (kk hx hb hml hown hts hlk hA H locs ls α cA ha hW hS hl)
theorem Wp.imul {x y : Int32} (hd : decode cc pc = .ok (.imul, 1)) (kk : Wp X cc own nL T μ n1 n2 (pc + 1) lo (.int (x * y) :: st)) : Wp X cc own nL T μ n1 n2 pc lo (.int y :: .int x :: st) := by
  obtain ⟨p, l, e, R, s, m, args, below, meth, c, Q, A, D, n0, α0⟩ := X
  intro hx hb hml hown hts hlk hA H locs ls α cA ha hW hS hl
  exact lv_imul hx hb hd (kk hx hb hml hown hts hlk hA H locs ls α cA ha hW hS hl)
theorem Wp.iand {x y : Int32} (hd : decode cc pc = .ok (.iand, 1)) (kk : Wp X cc own nL T μ n1 n2 (pc + 1) lo (.int (x &&& y) :: st)) : Wp X cc own nL T μ n1 n2 pc lo (.int y :: .int x :: st) := by
  obtain ⟨p, l, e, R, s, m, args, below, meth, c, Q, A, D, n0, α0⟩ := X
  intro hx hb hml hown hts hlk hA H locs ls α cA ha hW hS hl
  exact lv_iand hx hb hd (kk hx hb hml hown hts hlk hA H locs ls α cA ha hW hS hl)
theorem Wp.ior {x y : Int32} (hd : decode cc pc = .ok (.ior, 1)) (kk : Wp X cc own nL T μ n1 n2 (pc + 1) lo (.int (x ||| y) :: st)) : Wp X cc own nL T μ n1 n2 pc lo (.int y :: .int x :: st) := by
  obtain ⟨p, l, e, R, s, m, args, below, meth, c, Q, A, D, n0, α0⟩ := X
  intro hx hb hml hown hts hlk hA H locs ls α cA ha hW hS hl
  exact lv_ior hx hb hd (kk hx hb hml hown hts hlk hA H locs ls α cA ha hW hS hl)
theorem Wp.ixor {x y : Int32} (hd : decode cc pc = .ok (.ixor, 1)) (kk : Wp X cc own nL T μ n1 n2 (pc + 1) lo (.int (x ^^^ y) :: st)) : Wp X cc own nL T μ n1 n2 pc lo (.int y :: .int x :: st) := by
  obtain ⟨p, l, e, R, s, m, args, below, meth, c, Q, A, D, n0, α0⟩ := X
  intro hx hb hml hown hts hlk hA H locs ls α cA ha hW hS hl
  exact lv_ixor hx hb hd (kk hx hb hml hown hts hlk hA H locs ls α cA ha hW hS hl)
theorem Wp.idiv {x y : Int32} (hne : ¬ y = 0) (hd : decode cc pc = .ok (.idiv, 1)) (kk : Wp X cc own nL T μ n1 n2 (pc + 1) lo (.int (x / y) :: st)) : Wp X cc own nL T μ n1 n2 pc lo (.int y :: .int x :: st) := by
  obtain ⟨p, l, e, R, s, m, args, below, meth, c, Q, A, D, n0, α0⟩ := X
  intro hx hb hml hown hts hlk hA H locs ls α cA ha hW hS hl
  exact lv_idiv hx hb hd hne (kk hx hb hml hown hts hlk hA H locs ls α cA ha hW hS hl)
theorem Wp.irem {x y : Int32} (hne : ¬ y = 0) (hd : decode cc pc = .ok (.irem, 1)) (kk : Wp X cc own nL T μ n1 n2 (pc + 1) lo (.int (x - x / y * y) :: st)) : Wp X cc own nL T μ n1 n2 pc lo (.int y :: .int x :: st) := by
  obtain ⟨p, l, e, R, s, m, args, below, meth, c, Q, A, D, n0, α0⟩ := X
  intro hx hb hml hown hts hlk hA H locs ls α cA ha hW hS hl
  exact lv_irem hx hb hd hne (kk hx hb hml hown hts hlk hA H locs ls α cA ha hW hS hl)
theorem Wp.ineg {x : Int32} (hd : decode cc pc = .ok (.ineg, 1)) (kk : Wp X cc own nL T μ n1 n2 (pc + 1) lo (.int (-x) :: st)) : Wp X cc own nL T μ n1 n2 pc lo (.int x :: st) := by
  obtain ⟨p, l, e, R, s, m, args, below, meth, c, Q, A, D, n0, α0⟩ := X
  intro hx hb hml hown hts hlk hA H locs ls α cA ha hW hS hl
  exact lv_ineg hx hb hd (kk hx hb hml hown hts hlk hA H locs ls α cA ha hW hS hl)
theorem Wp.ishl {x y : Int32} (hd : decode cc pc = .ok (.ishl, 1)) (kk : Wp X cc own nL T μ n1 n2 (pc + 1) lo (.int (x <<< (y &&& 31)) :: st)) : Wp X cc own nL T μ n1 n2 pc lo (.int y :: .int x :: st) := by
  obtain ⟨p, l, e, R, s, m, args, below, meth, c, Q, A, D, n0, α0⟩ := X
  intro hx hb hml hown hts hlk hA H locs ls α cA ha hW hS hl
  exact lv_ishl hx hb hd (kk hx hb hml hown hts hlk hA H locs ls α cA ha hW hS hl)
theorem Wp.ishr {x y : Int32} (hd : decode cc pc = .ok (.ishr, 1)) (kk : Wp X cc own nL T μ n1 n2 (pc + 1) lo (.int (x >>> (y &&& 31)) :: st)) : Wp X cc own nL T μ n1 n2 pc lo (.int y :: .int x :: st) := by
  obtain ⟨p, l, e, R, s, m, args, below, meth, c, Q, A, D, n0, α0⟩ := X
  intro hx hb hml hown hts hlk hA H locs ls α cA ha hW hS hl
  exact lv_ishr hx hb hd (kk hx hb hml hown hts hlk hA H locs ls α cA ha hW hS hl)
theorem Wp.iushr {x y : Int32} (hd : decode cc pc = .ok (.iushr, 1)) (kk : Wp X cc own nL T μ n1 n2 (pc + 1) lo (.int (x.toUInt32 >>> (y.toUInt32 &&& Int32.toUInt32 31)).toInt32 :: st)) : Wp X cc own nL T μ n1 n2 pc lo (.int y :: .int x :: st) := by
  obtain ⟨p, l, e, R, s, m, args, below, meth, c, Q, A, D, n0, α0⟩ := X
  intro hx hb hml hown hts hlk hA H locs ls α cA ha hW hS hl
  exact lv_iushr hx hb hd rfl (kk hx hb hml hown hts hlk hA H locs ls α cA ha hW hS hl)
theorem Wp.ladd {x y : Int64} (hd : decode cc pc = .ok (.ladd, 1)) (kk : Wp X cc own nL T μ n1 n2 (pc + 1) lo (.long (x + y) :: st)) : Wp X cc own nL T μ n1 n2 pc lo (.long y :: .long x :: st) := by
  obtain ⟨p, l, e, R, s, m, args, below, meth, c, Q, A, D, n0, α0⟩ := X
  intro hx hb hml hown hts hlk hA H locs ls α cA ha hW hS hl
  exact lv_ladd hx hb hd (kk hx hb hml hown hts hlk hA H locs ls α cA ha hW hS hl)
theorem Wp.lsub {x y : Int64} (hd : decode cc pc = .ok (.lsub, 1)) (kk : Wp X cc own nL T μ n1 n2 (pc + 1) lo (.long (x - y) :: st)) : Wp X cc own nL T μ n1 n2 pc lo (.long y :: .long x :: st) := by
  obtain ⟨p, l, e, R, s, m, args, below, meth, c, Q, A, D, n0, α0⟩ := X
  intro hx hb hml hown hts hlk hA H locs ls α cA ha hW hS hl
  exact lv_lsub hx hb hd (kk hx hb hml hown hts hlk hA H locs ls α cA ha hW hS hl)
theorem Wp.lmul {x y : Int64} (hd : decode cc pc = .ok (.lmul, 1)) (kk : Wp X cc own nL T μ n1 n2 (pc + 1) lo (.long (x * y) :: st)) : Wp X cc own nL T μ n1 n2 pc lo (.long y :: .long x :: st) := by
  obtain ⟨p, l, e, R, s, m, args, below, meth, c, Q, A, D, n0, α0⟩ := X
  intro hx hb hml hown hts hlk hA H locs ls α cA ha hW hS hl
  exact lv_lmul hx hb hd (kk hx hb hml hown hts hlk hA H locs ls α cA ha hW hS hl)
theorem Wp.land {x y : Int64} (hd : decode cc pc = .ok (.land, 1)) (kk : Wp X cc own nL T μ n1 n2 (pc + 1) lo (.long (x &&& y) :: st)) : Wp X cc own nL T μ n1 n2 pc lo (.long y :: .long x :: st) := by
  obtain ⟨p, l, e, R, s, m, args, below, meth, c, Q, A, D, n0, α0⟩ := X
  intro hx hb hml hown hts hlk hA H locs ls α cA ha hW hS hl
  exact lv_land hx hb hd (kk hx hb hml hown hts hlk hA H locs ls α cA ha hW hS hl)
theorem Wp.lor {x y : Int64} (hd : decode cc pc = .ok (.lor, 1)) (kk : Wp X cc own nL T μ n1 n2 (pc + 1) lo (.long (x ||| y) :: st)) : Wp X cc own nL T μ n1 n2 pc lo (.long y :: .long x :: st) := by
  obtain ⟨p, l, e, R, s, m, args, below, meth, c, Q, A, D, n0, α0⟩ := X
  intro hx hb hml hown hts hlk hA H locs ls α cA ha hW hS hl
  exact lv_lor hx hb hd (kk hx hb hml hown hts hlk hA H locs ls α cA ha hW hS hl)
theorem Wp.lxor {x y : Int64} (hd : decode cc pc = .ok (.lxor, 1)) (kk : Wp X cc own nL T μ n1 n2 (pc + 1) lo (.long (x ^^^ y) :: st)) : Wp X cc own nL T μ n1 n2 pc lo (.long y :: .long x :: st) := by
  obtain ⟨p, l, e, R, s, m, args, below, meth, c, Q, A, D, n0, α0⟩ := X
  intro hx hb hml hown hts hlk hA H locs ls α cA ha hW hS hl
  exact lv_lxor hx hb hd (kk hx hb hml hown hts hlk hA H locs ls α cA ha hW hS hl)
theorem Wp.lshl {x : Int64} {y : Int32} (hd : decode cc pc = .ok (.lshl, 1)) (kk : Wp X cc own nL T μ n1 n2 (pc + 1) lo (.long (x <<< (y.toInt64 &&& 63)) :: st)) : Wp X cc own nL T μ n1 n2 pc lo (.int y :: .long x :: st) := by
  obtain ⟨p, l, e, R, s, m, args, below, meth, c, Q, A, D, n0, α0⟩ := X
  intro hx hb hml hown hts hlk hA H locs ls α cA ha hW hS hl
  exact lv_lshl hx hb hd rfl (kk hx hb hml hown hts hlk hA H locs ls α cA ha hW hS hl)
theorem Wp.lushr {x : Int64} {y : Int32} (hd : decode cc pc = .ok (.lushr, 1)) (kk : Wp X cc own nL T μ n1 n2 (pc + 1) lo (.long (x.toUInt64 >>> (y.toInt64.toUInt64 &&& Int64.toUInt64 63)).toInt64 :: st)) : Wp X cc own nL T μ n1 n2 pc lo (.int y :: .long x :: st) := by
  obtain ⟨p, l, e, R, s, m, args, below, meth, c, Q, A, D, n0, α0⟩ := X
  intro hx hb hml hown hts hlk hA H locs ls α cA ha hW hS hl
  exact lv_lushr hx hb hd rfl (kk hx hb hml hown hts hlk hA H locs ls α cA ha hW hS hl)
theorem Wp.lcmp {x y : Int64} (hd : decode cc pc = .ok (.lcmp, 1)) (kk : Wp X cc own nL T μ n1 n2 (pc + 1) lo (.int (lg_cmp x y) :: st)) : Wp X cc own nL T μ n1 n2 pc lo (.long y :: .long x :: st) := by
  obtain ⟨p, l, e, R, s, m, args, below, meth, c, Q, A, D, n0, α0⟩ := X
  intro hx hb hml hown hts hlk hA H locs ls α cA ha hW hS hl
  exact W.lcmp hx hb hd (kk hx hb hml hown hts hlk hA H locs ls α cA ha hW hS hl)
theorem Wp.i2l {x : Int32} (hd : decode cc pc = .ok (.i2l, 1)) (kk : Wp X cc own nL T μ n1 n2 (pc + 1) lo (.long x.toInt64 :: st)) : Wp X cc own nL T μ n1 n2 pc lo (.int x :: st) := by
  obtain ⟨p, l, e, R, s, m, args, below, meth, c, Q, A, D, n0, α0⟩ := X
  intro hx hb hml hown hts hlk hA H locs ls α cA ha hW hS hl
  exact lv_i2l hx hb hd rfl (kk hx hb hml hown hts hlk hA H locs ls α cA ha hW hS hl)
theorem Wp.l2i {x : Int64} (hd : decode cc pc = .ok (.l2i, 1)) (kk : Wp X cc own nL T μ n1 n2 (pc + 1) lo (.int x.toInt32 :: st)) : Wp X cc own nL T μ n1 n2 pc lo (.long x :: st) := by
  obtain ⟨p, l, e, R, s, m, args, below, meth, c, Q, A, D, n0, α0⟩ := X
  intro hx hb hml hown hts hlk hA H locs ls α cA ha hW hS hl
  exact lv_l2i hx hb hd rfl (kk hx hb hml hown hts hlk hA H locs ls α cA ha hW hS hl)
theorem Wp.i2b {x : Int32} (hd : decode cc pc = .ok (.i2b, 1)) (kk : Wp X cc own nL T μ n1 n2 (pc + 1) lo (.int x.toInt8.toInt32 :: st)) : Wp X cc own nL T μ n1 n2 pc lo (.int x :: st) := by
  obtain ⟨p, l, e, R, s, m, args, below, meth, c, Q, A, D, n0, α0⟩ := X
  intro hx hb hml hown hts hlk hA H locs ls α cA ha hW hS hl
  exact lv_i2b hx hb hd rfl (kk hx hb hml hown hts hlk hA H locs ls α cA ha hW hS hl)
theorem Wp.iconst {n : Int} (v : Int32) (hv : Int32.ofInt n = v) (hd : decode cc pc = .ok (.iconst n, 1)) (kk : Wp X cc own nL T μ n1 n2 (pc + 1) lo (.int v :: st)) : Wp X cc own nL T μ n1 n2 pc lo st := by
  obtain ⟨p, l, e, R, s, m, args, below, meth, c, Q, A, D, n0, α0⟩ := X
  intro hx hb hml hown hts hlk hA H locs ls α cA ha hW hS hl
  exact lv_iconst hx hb hd hv (kk hx hb hml hown hts hlk hA H locs ls α cA ha hW hS hl)
theorem Wp.bipush {n : Int} (v : Int32) (hv : (Int8.ofInt n).toInt32 = v) (hd : decode cc pc = .ok (.bipush n, 2)) (kk : Wp X cc own nL T μ n1 n2 (pc + 2) lo (.int v :: st)) : Wp X cc own nL T μ n1 n2 pc lo st := by
  obtain ⟨p, l, e, R, s, m, args, below, meth, c, Q, A, D, n0, α0⟩ := X
  intro hx hb hml hown hts hlk hA H locs ls α cA ha hW hS hl
  exact lv_bipush hx hb hd hv (kk hx hb hml hown hts hlk hA H locs ls α cA ha hW hS hl)
theorem Wp.sipush {n : Int} (v : Int32) (hv : (Int16.ofInt n).toInt32 = v) (hd : decode cc pc = .ok (.sipush n, 3)) (kk : Wp X cc own nL T μ n1 n2 (pc + 3) lo (.int v :: st)) : Wp X cc own nL T μ n1 n2 pc lo st := by
  obtain ⟨p, l, e, R, s, m, args, below, meth, c, Q, A, D, n0, α0⟩ := X
  intro hx hb hml hown hts hlk hA H locs ls α cA ha hW hS hl
  exact lv_sipush hx hb hd hv (kk hx hb hml hown hts hlk hA H locs ls α cA ha hW hS hl)
theorem Wp.lconst {n : Fin 2} (v : Int64) (hv : Int64.ofNat (n : Nat) = v) (hd : decode cc pc = .ok (.lconst n, 1)) (kk : Wp X cc own nL T μ n1 n2 (pc + 1) lo (.long v :: st)) : Wp X cc own nL T μ n1 n2 pc lo st := by
  obtain ⟨p, l, e, R, s, m, args, below, meth, c, Q, A, D, n0, α0⟩ := X
  intro hx hb hml hown hts hlk hA H locs ls α cA ha hW hS hl
  exact lv_lconst hx hb hd hv (kk hx hb hml hown hts hlk hA H locs ls α cA ha hW hS hl)
theorem Wp.ldc {ix : Nat} {v : Int32} (hw : Cond.constant own ix v ∈ gw) (hd : decode cc pc = .ok (.ldc ix, 2)) (kk : Wp X cc own nL T μ n1 n2 (pc + 2) lo (.int v :: st)) : Wp X cc own nL T μ n1 n2 pc lo st := by
  obtain ⟨p, l, e, R, s, m, args, below, meth, c, Q, A, D, n0, α0⟩ := X
  intro hx hb hml hown hts hlk hA H locs ls α cA ha hW hS hl
  exact lv_ldc hx hb hown (hts _ hw) hd (kk hx hb hml hown hts hlk hA H locs ls α cA ha hW hS hl)
theorem Wp.ldcw {ix : Nat} {v : Int32} (hw : Cond.constant own ix v ∈ gw) (hd : decode cc pc = .ok (.ldc_w ix, 3)) (kk : Wp X cc own nL T μ n1 n2 (pc + 3) lo (.int v :: st)) : Wp X cc own nL T μ n1 n2 pc lo st := by
  obtain ⟨p, l, e, R, s, m, args, below, meth, c, Q, A, D, n0, α0⟩ := X
  intro hx hb hml hown hts hlk hA H locs ls α cA ha hW hS hl
  exact lv_ldcw hx hb hown (hts _ hw) hd (kk hx hb hml hown hts hlk hA H locs ls α cA ha hW hS hl)
theorem Wp.ldc2 {ix : Nat} {v : Int64} (hw : Cond.constantLong own ix v ∈ gw) (hd : decode cc pc = .ok (.ldc2_w ix, 3)) (kk : Wp X cc own nL T μ n1 n2 (pc + 3) lo (.long v :: st)) : Wp X cc own nL T μ n1 n2 pc lo st := by
  obtain ⟨p, l, e, R, s, m, args, below, meth, c, Q, A, D, n0, α0⟩ := X
  intro hx hb hml hown hts hlk hA H locs ls α cA ha hW hS hl
  exact lv_ldc2 hx hb hown (hts _ hw) hd (kk hx hb hml hown hts hlk hA H locs ls α cA ha hW hS hl)
theorem Wp.iload_n {i : Nat} {x : Int32} (q : Nat) (h : lo[q]? = some (i, .int x)) {k : Fin 4} (hi : (k : Nat) = i) (hd : decode cc pc = .ok (.iload_n k, 1)) (kk : Wp X cc own nL T μ n1 n2 (pc + 1) lo (.int x :: st)) : Wp X cc own nL T μ n1 n2 pc lo st := by
  obtain ⟨p, l, e, R, s, m, args, below, meth, c, Q, A, D, n0, α0⟩ := X
  intro hx hb hml hown hts hlk hA H locs ls α cA ha hW hS hl
  exact lv_iload_n hx hb hd hi (lo_get hl h) (kk hx hb hml hown hts hlk hA H locs ls α cA ha hW hS hl)
theorem Wp.iload {i : Nat} {x : Int32} (q : Nat) (h : lo[q]? = some (i, .int x)) (hd : decode cc pc = .ok (.iload i, 2)) (kk : Wp X cc own nL T μ n1 n2 (pc + 2) lo (.int x :: st)) : Wp X cc own nL T μ n1 n2 pc lo st := by
  obtain ⟨p, l, e, R, s, m, args, below, meth, c, Q, A, D, n0, α0⟩ := X
  intro hx hb hml hown hts hlk hA H locs ls α cA ha hW hS hl
  exact lv_iload hx hb hd (lo_get hl h) (kk hx hb hml hown hts hlk hA H locs ls α cA ha hW hS hl)
theorem Wp.lload_n {i : Nat} {x : Int64} (q : Nat) (h : lo[q]? = some (i, .long x)) {k : Fin 4} (hi : (k : Nat) = i) (hd : decode cc pc = .ok (.lload_n k, 1)) (kk : Wp X cc own nL T μ n1 n2 (pc + 1) lo (.long x :: st)) : Wp X cc own nL T μ n1 n2 pc lo st := by
  obtain ⟨p, l, e, R, s, m, args, below, meth, c, Q, A, D, n0, α0⟩ := X
  intro hx hb hml hown hts hlk hA H locs ls α cA ha hW hS hl
  exact lv_lload_n hx hb hd hi (lo_get hl h) (kk hx hb hml hown hts hlk hA H locs ls α cA ha hW hS hl)
theorem Wp.lload {i : Nat} {x : Int64} (q : Nat) (h : lo[q]? = some (i, .long x)) (hd : decode cc pc = .ok (.lload i, 2)) (kk : Wp X cc own nL T μ n1 n2 (pc + 2) lo (.long x :: st)) : Wp X cc own nL T μ n1 n2 pc lo st := by
  obtain ⟨p, l, e, R, s, m, args, below, meth, c, Q, A, D, n0, α0⟩ := X
  intro hx hb hml hown hts hlk hA H locs ls α cA ha hW hS hl
  exact lv_lload hx hb hd (lo_get hl h) (kk hx hb hml hown hts hlk hA H locs ls α cA ha hW hS hl)
theorem Wp.aload_n {i : Nat} {x : Nat} (q : Nat) (h : lo[q]? = some (i, .ref x)) {k : Fin 4} (hi : (k : Nat) = i) (hd : decode cc pc = .ok (.aload_n k, 1)) (kk : Wp X cc own nL T μ n1 n2 (pc + 1) lo (.ref x :: st)) : Wp X cc own nL T μ n1 n2 pc lo st := by
  obtain ⟨p, l, e, R, s, m, args, below, meth, c, Q, A, D, n0, α0⟩ := X
  intro hx hb hml hown hts hlk hA H locs ls α cA ha hW hS hl
  exact lv_aload_n hx hb hd hi (lo_get hl h) (kk hx hb hml hown hts hlk hA H locs ls α cA ha hW hS hl)
theorem Wp.aload {i : Nat} {x : Nat} (q : Nat) (h : lo[q]? = some (i, .ref x)) (hd : decode cc pc = .ok (.aload i, 2)) (kk : Wp X cc own nL T μ n1 n2 (pc + 2) lo (.ref x :: st)) : Wp X cc own nL T μ n1 n2 pc lo st := by
  obtain ⟨p, l, e, R, s, m, args, below, meth, c, Q, A, D, n0, α0⟩ := X
  intro hx hb hml hown hts hlk hA H locs ls α cA ha hW hS hl
  exact lv_aload hx hb hd (lo_get hl h) (kk hx hb hml hown hts hlk hA H locs ls α cA ha hW hS hl)
theorem Wp.istore_n {i : Nat} {x : Int32} {lo' : List (Nat × Value)} (ks : List Nat) (h : lv_pick ((i, Value.int x) :: lo.filter (fun q => !(q.1 == i) && !(q.1 + 1 == i && q.2.category == 2))) ks = lo') (hn : i < nL) {k : Fin 4} (hi : (k : Nat) = i) (hd : decode cc pc = .ok (.istore_n k, 1)) (kk : Wp X cc own nL T μ n1 n2 (pc + 1) lo' st) : Wp X cc own nL T μ n1 n2 pc lo (.int x :: st) := by
  obtain ⟨p, l, e, R, s, m, args, below, meth, c, Q, A, D, n0, α0⟩ := X
  intro hx hb hml hown hts hlk hA H locs ls α cA ha hW hS hl
  refine lv_istore_n hx hb hd hi hl hn rfl (fun ls1 hl1 => ?_)
  exact kk hx hb hml hown hts hlk hA H locs ls1 α cA ha hW hS (lo_s1 ks hl1 h)
theorem Wp.istore {i : Nat} {x : Int32} {lo' : List (Nat × Value)} (ks : List Nat) (h : lv_pick ((i, Value.int x) :: lo.filter (fun q => !(q.1 == i) && !(q.1 + 1 == i && q.2.category == 2))) ks = lo') (hn : i < nL) (hd : decode cc pc = .ok (.istore i, 2)) (kk : Wp X cc own nL T μ n1 n2 (pc + 2) lo' st) : Wp X cc own nL T μ n1 n2 pc lo (.int x :: st) := by
  obtain ⟨p, l, e, R, s, m, args, below, meth, c, Q, A, D, n0, α0⟩ := X
  intro hx hb hml hown hts hlk hA H locs ls α cA ha hW hS hl
  refine lv_istore hx hb hd hl hn rfl (fun ls1 hl1 => ?_)
  exact kk hx hb hml hown hts hlk hA H locs ls1 α cA ha hW hS (lo_s1 ks hl1 h)
theorem Wp.lstore_n {i : Nat} {x : Int64} {lo' : List (Nat × Value)} (ks : List Nat) (h : lv_pick ((i, Value.long x) :: lo.filter (fun q => !(q.1 == i) && (!(q.1 == i + 1) && !(q.1 + 1 == i && q.2.category == 2)))) ks = lo') (hn : i + 1 < nL) {k : Fin 4} (hi : (k : Nat) = i) (hd : decode cc pc = .ok (.lstore_n k, 1)) (kk : Wp X cc own nL T μ n1 n2 (pc + 1) lo' st) : Wp X cc own nL T μ n1 n2 pc lo (.long x :: st) := by
  obtain ⟨p, l, e, R, s, m, args, below, meth, c, Q, A, D, n0, α0⟩ := X
  intro hx hb hml hown hts hlk hA H locs ls α cA ha hW hS hl
  refine lv_lstore_n hx hb hd hi hl hn rfl (fun ls1 hl1 => ?_)
  exact kk hx hb hml hown hts hlk hA H locs ls1 α cA ha hW hS (lo_s2 ks hl1 h)
theorem Wp.lstore {i : Nat} {x : Int64} {lo' : List (Nat × Value)} (ks : List Nat) (h : lv_pick ((i, Value.long x) :: lo.filter (fun q => !(q.1 == i) && (!(q.1 == i + 1) && !(q.1 + 1 == i && q.2.category == 2)))) ks = lo') (hn : i + 1 < nL) (hd : decode cc pc = .ok (.lstore i, 2)) (kk : Wp X cc own nL T μ n1 n2 (pc + 2) lo' st) : Wp X cc own nL T μ n1 n2 pc lo (.long x :: st) := by
  obtain ⟨p, l, e, R, s, m, args, below, meth, c, Q, A, D, n0, α0⟩ := X
  intro hx hb hml hown hts hlk hA H locs ls α cA ha hW hS hl
  refine lv_lstore hx hb hd hl hn rfl (fun ls1 hl1 => ?_)
  exact kk hx hb hml hown hts hlk hA H locs ls1 α cA ha hW hS (lo_s2 ks hl1 h)
theorem Wp.astore_n {i : Nat} {x : Nat} {lo' : List (Nat × Value)} (ks : List Nat) (h : lv_pick ((i, Value.ref x) :: lo.filter (fun q => !(q.1 == i) && !(q.1 + 1 == i && q.2.category == 2))) ks = lo') (hn : i < nL) {k : Fin 4} (hi : (k : Nat) = i) (hd : decode cc pc = .ok (.astore_n k, 1)) (kk : Wp X cc own nL T μ n1 n2 (pc + 1) lo' st) : Wp X cc own nL T μ n1 n2 pc lo (.ref x :: st) := by
  obtain ⟨p, l, e, R, s, m, args, below, meth, c, Q, A, D, n0, α0⟩ := X
  intro hx hb hml hown hts hlk hA H locs ls α cA ha hW hS hl
  refine lv_astore_n hx hb hd hi hl hn rfl (fun ls1 hl1 => ?_)
  exact kk hx hb hml hown hts hlk hA H locs ls1 α cA ha hW hS (lo_s1 ks hl1 h)
theorem Wp.astore {i : Nat} {x : Nat} {lo' : List (Nat × Value)} (ks : List Nat) (h : lv_pick ((i, Value.ref x) :: lo.filter (fun q => !(q.1 == i) && !(q.1 + 1 == i && q.2.category == 2))) ks = lo') (hn : i < nL) (hd : decode cc pc = .ok (.astore i, 2)) (kk : Wp X cc own nL T μ n1 n2 (pc + 2) lo' st) : Wp X cc own nL T μ n1 n2 pc lo (.ref x :: st) := by
  obtain ⟨p, l, e, R, s, m, args, below, meth, c, Q, A, D, n0, α0⟩ := X
  intro hx hb hml hown hts hlk hA H locs ls α cA ha hW hS hl
  refine lv_astore hx hb hd hl hn rfl (fun ls1 hl1 => ?_)
  exact kk hx hb hml hown hts hlk hA H locs ls1 α cA ha hW hS (lo_s1 ks hl1 h)
theorem Wp.iinc {i : Nat} {x : Int32} {n : Int} {lo' : List (Nat × Value)} (v : Int32) (hv : Int32.ofInt n = v) (q : Nat) (hq : lo[q]? = some (i, .int x)) (ks : List Nat) (h : lv_pick ((i, Value.int (x + v)) :: lo.filter (fun q => !(q.1 == i) && !(q.1 + 1 == i && q.2.category == 2))) ks = lo') (hn : i < nL) (hd : decode cc pc = .ok (.iinc i n, 3)) (kk : Wp X cc own nL T μ n1 n2 (pc + 3) lo' st) : Wp X cc own nL T μ n1 n2 pc lo st := by
  obtain ⟨p, l, e, R, s, m, args, below, meth, c, Q, A, D, n0, α0⟩ := X
  intro hx hb hml hown hts hlk hA H locs ls α cA ha hW hS hl
  subst hv
  refine lv_iinc (k := q) hx hb hd hl (by rw [List.getElem?_map, hq]; rfl) rfl hn rfl (fun ls1 hl1 => ?_)
  exact kk hx hb hml hown hts hlk hA H locs ls1 α cA ha hW hS (lo_s1 ks hl1 h)
theorem Wp.dup {va : Value} (h1 : va.category = 1) (hd : decode cc pc = .ok (.dup, 1)) (kk : Wp X cc own nL T μ n1 n2 (pc + 1) lo (va :: va :: st)) : Wp X cc own nL T μ n1 n2 pc lo (va :: st) := by
  obtain ⟨p, l, e, R, s, m, args, below, meth, c, Q, A, D, n0, α0⟩ := X
  intro hx hb hml hown hts hlk hA H locs ls α cA ha hW hS hl
  exact lv_dup hx hb hd ((gv_cat _ _).trans h1) (kk hx hb hml hown hts hlk hA H locs ls α cA ha hW hS hl)
theorem Wp.pop {va : Value} (h1 : va.category = 1) (hd : decode cc pc = .ok (.pop, 1)) (kk : Wp X cc own nL T μ n1 n2 (pc + 1) lo st) : Wp X cc own nL T μ n1 n2 pc lo (va :: st) := by
  obtain ⟨p, l, e, R, s, m, args, below, meth, c, Q, A, D, n0, α0⟩ := X
  intro hx hb hml hown hts hlk hA H locs ls α cA ha hW hS hl
  exact lv_pop hx hb hd ((gv_cat _ _).trans h1) (kk hx hb hml hown hts hlk hA H locs ls α cA ha hW hS hl)
theorem Wp.dup2 {va vb : Value} (h1 : va.category = 1) (h2 : vb.category = 1) (hd : decode cc pc = .ok (.dup2, 1)) (kk : Wp X cc own nL T μ n1 n2 (pc + 1) lo (va :: vb :: va :: vb :: st)) : Wp X cc own nL T μ n1 n2 pc lo (va :: vb :: st) := by
  obtain ⟨p, l, e, R, s, m, args, below, meth, c, Q, A, D, n0, α0⟩ := X
  intro hx hb hml hown hts hlk hA H locs ls α cA ha hW hS hl
  exact lv_dup2_11 hx hb hd ((gv_cat _ _).trans h1) ((gv_cat _ _).trans h2) (kk hx hb hml hown hts hlk hA H locs ls α cA ha hW hS hl)
theorem Wp.dup_x1 {va vb : Value} (h1 : va.category = 1) (h2 : vb.category = 1) (hd : decode cc pc = .ok (.dup_x1, 1)) (kk : Wp X cc own nL T μ n1 n2 (pc + 1) lo (va :: vb :: va :: st)) : Wp X cc own nL T μ n1 n2 pc lo (va :: vb :: st) := by
  obtain ⟨p, l, e, R, s, m, args, below, meth, c, Q, A, D, n0, α0⟩ := X
  intro hx hb hml hown hts hlk hA H locs ls α cA ha hW hS hl
  exact lv_dup_x1 hx hb hd ((gv_cat _ _).trans h1) ((gv_cat _ _).trans h2) (kk hx hb hml hown hts hlk hA H locs ls α cA ha hW hS hl)
theorem Wp.if_eq {x : Int32} {off : Int} (tgt : Nat) (hd : decode cc pc = .ok (.ifCond .eq off, 3)) (ht : (pc : Int) + off = (tgt : Int)) (kt : x = 0 → Wp X cc own nL T μ n1 n2 tgt lo st) (kf : ¬ x = 0 → Wp X cc own nL T μ n1 n2 (pc + 3) lo st) : Wp X cc own nL T μ n1 n2 pc lo (.int x :: st) := by
  obtain ⟨p, l, e, R, s, m, args, below, meth, c, Q, A, D, n0, α0⟩ := X
  intro hx hb hml hown hts hlk hA H locs ls α cA ha hW hS hl
  exact lv_if_eq hx hb hd ht (fun h => kt h hx hb hml hown hts hlk hA H locs ls α cA ha hW hS hl) (fun h => kf h hx hb hml hown hts hlk hA H locs ls α cA ha hW hS hl)
theorem Wp.icmp_eq {x y : Int32} {off : Int} (tgt : Nat) (hd : decode cc pc = .ok (.if_icmp .eq off, 3)) (ht : (pc : Int) + off = (tgt : Int)) (kt : x = y → Wp X cc own nL T μ n1 n2 tgt lo st) (kf : ¬ x = y → Wp X cc own nL T μ n1 n2 (pc + 3) lo st) : Wp X cc own nL T μ n1 n2 pc lo (.int y :: .int x :: st) := by
  obtain ⟨p, l, e, R, s, m, args, below, meth, c, Q, A, D, n0, α0⟩ := X
  intro hx hb hml hown hts hlk hA H locs ls α cA ha hW hS hl
  exact lv_icmp_eq hx hb hd ht (fun h => kt h hx hb hml hown hts hlk hA H locs ls α cA ha hW hS hl) (fun h => kf h hx hb hml hown hts hlk hA H locs ls α cA ha hW hS hl)
theorem Wp.if_ne {x : Int32} {off : Int} (tgt : Nat) (hd : decode cc pc = .ok (.ifCond .ne off, 3)) (ht : (pc : Int) + off = (tgt : Int)) (kt : ¬ x = 0 → Wp X cc own nL T μ n1 n2 tgt lo st) (kf : x = 0 → Wp X cc own nL T μ n1 n2 (pc + 3) lo st) : Wp X cc own nL T μ n1 n2 pc lo (.int x :: st) := by
  obtain ⟨p, l, e, R, s, m, args, below, meth, c, Q, A, D, n0, α0⟩ := X
  intro hx hb hml hown hts hlk hA H locs ls α cA ha hW hS hl
  exact lv_if_ne hx hb hd ht (fun h => kt h hx hb hml hown hts hlk hA H locs ls α cA ha hW hS hl) (fun h => kf h hx hb hml hown hts hlk hA H locs ls α cA ha hW hS hl)
theorem Wp.icmp_ne {x y : Int32} {off : Int} (tgt : Nat) (hd : decode cc pc = .ok (.if_icmp .ne off, 3)) (ht : (pc : Int) + off = (tgt : Int)) (kt : ¬ x = y → Wp X cc own nL T μ n1 n2 tgt lo st) (kf : x = y → Wp X cc own nL T μ n1 n2 (pc + 3) lo st) : Wp X cc own nL T μ n1 n2 pc lo (.int y :: .int x :: st) := by
  obtain ⟨p, l, e, R, s, m, args, below, meth, c, Q, A, D, n0, α0⟩ := X
  intro hx hb hml hown hts hlk hA H locs ls α cA ha hW hS hl
  exact lv_icmp_ne hx hb hd ht (fun h => kt h hx hb hml hown hts hlk hA H locs ls α cA ha hW hS hl) (fun h => kf h hx hb hml hown hts hlk hA H locs ls α cA ha hW hS hl)
theorem Wp.if_lt {x : Int32} {off : Int} (tgt : Nat) (hd : decode cc pc = .ok (.ifCond .lt off, 3)) (ht : (pc : Int) + off = (tgt : Int)) (kt : x < 0 → Wp X cc own nL T μ n1 n2 tgt lo st) (kf : ¬ x < 0 → Wp X cc own nL T μ n1 n2 (pc + 3) lo st) : Wp X cc own nL T μ n1 n2 pc lo (.int x :: st) := by
  obtain ⟨p, l, e, R, s, m, args, below, meth, c, Q, A, D, n0, α0⟩ := X
  intro hx hb hml hown hts hlk hA H locs ls α cA ha hW hS hl
  exact lv_if_lt hx hb hd ht (fun h => kt h hx hb hml hown hts hlk hA H locs ls α cA ha hW hS hl) (fun h => kf h hx hb hml hown hts hlk hA H locs ls α cA ha hW hS hl)
theorem Wp.icmp_lt {x y : Int32} {off : Int} (tgt : Nat) (hd : decode cc pc = .ok (.if_icmp .lt off, 3)) (ht : (pc : Int) + off = (tgt : Int)) (kt : x < y → Wp X cc own nL T μ n1 n2 tgt lo st) (kf : ¬ x < y → Wp X cc own nL T μ n1 n2 (pc + 3) lo st) : Wp X cc own nL T μ n1 n2 pc lo (.int y :: .int x :: st) := by
  obtain ⟨p, l, e, R, s, m, args, below, meth, c, Q, A, D, n0, α0⟩ := X
  intro hx hb hml hown hts hlk hA H locs ls α cA ha hW hS hl
  exact lv_icmp_lt hx hb hd ht (fun h => kt h hx hb hml hown hts hlk hA H locs ls α cA ha hW hS hl) (fun h => kf h hx hb hml hown hts hlk hA H locs ls α cA ha hW hS hl)
theorem Wp.if_ge {x : Int32} {off : Int} (tgt : Nat) (hd : decode cc pc = .ok (.ifCond .ge off, 3)) (ht : (pc : Int) + off = (tgt : Int)) (kt : 0 ≤ x → Wp X cc own nL T μ n1 n2 tgt lo st) (kf : ¬ 0 ≤ x → Wp X cc own nL T μ n1 n2 (pc + 3) lo st) : Wp X cc own nL T μ n1 n2 pc lo (.int x :: st) := by
  obtain ⟨p, l, e, R, s, m, args, below, meth, c, Q, A, D, n0, α0⟩ := X
  intro hx hb hml hown hts hlk hA H locs ls α cA ha hW hS hl
  exact lv_if_ge hx hb hd ht (fun h => kt h hx hb hml hown hts hlk hA H locs ls α cA ha hW hS hl) (fun h => kf h hx hb hml hown hts hlk hA H locs ls α cA ha hW hS hl)
theorem Wp.icmp_ge {x y : Int32} {off : Int} (tgt : Nat) (hd : decode cc pc = .ok (.if_icmp .ge off, 3)) (ht : (pc : Int) + off = (tgt : Int)) (kt : y ≤ x → Wp X cc own nL T μ n1 n2 tgt lo st) (kf : ¬ y ≤ x → Wp X cc own nL T μ n1 n2 (pc + 3) lo st) : Wp X cc own nL T μ n1 n2 pc lo (.int y :: .int x :: st) := by
  obtain ⟨p, l, e, R, s, m, args, below, meth, c, Q, A, D, n0, α0⟩ := X
  intro hx hb hml hown hts hlk hA H locs ls α cA ha hW hS hl
  exact lv_icmp_ge hx hb hd ht (fun h => kt h hx hb hml hown hts hlk hA H locs ls α cA ha hW hS hl) (fun h => kf h hx hb hml hown hts hlk hA H locs ls α cA ha hW hS hl)
theorem Wp.if_gt {x : Int32} {off : Int} (tgt : Nat) (hd : decode cc pc = .ok (.ifCond .gt off, 3)) (ht : (pc : Int) + off = (tgt : Int)) (kt : 0 < x → Wp X cc own nL T μ n1 n2 tgt lo st) (kf : ¬ 0 < x → Wp X cc own nL T μ n1 n2 (pc + 3) lo st) : Wp X cc own nL T μ n1 n2 pc lo (.int x :: st) := by
  obtain ⟨p, l, e, R, s, m, args, below, meth, c, Q, A, D, n0, α0⟩ := X
  intro hx hb hml hown hts hlk hA H locs ls α cA ha hW hS hl
  exact lv_if_gt hx hb hd ht (fun h => kt h hx hb hml hown hts hlk hA H locs ls α cA ha hW hS hl) (fun h => kf h hx hb hml hown hts hlk hA H locs ls α cA ha hW hS hl)
theorem Wp.icmp_gt {x y : Int32} {off : Int} (tgt : Nat) (hd : decode cc pc = .ok (.if_icmp .gt off, 3)) (ht : (pc : Int) + off = (tgt : Int)) (kt : y < x → Wp X cc own nL T μ n1 n2 tgt lo st) (kf : ¬ y < x → Wp X cc own nL T μ n1 n2 (pc + 3) lo st) : Wp X cc own nL T μ n1 n2 pc lo (.int y :: .int x :: st) := by
  obtain ⟨p, l, e, R, s, m, args, below, meth, c, Q, A, D, n0, α0⟩ := X
  intro hx hb hml hown hts hlk hA H locs ls α cA ha hW hS hl
  exact lv_icmp_gt hx hb hd ht (fun h => kt h hx hb hml hown hts hlk hA H locs ls α cA ha hW hS hl) (fun h => kf h hx hb hml hown hts hlk hA H locs ls α cA ha hW hS hl)
theorem Wp.if_le {x : Int32} {off : Int} (tgt : Nat) (hd : decode cc pc = .ok (.ifCond .le off, 3)) (ht : (pc : Int) + off = (tgt : Int)) (kt : x ≤ 0 → Wp X cc own nL T μ n1 n2 tgt lo st) (kf : ¬ x ≤ 0 → Wp X cc own nL T μ n1 n2 (pc + 3) lo st) : Wp X cc own nL T μ n1 n2 pc lo (.int x :: st) := by
  obtain ⟨p, l, e, R, s, m, args, below, meth, c, Q, A, D, n0, α0⟩ := X
  intro hx hb hml hown hts hlk hA H locs ls α cA ha hW hS hl
  exact lv_if_le hx hb hd ht (fun h => kt h hx hb hml hown hts hlk hA H locs ls α cA ha hW hS hl) (fun h => kf h hx hb hml hown hts hlk hA H locs ls α cA ha hW hS hl)
theorem Wp.icmp_le {x y : Int32} {off : Int} (tgt : Nat) (hd : decode cc pc = .ok (.if_icmp .le off, 3)) (ht : (pc : Int) + off = (tgt : Int)) (kt : x ≤ y → Wp X cc own nL T μ n1 n2 tgt lo st) (kf : ¬ x ≤ y → Wp X cc own nL T μ n1 n2 (pc + 3) lo st) : Wp X cc own nL T μ n1 n2 pc lo (.int y :: .int x :: st) := by
  obtain ⟨p, l, e, R, s, m, args, below, meth, c, Q, A, D, n0, α0⟩ := X
  intro hx hb hml hown hts hlk hA H locs ls α cA ha hW hS hl
  exact lv_icmp_le hx hb hd ht (fun h => kt h hx hb hml hown hts hlk hA H locs ls α cA ha hW hS hl) (fun h => kf h hx hb hml hown hts hlk hA H locs ls α cA ha hW hS hl)
theorem Wp.goto {off : Int} (tgt : Nat) (hd : decode cc pc = .ok (.goto off, 3)) (ht : (pc : Int) + off = (tgt : Int)) (kk : Wp X cc own nL T μ n1 n2 tgt lo st) : Wp X cc own nL T μ n1 n2 pc lo st := by
  obtain ⟨p, l, e, R, s, m, args, below, meth, c, Q, A, D, n0, α0⟩ := X
  intro hx hb hml hown hts hlk hA H locs ls α cA ha hW hS hl
  exact lv_goto hx hb hd ht (kk hx hb hml hown hts hlk hA H locs ls α cA ha hW hS hl)
theorem Wp.ifnonnull {x : Nat} {off : Int} (tgt : Nat) (hd : decode cc pc = .ok (.ifnonnull off, 3)) (ht : (pc : Int) + off = (tgt : Int)) (kk : Wp X cc own nL T μ n1 n2 tgt lo st) : Wp X cc own nL T μ n1 n2 pc lo (.ref x :: st) := by
  obtain ⟨p, l, e, R, s, m, args, below, meth, c, Q, A, D, n0, α0⟩ := X
  intro hx hb hml hown hts hlk hA H locs ls α cA ha hW hS hl
  exact lv_ifnonnull hx hb hd ht (kk hx hb hml hown hts hlk hA H locs ls α cA ha hW hS hl)
theorem Wp.ifnonnullN {off : Int} (hd : decode cc pc = .ok (.ifnonnull off, 3)) (kk : Wp X cc own nL T μ n1 n2 (pc + 3) lo st) : Wp X cc own nL T μ n1 n2 pc lo (.null :: st) := by
  obtain ⟨p, l, e, R, s, m, args, below, meth, c, Q, A, D, n0, α0⟩ := X
  intro hx hb hml hown hts hlk hA H locs ls α cA ha hW hS hl
  exact lv_ifnonnullN hx hb hd (kk hx hb hml hown hts hlk hA H locs ls α cA ha hW hS hl)
theorem Wp.ifnull {x : Nat} {off : Int} (hd : decode cc pc = .ok (.ifnull off, 3)) (kk : Wp X cc own nL T μ n1 n2 (pc + 3) lo st) : Wp X cc own nL T μ n1 n2 pc lo (.ref x :: st) := by
  obtain ⟨p, l, e, R, s, m, args, below, meth, c, Q, A, D, n0, α0⟩ := X
  intro hx hb hml hown hts hlk hA H locs ls α cA ha hW hS hl
  exact lv_ifnull hx hb hd (kk hx hb hml hown hts hlk hA H locs ls α cA ha hW hS hl)
theorem Wp.ifnullN {off : Int} (tgt : Nat) (hd : decode cc pc = .ok (.ifnull off, 3)) (ht : (pc : Int) + off = (tgt : Int)) (kk : Wp X cc own nL T μ n1 n2 tgt lo st) : Wp X cc own nL T μ n1 n2 pc lo (.null :: st) := by
  obtain ⟨p, l, e, R, s, m, args, below, meth, c, Q, A, D, n0, α0⟩ := X
  intro hx hb hml hown hts hlk hA H locs ls α cA ha hW hS hl
  exact lv_ifnullN hx hb hd ht (kk hx hb hml hown hts hlk hA H locs ls α cA ha hW hS hl)
theorem Wp.swOut {x : Int32} {d lo1 hi1 : Int} {offs : Array Int} {len : Nat} (tgt : Nat) (hd : decode cc pc = .ok (.tableswitch d lo1 hi1 offs, len)) (h : x.toInt < lo1 ∨ hi1 < x.toInt) (ht : (pc : Int) + d = (tgt : Int)) (kk : Wp X cc own nL T μ n1 n2 tgt lo st) : Wp X cc own nL T μ n1 n2 pc lo (.int x :: st) := by
  obtain ⟨p, l, e, R, s, m, args, below, meth, c, Q, A, D, n0, α0⟩ := X
  intro hx hb hml hown hts hlk hA H locs ls α cA ha hW hS hl
  exact lv_tableOut hx hb hd h ht (kk hx hb hml hown hts hlk hA H locs ls α cA ha hW hS hl)
theorem Wp.swIn {x v : Int32} {d lo1 hi1 off : Int} {offs : Array Int} {len : Nat} (tgt : Nat) (hd : decode cc pc = .ok (.tableswitch d lo1 hi1 offs, len)) (hv : x = v) (h1 : ¬ v.toInt < lo1) (h2 : ¬ hi1 < v.toInt) (ho : offs[(v.toInt - lo1).toNat]? = some off) (ht : (pc : Int) + off = (tgt : Int)) (kk : Wp X cc own nL T μ n1 n2 tgt lo st) : Wp X cc own nL T μ n1 n2 pc lo (.int x :: st) := by
  obtain ⟨p, l, e, R, s, m, args, below, meth, c, Q, A, D, n0, α0⟩ := X
  intro hx hb hml hown hts hlk hA H locs ls α cA ha hW hS hl
  subst hv
  exact lv_tableIn hx hb hd h1 h2 ho ht (kk hx hb hml hown hts hlk hA H locs ls α cA ha hW hS hl)
end WPR
