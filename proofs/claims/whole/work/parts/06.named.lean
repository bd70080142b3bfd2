/-! ===== named steps: what a pure function does, a bind each ===== -/
def pI (μ : Mem) (k j : Nat) (v : Int32) : Option Mem := some (sI μ k j v)
def pJ (μ : Mem) (k j : Nat) (v : Int64) : Option Mem := some (sJ μ k j v)
def pR (μ : Mem) (k j : Nat) (v : Nat) : Option Mem := some (sR μ k j (some v))
def nmI (v : Int32) : Option Int32 := some v
def nmJ (v : Int64) : Option Int64 := some v
def mxI (x y : Int32) : Int32 := if x < y then y else x
def mnI (x y : Int32) : Int32 := if y < x then y else x
def abI (x : Int32) : Int32 := if 0 ≤ x then x else 0 - x
/-- a row of an int array copied into another -/
def sC (μ : Mem) (r0 r1 sp dp n : Nat) : Mem := (fun a b => if a = r1 then va_cpy (gI μ r0) (gI μ r1) sp dp n b else gI μ a b, μ.2.1, μ.2.2)
def cpI (μ : Mem) (r0 m0 r1 m1 : Nat) (sp dp n : Int32) : Option Mem := if (¬ sp < 0 ∧ ¬ dp < 0 ∧ ¬ n < 0) ∧ sp.toNatClampNeg + n.toNatClampNeg ≤ m0 ∧ dp.toNatClampNeg + n.toNatClampNeg ≤ m1 then some (sC μ r0 r1 sp.toNatClampNeg dp.toNatClampNeg n.toNatClampNeg) else none
theorem bnd {α β : Type} {o : Option α} {f : α → Option β} {b : β} (h : o.bind f = some b) : ∃ a, o = some a ∧ f a = some b := Option.bind_eq_some_iff.mp h
section WPN
variable {X : CX} {cc : ByteArray} {own : String} {nL : Nat} {T : List Dsc} {μ μ' : Mem} {n1 n2 pc : Nat} {lo : List (Nat × Value)} {st : List Value} {d : Nat}
theorem Wp.ptI {k ci j ix : Nat} {v : Int32} (hp : pI μ k j v = some μ') (hT : T[k]? = some (.inl ci)) (hf : FK own ix ci j) (hff : FKf own ci j false) (hty : fT ci j = .int) (hd : decode cc pc = .ok (.putfield ix, 3)) (kk : Wp X cc own nL T μ' n1 n2 (pc + 3) lo st) : Wp X cc own nL T μ n1 n2 pc lo (.int v :: .ref k :: st) := by
  cases hp
  exact Wp.putI hT hf hff hty hd kk
theorem Wp.ptZ {k ci j ix : Nat} {v : Int32} (hz : v = 0 ∨ v = 1) (hp : pI μ k j v = some μ') (hT : T[k]? = some (.inl ci)) (hf : FK own ix ci j) (hff : FKf own ci j false) (hty : fT ci j = .boolean) (hd : decode cc pc = .ok (.putfield ix, 3)) (kk : Wp X cc own nL T μ' n1 n2 (pc + 3) lo st) : Wp X cc own nL T μ n1 n2 pc lo (.int v :: .ref k :: st) := by
  cases hp
  exact Wp.putZ hz hT hf hff hty hd kk
theorem Wp.ptJ {k ci j ix : Nat} {v : Int64} (hp : pJ μ k j v = some μ') (hT : T[k]? = some (.inl ci)) (hf : FK own ix ci j) (hff : FKf own ci j false) (hty : fT ci j = .long) (hd : decode cc pc = .ok (.putfield ix, 3)) (kk : Wp X cc own nL T μ' n1 n2 (pc + 3) lo st) : Wp X cc own nL T μ n1 n2 pc lo (.long v :: .ref k :: st) := by
  cases hp
  exact Wp.putJ hT hf hff hty hd kk
theorem Wp.ptR {k ci j ix r : Nat} (hp : pR μ k j r = some μ') (hT : T[k]? = some (.inl ci)) (hf : FK own ix ci j) (hff : FKf own ci j false) (hty : isP (fT ci j) = true) (hd : decode cc pc = .ok (.putfield ix, 3)) (kk : Wp X cc own nL T μ' n1 n2 (pc + 3) lo st) : Wp X cc own nL T μ n1 n2 pc lo (.ref r :: .ref k :: st) := by
  cases hp
  exact Wp.putR hT hf hff hty hd kk
theorem Wp.nI' {x y : Int32} (h : nmI x = some y) (kk : Wp X cc own nL T μ n1 n2 pc lo (.int y :: st)) : Wp X cc own nL T μ n1 n2 pc lo (.int x :: st) := by
  cases h
  exact kk
theorem Wp.nJ' {x y : Int64} (h : nmJ x = some y) (kk : Wp X cc own nL T μ n1 n2 pc lo (.long y :: st)) : Wp X cc own nL T μ n1 n2 pc lo (.long x :: st) := by
  cases h
  exact kk
theorem Wp.dv {x y v : Int32} (h : dvI x y = some v) (hd : decode cc pc = .ok (.idiv, 1)) (kk : Wp X cc own nL T μ n1 n2 (pc + 1) lo (.int v :: st)) : Wp X cc own nL T μ n1 n2 pc lo (.int y :: .int x :: st) := by
  obtain ⟨h1, rfl⟩ := of_dvI h
  exact Wp.idiv h1 hd kk
theorem Wp.rm {x y v : Int32} (h : rmI x y = some v) (hd : decode cc pc = .ok (.irem, 1)) (kk : Wp X cc own nL T μ n1 n2 (pc + 1) lo (.int v :: st)) : Wp X cc own nL T μ n1 n2 pc lo (.int y :: .int x :: st) := by
  obtain ⟨h1, rfl⟩ := of_rmI h
  exact Wp.irem h1 hd kk
theorem Wp.zb' {x v : Int32} (h : zb x = some v) (kk : (v = 0 ∨ v = 1) → Wp X cc own nL T μ n1 n2 pc lo (.int v :: st)) : Wp X cc own nL T μ n1 n2 pc lo (.int x :: st) := by
  obtain ⟨h1, rfl⟩ := of_zb h
  exact kk h1
def MM (own : String) (ix : Nat) (y : MethodName) (cc : ByteArray) (n : Nat) : Prop := Cond.methodLink own ix y ∈ gw ∧ Cond.static y ∈ gw ∧ Cond.initialized "java/lang/Math" ∈ gw ∧ Cond.code y cc n (some .int) ∈ gw
theorem Wp.mmax {ix : Nat} {x y : Int32} (hm : MM own ix Lib.Math.max.name Lib.Math.max.code 2) (hX : XR X d n1 n2) (hdd : 1 ≤ d) (hcat : (st.map fun v => v.category).sum ≤ 8) (hd : decode cc pc = .ok (.invokestatic ix, 3)) (kk : Wp X cc own nL T μ n1 n2 (pc + 3) lo (.int (mxI x y) :: st)) : Wp X cc own nL T μ n1 n2 pc lo (.int y :: .int x :: st) := by
  obtain ⟨p, l, e, R, s, m, args, below, meth, c, Q, A, D, n0, α0⟩ := X
  intro hx hb hml hown hts hlk hA H locs ls α cA ha hW hS hl
  obtain ⟨m1, m2, m3, m4⟩ := hm
  obtain ⟨r1, r2, r3, r4⟩ := hX
  exact va_mmax hx hb (hml.trans hl.1.symm) hown (hts _ m1) (hts _ m2) (hts _ m3) (hts _ m4) (by omega) (by rw [cat_gv]; omega) r3 r4 hd (kk hx hb hml hown hts hlk hA H locs ls α cA ha hW hS hl)
theorem Wp.mmin {ix : Nat} {x y : Int32} (hm : MM own ix Lib.Math.min.name Lib.Math.min.code 2) (hX : XR X d n1 n2) (hdd : 1 ≤ d) (hcat : (st.map fun v => v.category).sum ≤ 8) (hd : decode cc pc = .ok (.invokestatic ix, 3)) (kk : Wp X cc own nL T μ n1 n2 (pc + 3) lo (.int (mnI x y) :: st)) : Wp X cc own nL T μ n1 n2 pc lo (.int y :: .int x :: st) := by
  obtain ⟨p, l, e, R, s, m, args, below, meth, c, Q, A, D, n0, α0⟩ := X
  intro hx hb hml hown hts hlk hA H locs ls α cA ha hW hS hl
  obtain ⟨m1, m2, m3, m4⟩ := hm
  obtain ⟨r1, r2, r3, r4⟩ := hX
  exact va_mmin hx hb (hml.trans hl.1.symm) hown (hts _ m1) (hts _ m2) (hts _ m3) (hts _ m4) (by omega) (by rw [cat_gv]; omega) r3 r4 hd (kk hx hb hml hown hts hlk hA H locs ls α cA ha hW hS hl)
theorem Wp.mabs {ix : Nat} {x : Int32} (hm : MM own ix Lib.Math.abs.name Lib.Math.abs.code 1) (hX : XR X d n1 n2) (hdd : 1 ≤ d) (hcat : (st.map fun v => v.category).sum ≤ 8) (hd : decode cc pc = .ok (.invokestatic ix, 3)) (kk : Wp X cc own nL T μ n1 n2 (pc + 3) lo (.int (abI x) :: st)) : Wp X cc own nL T μ n1 n2 pc lo (.int x :: st) := by
  obtain ⟨p, l, e, R, s, m, args, below, meth, c, Q, A, D, n0, α0⟩ := X
  intro hx hb hml hown hts hlk hA H locs ls α cA ha hW hS hl
  obtain ⟨m1, m2, m3, m4⟩ := hm
  obtain ⟨r1, r2, r3, r4⟩ := hX
  exact va_mabs hx hb (hml.trans hl.1.symm) hown (hts _ m1) (hts _ m2) (hts _ m3) (hts _ m4) (by omega) (by rw [cat_gv]; omega) r3 r4 hd (kk hx hb hml hown hts hlk hA H locs ls α cA ha hW hS hl)
theorem gI_sC (μ : Mem) (r0 r1 sp dp n a b : Nat) : gI (sC μ r0 r1 sp dp n) a b = if a = r1 then va_cpy (gI μ r0) (gI μ r1) sp dp n b else gI μ a b := rfl
theorem Wp.acopy {ix r0 m0 r1 m1 : Nat} {sp dp n : Int32} (hp : cpI μ r0 m0 r1 m1 sp dp n = some μ') (h0 : aLen T r0 0 = some m0) (h1 : aLen T r1 0 = some m1) (hl1 : Cond.methodLink own ix arraycopyName ∈ gw) (hnat : Cond.native arraycopyName ∈ gw) (hstat : Cond.static arraycopyName ∈ gw) (hini : Cond.initialized "java/lang/System" ∈ gw) (hX : XR X d n1 n2) (hdd : 1 ≤ d) (hcat : (st.map fun v => v.category).sum ≤ 8) (hd : decode cc pc = .ok (.invokestatic ix, 3)) (kk : Wp X cc own nL T μ' n1 n2 (pc + 3) lo st) : Wp X cc own nL T μ n1 n2 pc lo (.int n :: .int dp :: .ref r1 :: .int sp :: .ref r0 :: st) := by
  obtain ⟨p, l, e, R, s, m, args, below, meth, c, Q, A, D, n0, α0⟩ := X
  intro hx hb hml hown hts hlk hA H locs ls α cA ha hW hS hl
  obtain ⟨⟨⟨c1, c2, c3⟩, c4, c5⟩, rfl⟩ := of_if hp
  obtain ⟨r1', r2', r3', r4'⟩ := hX
  obtain ⟨ty0, q0, z0⟩ := aLen_T h0
  obtain ⟨ty1, q1, z1⟩ := aLen_T h1
  have e0 : ty0 = .int := by cases ty0 <;> first | rfl | cases z0
  have e1 : ty1 = .int := by cases ty1 <;> first | rfl | cases z1
  subst e0; subst e1
  obtain ⟨tys, hK, hP, hD, ht, hn⟩ := hW
  obtain ⟨t0, ht0⟩ := ht r0 m0 _ q0
  obtain ⟨t1, ht1⟩ := ht r1 m1 _ q1
  refine va_copyi hx hb (hml.trans hl.1.symm) hown (hts _ hl1) (hts _ hnat) (hts _ hstat) (hts _ hini) hK hP hD hS r0 r1 t0 t1 (f := gI μ r0) (g := gI μ r1) (by rw [wS_at q0, eN_arr q0]; rfl) (by rw [wS_at q1, eN_arr q1]; rfl) ht0 ht1 rfl c1 c2 c3 c4 c5 (fun _ _ => rfl) (by omega) (by rw [cat_gv]; show _ + (7 + 11) ≤ R.locals; omega) hd (fun H1 locs1 hP1 hD1 hS1 => ?_)
  have hset : (wS T μ α cA).set r1 (α r1, .inl (cA r1, m1, .inl (va_cpy (gI μ r0) (gI μ r1) sp.toNatClampNeg dp.toNatClampNeg n.toNatClampNeg))) = wS T (sC μ r0 r1 sp.toNatClampNeg dp.toNatClampNeg n.toNatClampNeg) α cA := by
    apply wS_set
    · rw [eN_arr q1]
      show Sum.inl (cA r1, m1, Sum.inl (gI (sC μ r0 r1 _ _ _) r1)) = _
      congr 4
      funext j
      simp [gI_sC]
    · intro q hq
      exact eN_off (fun j => by simp [gI_sC, hq]) (fun _ => rfl) (fun _ => rfl)
  rw [hset] at hP1 hD1
  exact kk hx hb hml hown hts hlk hA H1 locs1 ls α cA ha ⟨tys, hK, hP1, hD1, ht, hn⟩ hS1 hl
end WPN
