theorem rO_T {T : List Dsc} {μ : Mem} {r n c1 v : Nat} {i : Int32} (h : rO T μ r n i c1 = some v) : T[v]? = some (.inl c1) := by
  unfold rO at h
  split at h
  · exact gO_T h
  · cases h
theorem Wp.iincN {X : CX} {cc : ByteArray} {own : String} {nL : Nat} {T : List Dsc} {μ : Mem} {n1 n2 pc : Nat} {lo : List (Nat × Value)} {st : List Value} {i : Nat} {x w : Int32} {n : Int} {lo' : List (Nat × Value)} (v : Int32) (hv : Int32.ofInt n = v) (hw : nmI (x + v) = some w) (q : Nat) (hq : lo[q]? = some (i, .int x)) (ks : List Nat) (h : lv_pick ((i, Value.int w) :: lo.filter (fun q => !(q.1 == i) && !(q.1 + 1 == i && q.2.category == 2))) ks = lo') (hn : i < nL) (hd : decode cc pc = .ok (.iinc i n, 3)) (kk : Wp X cc own nL T μ n1 n2 (pc + 3) lo' st) : Wp X cc own nL T μ n1 n2 pc lo st := by
  cases hw
  exact Wp.iinc v hv q hq ks h hn hd kk
section WP2
variable {X : CX} {cc : ByteArray} {own : String} {nL : Nat} {T : List Dsc} {m m' : M2} {R : RM} {n1 n2 pc : Nat} {lo : List (Nat × Value)} {st : List Value} {d : Nat}
theorem Wp.getI2 {k ci j ix : Nat} (hT : T[k]? = some (.inl ci)) (hf : FK own ix ci j) (hty : isI (fT ci j) = true) (hd : decode cc pc = .ok (.getfield ix, 3)) (kk : Wp X cc own nL T (mk m R) n1 n2 (pc + 3) lo (.int (hI m k j) :: st)) : Wp X cc own nL T (mk m R) n1 n2 pc lo (.ref k :: st) := Wp.getI hT hf hty hd kk
theorem Wp.getJ2 {k ci j ix : Nat} (hT : T[k]? = some (.inl ci)) (hf : FK own ix ci j) (hty : fT ci j = .long) (hd : decode cc pc = .ok (.getfield ix, 3)) (kk : Wp X cc own nL T (mk m R) n1 n2 (pc + 3) lo (.long (hJ m k j) :: st)) : Wp X cc own nL T (mk m R) n1 n2 pc lo (.ref k :: st) := Wp.getJ hT hf hty hd kk
theorem Wp.getR2 {k ci j ix r : Nat} (hr : R k j = some r) (hT : T[k]? = some (.inl ci)) (hf : FK own ix ci j) (hty : isP (fT ci j) = true) (hd : decode cc pc = .ok (.getfield ix, 3)) (kk : Wp X cc own nL T (mk m R) n1 n2 (pc + 3) lo (.ref r :: st)) : Wp X cc own nL T (mk m R) n1 n2 pc lo (.ref k :: st) := Wp.getR (μ := mk m R) hr hT hf hty hd kk
theorem Wp.ptI2 {k ci j ix : Nat} {v : Int32} (hp : qI m k j v = some m') (hT : T[k]? = some (.inl ci)) (hf : FK own ix ci j) (hff : FKf own ci j false) (hty : fT ci j = .int) (hd : decode cc pc = .ok (.putfield ix, 3)) (kk : Wp X cc own nL T (mk m' R) n1 n2 (pc + 3) lo st) : Wp X cc own nL T (mk m R) n1 n2 pc lo (.int v :: .ref k :: st) := by
  cases hp
  exact Wp.putI hT hf hff hty hd kk
theorem Wp.ptZ2 {k ci j ix : Nat} {v : Int32} (hz : v = 0 ∨ v = 1) (hp : qI m k j v = some m') (hT : T[k]? = some (.inl ci)) (hf : FK own ix ci j) (hff : FKf own ci j false) (hty : fT ci j = .boolean) (hd : decode cc pc = .ok (.putfield ix, 3)) (kk : Wp X cc own nL T (mk m' R) n1 n2 (pc + 3) lo st) : Wp X cc own nL T (mk m R) n1 n2 pc lo (.int v :: .ref k :: st) := by
  cases hp
  exact Wp.putZ hz hT hf hff hty hd kk
theorem Wp.ptJ2 {k ci j ix : Nat} {v : Int64} (hp : qJ m k j v = some m') (hT : T[k]? = some (.inl ci)) (hf : FK own ix ci j) (hff : FKf own ci j false) (hty : fT ci j = .long) (hd : decode cc pc = .ok (.putfield ix, 3)) (kk : Wp X cc own nL T (mk m' R) n1 n2 (pc + 3) lo st) : Wp X cc own nL T (mk m R) n1 n2 pc lo (.long v :: .ref k :: st) := by
  cases hp
  exact Wp.putJ hT hf hff hty hd kk
theorem Wp.ptR2 {k ci j ix r : Nat} (hT : T[k]? = some (.inl ci)) (hf : FK own ix ci j) (hff : FKf own ci j false) (hty : isP (fT ci j) = true) (hd : decode cc pc = .ok (.putfield ix, 3)) (kk : Wp X cc own nL T (mk m (u2 R k j (some r))) n1 n2 (pc + 3) lo st) : Wp X cc own nL T (mk m R) n1 n2 pc lo (.ref r :: .ref k :: st) := Wp.putR hT hf hff hty hd kk
theorem Wp.iald2 {r n : Nat} {i v : Int32} (hr : aI m r n i = some v) (hT : aLen T r 0 = some n) (hd : decode cc pc = .ok (.iaload, 1)) (kk : Wp X cc own nL T (mk m R) n1 n2 (pc + 1) lo (.int v :: st)) : Wp X cc own nL T (mk m R) n1 n2 pc lo (.int i :: .ref r :: st) := Wp.iald (μ := mk m R) hr hT hd kk
theorem Wp.bald2 {r n : Nat} {i v : Int32} (hr : aI m r n i = some v) (hT : aLen T r 2 = some n) (hd : decode cc pc = .ok (.baload, 1)) (kk : Wp X cc own nL T (mk m R) n1 n2 (pc + 1) lo (.int v :: st)) : Wp X cc own nL T (mk m R) n1 n2 pc lo (.int i :: .ref r :: st) := Wp.bald (μ := mk m R) hr hT hd kk
theorem Wp.zald2 {r n : Nat} {i v : Int32} (hr : aI m r n i = some v) (hT : aLen T r 3 = some n) (hd : decode cc pc = .ok (.baload, 1)) (kk : Wp X cc own nL T (mk m R) n1 n2 (pc + 1) lo (.int v :: st)) : Wp X cc own nL T (mk m R) n1 n2 pc lo (.int i :: .ref r :: st) := Wp.zald (μ := mk m R) hr hT hd kk
theorem Wp.lald2 {r n : Nat} {i : Int32} {v : Int64} (hr : aJ m r n i = some v) (hT : aLen T r 1 = some n) (hd : decode cc pc = .ok (.laload, 1)) (kk : Wp X cc own nL T (mk m R) n1 n2 (pc + 1) lo (.long v :: st)) : Wp X cc own nL T (mk m R) n1 n2 pc lo (.int i :: .ref r :: st) := Wp.lald (μ := mk m R) hr hT hd kk
theorem Wp.aald2 {r n k c1 v : Nat} {i : Int32} (hk : ixC i n = some k) (hr : R r k = some v) (ho : T[v]? = some (.inl c1)) (hT : aLen T r 4 = some n) (hd : decode cc pc = .ok (.aaload, 1)) (kk : Wp X cc own nL T (mk m R) n1 n2 (pc + 1) lo (.ref v :: st)) : Wp X cc own nL T (mk m R) n1 n2 pc lo (.int i :: .ref r :: st) := by
  obtain ⟨h1, rfl⟩ := of_if hk
  refine Wp.aald (μ := mk m R) (c1 := c1) (v := v) ?_ hT hd kk
  unfold rO gO
  rw [if_pos h1]
  show (match R r i.toNatClampNeg with | some r => if isO T r c1 = true then some r else none | none => none) = some v
  rw [hr]
  simp [isO, ho]
theorem Wp.iast2 {r n : Nat} {i v : Int32} (hr : bI m r n i v = some m') (hT : aLen T r 0 = some n) (hd : decode cc pc = .ok (.iastore, 1)) (kk : Wp X cc own nL T (mk m' R) n1 n2 (pc + 1) lo st) : Wp X cc own nL T (mk m R) n1 n2 pc lo (.int v :: .int i :: .ref r :: st) := by
  obtain ⟨h1, rfl⟩ := of_if hr
  exact Wp.iast (μ := mk m R) (if_pos h1) hT hd kk
theorem Wp.bast2 {r n : Nat} {i v : Int32} (hr : bB m r n i v = some m') (hT : aLen T r 2 = some n) (hd : decode cc pc = .ok (.bastore, 1)) (kk : Wp X cc own nL T (mk m' R) n1 n2 (pc + 1) lo st) : Wp X cc own nL T (mk m R) n1 n2 pc lo (.int v :: .int i :: .ref r :: st) := by
  obtain ⟨h1, rfl⟩ := of_if hr
  exact Wp.bast (μ := mk m R) (if_pos h1) hT hd kk
theorem Wp.zast2 {r n : Nat} {i v : Int32} (hz : v = 0 ∨ v = 1) (hr : bI m r n i v = some m') (hT : aLen T r 3 = some n) (hd : decode cc pc = .ok (.bastore, 1)) (kk : Wp X cc own nL T (mk m' R) n1 n2 (pc + 1) lo st) : Wp X cc own nL T (mk m R) n1 n2 pc lo (.int v :: .int i :: .ref r :: st) := by
  obtain ⟨h1, rfl⟩ := of_if hr
  exact Wp.zast (μ := mk m R) hz (if_pos h1) hT hd kk
theorem Wp.last2 {r n : Nat} {i : Int32} {v : Int64} (hr : bJ m r n i v = some m') (hT : aLen T r 1 = some n) (hd : decode cc pc = .ok (.lastore, 1)) (kk : Wp X cc own nL T (mk m' R) n1 n2 (pc + 1) lo st) : Wp X cc own nL T (mk m R) n1 n2 pc lo (.long v :: .int i :: .ref r :: st) := by
  obtain ⟨h1, rfl⟩ := of_if hr
  exact Wp.last (μ := mk m R) (if_pos h1) hT hd kk
theorem Wp.acopy2 {ix r0 m0 r1 m1 : Nat} {sp dp n : Int32} (hp : kC m r0 m0 r1 m1 sp dp n = some m') (h0 : aLen T r0 0 = some m0) (h1 : aLen T r1 0 = some m1) (hl1 : Cond.methodLink own ix arraycopyName ∈ gw) (hnat : Cond.native arraycopyName ∈ gw) (hstat : Cond.static arraycopyName ∈ gw) (hini : Cond.initialized "java/lang/System" ∈ gw) (hX : XR X d n1 n2) (hdd : 1 ≤ d) (hcat : (st.map fun v => v.category).sum ≤ 8) (hd : decode cc pc = .ok (.invokestatic ix, 3)) (kk : Wp X cc own nL T (mk m' R) n1 n2 (pc + 3) lo st) : Wp X cc own nL T (mk m R) n1 n2 pc lo (.int n :: .int dp :: .ref r1 :: .int sp :: .ref r0 :: st) := by
  obtain ⟨hc, rfl⟩ := of_if hp
  exact Wp.acopy (μ := mk m R) (if_pos hc) h0 h1 hl1 hnat hstat hini hX hdd hcat hd kk
end WP2
theorem Geo.set3 {T : List Dsc} {R : RM} {c e e' : Nat} (h : Geo T R c e) (he : tx e') : Geo T (u2 R 14 3 (some e')) c e' := by
  obtain ⟨h1, h2, h3, h4, h5, h6, h7⟩ := h
  refine ⟨h1, fun k j r hr => ?_, ⟨h3.1, he⟩, h4, h5, h6, ?_⟩
  · unfold u2
    by_cases hk : k = 14 ∧ j = 3
    · obtain ⟨rfl, rfl⟩ := hk
      cases hr
    · rw [if_neg hk]
      exact h2 k j r hr
  · simp [u2]
theorem GeoB.set3 {T : List Dsc} {R : RM} {e' : Nat} (h : GeoB T R) : GeoB T (u2 R 14 3 (some e')) := h
theorem slot_r {T : List Dsc} {R : RM} {c e : Nat} (h : Geo T R c e) {i : Int32} {k : Nat} (hk : ixC i 3 = some k) : R 31 k = some (47 + 3 * k) := by
  obtain ⟨h1, rfl⟩ := of_if hk
  simp only [ixb, Bool.and_eq_true, Bool.not_eq_true', decide_eq_false_iff_not, decide_eq_true_eq] at h1
  obtain ⟨-, h2⟩ := h1
  generalize i.toNatClampNeg = q at h2
  match q, h2 with
  | 0, _ => exact h.r 31 0 rfl
  | 1, _ => exact h.r 31 1 rfl
  | 2, _ => exact h.r 31 2 rfl
