theorem rO_T {T : List Dsc} {μ : Mem} {r n c1 v : Nat} {i : Int32} (h : rO T μ r n i c1 = some v) : T[v]? = some (.inl c1) := by
  unfold rO at h
  split at h
  · exact gO_T h
  · cases h
theorem Wp.iincN {X : CX} {cc : ByteArray} {own : String} {nL : Nat} {T : List Dsc} {μ : Mem} {n1 n2 pc : Nat} {lo : List (Nat × Value)} {st : List Value} {i : Nat} {x w : Int32} {n : Int} {lo' : List (Nat × Value)} (v : Int32) (hv : Int32.ofInt n = v) (hw : nmI (x + v) = some w) (q : Nat) (hq : lo[q]? = some (i, .int x)) (ks : List Nat) (h : lv_pick ((i, Value.int w) :: lo.filter (fun q => !(q.1 == i) && !(q.1 + 1 == i && q.2.category == 2))) ks = lo') (hn : i < nL) (hd : decode cc pc = .ok (.iinc i n, 3)) (kk : Wp X cc own nL T μ n1 n2 (pc + 3) lo' st) : Wp X cc own nL T μ n1 n2 pc lo st := by
  cases hw
  exact Wp.iinc v hv q hq ks h hn hd kk
