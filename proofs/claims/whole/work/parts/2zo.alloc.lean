/-! ===== rows that make cells ===== -/
/-- from cell N on nothing is written, and no reference goes there -/
def Frs (μ : Mem) (N : Nat) : Prop := (∀ k j, N ≤ k → gI μ k j = 0 ∧ gJ μ k j = 0 ∧ gR μ k j = none) ∧ ∀ k j r, gR μ k j = some r → r < N
theorem Frs.up {μ : Mem} {N M : Nat} (h : Frs μ N) (hl : N ≤ M) : Frs μ M := ⟨fun k j hk => h.1 k j (by omega), fun k j r hr => by have := h.2 k j r hr; omega⟩
theorem Frs.sI {μ : Mem} {N k j : Nat} {v : Int32} (h : Frs μ N) (hk : k < N) : Frs (sI μ k j v) N := by
  refine ⟨fun a b ha => ?_, fun a b r hr => h.2 a b r hr⟩
  rw [gI_sI, gJ_sI, gR_sI, if_neg (by omega)]
  exact h.1 a b ha
theorem Frs.sJ {μ : Mem} {N k j : Nat} {v : Int64} (h : Frs μ N) (hk : k < N) : Frs (sJ μ k j v) N := by
  refine ⟨fun a b ha => ?_, fun a b r hr => h.2 a b r hr⟩
  rw [gI_sJ, gJ_sJ, gR_sJ, if_neg (by omega)]
  exact h.1 a b ha
theorem Frs.sR {μ : Mem} {N k j r : Nat} (h : Frs μ N) (hk : k < N) (hr : r < N) : Frs (sR μ k j (some r)) N := by
  refine ⟨fun a b ha => ?_, fun a b q hq => ?_⟩
  · rw [gI_sR, gJ_sR, gR_sR, if_neg (by omega)]
    exact h.1 a b ha
  · rw [gR_sR] at hq
    split at hq
    · cases hq
      exact hr
    · exact h.2 a b q hq
def vbl (N : Nat) (v : Value) : Prop := match v with
  | .ref r => r < N
  | _ => True
def al {β : Type} (f : Nat → β) (N : Nat) (v : β) : Nat → β := fun k => if k = N then v else f k
theorem al_at {β : Type} (f : Nat → β) (N : Nat) (v : β) : al f N v N = v := if_pos rfl
theorem al_lt {β : Type} (f : Nat → β) {N k : Nat} (v : β) (h : k < N) : al f N v k = f k := if_neg (by omega)
theorem gv_al {α : Nat → Nat} {N q : Nat} {v : Value} (h : vbl N v) : gv (al α N q) v = gv α v := by
  cases v with
  | ref r => exact congrArg Value.ref (al_lt α q h)
  | _ => rfl
theorem gvs_al {α : Nat → Nat} {N q : Nat} {st : List Value} (h : ∀ v ∈ st, vbl N v) : st.map (gv (al α N q)) = st.map (gv α) := List.map_congr_left (fun v hv => gv_al (h v hv))
theorem lo_al {α : Nat → Nat} {N q : Nat} {lo : List (Nat × Value)} (h : ∀ x ∈ lo, vbl N x.2) : lo.map (fun x => (x.1, gv (al α N q) x.2)) = lo.map (fun x => (x.1, gv α x.2)) := List.map_congr_left (fun x hx => by rw [gv_al (h x hx)])
theorem fV_al {μ : Mem} {α : Nat → Nat} {N q k j : Nat} {ty : FieldType} (hF : Frs μ N) : fV μ (al α N q) ty k j = fV μ α ty k j := by
  have e : (gR μ k j).map (al α N q) = (gR μ k j).map α := by
    cases h : gR μ k j with
    | none => rfl
    | some r => exact congrArg some (al_lt α q (hF.2 k j r h))
  unfold fV
  split <;> first | rfl | rw [e]
theorem aE_al {μ : Mem} {α : Nat → Nat} {N q k : Nat} {ty : FieldType} (hF : Frs μ N) : aE μ (al α N q) ty k = aE μ α ty k := by
  have e : (fun j => (gR μ k j).map (al α N q)) = (fun j => (gR μ k j).map α) := by
    funext j
    cases h : gR μ k j with
    | none => rfl
    | some r => exact congrArg some (al_lt α q (hF.2 k j r h))
  unfold aE
  split <;> first | rfl | rw [e]
theorem wS_push {T : List Dsc} {μ : Mem} {α : Nat → Nat} {cA : Nat → ClassId} {q : Nat} {cB : ClassId} {d : Dsc} (hF : Frs μ T.length) : wS (T ++ [d]) μ (al α T.length q) (al cA T.length cB) = wS T μ α cA ++ [(q, eN (T ++ [d]) μ α (al cA T.length cB) T.length)] := by
  unfold wS
  rw [List.length_append, List.length_singleton, List.range_succ, List.map_append]
  congr 1
  · apply List.map_congr_left
    intro k hk
    have hk' : k < T.length := List.mem_range.mp hk
    rw [al_lt α q hk']
    congr 1
    unfold eN
    rw [List.getElem?_append_left hk']
    split
    · congr 2
      apply List.map_congr_left
      intro j _
      exact fV_al hF
    · rw [al_lt cA cB hk', aE_al hF]
    · rfl
  · rw [List.map_singleton, al_at]
    congr 2
    unfold eN
    split
    · congr 2
      apply List.map_congr_left
      intro j _
      exact fV_al hF
    · rw [aE_al hF]
    · rfl
def XOl (X : CX) (N : Nat) : Prop := match X with
  | (_, _, _, _, _, _, _, _, _, _, _, _, _, n0, _) => ∀ k, n0 k → k < N
theorem XOl.up {X : CX} {N M : Nat} (h : XOl X N) (hl : N ≤ M) : XOl X M := by
  obtain ⟨p, l, e, R, s, m, args, below, meth, c, Q, A, D, n0, α0⟩ := X
  intro k hk
  exact Nat.lt_of_lt_of_le (h k hk) hl
theorem XR.le {X : CX} {d d' a a' b b' : Nat} (h : XR X d a b) (h1 : d' ≤ d) (h2 : a' ≤ a) (h3 : b' ≤ b) : XR X d' a' b' := by
  obtain ⟨p, l, e, R, s, m, args, below, meth, c, Q, A, D, n0, α0⟩ := X
  obtain ⟨r1, r2, r3, r4⟩ := h
  exact ⟨by omega, by omega, by omega, by omega⟩
/-- a type whose first value the memory can hold -/
def dfo (ty : FieldType) : Bool := match ty with
  | .long => true
  | .object _ => true
  | .array _ => true
  | .int => true
  | .boolean => true
  | .byte => true
  | _ => false
theorem fV_df {μ : Mem} {α : Nat → Nat} {ty : FieldType} {N j : Nat} (hF : Frs μ N) (h : dfo ty = true) : defaultValue ty = fV μ α ty N j := by
  obtain ⟨h1, h2, h3⟩ := hF.1 N j (Nat.le_refl _)
  cases ty <;> first | (simp [fV, h1, h2, h3, defaultValue, va_rf]; done) | cases h
def NwK (own : String) (ix ci : Nat) : Prop := ∃ (C : String) (TT : u_T) (N : Nat), vwCl[ci]? = some (C, TT, N) ∧ Cond.classLink own ix C ∈ gw ∧ Cond.instantiable C N ∈ gw ∧ Cond.initialized C ∈ gw ∧ ∀ j, j < N → dfo (fT ci j) = true
section WPA
variable {X : CX} {cc : ByteArray} {own : String} {nL : Nat} {T : List Dsc} {μ μ' : Mem} {n1 n2 pc : Nat} {lo : List (Nat × Value)} {st : List Value} {d N : Nat}
theorem Wp.newO {ci ix : Nat} (hF : Frs μ T.length) (hO : XOl X T.length) (hX : XR X d (n1 + 1) (n2 + cN ci)) (hst : ∀ v ∈ st, vbl T.length v) (hlo : ∀ q ∈ lo, vbl T.length q.2) (hc : NwK own ix ci) (hd : decode cc pc = .ok (.new ix, 3))
    (kk : Wp X cc own nL (T ++ [.inl ci]) μ (n1 + 1) (n2 + cN ci) (pc + 3) lo (.ref T.length :: st)) : Wp X cc own nL T μ n1 n2 pc lo st := by
  obtain ⟨p, l, e, R, s, m, args, below, meth, c, Q, A, D, n0, α0⟩ := X
  intro hx hb hml hown hts hlk hA H locs ls α cA ha hW hS hl
  obtain ⟨C, TT, N, h1, h2, h3, h4, h5⟩ := hc
  obtain ⟨k1, k2, k3, k4, k5⟩ := ck h1
  obtain ⟨tys, hK, hP, hD, ht, hn⟩ := hW
  obtain ⟨r1, r2, r3, r4⟩ := hX
  refine va_new hx hb hts k3 (fT ci) k1 hown (hts _ h2) (hts _ h3) (hts _ h4) hK hP hD hS hA h1 (fs := (List.range (cN ci)).map (fun j => fV μ α (fT ci j) T.length j)) (fun j hj => ?_) r3 (by rw [← k5]; exact r4) hd (fun q H1 hP1 hD1 hS1 => ?_)
  · rw [fV_df (α := α) (j := j) hF (h5 j hj), k5]
    simp [vp_V, hj]
  · have hT : (T ++ [Sum.inl ci])[T.length]? = some (Sum.inl ci : Dsc) := by simp
    have e := wS_push (T := T) (μ := μ) (α := α) (cA := cA) (q := q) (cB := cA T.length) (d := .inl ci) hF
    rw [eN_obj hT] at e
    rw [← e] at hP1 hD1
    rw [← k5]
    have hgo := kk hx hb hml hown hts hlk hA H1 locs ls (al α T.length q) (al cA T.length (cA T.length)) (fun k hk => by rw [al_lt α q (hO k hk)]; exact ha k hk) ⟨tys, hK, hP1, hD1, ?_, hn⟩ hS1 (by rw [lo_al hlo]; exact hl)
    · rw [List.map_cons, gvs_al hst] at hgo
      have e2 : gv (al α T.length q) (.ref T.length) = .ref q := congrArg Value.ref (al_at α T.length q)
      rw [e2] at hgo
      exact hgo
    · intro k n ty hk
      by_cases hl' : k < T.length
      · rw [List.getElem?_append_left hl'] at hk
        rw [al_lt cA _ hl']
        exact ht k n ty hk
      · exfalso
        rw [List.getElem?_append_right (by omega)] at hk
        have hz : k - T.length < 1 := (List.getElem?_eq_some_iff.mp hk).1
        rw [show k - T.length = 0 by omega] at hk
        cases hk
theorem Wp.newA {atype : ArrayType} {ty : FieldType} {n : Int32} {N : Nat} (hF : Frs μ T.length) (hO : XOl X T.length) (hX : XR X d (n1 + 1) (n2 + N)) (hst : ∀ v ∈ st, vbl T.length v) (hlo : ∀ q ∈ lo, vbl T.length q.2) (harr : Cond.arrayClass (newarray.typeOf atype) ∈ gw) (hty : newarray.typeOf atype = ty) (hdf : isI ty = true ∨ ty = .long) (hn0 : ¬ n < 0) (hN : n.toNatClampNeg = N) (hbytes : N * componentBytes ty ≤ 536870912) (hd : decode cc pc = .ok (.newarray atype, 2))
    (kk : Wp X cc own nL (T ++ [.inr (ty, N)]) μ (n1 + 1) (n2 + N) (pc + 2) lo (.ref T.length :: st)) : Wp X cc own nL T μ n1 n2 pc lo (.int n :: st) := by
  obtain ⟨p, l, e, R, s, m, args, below, meth, c, Q, A, D, n0, α0⟩ := X
  intro hx hb hml hown hts hlk hA H locs ls α cA ha hW hS hl
  obtain ⟨tys, hK, hP, hD, ht, hn⟩ := hW
  obtain ⟨r1, r2, r3, r4⟩ := hX
  refine va_newa hx hb (hts _ harr) hty hK hP hD hS hA (a0 := (N, aE μ α ty T.length)) (fun cB => ?_) hn0 hN hbytes r3 r4 hd (fun q cB H1 hK1 hP1 hD1 hS1 => ?_)
  · have hI : gI μ T.length = fun _ => 0 := funext fun j => (hF.1 T.length j (Nat.le_refl _)).1
    have hJ : gJ μ T.length = fun _ => 0 := funext fun j => (hF.1 T.length j (Nat.le_refl _)).2.1
    rcases hdf with hi | rfl
    · rw [aE_I hi, hI, vp_cell_i]
      cases ty <;> first | rfl | cases hi
    · show vp_cell cB (N, .inr (.inl (gJ μ T.length))) = _
      rw [hJ]
      rfl
  · have hT : (T ++ [Sum.inr (ty, N)])[T.length]? = some (Sum.inr (ty, N) : Dsc) := by simp
    have e := wS_push (T := T) (μ := μ) (α := α) (cA := cA) (q := q) (cB := cB) (d := .inr (ty, N)) hF
    rw [eN_arr hT, al_at] at e
    rw [← e] at hP1 hD1
    have hgo := kk hx hb hml hown hts hlk hA H1 locs ls (al α T.length q) (al cA T.length cB) (fun k hk => by rw [al_lt α q (hO k hk)]; exact ha k hk) ⟨tys ++ [(cB, ty)], hK1, hP1, hD1, ?_, hn⟩ hS1 (by rw [lo_al hlo]; exact hl)
    · rw [List.map_cons, gvs_al hst] at hgo
      have e2 : gv (al α T.length q) (.ref T.length) = .ref q := congrArg Value.ref (al_at α T.length q)
      rw [e2] at hgo
      exact hgo
    · intro k n ty' hk
      by_cases hl' : k < T.length
      · rw [List.getElem?_append_left hl'] at hk
        rw [al_lt cA _ hl']
        obtain ⟨t0, h0⟩ := ht k n ty' hk
        exact ⟨t0, by rw [List.getElem?_append_left (List.getElem?_eq_some_iff.mp h0).1]; exact h0⟩
      · rw [List.getElem?_append_right (by omega)] at hk
        have hz : k - T.length < 1 := (List.getElem?_eq_some_iff.mp hk).1
        have hk0 : k = T.length := by omega
        subst hk0
        rw [Nat.sub_self] at hk
        cases hk
        exact ⟨tys.length, by rw [al_at]; simp⟩
theorem Wp.newQ {C : String} {n : Int32} {N ix : Nat} (hF : Frs μ T.length) (hO : XOl X T.length) (hX : XR X d (n1 + 1) (n2 + N)) (hst : ∀ v ∈ st, vbl T.length v) (hlo : ∀ q ∈ lo, vbl T.length q.2) (hcl : Cond.classLink own ix C ∈ gw) (hao : Cond.arrayOver (.object C) ∈ gw) (hn0 : ¬ n < 0) (hN : n.toNatClampNeg = N) (hbytes : N * 4 ≤ 536870912) (hd : decode cc pc = .ok (.anewarray ix, 3))
    (kk : Wp X cc own nL (T ++ [.inr (.object C, N)]) μ (n1 + 1) (n2 + N) (pc + 3) lo (.ref T.length :: st)) : Wp X cc own nL T μ n1 n2 pc lo (.int n :: st) := by
  obtain ⟨p, l, e, R, s, m, args, below, meth, c, Q, A, D, n0, α0⟩ := X
  intro hx hb hml hown hts hlk hA H locs ls α cA ha hW hS hl
  obtain ⟨tys, hK, hP, hD, ht, hn⟩ := hW
  obtain ⟨r1, r2, r3, r4⟩ := hX
  refine va_newq hx hb hown (hts _ hcl) (va_AO.of (hts _ hao)) hK hP hD hS hA hn0 hN hbytes r3 r4 hd (fun q cB H1 hK1 hP1 hD1 hS1 => ?_)
  have hT : (T ++ [Sum.inr (.object C, N)])[T.length]? = some (Sum.inr (.object C, N) : Dsc) := by simp
  have e := wS_push (T := T) (μ := μ) (α := α) (cA := cA) (q := q) (cB := cB) (d := .inr (.object C, N)) hF
  have eR : aE μ α (.object C) T.length = .inr (.inr (.inr (.inr (fun _ => none)))) := by
    show Sum.inr (Sum.inr (Sum.inr (Sum.inr (fun j => (gR μ T.length j).map α)))) = _
    congr 4
    funext j
    rw [(hF.1 T.length j (Nat.le_refl _)).2.2]
    rfl
  rw [eN_arr hT, al_at, eR] at e
  rw [← e] at hP1 hD1
  have hgo := kk hx hb hml hown hts hlk hA H1 locs ls (al α T.length q) (al cA T.length cB) (fun k hk => by rw [al_lt α q (hO k hk)]; exact ha k hk) ⟨tys ++ [(cB, .object C)], hK1, hP1, hD1, ?_, hn⟩ hS1 (by rw [lo_al hlo]; exact hl)
  · rw [List.map_cons, gvs_al hst] at hgo
    have e2 : gv (al α T.length q) (.ref T.length) = .ref q := congrArg Value.ref (al_at α T.length q)
    rw [e2] at hgo
    exact hgo
  · intro k n ty' hk
    by_cases hl' : k < T.length
    · rw [List.getElem?_append_left hl'] at hk
      rw [al_lt cA _ hl']
      obtain ⟨t0, h0⟩ := ht k n ty' hk
      exact ⟨t0, by rw [List.getElem?_append_left (List.getElem?_eq_some_iff.mp h0).1]; exact h0⟩
    · rw [List.getElem?_append_right (by omega)] at hk
      have hz : k - T.length < 1 := (List.getElem?_eq_some_iff.mp hk).1
      have hk0 : k = T.length := by omega
      subst hk0
      rw [Nat.sub_self] at hk
      cases hk
      exact ⟨tys.length, by rw [al_at]; simp⟩
end WPA
