/-! ===== a law's branches: abstract, and what the class's code does ===== -/
abbrev Br : Type := List Lit × List Op
def pBr (K V : Nat → Nat) : Nat → Nat → List Br → (Nat × List Br) ⊕ (Nat × Nat)
  | 0, i, bs => .inl (i, bs)
  | f + 1, i, bs => if K i = 21 then (if f = 0 then .inr (2, i) else if i < 400 then (match pCn K V 401 (i + 1) true [] with
      | .inr e => .inr e
      | .inl z => if K z.1 = 22 then (if z.1 < 400 then (match pX K V 24 0 0 (z.1 + 1) with
          | .inr e => .inr e
          | .inl y => if K y.1 = 23 then (if y.1 < 400 then pBr K V f (y.1 + 1) (bs ++ [(z.2, y.2)]) else .inr (2, y.1)) else .inr (1, y.1)) else .inr (2, z.1)) else .inr (1, z.1)) else .inr (2, i)) else .inl (i, bs)
/-- what the branches say: none if none of them is taken -/
def bvp (P : Nat) (v : Nat → Int32) : List Br → Option (Option Int32)
  | [] => none
  | b :: bs => match hV P v false b.1 with
    | none => some none
    | some t => if t = true then some (vE P v b.2) else bvp P v bs
theorem bvp_app (P : Nat) (v : Nat → Int32) (b : Br) : ∀ bs, bvp P v (bs ++ [b]) = (match bvp P v bs with
    | some r => some r
    | none => bvp P v [b])
  | [] => rfl
  | c :: bs => by
    show (match hV P v false c.1 with
      | none => some none
      | some t => if t = true then some (vE P v c.2) else bvp P v (bs ++ [b])) = (match (match hV P v false c.1 with
      | none => some none
      | some t => if t = true then some (vE P v c.2) else bvp P v bs) with
      | some r => some r
      | none => bvp P v [b])
    cases hV P v false c.1 with
    | none => rfl
    | some t =>
      cases t with
      | true => rfl
      | false => exact bvp_app P v b bs
def SemB (C : List Op) (a : Nat) (bs : List Br) : Prop := ∀ D : List Op, (∀ j, j < C.length → D[j]? = C[j]?) → ∀ P v, (∀ r, bvp P v bs = some r → ex P D v (C.length - a) a [] = some r) ∧ (bvp P v bs = none → ∀ f r, ex P D v f C.length [] = some r → ex P D v (f + (C.length - a)) a [] = some r)
theorem SemB.nil (C : List Op) : SemB C C.length [] := by
  intro D hD P v
  refine ⟨fun r h => (by cases h), fun _ f r h => ?_⟩
  rw [Nat.sub_self, Nat.add_zero]
  exact h
/-- a term's code and the end behind it -/
theorem ex_T {K V : Nat → Nat} {P : Nat} {D : List Op} {v : Nat → Int32} {L : List Op} {i j a : Nat} (h : GdO K V i j 21 L) (hs : Seg D a (L ++ [(23, 0)])) : ex P D v (L.length + 1) a [] = some (vE P v L) := by
  obtain ⟨s1, s2⟩ := hs.app
  rw [show L.length + 1 = 1 + L.length by omega, ex_E h (by omega) (by show 0 ≤ 30; omega) s1]
  cases vE P v L with
  | none => rfl
  | some x =>
    dsimp only
    have c := s2 0 (by rw [List.length_singleton]; omega)
    rw [Nat.add_zero] at c
    rw [show (1 : Nat) = 0 + 1 from rfl, ex_s, if_neg (by show ¬ 60 < 1; omega), c]
    rfl
theorem SemB.step {K V : Nat → Nat} {C C1 : List Op} {a i j : Nat} {bs : List Br} {ls : List Lit} {L : List Op} {C2 : List Op} (h : SemB C a bs) (ha : a ≤ C.length) (h1 : C.length ≤ C1.length) (hp : ∀ q, q < C.length → C1[q]? = C[q]?) (hE : SemE C1 C.length (fun P v => cF P v (some 0) ls)) (hL : GdO K V i j 21 L) (hl : C2.length = C1.length + 1 + (L.length + 1)) (h2 : ∀ q, q < C1.length → C2[q]? = C1[q]?) (h3 : C2[C1.length]? = some (21, C2.length)) (h4 : Seg C2 (C1.length + 1) (L ++ [(23, 0)])) : SemB C2 a (bs ++ [(ls, L)]) := by
  intro D hD P v
  have ll : (L ++ [((23, 0) : Op)]).length = L.length + 1 := by rw [List.length_append, List.length_singleton]
  have hD1 : ∀ q, q < C1.length → D[q]? = C1[q]? := fun q hq => by rw [hD q (by omega), h2 q hq]
  have hD0 : ∀ q, q < C.length → D[q]? = C[q]? := fun q hq => by rw [hD1 q (by omega), hp q hq]
  have hw : D[C1.length]? = some (21, C2.length) := by rw [hD _ (by omega), h3]
  have hg : Seg D (C1.length + 1) (L ++ [(23, 0)]) := fun q hq => by rw [hD _ (by omega), h4 q hq]
  obtain ⟨o1, o2⟩ := h D hD0 P v
  obtain ⟨e1, e2⟩ := hE D hD1 P v [] (by show 0 ≤ 5; omega)
  dsimp only at e1 e2
  have hc := cF_hV P v ls 0 (by omega)
  rw [if_neg (by omega), show decide ((0 : Nat) = 1) = false from rfl] at hc
  have hex : ∀ f t, ex P D v (f + 1) C1.length [b01 t] = if t = true then ex P D v f (C1.length + 1) [] else ex P D v f C2.length [] := by
    intro f t
    rw [ex_s, if_neg (by show ¬ 60 < 1; omega), hw]
    dsimp only
    rw [if_neg (by omega), if_neg (by omega), if_neg (by omega), if_neg (by omega), if_pos rfl]
    cases t with
    | false => rw [if_pos (show b01 false = 0 from rfl), if_neg (by decide)]
    | true => rw [if_neg (show ¬ b01 true = 0 by decide), if_pos rfl]
  rw [bvp_app]
  cases hb : bvp P v bs with
  | some r0 =>
    refine ⟨fun r hr => ?_, fun z => by cases z⟩
    cases hr
    exact ex_ge (o1 r0 hb) (by omega)
  | none =>
    dsimp only
    show (∀ r, (match hV P v false ls with
      | none => some none
      | some t => if t = true then some (vE P v L) else none) = some r → _) ∧ ((match hV P v false ls with
      | none => some none
      | some t => if t = true then some (vE P v L) else none) = none → _)
    cases hcf : cF P v (some 0) ls with
    | none =>
      rw [hcf] at hc
      have hh : hV P v false ls = none := hc.symm
      rw [hh]
      refine ⟨fun r hr => ?_, fun z => by cases z⟩
      cases hr
      exact ex_ge (o2 hb _ _ (e1 hcf)) (by omega)
    | some k =>
      rw [hcf] at hc
      have hh : hV P v false ls = some (fin k) := hc.symm
      rw [hh]
      dsimp only
      by_cases ht : fin k = true
      · rw [if_pos ht]
        refine ⟨fun r hr => ?_, fun z => by cases z⟩
        cases hr
        have x1 := ex_T (P := P) (v := v) hL hg
        have x2 := e2 k hcf (L.length + 1 + 1) (vE P v L) (by rw [ht, hex, if_pos rfl]; exact x1)
        exact ex_ge (o2 hb _ _ x2) (by omega)
      · rw [if_neg ht]
        refine ⟨fun r hr => (by cases hr), fun _ f r hr => ?_⟩
        have x2 := e2 k hcf (f + 1) r (by rw [hex, if_neg ht]; exact hr)
        exact ex_ge (o2 hb _ _ x2) (by omega)
section KT
variable {m : M2} {e c : Nat} {By : Nat → Nat} {n : Nat}
theorem xf_chain : F_X4_landChain e (-1) m = some m := by
  unfold F_X4_landChain
  have key : ∃ z, loop (g_X4_landChain_4 e) ((-1 : Int32), (0 : Int32), m) = some z ∧ z = m := by
    refine loop_to 0 (fun _ z => z = ((-1 : Int32), (0 : Int32), m)) _ (by omega) (fun k s hk => by omega) ?_ rfl
    rintro z rfl
    show ∃ z, f_X4_landChain_4 e (-1) 0 m = some (Sum.inr z) ∧ _
    unfold f_X4_landChain_4
    rw [if_neg (by decide), if_pos rfl]
    exact ⟨_, rfl, rfl⟩
  obtain ⟨z, e1, rfl⟩ := key
  rw [e1, bind_s]
  rfl
theorem xf_cond (h : ¬ hI m 14 4 = 0) : F_X4_readCondition e m = some m := by
  unfold F_X4_readCondition
  rw [xf_rel h, bind_s]
  have key : ∃ z, loop (g_X4_readCondition_10 e) ((-1 : Int32), (-1 : Int32), (0 : Int32), m) = some z ∧ z = (-1, -1, m) := by
    refine loop_to 0 (fun _ z => z = ((-1 : Int32), (-1 : Int32), (0 : Int32), m)) _ (by omega) (fun k s hk => by omega) ?_ rfl
    rintro z rfl
    show ∃ z, f_X4_readCondition_10 e (-1) (-1) 0 m = some (Sum.inr z) ∧ _
    unfold f_X4_readCondition_10
    rw [if_neg (by decide), if_neg h]
    exact ⟨_, rfl, rfl⟩
  obtain ⟨z, e1, rfl⟩ := key
  rw [e1, bind_s]
  unfold f_X4_readCondition_105
  dsimp only
  rw [xf_chain, bind_s, xf_chain, bind_s]
theorem xf_107 {k : Nat} (h : ¬ hI m 14 4 = 0) : f_X4_readLaw_107 e (nI k) m = some (Sum.inl (nI (k + 1), m)) := by
  unfold f_X4_readLaw_107
  rw [xf_take h, bind_s]
  dsimp only
  rw [xf_cond h, bind_s, xf_take h, bind_s]
  dsimp only
  rw [xf_emit h, bind_s]
  dsimp only
  rw [xf_expr h, bind_s, xf_take h, bind_s]
  dsimp only
  rw [xf_emit h, bind_s]
  unfold F_X4_land
  rw [if_pos rfl]
  unfold f_X4_land_37
  rw [bind_s, nmI_e, bind_s, nI_1]
/-- the land of a jump, whatever stands there -/
theorem x_landF {p : Nat} (hp : p < 400) : ∃ m', F_X4_land e (nI p) m = some m' ∧ Fr (fun k j => k = e + 2 ∧ j = p) m m' := by
  unfold F_X4_land
  rw [if_neg (nI_m1 (by omega)), aI_n _ (e + 2) hp (by omega), bind_s, bI_n _ (e + 2) _ hp (by omega), bind_s]
  exact ⟨_, rfl, Fr.rf.tI _ (by omega)⟩
theorem XFt.fr {S : Nat → Nat → Prop} {m' : M2} {f t : Nat} (h : XFt m By n f t) (hf : Fr S m m') (hs : ∀ k j, k = 14 ∨ (20 ≤ k ∧ k ≤ 22) → ¬ S k j) : XFt m' By n f t := by
  obtain ⟨b1, b2, b3, ⟨i', b4, b5, b6⟩, b7⟩ := h
  exact ⟨(hf.I _ _ (hs _ _ (by omega))).trans b1, b2, (hf.I _ _ (hs _ _ (by omega))).trans b3, ⟨i', b4, (hf.I _ _ (hs _ _ (by omega))).trans b5, (hf.I _ _ (hs _ _ (by omega))).trans b6⟩, b7.fr hf (fun k j z => hs k j (by omega))⟩
end KT
