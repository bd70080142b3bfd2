/-! ===== the class reads laws, and a whole text ===== -/
def TB (s : IS) : Prop := (ttL s).length ≤ 6 ∧ (ttM s).length ≤ 12 ∧ (ttF s).length ≤ 4 ∧ (ttN s).length = (ttL s).length + (ttM s).length
theorem sqR_in {r : Nat ⊕ (Nat × Nat)} {s s' : IS} {j : Nat} (h : sqR r s = .inl (j, s')) : r = .inl j ∧ s' = s := by
  cases r with
  | inl i => cases h; exact ⟨rfl, rfl⟩
  | inr e => cases h
theorem pCn_i {K V : Nat → Nat} (hV : ∀ i, K i = 3 → V i < 10000) : ∀ {f i j : Nat} {o : Bool} {ls ms : List Lit}, pCn K V f i o ls = .inl (j, ms) → i ≤ j
  | 0, i, j, o, ls, ms, h => by cases h; exact Nat.le_refl _
  | f + 1, i, j, o, ls, ms, h => by
    rw [pCn_s] at h
    cases hr : pRl K V i with
    | inr e => rw [hr] at h; cases h
    | inl z =>
      rw [hr] at h
      dsimp only at h
      have hz := (pRl_3 hV hr).1
      unfold pCt at h
      by_cases h1 : K z.1 = 24 ∨ K z.1 = 25
      · rw [if_pos h1] at h
        by_cases h4 : z.1 < 400
        · rw [if_pos h4] at h
          have := pCn_i hV (f := f) h
          omega
        · rw [if_neg h4] at h; cases h
      · rw [if_neg h1] at h
        cases h
        omega
theorem pBr_i {K V : Nat → Nat} (hV : ∀ i, K i = 3 → V i < 10000) : ∀ {f i j : Nat} {bs cs : List Br}, pBr K V f i bs = .inl (j, cs) → i ≤ j
  | 0, i, j, bs, cs, h => by cases h; exact Nat.le_refl _
  | f + 1, i, j, bs, cs, h => by
    rw [pBr_1] at h
    by_cases h1 : K i = 21
    · rw [if_pos h1] at h
      by_cases h0 : f = 0
      · rw [if_pos h0] at h; cases h
      · rw [if_neg h0] at h
        cases hp : p1 K V i with
        | inr e => rw [hp] at h; cases h
        | inl y =>
          rw [hp] at h
          have h2 := pBr_i hV (f := f) h
          have h3 : i ≤ y.1 := by
            unfold p1 at hp
            by_cases h4 : i < 400
            · rw [if_pos h4] at hp
              cases hc : pCn K V 401 (i + 1) true [] with
              | inr e => rw [hc] at hp; cases hp
              | inl z =>
                rw [hc] at hp
                dsimp only at hp
                have hz := pCn_i hV hc
                by_cases h5 : K z.1 = 22
                · rw [if_pos h5] at hp
                  by_cases h6 : z.1 < 400
                  · rw [if_pos h6] at hp
                    cases hx : pX K V 24 0 0 (z.1 + 1) with
                    | inr e => rw [hx] at hp; cases hp
                    | inl w =>
                      rw [hx] at hp
                      dsimp only at hp
                      have hw := (pX_good hV 24 0 0 (z.1 + 1) w.1 w.2 (by omega) (by omega) hx).1
                      by_cases h7 : K w.1 = 23
                      · rw [if_pos h7] at hp
                        by_cases h8 : w.1 < 400
                        · rw [if_pos h8] at hp
                          cases hp
                          show i ≤ w.1 + 1
                          omega
                        · rw [if_neg h8] at hp; cases hp
                      · rw [if_neg h7] at hp; cases hp
                  · rw [if_neg h6] at hp; cases hp
                · rw [if_neg h5] at hp; cases hp
            · rw [if_neg h4] at hp; cases hp
          omega
    · rw [if_neg h1] at h
      cases h; exact Nat.le_refl _
theorem pLaw_in {K V N : Nat → Nat} {i j : Nat} {s s' : IS} (h : pLaw K V N i s = .inl (j, s')) : ∃ z y, pBr K V 9 (i + 3) [] = .inl z ∧ pX K V 24 0 0 z.1 = .inl y ∧ s' = iLaw N i (z.2, y.2) s ∧ j = y.1 + 1 ∧ sqk K [18, 2, 5] i = .inl (i + 3) := by
  unfold pLaw at h
  cases h1 : sqk K [18, 2, 5] i with
  | inr e => rw [h1] at h; cases h
  | inl a =>
    rw [h1] at h
    have ha := sqk_le h1
    have ha' : a = i + 3 := ha
    subst ha'
    dsimp only at h
    cases h2 : pBr K V 9 (i + 3) [] with
    | inr e => rw [h2] at h; cases h
    | inl z =>
      rw [h2] at h
      dsimp only at h
      cases h3 : pX K V 24 0 0 z.1 with
      | inr e => rw [h3] at h; cases h
      | inl y =>
        rw [h3] at h
        dsimp only at h
        obtain ⟨q1, q2⟩ := sqR_in h
        exact ⟨z, y, rfl, h3, q2, sqk_le q1, rfl⟩
theorem pItem_TB {K V N : Nat → Nat} (hV : ∀ i, K i = 3 → V i < 10000) {i j : Nat} {s s' : IS} (h : pItem K V N i s = .inl (j, s')) (hT : TB s) : TB s' ∧ i + 3 ≤ j := by
  obtain ⟨t1, t2, t3, t4⟩ := hT
  unfold pItem at h
  have app : ∀ {α : Type} (L : List α) (x : α), (L ++ [x]).length = L.length + 1 := fun L x => by rw [List.length_append, List.length_singleton]
  by_cases k17 : K i = 17
  · rw [if_pos k17] at h
    obtain ⟨q1, rfl⟩ := sqR_in h
    exact ⟨⟨t1, t2, t3, t4⟩, by have := sqk_le q1; simp only [List.length_cons, List.length_nil] at this; omega⟩
  rw [if_neg k17] at h
  by_cases k18 : K i = 18
  · rw [if_pos k18] at h
    by_cases h6 : 6 ≤ (ttL s).length
    · rw [if_pos h6] at h; cases h
    · rw [if_neg h6] at h
      obtain ⟨z, y, h2, h3, rfl, rfl, _⟩ := pLaw_in h
      have a1 := pBr_i hV h2
      have a2 := (pX_good hV 24 0 0 z.1 y.1 y.2 (by omega) (by omega) h3).1
      refine ⟨⟨?_, t2, t3, ?_⟩, by omega⟩
      · show (ttL s ++ [(z.2, y.2)]).length ≤ 6
        rw [app]; omega
      · show (ttN s ++ [_]).length = (ttL s ++ [_]).length + (ttM s).length
        rw [app, app]; omega
  rw [if_neg k18] at h
  by_cases k19 : K i = 19
  · rw [if_pos k19] at h
    by_cases h6 : 12 ≤ (ttM s).length
    · rw [if_pos h6] at h; cases h
    · rw [if_neg h6] at h
      obtain ⟨q1, rfl⟩ := sqR_in h
      refine ⟨⟨t1, ?_, t3, ?_⟩, by have := sqk_le q1; simp only [List.length_cons, List.length_nil] at this; omega⟩
      · show (ttM s ++ [_]).length ≤ 12
        rw [app]; omega
      · show (ttN s ++ [_]).length = (ttL s).length + (ttM s ++ [_]).length
        rw [app, app]; omega
  rw [if_neg k19] at h
  by_cases k31 : K i = 31
  · rw [if_pos k31] at h
    obtain ⟨q1, rfl⟩ := sqR_in h
    exact ⟨⟨t1, t2, t3, t4⟩, by have := sqk_le q1; simp only [List.length_cons, List.length_nil] at this; omega⟩
  rw [if_neg k31] at h
  by_cases k33 : K i = 33
  · rw [if_pos k33] at h
    obtain ⟨q1, rfl⟩ := sqR_in h
    exact ⟨⟨t1, t2, t3, t4⟩, by have := sqk_le q1; simp only [List.length_cons, List.length_nil] at this; omega⟩
  rw [if_neg k33] at h
  by_cases k20 : K i = 20
  · rw [if_pos k20] at h
    by_cases h6 : 4 ≤ (ttF s).length
    · rw [if_pos h6] at h; cases h
    · rw [if_neg h6] at h
      obtain ⟨q1, rfl⟩ := sqR_in h
      refine ⟨⟨t1, t2, ?_, t4⟩, by have := sqk_le q1; simp only [List.length_cons, List.length_nil] at this; omega⟩
      show (ttF s ++ [_]).length ≤ 4
      rw [app]; omega
  rw [if_neg k20] at h
  cases h
/-! a law's code -/
def SemL (C : List Op) (a : Nat) (w : List Br × List Op) : Prop := ∀ D : List Op, (∀ j, j < C.length → D[j]? = C[j]?) → ∀ P v, ex P D v (C.length - a) a [] = some (lawV P v w)
theorem SemL.ext {C C' : List Op} {a : Nat} {w : List Br × List Op} (h : SemL C a w) (hl : C.length ≤ C'.length) (hp : ∀ q, q < C.length → C'[q]? = C[q]?) : SemL C' a w := fun D hD P v => ex_ge (h D (fun j hj => by rw [hD j (by omega), hp j hj]) P v) (by omega)
theorem SemL.of {K V : Nat → Nat} {C : List Op} {a i j : Nat} {bs : List Br} {L : List Op} (h : SemB C a bs) (ha : a ≤ C.length) (hL : GdO K V i j 21 L) : SemL (C ++ L ++ [(23, 0)]) a (bs, L) := by
  intro D hD P v
  have l1 : (C ++ L ++ [((23, 0) : Op)]).length = C.length + L.length + 1 := by rw [List.length_append, List.length_append, List.length_singleton]
  have hD1 : ∀ q, q < C.length → D[q]? = C[q]? := fun q hq => by rw [hD q (by omega), List.append_assoc, List.getElem?_append_left hq]
  have hg : Seg D C.length (L ++ [(23, 0)]) := fun q hq => by
    rw [List.length_append, List.length_singleton] at hq
    rw [hD _ (by omega), List.append_assoc, List.getElem?_append_right (by omega), Nat.add_sub_cancel_left]
  obtain ⟨o1, o2⟩ := h D hD1 P v
  unfold lawV
  rw [l1]
  cases hb : bvp P v bs with
  | some r =>
    dsimp only
    exact ex_ge (o1 r hb) (by omega)
  | none =>
    dsimp only
    have x1 := ex_T (P := P) (v := v) hL hg
    exact ex_ge (o2 hb _ _ x1) (by omega)
section KD
variable {m : M2} {e : Nat} {By : Nat → Nat} {n : Nat}
def LwX (m : M2) (e : Nat) (C : List Op) (ls : List (List Br × List Op)) : Prop := ∀ q w, ls[q]? = some w → ∃ a, a ≤ C.length ∧ hI m (e + 1) q = nI a ∧ SemL C a w
def XI (m : M2) (e : Nat) (By : Nat → Nat) (n i : Nat) (s : IS) : Prop := ∃ C, XRd m e By n i C ∧ XO m e By n s ∧ (∀ o, o ∈ C → OpB o) ∧ LwX m e C (ttL s)
theorem xf_l74 (h : ¬ hI m 14 4 = 0) : loop (g_X4_readLaw_74 e) ((0 : Int32), m) = some m := by
  have key : ∃ z, loop (g_X4_readLaw_74 e) ((0 : Int32), m) = some z ∧ z = m := by
    refine loop_to 0 (fun _ z => z = ((0 : Int32), m)) _ (by omega) (fun k s hk => by omega) ?_ rfl
    rintro z rfl
    show ∃ z, f_X4_readLaw_74 e 0 m = some (Sum.inr z) ∧ _
    unfold f_X4_readLaw_74
    rw [if_neg (by decide), if_neg h]
    exact ⟨_, rfl, rfl⟩
  obtain ⟨z, e1, rfl⟩ := key
  exact e1
theorem xf_165 (he : tx e) {f t : Nat} (h : XFt m By n f t) : ∃ m', f_X4_readLaw_165 e m = some m' ∧ XFt m' By n f t ∧ Fr (SRx e) m m' := by
  unfold f_X4_readLaw_165
  rw [xf_expr h.ne, bind_s, xf_take h.ne, bind_s]
  dsimp only
  rw [xf_emit h.ne, bind_s]
  dsimp only
  rw [qI_e, bind_s]
  have f1 : Fr (fun k j => k = e ∧ j = 1) m (tI m e 1 (hI m e 1 + 1)) := Fr.rf.tI _ ⟨rfl, rfl⟩
  exact ⟨_, rfl, h.ee he f1, f1.mono (fun k j z => (SRy.ee he z).x)⟩
theorem xf_44 (he : tx e) {f t q : Nat} (h : XFt m By n f t) (h1 : hI m e 1 = nI q) (hq : q < 6) : ∃ m', f_X4_readLaw_44 e m = some m' ∧ XFt m' By n f t ∧ Fr (SRx e) m m' := by
  have he' := he
  unfold tx at he'
  unfold f_X4_readLaw_44
  rw [xf_take h.ne, bind_s]
  dsimp only
  rw [h1, bI_n _ (e + 1) _ hq (by omega), bind_s]
  have f1 : Fr (fun k j => k = e + 1 ∧ j = q) m (tI m (e + 1) q (hI m e 4)) := Fr.rf.tI _ ⟨rfl, rfl⟩
  have h2 := h.fr f1 (fun k j z => by omega)
  rw [xf_l74 h2.ne, bind_s]
  obtain ⟨m', e3, r3, f3⟩ := xf_165 he h2
  exact ⟨m', e3, r3, (f1.mono (fun k j z => by omega)).tr f3⟩
theorem x_tk' {i w : Nat} {Cd : List Op} (he : tx e) (h : XRd m e By n i Cd) (hw : 2 ≤ w) (hw6 : w < 64) : (∃ m', F_X4_take e (nI w) m = some (1, m') ∧ XRd m' e By n (i + 1) Cd ∧ Fr S12 m m' ∧ tk By n i = w ∧ i < 400) ∨ (∃ m' f, F_X4_take e (nI w) m = some (0, m') ∧ XFt m' By n f i ∧ Fr (SXe e 0) m m' ∧ ∀ ws, sqk (tk By n) (w :: ws) i = .inr (f, i)) := by
  obtain ⟨t1, t2, t3⟩ := x_take_t (c := 0) he h hw hw6
  by_cases hk : tk By n i = w
  · by_cases h4 : i < 400
    · obtain ⟨m', e1, r1, f1⟩ := t1 hk h4
      exact Or.inl ⟨m', e1, r1, f1, hk, h4⟩
    · obtain ⟨m', e1, r1, f1⟩ := t2 hk h4
      refine Or.inr ⟨m', 2, e1, r1, f1, fun ws => ?_⟩
      show (if tk By n i = w then (if i < 400 then sqk (tk By n) ws (i + 1) else .inr (2, i)) else .inr (1, i)) = _
      rw [if_pos hk, if_neg h4]
  · obtain ⟨m', e1, r1, f1⟩ := t3 hk
    refine Or.inr ⟨m', 1, e1, r1, f1, fun ws => ?_⟩
    show (if tk By n i = w then (if i < 400 then sqk (tk By n) ws (i + 1) else .inr (2, i)) else .inr (1, i)) = _
    rw [if_neg hk]
theorem SRx.s {k j c : Nat} (he : tx e) (z : SXe e c k j) : SRx e k j := by unfold tx at he; omega
def IL (m : M2) (e : Nat) (By : Nat → Nat) (n : Nat) (r : Option M2) (pr : IR) : Prop := (∀ j s', pr = .inl (j, s') → ∃ m', r = some m' ∧ XI m' e By n j s' ∧ Fr (SRx e) m m') ∧ (∀ f t, pr = .inr (f, t) → ∃ m', r = some m' ∧ XFt m' By n f t ∧ Fr (SRx e) m m')
theorem IL.ok {m' : M2} {r : Option M2} {j : Nat} {s' : IS} (h1 : r = some m') (h2 : XI m' e By n j s') (h4 : Fr (SRx e) m m') : IL m e By n r (.inl (j, s')) := ⟨fun _ _ z => by cases z; exact ⟨m', h1, h2, h4⟩, fun _ _ z => by cases z⟩
theorem IL.no {m' : M2} {r : Option M2} {f t : Nat} (h1 : r = some m') (h2 : XFt m' By n f t) (h3 : Fr (SRx e) m m') : IL m e By n r (.inr (f, t)) := ⟨fun _ _ z => (by cases z), fun _ _ z => by cases z; exact ⟨m', h1, h2, h3⟩⟩
theorem IX.l {C : List Op} {r : Option M2} {s : IS} {pr : IR} (h : IX m e By n C r pr) (hB : ∀ o, o ∈ C → OpB o) (hL : LwX m e C (ttL s)) (hs : ∀ j s', pr = .inl (j, s') → ttL s' = ttL s) : IL m e By n r pr := by
  refine ⟨fun j s' z => ?_, h.2⟩
  obtain ⟨m', h1, h2, h3, h4⟩ := h.1 j s' z
  refine ⟨m', h1, ⟨C, h2, h3, hB, fun q w hw => ?_⟩, h4.mono (fun k j z => z.x)⟩
  rw [hs j s' z] at hw
  obtain ⟨a, a1, a2, a3⟩ := hL q w hw
  exact ⟨a, a1, (h4.I _ _ (by omega)).trans a2, a3⟩
theorem x_law {i : Nat} {s : IS} (he : tx e) (hX : XI m e By n i s) (hT : TB s) (hL6 : (ttL s).length < 6) : IL m e By n (F_X4_readLaw e m) (pLaw (tk By n) (vI By n) (v5 By n) i s) := by
  have he' := he
  have hte := te_le By n
  have hKV : ∀ i, tk By n i = 3 → vI By n i < 10000 := fun i hi => vI_lt hi
  unfold tx at he'
  obtain ⟨C, hR, hO, hCB, hLw⟩ := hX
  unfold F_X4_readLaw pLaw
  rw [show hI m e 1 = nI (ttL s).length from hO.1.1.2.1, if_pos (show nI (ttL s).length < 6 from nI_lt (b := 6) hL6 (by omega)), lit_18, lit_2]
  rcases x_tk' he hR (w := 18) (by omega) (by omega) with ⟨m1, e1, r1, f1, k1, h1⟩ | ⟨m1, f, e1, r1, f1, q1⟩
  · rw [sqk_y k1 h1, e1, bind_s]
    dsimp only
    have O1 := hO.s12 he f1
    rcases x_tk' he r1 (w := 2) (by omega) (by omega) with ⟨m2, e2, r2, f2, k2, h2⟩ | ⟨m2, f, e2, r2, f2, q2⟩
    · rw [sqk_y k2 h2, e2, bind_s]
      dsimp only
      obtain ⟨F2, N2, W2, U2⟩ := O1.s12 he f2
      rw [if_neg (by decide), show hI m2 e 1 = nI (ttL s).length from F2.1.2.1]
      obtain ⟨m3, e3, N3, W3, f3⟩ := x_noteName (law := nI (ttL s).length) he r2 k2 N2 W2 (by have := hT.2.1; have := hT.2.2.2; omega)
      rw [e3, bind_s]
      have r3 := r2.fr f3 (fun k j z => by omega)
      have F3 := F2.fr f3 (fun k j z => by omega)
      have U3 := U2.fr f3 (fun j => by omega)
      have f03 : Fr (fun k j => (k = 14 ∧ (j = 1 ∨ j = 2 ∨ j = 6 ∨ j = 7 ∨ j = 11)) ∨ k = 16 ∨ k = 17) m m3 := ((f1.mono (fun k j z => by omega)).tr (f2.mono (fun k j z => by omega))).tr (f3.mono (fun k j z => by omega))
      have ff3 : Fr (SRx e) m m3 := f03.mono (fun k j z => by omega)
      unfold f_X4_readLaw_44
      rw [lit_5]
      rcases x_tk' he r3 (w := 5) (by omega) (by omega) with ⟨m4, e4, r4, f4, k4, h4⟩ | ⟨m4, f, e4, r4, f4, q4⟩
      · rw [sqk_y k4 h4, e4, bind_s]
        dsimp only
        have F4 := F3.fr f4 (fun k j z => by omega)
        rw [show hI m4 e 1 = nI (ttL s).length from F4.1.2.1, show hI m4 e 4 = nI C.length from r4.2.2.2.2.2.1.1, bI_n _ (e + 1) _ hL6 (by omega), bind_s]
        have f5 : Fr (fun k j => k = e + 1 ∧ j = (ttL s).length) m4 (tI m4 (e + 1) (ttL s).length (nI C.length)) := Fr.rf.tI _ ⟨rfl, rfl⟩
        have w5 : hI (tI m4 (e + 1) (ttL s).length (nI C.length)) (e + 1) (ttL s).length = nI C.length := by rw [hI_tI, if_pos ⟨rfl, rfl⟩]
        generalize tI m4 (e + 1) (ttL s).length (nI C.length) = m5 at f5 w5 ⊢
        have r5 := r4.fr f5 (fun k j z => by omega)
        have f45 : Fr (fun k j => S12 k j ∨ (k = e + 1 ∧ j = (ttL s).length)) m3 m5 := (f4.mono (fun k j z => Or.inl z)).tr (f5.mono (fun k j z => Or.inr z))
        have ff5 : Fr (SRx e) m m5 := ff3.tr (f45.mono (fun k j z => by omega))
        obtain ⟨m6, e6, f6, o6⟩ := x_branches (c := C.length) he (Nat.le_refl _) hCB r5
        rw [e6, bind_s]
        have ff6 : Fr (SRx e) m m6 := ff5.tr (f6.mono (fun k j z => SRx.s he z))
        show IL m e By n (f_X4_readLaw_165 e m6) (match pBr (tk By n) (vI By n) 9 (i + 1 + 1 + 1) [] with
          | .inr e => .inr e
          | .inl z => match pX (tk By n) (vI By n) 24 0 0 z.1 with
            | .inr e => .inr e
            | .inl y => sqR (sqk (tk By n) [4] y.1) (iLaw (v5 By n) i (z.2, y.2) s))
        rcases o6 with ⟨j, bs, C1, p6, r6, lC1, pre1, B1, S1⟩ | ⟨f, t, p6, r6⟩
        · rw [p6]
          dsimp only
          unfold f_X4_readLaw_165
          have o7 := x_expr (c := C.length) he 24 0 0 j C1 m6 lC1 (by omega) (by omega) (by unfold Nd; omega) r6
          rw [lit_0]
          cases hx : pX (tk By n) (vI By n) 24 0 0 j with
          | inr x =>
            rw [hx] at o7
            obtain ⟨m7, e7, r7, f7⟩ := o7.2 x.1 x.2 rfl
            rw [e7, bind_s, xf_take r7.ne, bind_s]
            dsimp only
            rw [xf_emit r7.ne, bind_s]
            dsimp only
            rw [qI_e, bind_s]
            have f8 : Fr (fun k j => k = e ∧ j = 1) m7 (tI m7 e 1 (hI m7 e 1 + 1)) := Fr.rf.tI _ ⟨rfl, rfl⟩
            exact IL.no rfl (r7.ee he f8) ((ff6.tr (f7.mono (fun k j z => SRx.s he z))).tr (f8.mono (fun k j z => (SRy.ee he z).x)))
          | inl y =>
            rw [hx] at o7
            dsimp only
            obtain ⟨m7, e7, r7, f7⟩ := o7.1 y.1 y.2 rfl
            have gy := pX_good hKV 24 0 0 j y.1 y.2 (by omega) (by omega) hx
            have ly := gy.2.2.1
            have lj := r6.2.2.2.2.1
            have ff7 : Fr (SRx e) m m7 := ff6.tr (f7.mono (fun k j z => SRx.s he z))
            rw [e7, bind_s, lit_4]
            rcases x_tk' he r7 (w := 4) (by omega) (by omega) with ⟨m8, e8, r8, f8, k8, h8⟩ | ⟨m8, f, e8, r8, f8, q8⟩
            · have l7 : (C1 ++ y.2).length = C1.length + y.2.length := List.length_append
              obtain ⟨m9, e9, r9, f9⟩ := x_emit (a := 23) (b := 0) he r8 (by omega) (by omega) (by omega)
              rw [sqk_y k8 h8, e8, bind_s]
              dsimp only
              rw [show (23 : Int32) = nI 23 from rfl, e9, bind_s]
              dsimp only
              -- what has stayed since the name
              have f59 : Fr (fun k j => (k = 14 ∧ (j = 1 ∨ j = 2 ∨ j = 4 ∨ j = 5)) ∨ (k = e ∧ j = 4) ∨ k = e + 2) m5 m9 := (((f6.mono (fun k j z => by omega)).tr (f7.mono (fun k j z => by omega))).tr (f8.mono (fun k j z => by omega))).tr (f9.mono (fun k j z => by omega))
              have f39 : Fr (fun k j => (k = 14 ∧ (j = 1 ∨ j = 2 ∨ j = 4 ∨ j = 5)) ∨ (k = e ∧ j = 4) ∨ k = e + 2 ∨ (k = e + 1 ∧ j = (ttL s).length)) m3 m9 := (f45.mono (fun k j z => by omega)).tr (f59.mono (fun k j z => by omega))
              have F9 := F3.fr f39 (fun k j z => by omega)
              rw [show hI m9 e 1 = nI (ttL s).length from F9.1.2.1, nI_1, qI_e, bind_s]
              have fa : Fr (fun k j => k = e ∧ j = 1) m9 (tI m9 e 1 (nI ((ttL s).length + 1))) := Fr.rf.tI _ ⟨rfl, rfl⟩
              have wa : hI (tI m9 e 1 (nI ((ttL s).length + 1))) e 1 = nI ((ttL s).length + 1) := by rw [hI_tI, if_pos ⟨rfl, rfl⟩]
              generalize tI m9 e 1 (nI ((ttL s).length + 1)) = ma at fa wa ⊢
              have ll : (ttL s ++ [(bs, y.2)]).length = (ttL s).length + 1 := by rw [List.length_append, List.length_singleton]
              have l9 : (C1 ++ y.2 ++ [((23, 0) : Op)]).length = C1.length + y.2.length + 1 := by rw [List.length_append, List.length_append, List.length_singleton]
              obtain ⟨⟨a0, a1, a5, a8, a9, a10, a11⟩, a7, b3, b4⟩ := F9
              refine IL.ok rfl ⟨C1 ++ y.2 ++ [(23, 0)], r9.ee he (by omega) fa, ⟨⟨⟨(fa.I _ _ (by omega)).trans a0, by rw [wa]; exact congrArg nI ll.symm, (fa.I _ _ (by omega)).trans a5, (fa.I _ _ (by omega)).trans a8, (fa.I _ _ (by omega)).trans a9, (fa.I _ _ (by omega)).trans a10, (fa.I _ _ (by omega)).trans a11⟩, (fa.J _ _ (by omega)).trans a7, fun b p hp => (fa.I _ _ (by omega)).trans (b3 b p hp), fun q p hp => ⟨(fa.I _ _ (by omega)).trans (b4 q p hp).1, (fa.I _ _ (by omega)).trans (b4 q p hp).2⟩⟩, (N3.fr f39 (fun k j z => by omega)).fr fa (fun k j z => by omega), (W3.fr f39 (fun k j z => by omega)).fr fa (fun k j z => by omega), (U3.fr f39 (fun j => by omega)).fr fa (fun j => by omega)⟩, fun o ho => ?_, fun q w hw => ?_⟩ (((ff7.tr (f8.mono (fun k j z => (SRy.s12 he z).x))).tr (f9.mono (fun k j z => by omega))).tr (fa.mono (fun k j z => (SRy.ee he z).x)))
              · rw [List.mem_append, List.mem_append, List.mem_singleton] at ho
                rcases ho with (ho | ho) | ho
                · exact B1 o ho
                · exact (gy.2.2.2.2.2.2 o ho).b
                · rw [ho]; unfold OpB; dsimp only; omega
              · have hw' : (ttL s ++ [(bs, y.2)])[q]? = some w := hw
                by_cases hq : q < (ttL s).length
                · rw [List.getElem?_append_left hq] at hw'
                  obtain ⟨a, c1, c2, c3⟩ := hLw q w hw'
                  refine ⟨a, by omega, ?_, c3.ext (by omega) (fun x hx => ?_)⟩
                  · rw [fa.I _ _ (by omega), f39.I _ _ (by omega), f03.I _ _ (by omega)]; exact c2
                  · rw [List.append_assoc, List.getElem?_append_left (by omega), pre1 x hx]
                · have hq2 := lt_of_get hw'
                  rw [ll] at hq2
                  have eq : q = (ttL s).length := by omega
                  subst eq
                  rw [List.getElem?_append_right (Nat.le_refl _), Nat.sub_self] at hw'
                  cases hw'
                  refine ⟨C.length, by omega, ?_, SemL.of S1 lC1 gy⟩
                  rw [fa.I _ _ (by omega), f59.I _ _ (by omega)]; exact w5
            · rw [q8, e8, bind_s]
              dsimp only
              rw [xf_emit r8.ne, bind_s]
              dsimp only
              rw [qI_e, bind_s]
              have f9 : Fr (fun k j => k = e ∧ j = 1) m8 (tI m8 e 1 (hI m8 e 1 + 1)) := Fr.rf.tI _ ⟨rfl, rfl⟩
              exact IL.no rfl (r8.ee he f9) ((ff7.tr (f8.mono (fun k j z => SRx.s he z))).tr (f9.mono (fun k j z => (SRy.ee he z).x)))
        · rw [p6]
          obtain ⟨m7, e7, r7, f7⟩ := xf_165 he r6
          exact IL.no e7 r7 (ff6.tr f7)
      · rw [q4, e4, bind_s]
        dsimp only
        have F4 := F3.fr f4 (fun k j z => by omega)
        rw [show hI m4 e 1 = nI (ttL s).length from F4.1.2.1, bI_n _ (e + 1) _ hL6 (by omega), bind_s]
        have f5 : Fr (fun k j => k = e + 1 ∧ j = (ttL s).length) m4 (tI m4 (e + 1) (ttL s).length (hI m4 e 4)) := Fr.rf.tI _ ⟨rfl, rfl⟩
        generalize tI m4 (e + 1) (ttL s).length (hI m4 e 4) = m5 at f5 ⊢
        have r5 := r4.fr f5 (fun k j z => by omega)
        rw [xf_l74 r5.ne, bind_s]
        obtain ⟨m7, e7, r7, f7⟩ := xf_165 he r5
        exact IL.no e7 r7 (((ff3.tr (f4.mono (fun k j z => SRx.s he z))).tr (f5.mono (fun k j z => by omega))).tr f7)
    · rw [q2, e2, bind_s]
      dsimp only
      rw [if_pos rfl]
      have F2 := O1.1.fr f2 (fun k j z => by omega)
      obtain ⟨m8, e8, r8, f8⟩ := xf_44 he r2 F2.1.2.1 hL6
      exact IL.no e8 r8 (((f1.mono (fun k j z => (SRy.s12 he z).x)).tr (f2.mono (fun k j z => SRx.s he z))).tr f8)
  · rw [q1, e1, bind_s]
    dsimp only
    rw [xf_take r1.ne, bind_s]
    dsimp only
    rw [if_pos rfl]
    have F1 := hO.1.fr f1 (fun k j z => by omega)
    obtain ⟨m8, e8, r8, f8⟩ := xf_44 he r1 F1.1.2.1 hL6
    exact IL.no e8 r8 ((f1.mono (fun k j z => SRx.s he z)).tr f8)
end KD
