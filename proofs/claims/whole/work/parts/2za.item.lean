/-! ===== what a text tells: abstract ===== -/
/-- names (token, law or -1), laws, men (law, time), fogs, PARTS, drum, lag, song, the INTs that must be below PARTS, the first slip -/
abbrev IS : Type := List (Nat × Int32) × List (List Br × List Op) × List (Int32 × Nat) × List (Nat × Nat) × Nat × Int32 × Nat × Int32 × List Nat × Option (Nat × Nat)
def ttN (s : IS) : List (Nat × Int32) := s.1
def ttL (s : IS) : List (List Br × List Op) := s.2.1
def ttM (s : IS) : List (Int32 × Nat) := s.2.2.1
def ttF (s : IS) : List (Nat × Nat) := s.2.2.2.1
def ttP (s : IS) : Nat := s.2.2.2.2.1
def ttD (s : IS) : Int32 := s.2.2.2.2.2.1
def ttG (s : IS) : Nat := s.2.2.2.2.2.2.1
def ttS (s : IS) : Int32 := s.2.2.2.2.2.2.2.1
def ttU (s : IS) : List Nat := s.2.2.2.2.2.2.2.2.1
def ttW (s : IS) : Option (Nat × Nat) := s.2.2.2.2.2.2.2.2.2
def is0 : IS := ([], [], [], [], 24, -1, 0, -1, [], none)
def sqk (K : Nat → Nat) : List Nat → Nat → Nat ⊕ (Nat × Nat)
  | [], i => .inl i
  | w :: ws, i => if K i = w then (if i < 400 then sqk K ws (i + 1) else .inr (2, i)) else .inr (1, i)
theorem sqk_y {K : Nat → Nat} {w i : Nat} {ws : List Nat} (h : K i = w) (h4 : i < 400) : sqk K (w :: ws) i = sqk K ws (i + 1) := by
  show (if K i = w then (if i < 400 then sqk K ws (i + 1) else .inr (2, i)) else .inr (1, i)) = _
  rw [if_pos h, if_pos h4]
def slp (W : Option (Nat × Nat)) (c : Bool) (k t : Nat) : Option (Nat × Nat) := match W with
  | some w => some w
  | none => if c = true then some (k, t) else none
def twc (N : Nat → Nat) (t : Nat) (ns : List (Nat × Int32)) : Bool := ns.any (fun p => decide (N p.1 = N t))
def lwN (N : Nat → Nat) (t : Nat) : List (Nat × Int32) → Int32
  | [] => -1
  | p :: ps => if N p.1 = N t ∧ ¬ p.2 = -1 then p.2 else lwN N t ps
def okP (v : Nat) : Bool := decide (3 ≤ v ∧ v ≤ 24)
def iParts (V : Nat → Nat) (i : Nat) (s : IS) : IS := (ttN s, ttL s, ttM s, ttF s, if okP (V (i + 1)) = true then V (i + 1) else ttP s, ttD s, ttG s, ttS s, ttU s, slp (ttW s) (!okP (V (i + 1))) 5 (i + 1))
def iLaw (N : Nat → Nat) (i : Nat) (w : List Br × List Op) (s : IS) : IS := (ttN s ++ [(i + 1, nI (ttL s).length)], ttL s ++ [w], ttM s, ttF s, ttP s, ttD s, ttG s, ttS s, ttU s, slp (ttW s) (twc N (i + 1) (ttN s)) 3 (i + 1))
def iMan (V N : Nat → Nat) (i : Nat) (s : IS) : IS := (ttN s ++ [(i + 1, -1)], ttL s, ttM s ++ [(lwN N (i + 2) (ttN s), V (i + 3))], ttF s, ttP s, ttD s, ttG s, ttS s, ttU s ++ [i + 3], slp (slp (ttW s) (twc N (i + 1) (ttN s)) 3 (i + 1)) (decide (lwN N (i + 2) (ttN s) = -1)) 4 (i + 2))
def iDrum (V : Nat → Nat) (i : Nat) (s : IS) : IS := (ttN s, ttL s, ttM s, ttF s, ttP s, nI (V (i + 1)), V (i + 2), ttS s, ttU s ++ [i + 1], slp (ttW s) (decide (23 < V (i + 2))) 5 (i + 2))
def iSong (V : Nat → Nat) (i : Nat) (s : IS) : IS := (ttN s, ttL s, ttM s, ttF s, ttP s, ttD s, ttG s, nI (V (i + 1)), ttU s ++ [i + 1], ttW s)
def iFog (V : Nat → Nat) (i : Nat) (s : IS) : IS := (ttN s, ttL s, ttM s, ttF s ++ [(V (i + 1), V (i + 2))], ttP s, ttD s, ttG s, ttS s, ttU s, slp (slp (ttW s) (decide (999 < V (i + 1))) 5 (i + 1)) (decide (999 < V (i + 2) ∨ V (i + 2) < V (i + 1))) 5 (i + 2))
abbrev IR : Type := (Nat × IS) ⊕ (Nat × Nat)
def sqR (r : Nat ⊕ (Nat × Nat)) (s : IS) : IR := match r with
  | .inl j => .inl (j, s)
  | .inr e => .inr e
def pLaw (K V N : Nat → Nat) (i : Nat) (s : IS) : IR := match sqk K [18, 2, 5] i with
  | .inr e => .inr e
  | .inl j => match pBr K V 9 j [] with
    | .inr e => .inr e
    | .inl z => match pX K V 24 0 0 z.1 with
      | .inr e => .inr e
      | .inl y => sqR (sqk K [4] y.1) (iLaw N i (z.2, y.2) s)
def pItem (K V N : Nat → Nat) (i : Nat) (s : IS) : IR :=
  if K i = 17 then sqR (sqk K [17, 3, 4] i) (iParts V i s)
  else if K i = 18 then (if 6 ≤ (ttL s).length then .inr (2, i) else pLaw K V N i s)
  else if K i = 19 then (if 12 ≤ (ttM s).length then .inr (2, i) else sqR (sqk K [19, 2, 2, 3, 4] i) (iMan V N i s))
  else if K i = 31 then sqR (sqk K [31, 3, 3, 4] i) (iDrum V i s)
  else if K i = 33 then sqR (sqk K [33, 3, 4] i) (iSong V i s)
  else if K i = 20 then (if 4 ≤ (ttF s).length then .inr (2, i) else sqR (sqk K [20, 3, 3, 4] i) (iFog V i s))
  else .inr (1, i)
def pT (K V N : Nat → Nat) : Nat → Nat → IS → IR
  | 0, i, s => .inl (i, s)
  | f + 1, i, s => if K i = 0 then .inl (i, s) else match pItem K V N i s with
    | .inr e => .inr e
    | .inl z => pT K V N f z.1 z.2
/-- the first of the INTs that isn't below p -/
def fbl (V : Nat → Nat) (p : Nat) : List Nat → Option Nat
  | [] => none
  | t :: ts => if p ≤ V t then some t else fbl V p ts
theorem fbl_app (V : Nat → Nat) (p t : Nat) : ∀ ts, fbl V p (ts ++ [t]) = (match fbl V p ts with
    | some x => some x
    | none => if p ≤ V t then some t else none)
  | [] => by
    show (if p ≤ V t then some t else none) = _
    rfl
  | x :: ts => by
    show (if p ≤ V x then some x else fbl V p (ts ++ [t])) = (match (if p ≤ V x then some x else fbl V p ts) with
      | some x => some x
      | none => if p ≤ V t then some t else none)
    by_cases h : p ≤ V x
    · rw [if_pos h, if_pos h]
    · rw [if_neg h, if_neg h]
      exact fbl_app V p t ts
theorem fbl_m {V : Nat → Nat} {p x : Nat} : ∀ {ts : List Nat}, fbl V p ts = some x → x ∈ ts ∧ p ≤ V x
  | [], h => by cases h
  | t :: ts, h => by
    have h' : (if p ≤ V t then some t else fbl V p ts) = some x := h
    by_cases q : p ≤ V t
    · rw [if_pos q] at h'; cases h'; exact ⟨List.mem_cons_self .., q⟩
    · rw [if_neg q] at h'
      exact ⟨List.mem_cons_of_mem _ (fbl_m h').1, (fbl_m h').2⟩
/-! where the items end -/
theorem sqk_le {K : Nat → Nat} : ∀ {ws : List Nat} {i j : Nat}, sqk K ws i = .inl j → j = i + ws.length
  | [], i, j, h => by cases h; rfl
  | w :: ws, i, j, h => by
    have h' : (if K i = w then (if i < 400 then sqk K ws (i + 1) else .inr (2, i)) else .inr (1, i)) = Sum.inl j := h
    by_cases h1 : K i = w
    · rw [if_pos h1] at h'
      by_cases h4 : i < 400
      · rw [if_pos h4] at h'
        have := sqk_le h'
        rw [List.length_cons]
        omega
      · rw [if_neg h4] at h'; cases h'
    · rw [if_neg h1] at h'; cases h'
/-! ===== the class's reader beside the code ===== -/
section KA
variable {m : M2} {e : Nat} {By : Nat → Nat} {n : Nat}
abbrev SRx (e : Nat) : Nat → Nat → Prop := fun k _ => (e ≤ k ∧ k ≤ e + 5) ∨ (14 ≤ k ∧ k ≤ 17)
theorem XRd.fr {S : Nat → Nat → Prop} {m' : M2} {i : Nat} {Cd : List Op} (h : XRd m e By n i Cd) (hf : Fr S m m') (hs : ∀ k j, (k = 14 ∧ (j = 1 ∨ j = 2 ∨ j = 4 ∨ j = 5)) ∨ (k = e ∧ j = 4) ∨ k = e + 2 ∨ (20 ≤ k ∧ k ≤ 22) → ¬ S k j) : XRd m' e By n i Cd := by
  obtain ⟨a1, a2, a3, a4, a5, a6, a7, a8⟩ := h
  exact ⟨(hf.I _ _ (hs _ _ (by omega))).trans a1, (hf.I _ _ (hs _ _ (by omega))).trans a2, (hf.I _ _ (hs _ _ (by omega))).trans a3, a4, a5, a6.fr hf (fun k j z => hs k j (by omega)), a7.fr hf (fun k j z => hs k j (by omega)), (hf.I _ _ (hs _ _ (by omega))).trans a8⟩
def XW (m : M2) (By : Nat → Nat) (n : Nat) (W : Option (Nat × Nat)) : Prop := match W with
  | none => hI m 14 6 = 0
  | some w => hI m 14 6 = nI w.1 ∧ (0 < w.1 ∧ w.1 < 7) ∧ hI m 14 7 = nI (tp By n w.2)
theorem XW.fr {S : Nat → Nat → Prop} {m' : M2} {W : Option (Nat × Nat)} (h : XW m By n W) (hf : Fr S m m') (hs : ∀ k j, k = 14 ∧ (j = 6 ∨ j = 7) → ¬ S k j) : XW m' By n W := by
  cases W with
  | none => exact (hf.I _ _ (hs _ _ (by omega))).trans h
  | some w => exact ⟨(hf.I _ _ (hs _ _ (by omega))).trans h.1, h.2.1, (hf.I _ _ (hs _ _ (by omega))).trans h.2.2⟩
def XNm (m : M2) (By : Nat → Nat) (n : Nat) (ns : List (Nat × Int32)) : Prop := hI m 14 11 = nI ns.length ∧ ∀ k p, ns[k]? = some p → hJ m 16 k = lN (v5 By n p.1) ∧ hI m 17 k = p.2 ∧ tk By n p.1 = 2
theorem XNm.fr {S : Nat → Nat → Prop} {m' : M2} {ns : List (Nat × Int32)} (h : XNm m By n ns) (hf : Fr S m m') (hs : ∀ k j, (k = 14 ∧ j = 11) ∨ k = 16 ∨ k = 17 → ¬ S k j) : XNm m' By n ns := ⟨(hf.I _ _ (hs _ _ (by omega))).trans h.1, fun k p hp => ⟨(hf.J _ _ (hs _ _ (by omega))).trans (h.2 k p hp).1, (hf.I _ _ (hs _ _ (by omega))).trans (h.2 k p hp).2.1, (h.2 k p hp).2.2⟩⟩
def byV (By : Nat → Nat) (n : Nat) (r : Option Nat) : Int32 := match r with
  | some t => nI (tp By n t)
  | none => -1
def XBy (m : M2) (By : Nat → Nat) (n : Nat) (us : List Nat) : Prop := (∀ p, 3 ≤ p → p ≤ 24 → hI m 15 p = byV By n (fbl (vI By n) p us)) ∧ ∀ t, t ∈ us → tp By n t ≤ 2000
theorem XBy.fr {S : Nat → Nat → Prop} {m' : M2} {us : List Nat} (h : XBy m By n us) (hf : Fr S m m') (hs : ∀ j, ¬ S 15 j) : XBy m' By n us := ⟨fun p h1 h2 => (hf.I _ _ (hs _)).trans (h.1 p h1 h2), h.2⟩
theorem xf_slip {k i : Nat} {W : Option (Nat × Nat)} {Cd : List Op} (h : XRd m e By n (i + 1) Cd) (hW : XW m By n W) (hk : 0 < k ∧ k < 7) : ∃ m', F_X4_slipAtTaken e (nI k) m = some m' ∧ XW m' By n (slp W true k i) ∧ Fr (fun k j => k = 14 ∧ (j = 6 ∨ j = 7)) m m' := by
  obtain ⟨a1, a2, a3, a4, a5, a6, a7, a8⟩ := h
  have hte := te_le By n
  unfold F_X4_slipAtTaken f_X4_slipAtTaken_37
  cases W with
  | some w =>
    rw [if_neg (by rw [hW.1]; exact nI_ne0 hW.2.1.1 (by have := hW.2.1.2; omega))]
    exact ⟨m, rfl, hW, Fr.rf⟩
  | none =>
    rw [if_pos (show hI m 14 6 = 0 from hW), a2, if_neg (nI_nle (by omega) (by omega)), qI_e, bind_s, hI_tI, if_neg (by omega), a2, nI_m1s (by omega), show i + 1 - 1 = i from rfl, aI_n _ 22 (show i < 401 by omega) (by omega), bind_s, hI_tI, if_neg (by omega), (a7 i (by omega)).2.1, qI_e, bind_s]
    refine ⟨_, rfl, ⟨?_, hk, ?_⟩, (Fr.rf.tI _ (by omega)).tI _ (by omega)⟩
    · show hI (tI (tI m 14 6 (nI k)) 14 7 _) 14 6 = nI k
      rw [hI_tI, if_neg (by omega), hI_tI, if_pos ⟨rfl, rfl⟩]
    · show hI (tI (tI m 14 6 (nI k)) 14 7 _) 14 7 = nI (tp By n i)
      rw [hI_tI, if_pos ⟨rfl, rfl⟩]
theorem slp_f (W : Option (Nat × Nat)) (k t : Nat) : slp W false k t = W := by
  cases W <;> rfl
theorem v5_lt {t : Nat} (hk : tk By n t = 2) : v5 By n t < 2 ^ 40 ∧ rl isLt By n (tp By n t) ≤ 8 := by
  have hp := tk_p (By := By) (n := n) (t := t) (by omega)
  unfold tk lexK at hk
  rw [if_neg (by omega)] at hk
  have hs := sgK_lt (By (tp By n t)) (nxB By n (tp By n t + 1))
  by_cases q1 : isLt (By (tp By n t)) = true
  · rw [if_pos q1] at hk
    by_cases h8 : 8 < rl isLt By n (tp By n t)
    · rw [if_pos h8] at hk; omega
    · refine ⟨?_, by omega⟩
      have := vB_lt (B := 32) (f := ltr By (tp By n t)) (k := rl isLt By n (tp By n t)) (fun j hj => by have := (ltr_ok hj).2; omega)
      unfold v5
      have h2 : (32 : Nat) ^ rl isLt By n (tp By n t) ≤ 32 ^ 8 := Nat.pow_le_pow_right (by omega) (by omega)
      have h3 : (32 : Nat) ^ 8 = 2 ^ 40 := by decide
      omega
  · rw [if_neg q1] at hk
    exfalso
    by_cases q2 : isDi (By (tp By n t)) = true
    · rw [if_pos q2] at hk
      split at hk <;> omega
    · rw [if_neg q2] at hk; omega
theorem lN_eq60 {a b : Nat} (ha : a < 2 ^ 60) (hb : b < 2 ^ 60) : lN a = lN b ↔ a = b := by
  constructor
  · intro h
    have : (lN a).toBitVec.toNat = (lN b).toBitVec.toNat := by rw [h]
    rwa [lN_tn (by omega), lN_tn (by omega)] at this
  · intro h; rw [h]
theorem x_takenN {i : Nat} {Cd : List Op} (h : XRd m e By n (i + 1) Cd) (hk : tk By n i = 2) : F_X4_taken e m = some (lN (v5 By n i), m) := by
  obtain ⟨a1, a2, a3, a4, a5, a6, a7, a8⟩ := h
  have hte := te_le By n
  unfold F_X4_taken
  rw [a2, if_neg (nI_nle (by omega) (by omega)), nI_m1s (by omega), show i + 1 - 1 = i from rfl, aJ_n _ 21 (show i < 401 by omega) (by omega), bind_s, (a7 i (by omega)).2.2.2 hk]
  rfl
theorem any_take {α : Type} {f : α → Bool} {L : List α} {k : Nat} {o : α} (h : L[k]? = some o) : (L.take (k + 1)).any f = ((L.take k).any f || f o) := by
  rw [List.take_add_one, h, List.any_append]
  show _ = _
  congr 1
  show (f o || false) = f o
  exact Bool.or_false _
theorem x_noteName {i : Nat} {law : Int32} {ns : List (Nat × Int32)} {W : Option (Nat × Nat)} {Cd : List Op} (he : tx e) (h : XRd m e By n (i + 1) Cd) (hk : tk By n i = 2) (hN : XNm m By n ns) (hW : XW m By n W) (hl : ns.length < 18) : ∃ m', F_X4_noteName e law m = some m' ∧ XNm m' By n (ns ++ [(i, law)]) ∧ XW m' By n (slp W (twc (v5 By n) i ns) 3 i) ∧ Fr (fun k j => (k = 14 ∧ (j = 6 ∨ j = 7 ∨ j = 11)) ∨ k = 16 ∨ k = 17) m m' := by
  have hv := (v5_lt hk).1
  unfold tx at he
  unfold F_X4_noteName f_X4_noteName_80
  have key : ∃ m1, loop (g_X4_noteName_2 e law) ((0 : Int32), m) = some m1 ∧ XW m1 By n (slp W (twc (v5 By n) i ns) 3 i) ∧ Fr (fun k j => k = 14 ∧ (j = 6 ∨ j = 7)) m m1 := by
    refine loop_to ns.length (fun k z => z.1 = nI k ∧ XW z.2 By n (slp W (twc (v5 By n) i (ns.take k)) 3 i) ∧ Fr (fun k j => k = 14 ∧ (j = 6 ∨ j = 7)) m z.2) _ (by omega) ?_ ?_ ⟨rfl, by show XW m By n (slp W false 3 i); rw [slp_f]; exact hW, Fr.rf⟩
    · rintro k ⟨z1, m1⟩ hk1 ⟨i1, i2, i3⟩
      dsimp only at i1 i2 i3
      subst i1
      show ∃ s', f_X4_noteName_2 e law (nI k) m1 = some (Sum.inl s') ∧ _
      have h1 := h.fr i3 (fun k j z => by omega)
      have N1 := hN.fr i3 (fun k j z => by omega)
      obtain ⟨p, hp⟩ : ∃ p, ns[k]? = some p := ⟨ns[k], List.getElem?_eq_getElem hk1⟩
      have hpv := (v5_lt (N1.2 k p hp).2.2).1
      unfold f_X4_noteName_2 f_X4_noteName_29
      rw [N1.1, if_neg (nI_ge hk1 (by omega)), aJ_n _ 16 (show k < 18 by omega) (by omega), bind_s, x_takenN h1 hk, bind_s, (N1.2 k p hp).1]
      dsimp only
      have et : twc (v5 By n) i (ns.take (k + 1)) = (twc (v5 By n) i (ns.take k) || decide (v5 By n p.1 = v5 By n i)) := any_take hp
      rw [et]
      by_cases q : v5 By n p.1 = v5 By n i
      · rw [if_pos ((lg_cmp_eq _ _).mpr (by rw [q]))]
        obtain ⟨m2, e2, w2, f2⟩ := xf_slip (k := 3) h1 i2 (by omega)
        rw [lit_3, e2, bind_s, nmI_e, bind_s, nI_1]
        refine ⟨_, rfl, rfl, ?_, i3.tr f2⟩
        rw [decide_eq_true q, Bool.or_true]
        cases W with
        | some w => exact w2
        | none =>
          cases hh : twc (v5 By n) i (ns.take k) with
          | true => rw [hh] at w2; exact w2
          | false => rw [hh] at w2; exact w2
      · rw [if_neg (fun z => q ((lN_eq60 (by omega) (by omega)).mp ((lg_cmp_eq _ _).mp z))), nmI_e, bind_s, nI_1]
        refine ⟨_, rfl, rfl, ?_, i3⟩
        rw [decide_eq_false q, Bool.or_false]
        exact i2
    · rintro ⟨z1, m1⟩ ⟨i1, i2, i3⟩
      dsimp only at i1 i2 i3
      subst i1
      show ∃ z, f_X4_noteName_2 e law (nI ns.length) m1 = some (Sum.inr z) ∧ _
      have N1 := hN.fr i3 (fun k j z => by omega)
      unfold f_X4_noteName_2
      rw [N1.1, if_pos (nI_le (Nat.le_refl _) (by omega))]
      rw [List.take_length] at i2
      exact ⟨_, rfl, i2, i3⟩
  obtain ⟨m1, e1, w1, f1⟩ := key
  have h1 := h.fr f1 (fun k j z => by omega)
  have N1 := hN.fr f1 (fun k j z => by omega)
  rw [e1, bind_s, N1.1, if_neg (nI_ge hl (by omega)), x_takenN h1 hk, bind_s]
  dsimp only
  rw [bJ_n _ 16 _ hl (by omega), bind_s]
  have g1 : hI (tJ m1 16 ns.length (lN (v5 By n i))) 14 11 = nI ns.length := N1.1
  rw [g1, bI_n _ 17 _ hl (by omega), bind_s, hI_tI, if_neg (by omega), g1, nI_1, qI_e, bind_s]
  have f2 : Fr (fun k j => (k = 14 ∧ j = 11) ∨ (k = 16 ∧ j = ns.length) ∨ (k = 17 ∧ j = ns.length)) m1 (tI (tI (tJ m1 16 ns.length (lN (v5 By n i))) 17 ns.length law) 14 11 (nI (ns.length + 1))) := ((Fr.rf.tJ _ (by omega)).tI _ (by omega)).tI _ (by omega)
  refine ⟨_, rfl, ⟨?_, fun k p hp => ?_⟩, w1.fr f2 (fun k j z => by omega), (f1.mono (fun k j z => by omega)).tr (f2.mono (fun k j z => by omega))⟩
  · rw [hI_tI, if_pos ⟨rfl, rfl⟩, List.length_append, List.length_singleton]
  · by_cases q : k < ns.length
    · rw [List.getElem?_append_left q] at hp
      have := N1.2 k p hp
      exact ⟨(f2.J _ _ (by omega)).trans this.1, (f2.I _ _ (by omega)).trans this.2.1, this.2.2⟩
    · have hk2 := lt_of_get hp
      rw [List.length_append, List.length_singleton] at hk2
      have ek : k = ns.length := by omega
      subst ek
      rw [List.getElem?_append_right (Nat.le_refl _), Nat.sub_self] at hp
      cases hp
      refine ⟨?_, ?_, hk⟩
      · rw [hJ_tI, hJ_tI, hJ_tJ, if_pos ⟨rfl, rfl⟩]
      · rw [hI_tI, if_neg (by omega), hI_tI, if_pos ⟨rfl, rfl⟩]
theorem x_lawNamed {i : Nat} {ns : List (Nat × Int32)} (hk : tk By n i = 2) (hN : XNm m By n ns) (hl : ns.length ≤ 18) : F_X4_lawNamed e (lN (v5 By n i)) m = some (lwN (v5 By n) i ns, m) := by
  have hv := (v5_lt hk).1
  unfold F_X4_lawNamed
  have key : ∃ z, loop (g_X4_lawNamed_2 e (lN (v5 By n i))) ((0 : Int32), m) = some z ∧ ((∃ k, k < 18 ∧ z = Sum.inl (nI k, m) ∧ hI m 17 k = lwN (v5 By n) i ns) ∨ (z = Sum.inr m ∧ lwN (v5 By n) i ns = -1)) := by
    refine loop_ex ns.length (fun k z => z = (nI k, m) ∧ lwN (v5 By n) i (ns.drop k) = lwN (v5 By n) i ns) _ (by omega) ?_ ?_ ⟨rfl, rfl⟩
    · rintro k z hk1 ⟨rfl, i2⟩
      show (∃ s', f_X4_lawNamed_2 e (lN (v5 By n i)) (nI k) m = some (Sum.inl s') ∧ _) ∨ ∃ z, f_X4_lawNamed_2 e (lN (v5 By n i)) (nI k) m = some (Sum.inr z) ∧ _
      obtain ⟨p, hp⟩ : ∃ p, ns[k]? = some p := ⟨ns[k], List.getElem?_eq_getElem hk1⟩
      have hN2 := hN.2 k p hp
      have hpv := (v5_lt hN2.2.2).1
      rw [drop_c hp] at i2
      have i2' : (if v5 By n p.1 = v5 By n i ∧ ¬ p.2 = -1 then p.2 else lwN (v5 By n) i (ns.drop (k + 1))) = lwN (v5 By n) i ns := i2
      unfold f_X4_lawNamed_2 f_X4_lawNamed_38
      rw [hN.1, if_neg (nI_ge hk1 (by omega)), aJ_n _ 16 (show k < 18 by omega) (by omega), bind_s, hN2.1]
      by_cases q : v5 By n p.1 = v5 By n i
      · rw [if_pos ((lg_cmp_eq _ _).mpr (by rw [q])), aI_n _ 17 (show k < 18 by omega) (by omega), bind_s, hN2.2.1]
        by_cases q2 : p.2 = -1
        · left
          rw [if_neg (fun z => z.2 q2)] at i2'
          rw [if_pos q2, nmI_e, bind_s, nI_1]
          exact ⟨_, rfl, rfl, i2'⟩
        · right
          rw [if_pos ⟨q, q2⟩] at i2'
          rw [if_neg q2]
          exact ⟨_, rfl, Or.inl ⟨k, by omega, rfl, by rw [hN2.2.1]; exact i2'⟩⟩
      · left
        rw [if_neg (fun z => q z.1)] at i2'
        rw [if_neg (fun z => q ((lN_eq60 (by omega) (by omega)).mp ((lg_cmp_eq _ _).mp z))), nmI_e, bind_s, nI_1]
        exact ⟨_, rfl, rfl, i2'⟩
    · rintro z ⟨rfl, i2⟩
      show ∃ z, f_X4_lawNamed_2 e (lN (v5 By n i)) (nI ns.length) m = some (Sum.inr z) ∧ _
      unfold f_X4_lawNamed_2
      rw [hN.1, if_pos (nI_le (Nat.le_refl _) (by omega))]
      rw [List.drop_length] at i2
      exact ⟨_, rfl, Or.inr ⟨rfl, i2.symm⟩⟩
  obtain ⟨z, e1, ⟨k, k18, rfl, q⟩ | ⟨rfl, q⟩⟩ := key
  · rw [e1, bind_s, Sum.elim_inl]
    dsimp only
    rw [aI_n _ 17 k18 (by omega), bind_s, q]
  · rw [e1, bind_s, Sum.elim_inr, q]
theorem x_noteBeyond {i : Nat} {us : List Nat} {Cd : List Op} (h : XRd m e By n (i + 1) Cd) (hk : tk By n i = 3) (hn : n ≤ 2000) (hU : XBy m By n us) : ∃ m', F_X4_noteBeyond e m = some m' ∧ XBy m' By n (us ++ [i]) ∧ Fr (fun k _ => k = 15) m m' := by
  have hv := vI_lt hk
  have hte := te_le By n
  have hit := h.2.2.2.1
  unfold F_X4_noteBeyond
  have key : ∃ z, loop (g_X4_noteBeyond_2 e) ((3 : Int32), m) = some z ∧ (∀ p, 3 ≤ p → p ≤ 24 → hI z 15 p = byV By n (fbl (vI By n) p (us ++ [i]))) ∧ Fr (fun k _ => k = 15) m z := by
    refine loop_to 22 (fun k z => z.1 = nI (3 + k) ∧ (∀ p, 3 ≤ p → p < 3 + k → hI z.2 15 p = byV By n (fbl (vI By n) p (us ++ [i]))) ∧ (∀ p, 3 + k ≤ p → p ≤ 24 → hI z.2 15 p = byV By n (fbl (vI By n) p us)) ∧ Fr (fun k _ => k = 15) m z.2) _ (by omega) ?_ ?_ ⟨rfl, fun p h1 h2 => by omega, fun p h1 h2 => hU.1 p h1 h2, Fr.rf⟩
    · rintro k ⟨z1, m1⟩ hk1 ⟨i1, i2, i3, i4⟩
      dsimp only at i1 i2 i3 i4
      subst i1
      show ∃ s', f_X4_noteBeyond_2 e (nI (3 + k)) m1 = some (Sum.inl s') ∧ _
      have q1 : hI m1 14 1 = nI (i + 1) := by rw [i4.I _ _ (by omega)]; exact h.2.1
      have t1 : F_X4_taken e m1 = some (lN (vI By n i), m1) := by
        unfold F_X4_taken
        rw [q1, if_neg (nI_nle (by omega) (by omega)), nI_m1s (by omega), show i + 1 - 1 = i from rfl, aJ_n _ 21 (show i < 401 by omega) (by omega), bind_s, i4.J _ _ (by omega), (h.2.2.2.2.2.2.1 i (by omega)).2.2.1 hk]
        rfl
      have p1 : hI m1 22 i = nI (tp By n i) := by rw [i4.I _ _ (by omega)]; exact (h.2.2.2.2.2.2.1 i (by omega)).2.1
      have old := i3 (3 + k) (by omega) (by omega)
      have fin : ∀ m2 : M2, Fr (fun a b => a = 15 ∧ b = 3 + k) m1 m2 → hI m2 15 (3 + k) = byV By n (fbl (vI By n) (3 + k) (us ++ [i])) → ∃ s', f_X4_noteBeyond_55 e (nI (3 + k)) m2 = some (Sum.inl s') ∧ s'.1 = nI (3 + (k + 1)) ∧ (∀ p, 3 ≤ p → p < 3 + (k + 1) → hI s'.2 15 p = byV By n (fbl (vI By n) p (us ++ [i]))) ∧ (∀ p, 3 + (k + 1) ≤ p → p ≤ 24 → hI s'.2 15 p = byV By n (fbl (vI By n) p us)) ∧ Fr (fun k _ => k = 15) m s'.2 := by
        intro m2 f2 hv2
        unfold f_X4_noteBeyond_55
        rw [nmI_e, bind_s, nI_1]
        refine ⟨_, rfl, rfl, fun p a1 a2 => ?_, fun p a1 a2 => ?_, i4.tr (f2.mono (fun k j z => z.1))⟩
        · show hI m2 15 p = _
          by_cases e : p = 3 + k
          · rw [e]; exact hv2
          · rw [f2.I _ _ (by omega)]; exact i2 p a1 (by omega)
        · show hI m2 15 p = _
          rw [f2.I _ _ (by omega)]; exact i3 p (by omega) a2
      unfold f_X4_noteBeyond_2
      rw [show (24 : Int32) = nI 24 from rfl, if_neg (nI_nlt (by omega) (by omega)), q1, if_neg (nI_nle (by omega) (by omega)), t1, bind_s]
      dsimp only
      rw [nI_l (by omega)]
      have ap := fbl_app (vI By n) (3 + k) i us
      by_cases c1 : vI By n i < 3 + k
      · rw [if_pos ((lg_cmp_lt _ _).mpr ((lN_lt (by omega) (by omega)).mpr c1))]
        refine fin m1 Fr.rf ?_
        rw [old, ap]
        cases fbl (vI By n) (3 + k) us with
        | some t => rfl
        | none => dsimp only; rw [if_neg (by omega)]
      · rw [if_neg (fun z => c1 ((lN_lt (by omega) (by omega)).mp ((lg_cmp_lt _ _).mp z))), aI_n _ 15 (show 3 + k < 25 by omega) (by omega), bind_s, old]
        cases hf : fbl (vI By n) (3 + k) us with
        | some t =>
          rw [hf] at ap old
          have htp : ¬ byV By n (some t) = -1 := by
            show ¬ nI (tp By n t) = -1
            intro z
            exact nI_m1 (by have := hU.2 t (fbl_m hf).1; omega) z
          rw [if_neg htp]
          refine fin m1 Fr.rf ?_
          rw [old, ap]
        | none =>
          rw [hf] at ap old
          rw [if_pos (show byV By n none = -1 from rfl), q1, nI_m1s (by omega), show i + 1 - 1 = i from rfl, aI_n _ 22 (show i < 401 by omega) (by omega), bind_s, p1, bI_n _ 15 _ (show 3 + k < 25 by omega) (by omega), bind_s]
          refine fin _ (Fr.rf.tI _ ⟨rfl, rfl⟩) ?_
          rw [hI_tI, if_pos ⟨rfl, rfl⟩, ap]
          dsimp only
          rw [if_pos (by omega)]
          rfl
    · rintro ⟨z1, m1⟩ ⟨i1, i2, i3, i4⟩
      dsimp only at i1 i2 i3 i4
      subst i1
      show ∃ z, f_X4_noteBeyond_2 e (nI (3 + 22)) m1 = some (Sum.inr z) ∧ _
      unfold f_X4_noteBeyond_2
      rw [show (24 : Int32) = nI 24 from rfl, if_pos (nI_lt (by omega) (by omega))]
      exact ⟨_, rfl, fun p a1 a2 => i2 p a1 (by omega), i4⟩
  obtain ⟨z, e1, q1, q2⟩ := key
  rw [e1, bind_s]
  refine ⟨z, rfl, ⟨q1, fun t ht => ?_⟩, q2⟩
  rw [List.mem_append, List.mem_singleton] at ht
  rcases ht with ht | ht
  · exact hU.2 t ht
  · rw [ht]
    have := te_p (By := By) (n := n) (t := i) (by omega)
    omega
end KA
