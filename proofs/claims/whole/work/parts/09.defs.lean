/-! the pure functions of the methods, the references resolved: printed by program from the bytecode -/
def T0 : List Dsc := [.inl 10, .inr (.byte, 2000), .inl 6, .inr (.int, 6), .inr (.int, 400), .inr (.int, 12), .inr (.int, 4), .inr (.int, 4), .inl 6, .inr (.int, 6), .inr (.int, 400), .inr (.int, 12), .inr (.int, 4), .inr (.int, 4), .inl 3, .inr (.int, 25), .inr (.long, 18), .inr (.int, 18), .inl 7, .inr (.long, 17), .inr (.int, 401), .inr (.long, 401), .inr (.int, 401), .inl 4, .inr (.int, 64), .inr (.int, 6), .inr (.int, 24), .inr (.int, 12), .inl 1, .inr (.int, 12), .inr (.int, 12), .inr (.object "GalleyStroke$Crew", 3), .inl 2, .inr (.long, 100), .inl 5, .inr (.int, 12), .inr (.int, 12), .inr (.int, 12), .inl 0, .inl 8, .inr (.long, 401), .inl 9, .inr (.int, 20), .inr (.int, 20), .inr (.int, 20), .inr (.int, 12), .inr (.int, 12), .inl 1, .inr (.int, 12), .inr (.int, 12), .inl 1, .inr (.int, 12), .inr (.int, 12), .inl 1, .inr (.int, 12), .inr (.int, 12), .inl 11, .inr (.byte, 2000), .inr (.byte, 2000), .inr (.int, 403), .inr (.int, 403), .inr (.int, 403), .inr (.long, 403), .inr (.long, 17), .inr (.long, 20), .inr (.int, 20), .inr (.int, 2), .inr (.int, 2), .inr (.int, 12), .inr (.int, 12), .inr (.int, 108), .inr (.int, 108), .inr (.int, 108), .inr (.int, 108), .inr (.int, 2), .inr (.int, 24), .inr (.int, 24), .inr (.int, 2), .inr (.int, 2), .inr (.int, 2), .inr (.int, 2), .inr (.int, 8), .inr (.int, 8), .inr (.int, 300), .inr (.boolean, 300), .inr (.boolean, 300), .inr (.int, 300), .inr (.int, 300), .inr (.int, 300), .inr (.int, 840), .inr (.int, 840), .inr (.int, 140), .inr (.int, 64), .inr (.int, 12), .inr (.int, 12), .inr (.int, 12), .inr (.int, 1200), .inr (.int, 12), .inr (.int, 12), .inr (.int, 12), .inr (.int, 6), .inr (.int, 400), .inr (.int, 12), .inr (.int, 12), .inr (.int, 4812), .inr (.int, 12), .inr (.int, 12), .inr (.int, 20736), .inr (.int, 20736), .inr (.int, 20), .inr (.int, 20), .inr (.boolean, 20), .inr (.int, 80), .inr (.boolean, 3), .inr (.int, 36), .inr (.int, 36), .inr (.int, 36), .inr (.int, 3), .inr (.int, 3), .inr (.int, 3)]
def R0 (k j : Nat) : Option Nat := match k with
  | 0 => (match j with | 0 => some 1 | 4 => some 14 | 5 => some 23 | 6 => some 28 | 7 => some 31 | 8 => some 32 | 9 => some 34 | 10 => some 38 | 11 => some 39 | 12 => some 41 | _ => none)
  | 2 => (match j with | 2 => some 3 | 3 => some 4 | 6 => some 5 | 12 => some 6 | 13 => some 7 | _ => none)
  | 8 => (match j with | 2 => some 9 | 3 => some 10 | 6 => some 11 | 12 => some 12 | 13 => some 13 | _ => none)
  | 14 => (match j with | 0 => some 18 | 8 => some 15 | 9 => some 16 | 10 => some 17 | _ => none)
  | 18 => (match j with | 0 => some 19 | 1 => some 20 | 2 => some 21 | 3 => some 22 | 4 => some 1 | _ => none)
  | 23 => (match j with | 1 => some 24 | 2 => some 25 | 3 => some 26 | 4 => some 27 | _ => none)
  | 28 => (match j with | 1 => some 29 | 2 => some 30 | _ => none)
  | 31 => (match j with | 0 => some 47 | 1 => some 50 | 2 => some 53 | _ => none)
  | 32 => (match j with | 0 => some 33 | _ => none)
  | 34 => (match j with | 0 => some 23 | 1 => some 35 | 2 => some 36 | 3 => some 37 | _ => none)
  | 38 => (match j with | 0 => some 23 | _ => none)
  | 39 => (match j with | 0 => some 23 | 1 => some 40 | _ => none)
  | 41 => (match j with | 0 => some 23 | 2 => some 42 | 3 => some 43 | 4 => some 44 | 5 => some 45 | 6 => some 46 | _ => none)
  | 47 => (match j with | 1 => some 48 | 2 => some 49 | _ => none)
  | 50 => (match j with | 1 => some 51 | 2 => some 52 | _ => none)
  | 53 => (match j with | 1 => some 54 | 2 => some 55 | _ => none)
  | 56 => (match j with | 1 => some 57 | 3 => some 58 | 5 => some 59 | 6 => some 60 | 7 => some 61 | 8 => some 62 | 9 => some 63 | 21 => some 64 | 22 => some 65 | 23 => some 66 | 24 => some 67 | 25 => some 68 | 26 => some 69 | 28 => some 70 | 29 => some 71 | 30 => some 72 | 31 => some 73 | 32 => some 74 | 33 => some 75 | 34 => some 76 | 35 => some 77 | 36 => some 78 | 37 => some 79 | 38 => some 80 | 39 => some 81 | 40 => some 82 | 42 => some 83 | 43 => some 84 | 44 => some 85 | 45 => some 86 | 46 => some 87 | 47 => some 88 | 49 => some 89 | 50 => some 90 | 52 => some 91 | 53 => some 92 | 55 => some 93 | 56 => some 94 | 57 => some 95 | 62 => some 96 | 63 => some 97 | 64 => some 98 | 68 => some 99 | 69 => some 100 | 70 => some 101 | 72 => some 102 | 73 => some 103 | 74 => some 104 | 75 => some 105 | 76 => some 106 | 77 => some 107 | 78 => some 108 | 80 => some 109 | 81 => some 110 | 82 => some 111 | 83 => some 112 | 85 => some 113 | 86 => some 114 | 87 => some 115 | 88 => some 116 | 89 => some 117 | 90 => some 118 | 91 => some 119 | _ => none)
  | _ => none
def tx (t : Nat) : Prop := t = 2 ∨ t = 8
def cw (w : Nat) : Prop := w = 28 ∨ w = 47 ∨ w = 50 ∨ w = 53
/-- the cells as they are made; the text in place is c, that of the reader e -/
def Geo (T : List Dsc) (R : RM) (c e : Nat) : Prop := (∀ (k : Nat) (d : Dsc), T0[k]? = some d → T[k]? = some d) ∧ (∀ k j r, R0 k j = some r → R k j = some r) ∧ (tx c ∧ tx e) ∧ R 0 2 = some c ∧ R 0 3 = some (10 - c) ∧ R 23 0 = some c ∧ R 14 3 = some e
theorem Geo.t {T : List Dsc} {R : RM} {c e : Nat} (h : Geo T R c e) (k : Nat) {d : Dsc} (hd : T0[k]? = some d) : T[k]? = some d := h.1 k d hd
theorem Geo.r {T : List Dsc} {R : RM} {c e : Nat} (h : Geo T R c e) (k j : Nat) {r : Nat} (hd : R0 k j = some r) : R k j = some r := h.2.1 k j r hd
theorem aLen_of {T T' : List Dsc} {k tc n : Nat} (h : ∀ d, T[k]? = some d → T'[k]? = some d) (ha : aLen T k tc = some n) : aLen T' k tc = some n := by
  obtain ⟨ty, h1, h2⟩ := aLen_T ha
  unfold aLen
  rw [h _ h1]
  exact if_pos h2
theorem Geo.a {T : List Dsc} {R : RM} {c e : Nat} (h : Geo T R c e) (k tc : Nat) {n : Nat} (ha : aLen T0 k tc = some n) : aLen T k tc = some n := aLen_of (fun d hd => h.1 k d hd) ha
theorem Geo.hc {T : List Dsc} {R : RM} {c e : Nat} (h : Geo T R c e) : tx c := h.2.2.1.1
theorem Geo.he {T : List Dsc} {R : RM} {c e : Nat} (h : Geo T R c e) : tx e := h.2.2.1.2
theorem Geo.r0 {T : List Dsc} {R : RM} {c e : Nat} (h : Geo T R c e) : R 0 2 = some c := h.2.2.2.1
theorem Geo.r1 {T : List Dsc} {R : RM} {c e : Nat} (h : Geo T R c e) : R 0 3 = some (10 - c) := h.2.2.2.2.1
theorem Geo.r2 {T : List Dsc} {R : RM} {c e : Nat} (h : Geo T R c e) : R 23 0 = some c := h.2.2.2.2.2.1
theorem Geo.r3 {T : List Dsc} {R : RM} {c e : Nat} (h : Geo T R c e) : R 14 3 = some e := h.2.2.2.2.2.2
theorem Geo.tt {T : List Dsc} {R : RM} {c e t : Nat} (h : Geo T R c e) (ht : tx t) : T[t]? = some (.inl 6) := by rcases ht with rfl | rfl <;> exact h.t _ rfl
theorem Geo.ta {T : List Dsc} {R : RM} {c e t : Nat} (h : Geo T R c e) (ht : tx t) (i n : Nat) (h2 : aLen T0 (2 + i) 0 = some n) (h8 : aLen T0 (8 + i) 0 = some n) : aLen T (t + i) 0 = some n := by rcases ht with rfl | rfl <;> exact h.a _ _ (by assumption)
theorem Geo.tr {T : List Dsc} {R : RM} {c e t : Nat} (h : Geo T R c e) (ht : tx t) (j i : Nat) (h2 : R0 2 j = some (2 + i)) (h8 : R0 8 j = some (8 + i)) : R t j = some (t + i) := by rcases ht with rfl | rfl <;> exact h.r _ _ (by assumption)
theorem Geo.wt {T : List Dsc} {R : RM} {c e w : Nat} (h : Geo T R c e) (hw : cw w) : T[w]? = some (.inl 1) := by rcases hw with rfl | rfl | rfl | rfl <;> exact h.t _ rfl
theorem Geo.wa {T : List Dsc} {R : RM} {c e w : Nat} (h : Geo T R c e) (hw : cw w) (i : Nat) (hi : i = 1 ∨ i = 2) : aLen T (w + i) 0 = some 12 := by rcases hw with rfl | rfl | rfl | rfl <;> rcases hi with rfl | rfl <;> exact h.a _ _ rfl
theorem Geo.wr {T : List Dsc} {R : RM} {c e w : Nat} (h : Geo T R c e) (hw : cw w) (j : Nat) (hi : j = 1 ∨ j = 2) : R w j = some (w + j) := by rcases hw with rfl | rfl | rfl | rfl <;> rcases hi with rfl | rfl <;> exact h.r _ _ rfl
theorem tx10 {c : Nat} (h : tx c) : tx (10 - c) := by rcases h with rfl | rfl <;> first | exact Or.inl rfl | exact Or.inr rfl
theorem cw28 : cw 28 := Or.inl rfl
theorem ixC_cw {i : Int32} {k : Nat} (h : ixC i 3 = some k) : cw (47 + 3 * k) := by
  obtain ⟨h1, rfl⟩ := of_if h
  simp only [ixb, Bool.and_eq_true, Bool.not_eq_true', decide_eq_false_iff_not, decide_eq_true_eq] at h1
  have := h1.2
  unfold cw
  omega
/-- with the two rows of EVERY made -/
def GeoB (T : List Dsc) (R : RM) : Prop := R 38 1 = some 120 ∧ R 38 2 = some 121 ∧ aLen T 120 0 = some 20736 ∧ aLen T 121 0 = some 20736
def f_X0_howMany_4 (c : Nat) (x1 : Int32) (x2 : Int32) (x3 : Int32) (m : M2) : Option ((Int32 × Int32 × M2) ⊕ ((Int32 × M2))) :=
  if x1 ≤ x3 then some (Sum.inr (x2, m)) else if (4 : Int32) ≤ x3 then some (Sum.inr (x2, m)) else (nmI (x2 * (hI m c 0))).bind fun v3 => (nmI (x3 + (1 : Int32))).bind fun v5 => some (Sum.inl (v3, v5, m))
def g_X0_howMany_4 (c : Nat) (x1 : Int32) (s : Int32 × Int32 × M2) : Option ((Int32 × Int32 × M2) ⊕ ((Int32 × M2))) := f_X0_howMany_4 c x1 s.1 s.2.1 s.2.2
def f_X0_howMany_33 (c : Nat) (x2 : Int32) (m : M2) : Option (Int32 × M2) :=
  some (x2, m)
def F_X0_howMany (c : Nat) (x1 : Int32) (m : M2) : Option (Int32 × M2) :=
  (loop (g_X0_howMany_4 c x1) ((1 : Int32), (0 : Int32), m)).bind fun e1 => f_X0_howMany_33 c e1.1 e1.2
def f_X5_heard_9 (c : Nat) (x2 : Int32) (m : M2) : Option (Int32 × M2) :=
  some (x2, m)
def F_X5_heard (c : Nat) (x1 : Int32) (x2 : Int32) (x3 : Int32) (x4 : Int32) (m : M2) : Option (Int32 × M2) :=
  if x4 = 0 then if 0 ≤ x3 then (rmI (x3 + ((hI m c 9) * x1)) (hI m c 0)).bind fun v3 => some (v3, m) else f_X5_heard_9 c x2 m else f_X5_heard_9 c x2 m
def f_X5_gap_52 (c : Nat) (s0 : Int32) (m : M2) : Option (Int32 × M2) :=
  some (s0, m)
def f_X5_gap_26 (c : Nat) (x3 : Int32) (m : M2) : Option (Int32 × M2) :=
  if ((2 : Int32) * x3) ≤ (hI m c 0) then f_X5_gap_52 c x3 m else f_X5_gap_52 c (x3 - (hI m c 0)) m
def F_X5_gap (c : Nat) (x1 : Int32) (x2 : Int32) (m : M2) : Option (Int32 × M2) :=
  (rmI (x1 - x2) (hI m c 0)).bind fun v1 => if 0 ≤ v1 then f_X5_gap_26 c v1 m else (nmI (v1 + (hI m c 0))).bind fun v4 => f_X5_gap_26 c v4 m
def f_X5_joined_71 (c : Nat) (s0 : Int32) (m : M2) : Option (Int32 × M2) :=
  some (s0, m)
def f_X5_joined_82 (c : Nat) (s0 : Int32) (m : M2) : Option (Int32 × M2) :=
  some (s0, m)
def f_X5_joined_93 (c : Nat) (s0 : Int32) (m : M2) : Option (Int32 × M2) :=
  some (s0, m)
def f_X5_joined_104 (c : Nat) (s0 : Int32) (m : M2) : Option (Int32 × M2) :=
  some (s0, m)
def f_X5_joined_115 (c : Nat) (s0 : Int32) (m : M2) : Option (Int32 × M2) :=
  some (s0, m)
def F_X5_joined (c : Nat) (x1 : Int32) (x2 : Int32) (x3 : Int32) (m : M2) : Option (Int32 × M2) :=
  if x1 = (7 : Int32) then some (x2 + x3, m) else if x1 = (8 : Int32) then some (x2 - x3, m) else if x1 = (9 : Int32) then some (x2 * x3, m) else if x1 = (10 : Int32) then if x3 = 0 then f_X5_joined_71 c (0 : Int32) m else (dvI x2 x3).bind fun v6 => f_X5_joined_71 c v6 m else if x1 = (11 : Int32) then if x2 = x3 then f_X5_joined_82 c (1 : Int32) m else f_X5_joined_82 c (0 : Int32) m else if x1 = (12 : Int32) then if x2 = x3 then f_X5_joined_93 c (0 : Int32) m else f_X5_joined_93 c (1 : Int32) m else if x1 = (13 : Int32) then if x3 ≤ x2 then f_X5_joined_104 c (0 : Int32) m else f_X5_joined_104 c (1 : Int32) m else if x1 = (14 : Int32) then if x3 < x2 then f_X5_joined_115 c (0 : Int32) m else f_X5_joined_115 c (1 : Int32) m else (F_X5_gap c x2 x3 m).bind fun c16 => some (c16.1, c16.2)
def f_X5_worked_340 (c : Nat) (x2 : Int32) (x3 : Int32) (x4 : Int32) (x5 : Int32) (m : M2) : Option ((Int32 × Int32 × Int32 × M2) ⊕ ((Int32 × M2) ⊕ (M2) ⊕ (M2))) :=
  (nmI (x5 + (1 : Int32))).bind fun v1 => some (Sum.inl (x3, x4, v1, m))
def f_X5_worked_192 (c : Nat) (x2 : Int32) (x4 : Int32) (x5 : Int32) (s0 : Int32) (m : M2) : Option ((Int32 × Int32 × Int32 × M2) ⊕ ((Int32 × M2) ⊕ (M2) ⊕ (M2))) :=
  (nmI (x4 + (-1 : Int32))).bind fun v1 => f_X5_worked_340 c x2 s0 v1 x5 m
def f_X5_worked_277 (c : Nat) (x2 : Int32) (x3 : Int32) (x5 : Int32) (s0 : Int32) (s1 : Int32) (m : M2) : Option ((Int32 × Int32 × Int32 × M2) ⊕ ((Int32 × M2) ⊕ (M2) ⊕ (M2))) :=
  (nmI (s0 - s1)).bind fun v1 => f_X5_worked_340 c x2 x3 v1 x5 m
def f_X5_worked_264 (c : Nat) (x2 : Int32) (x4 : Int32) (x5 : Int32) (x9 : Int32) (s0 : Int32) (m : M2) : Option ((Int32 × Int32 × Int32 × M2) ⊕ ((Int32 × M2) ⊕ (M2) ⊕ (M2))) :=
  if x9 = 0 then f_X5_worked_277 c x2 s0 x5 x4 (1 : Int32) m else f_X5_worked_277 c x2 s0 x5 x4 (0 : Int32) m
def f_X5_worked_251 (c : Nat) (x2 : Int32) (x3 : Int32) (x4 : Int32) (x5 : Int32) (x8 : Int32) (s0 : Int32) (m : M2) : Option ((Int32 × Int32 × Int32 × M2) ⊕ ((Int32 × M2) ⊕ (M2) ⊕ (M2))) :=
  if s0 = 0 then f_X5_worked_264 c x2 x4 x5 s0 x3 m else f_X5_worked_264 c x2 x4 x5 s0 x8 m
def f_X5_worked_243 (c : Nat) (x2 : Int32) (x3 : Int32) (x4 : Int32) (x5 : Int32) (x8 : Int32) (s0 : Int32) (s1 : Int32) (m : M2) : Option ((Int32 × Int32 × Int32 × M2) ⊕ ((Int32 × M2) ⊕ (M2) ⊕ (M2))) :=
  if s0 = s1 then f_X5_worked_251 c x2 x3 x4 x5 x8 (1 : Int32) m else f_X5_worked_251 c x2 x3 x4 x5 x8 (0 : Int32) m
def f_X5_worked_231 (c : Nat) (x2 : Int32) (x3 : Int32) (x4 : Int32) (x5 : Int32) (x7 : Int32) (x8 : Int32) (s0 : Int32) (m : M2) : Option ((Int32 × Int32 × Int32 × M2) ⊕ ((Int32 × M2) ⊕ (M2) ⊕ (M2))) :=
  if x7 = (25 : Int32) then f_X5_worked_243 c x2 x3 x4 x5 x8 s0 (1 : Int32) m else f_X5_worked_243 c x2 x3 x4 x5 x8 s0 (0 : Int32) m
def f_X5_worked_213 (c : Nat) (x2 : Int32) (x3 : Int32) (x4 : Int32) (x5 : Int32) (x7 : Int32) (x8 : Int32) (m : M2) : Option ((Int32 × Int32 × Int32 × M2) ⊕ ((Int32 × M2) ⊕ (M2) ⊕ (M2))) :=
  (aI m 24 64 (x4 &&& (63 : Int32))).bind fun v1 => if v1 = 0 then f_X5_worked_231 c x2 x3 x4 x5 x7 x8 (1 : Int32) m else f_X5_worked_231 c x2 x3 x4 x5 x7 x8 (0 : Int32) m
def f_X5_worked_312 (c : Nat) (x2 : Int32) (x3 : Int32) (x4 : Int32) (x5 : Int32) (x7 : Int32) (x9 : Int32) (m : M2) : Option ((Int32 × Int32 × Int32 × M2) ⊕ ((Int32 × M2) ⊕ (M2) ⊕ (M2))) :=
  (aI m 24 64 (x4 &&& (63 : Int32))).bind fun v1 => (F_X5_joined c x7 v1 x9 m).bind fun c3 => (bI c3.2 24 64 (x4 &&& (63 : Int32)) c3.1).bind fun m5 => f_X5_worked_340 c x2 x3 x4 x5 m5
def f_X5_worked_8 (c : Nat) (x2 : Int32) (x3 : Int32) (x4 : Int32) (x5 : Int32) (m : M2) : Option ((Int32 × Int32 × Int32 × M2) ⊕ ((Int32 × M2) ⊕ (M2) ⊕ (M2))) :=
  if (hI m c 4) ≤ x5 then some (Sum.inr (Sum.inr (Sum.inr m))) else if (hI m c 4) ≤ x3 then some (Sum.inr (Sum.inr (Sum.inr m))) else (aI m (c + 2) 400 x3).bind fun v3 => (nmI (v3 &&& (63 : Int32))).bind fun v5 => (nmI (v3 >>> ((6 : Int32) &&& 31))).bind fun v7 => (nmI (x3 + (1 : Int32))).bind fun v9 => if v5 = (3 : Int32) then (nmI (x4 + (1 : Int32))).bind fun v37 => (bI m 24 64 (v37 &&& (63 : Int32)) v7).bind fun m39 => f_X5_worked_340 c x2 v9 v37 x5 m39 else if v5 < (28 : Int32) then if v5 = (23 : Int32) then some (Sum.inr (Sum.inl (x4, m))) else if v5 = (26 : Int32) then (aI m 24 64 (x4 &&& (63 : Int32))).bind fun v27 => (bI m 24 64 (x4 &&& (63 : Int32)) ((1 : Int32) - v27)).bind fun m29 => f_X5_worked_340 c x2 v9 x4 x5 m29 else if v5 = (21 : Int32) then (aI m 24 64 (x4 &&& (63 : Int32))).bind fun v24 => if v24 = 0 then f_X5_worked_192 c x2 x4 x5 v7 m else f_X5_worked_192 c x2 x4 x5 v9 m else if v5 = (25 : Int32) then f_X5_worked_213 c x2 v9 x4 x5 v5 v7 m else if v5 = (24 : Int32) then f_X5_worked_213 c x2 v9 x4 x5 v5 v7 m else (aI m 24 64 (x4 &&& (63 : Int32))).bind fun v18 => (nmI (x4 + (-1 : Int32))).bind fun v20 => if v5 = (10 : Int32) then if v18 = 0 then some (Sum.inr (Sum.inr (Sum.inl m))) else f_X5_worked_312 c x2 v9 v20 x5 v5 v18 m else f_X5_worked_312 c x2 v9 v20 x5 v5 v18 m else (nmI (x4 + (1 : Int32))).bind fun v31 => (aI m 25 6 (v5 - (28 : Int32))).bind fun v33 => (bI m 24 64 (v31 &&& (63 : Int32)) v33).bind fun m35 => f_X5_worked_340 c x2 v9 v31 x5 m35
def g_X5_worked_8 (c : Nat) (x2 : Int32) (s : Int32 × Int32 × Int32 × M2) : Option ((Int32 × Int32 × Int32 × M2) ⊕ ((Int32 × M2) ⊕ (M2) ⊕ (M2))) := f_X5_worked_8 c x2 s.1 s.2.1 s.2.2.1 s.2.2.2
def f_X5_worked_346 (c : Nat) (x2 : Int32) (m : M2) : Option (Int32 × M2) :=
  some (x2, m)
def F_X5_worked (c : Nat) (x1 : Int32) (x2 : Int32) (m : M2) : Option (Int32 × M2) :=
  (loop (g_X5_worked_8 c x2) (x1, (0 : Int32), (0 : Int32), m)).bind fun e1 => (Sum.elim (fun e1_0 => (aI e1_0.2 24 64 (e1_0.1 &&& (63 : Int32))).bind fun v3 => some (v3, e1_0.2)) (Sum.elim (fun e1_1 => some (x2, e1_1)) (fun e1_2 => f_X5_worked_346 c x2 e1_2))) e1
def f_X5_rest_27 (c : Nat) (s0 : Int32) (m : M2) : Option (Int32 × M2) :=
  some (s0, m)
def F_X5_rest (c : Nat) (x1 : Int32) (m : M2) : Option (Int32 × M2) :=
  (rmI x1 (hI m c 0)).bind fun v1 => if 0 ≤ v1 then f_X5_rest_27 c v1 m else f_X5_rest_27 c (v1 + (hI m c 0)) m
def f_X5_turned_15 (c : Nat) (x3 : Int32) (m : M2) : Option (Int32 × M2) :=
  some (x3, m)
def f_X5_turned_89 (c : Nat) (x1 : Int32) (x3 : Int32) (s1 : Int32) (s2 : Int32) (m : M2) : Option (Int32 × M2) :=
  (bI m 25 6 s1 s2).bind fun m1 => (aI m1 (c + 1) 6 x1).bind fun v3 => (F_X5_worked c v3 x3 m1).bind fun c5 => (F_X5_rest c c5.1 c5.2).bind fun c7 => some (c7.1, c7.2)
def F_X5_turned (c : Nat) (x1 : Int32) (x2 : Int32) (x3 : Int32) (x4 : Int32) (x5 : Int32) (x6 : Int32) (x7 : Int32) (m : M2) : Option (Int32 × M2) :=
  if x1 < 0 then f_X5_turned_15 c x3 m else if x1 < (hI m c 1) then (bI m 25 6 (0 : Int32) x3).bind fun m3 => (bI m3 25 6 (1 : Int32) x4).bind fun m5 => (bI m5 25 6 (2 : Int32) x5).bind fun m7 => (F_X5_heard c x2 x3 x6 x7 m7).bind fun c9 => (bI c9.2 25 6 (3 : Int32) c9.1).bind fun m11 => (bI m11 25 6 (4 : Int32) x2).bind fun m13 => if 0 ≤ (hI m13 c 10) then f_X5_turned_89 c x1 x3 (5 : Int32) (hI m13 c 10) m13 else f_X5_turned_89 c x1 x3 (5 : Int32) x3 m13 else f_X5_turned_15 c x3 m
def f_X0_addBench_85 (c : Nat) (x1 : Int32) (x2 : Int32) (x3 : Int32) (x4 : Int32) (x5 : Int32) (x6 : Int32) (x7 : Int32) (x8 : Int32) (s0 : Int32) (m : M2) : Option ((Int32 × M2) ⊕ ((M2))) :=
  (F_X5_turned c x1 x2 x7 x8 s0 x3 (0 : Int32) m).bind fun c1 => (bI c1.2 121 20736 x6 c1.1).bind fun m3 => (nmI (x6 + (1 : Int32))).bind fun v5 => some (Sum.inl (v5, m3))
def f_X0_addBench_65 (c : Nat) (x1 : Int32) (x2 : Int32) (x3 : Int32) (x4 : Int32) (x5 : Int32) (x6 : Int32) (x7 : Int32) (s0 : Int32) (m : M2) : Option ((Int32 × M2) ⊕ ((M2))) :=
  if (2 : Int32) ≤ x2 then (dvI x6 x4).bind fun v2 => (dvI v2 x4).bind fun v4 => f_X0_addBench_85 c x1 x2 x3 x4 x5 x6 x7 s0 v4 m else f_X0_addBench_85 c x1 x2 x3 x4 x5 x6 x7 s0 s0 m
def f_X0_addBench_34 (c : Nat) (x1 : Int32) (x2 : Int32) (x3 : Int32) (x4 : Int32) (x5 : Int32) (x6 : Int32) (m : M2) : Option ((Int32 × M2) ⊕ ((M2))) :=
  if x5 ≤ x6 then some (Sum.inr m) else (rmI x6 x4).bind fun v2 => if x2 = 0 then f_X0_addBench_65 c x1 x2 x3 x4 x5 x6 v2 v2 m else (dvI x6 x4).bind fun v5 => (rmI v5 x4).bind fun v7 => f_X0_addBench_65 c x1 x2 x3 x4 x5 x6 v2 v7 m
def g_X0_addBench_34 (c : Nat) (x1 : Int32) (x2 : Int32) (x3 : Int32) (x4 : Int32) (x5 : Int32) (s : Int32 × M2) : Option ((Int32 × M2) ⊕ ((M2))) := f_X0_addBench_34 c x1 x2 x3 x4 x5 s.1 s.2
def f_X0_addBench_134 (c : Nat) (x4 : Int32) (x5 : Int32) (x6 : Int32) (m : M2) : Option ((Int32 × M2) ⊕ ((M2))) :=
  if x6 < 0 then some (Sum.inr m) else (dvI x6 x4).bind fun v2 => (aI m 120 20736 v2).bind fun v4 => (rmI x6 x5).bind fun v6 => (aI m 121 20736 v6).bind fun v8 => (bI m 120 20736 x6 ((v4 * x4) + v8)).bind fun m10 => (nmI (x6 + (-1 : Int32))).bind fun v12 => some (Sum.inl (v12, m10))
def g_X0_addBench_134 (c : Nat) (x4 : Int32) (x5 : Int32) (s : Int32 × M2) : Option ((Int32 × M2) ⊕ ((M2))) := f_X0_addBench_134 c x4 x5 s.1 s.2
def F_X0_addBench (c : Nat) (x1 : Int32) (x2 : Int32) (x3 : Int32) (m : M2) : Option M2 :=
  (nmI (hI m c 0)).bind fun v1 => (F_X0_howMany c (mnI (x2 + (1 : Int32)) (3 : Int32)) m).bind fun c3 => (nmI (mnI c3.1 (20736 : Int32))).bind fun v5 => (loop (g_X0_addBench_34 c x1 x2 x3 v1 v5) ((0 : Int32), c3.2)).bind fun e7 => (F_X0_howMany c (x2 + (1 : Int32)) e7).bind fun c9 => (nmI ((mnI c9.1 (20736 : Int32)) - (1 : Int32))).bind fun v11 => (loop (g_X0_addBench_134 c v1 v5) (v11, c9.2)).bind fun e13 => some e13
def f_X0_follow_4 (c : Nat) (x1 : Int32) (x2 : Int32) (x3 : Int32) (m : M2) : Option ((Int32 × Int32 × M2) ⊕ ((Int32 × Int32 × M2))) :=
  if (20736 : Int32) ≤ x3 then some (Sum.inr (x2, x3, m)) else (aI m 121 20736 x2).bind fun v2 => if v2 = (-1 : Int32) then (aI m 120 20736 x2).bind fun v5 => if v5 = x2 then some (Sum.inr (x2, x3, m)) else (bI m 121 20736 x2 (-2 : Int32)).bind fun m8 => (aI m8 120 20736 x2).bind fun v10 => (nmI (x3 + (1 : Int32))).bind fun v12 => some (Sum.inl (v10, v12, m8)) else some (Sum.inr (x2, x3, m))
def g_X0_follow_4 (c : Nat) (x1 : Int32) (s : Int32 × Int32 × M2) : Option ((Int32 × Int32 × M2) ⊕ ((Int32 × Int32 × M2))) := f_X0_follow_4 c x1 s.1 s.2.1 s.2.2
def f_X0_follow_110 (c : Nat) (x2 : Int32) (x3 : Int32) (x4 : Int32) (x5 : Int32) (s1 : Int32) (s2 : Int32) (m : M2) : Option ((Int32 × Int32 × M2) ⊕ ((M2))) :=
  (bI m 121 20736 s1 s2).bind fun m1 => (aI m1 120 20736 x2).bind fun v3 => (nmI (x5 + (1 : Int32))).bind fun v5 => some (Sum.inl (v3, v5, m1))
def f_X0_follow_82 (c : Nat) (x2 : Int32) (x3 : Int32) (x4 : Int32) (x5 : Int32) (m : M2) : Option ((Int32 × Int32 × M2) ⊕ ((M2))) :=
  if x3 ≤ x5 then some (Sum.inr m) else if x4 < 0 then f_X0_follow_110 c x2 x3 x4 x5 x2 (-3 : Int32) m else f_X0_follow_110 c x2 x3 x4 x5 x2 ((x4 + x3) - x5) m
def g_X0_follow_82 (c : Nat) (x3 : Int32) (x4 : Int32) (s : Int32 × Int32 × M2) : Option ((Int32 × Int32 × M2) ⊕ ((M2))) := f_X0_follow_82 c s.1 x3 x4 s.2.1 s.2.2
def f_X0_follow_69 (c : Nat) (x1 : Int32) (x2 : Int32) (x3 : Int32) (m : M2) : Option M2 :=
  (aI m 121 20736 x2).bind fun v1 => (loop (g_X0_follow_82 c x3 v1) (x1, (0 : Int32), m)).bind fun e3 => some e3
def f_X0_follow_52 (c : Nat) (x1 : Int32) (x2 : Int32) (x3 : Int32) (m : M2) : Option M2 :=
  (aI m 121 20736 x2).bind fun v1 => if v1 = (-1 : Int32) then (bI m 121 20736 x2 (0 : Int32)).bind fun m4 => f_X0_follow_69 c x1 x2 x3 m4 else f_X0_follow_69 c x1 x2 x3 m
def F_X0_follow (c : Nat) (x1 : Int32) (m : M2) : Option M2 :=
  (loop (g_X0_follow_4 c x1) (x1, (0 : Int32), m)).bind fun e1 => f_X0_follow_52 c x1 e1.1 e1.2.1 e1.2.2
def f_X1_begin_23 (x0 : Nat) (x1 : Nat) (x2 : Int32) (m : M2) : Option ((Int32 × M2) ⊕ ((M2))) :=
  if (hI m x1 5) ≤ x2 then some (Sum.inr m) else (bI m (x0 + 1) 12 x2 x2).bind fun m2 => (aI m2 (x1 + 3) 12 x2).bind fun v4 => (bI m2 (x0 + 2) 12 x2 v4).bind fun m6 => (nmI (x2 + (1 : Int32))).bind fun v8 => some (Sum.inl (v8, m6))
def g_X1_begin_23 (x0 : Nat) (x1 : Nat) (s : Int32 × M2) : Option ((Int32 × M2) ⊕ ((M2))) := f_X1_begin_23 x0 x1 s.1 s.2
def F_X1_begin (x0 : Nat) (x1 : Nat) (m : M2) : Option M2 :=
  (qJ m x0 0 (hJ m x1 7)).bind fun m1 => (qI m1 x0 3 (hI m1 x1 8)).bind fun m3 => (qI m3 x0 4 (0 : Int32)).bind fun m5 => (loop (g_X1_begin_23 x0 x1) ((0 : Int32), m5)).bind fun e7 => some e7
def F_X1_take (x0 : Nat) (x1 : Nat) (m : M2) : Option M2 :=
  (qJ m x0 0 (hJ m x1 0)).bind fun m1 => (qI m1 x0 3 (hI m1 x1 3)).bind fun m3 => (qI m3 x0 4 (hI m3 x1 4)).bind fun m5 => (kC m5 (x1 + 1) 12 (x0 + 1) 12 (0 : Int32) (0 : Int32) (12 : Int32)).bind fun m7 => (kC m7 (x1 + 2) 12 (x0 + 2) 12 (0 : Int32) (0 : Int32) (12 : Int32)).bind fun m9 => some m9
def F_X11_timeAt (x0 : Int64) (x2 : Int32) (m : M2) : Option (Int32 × M2) :=
  some ((x0.toUInt64 >>> (((5 : Int32) * x2).toInt64.toUInt64 &&& Int64.toUInt64 63)).toInt64.toInt32 &&& (31 : Int32), m)
def F_X11_withTime (x0 : Int64) (x2 : Int32) (x3 : Int32) (m : M2) : Option (Int64 × M2) :=
  (nmI ((5 : Int32) * x2)).bind fun v1 => some ((x0 &&& (((31 : Int64) <<< (v1.toInt64 &&& 63)) ^^^ (-1 : Int64))) ||| ((x3 &&& (31 : Int32)).toInt64 <<< (v1.toInt64 &&& 63)), m)
def F_X1_exchange (x0 : Nat) (x1 : Int32) (x2 : Int32) (m : M2) : Option M2 :=
  (aI m (x0 + 1) 12 x1).bind fun v1 => (aI m (x0 + 1) 12 x2).bind fun v3 => (bI m (x0 + 1) 12 x1 v3).bind fun m5 => (bI m5 (x0 + 1) 12 x2 v1).bind fun m7 => (aI m7 (x0 + 2) 12 x1).bind fun v9 => (aI m7 (x0 + 2) 12 x2).bind fun v11 => (bI m7 (x0 + 2) 12 x1 v11).bind fun m13 => (bI m13 (x0 + 2) 12 x2 v9).bind fun m15 => (F_X11_timeAt (hJ m15 x0 0) x1 m15).bind fun c17 => (F_X11_timeAt (hJ c17.2 x0 0) x2 c17.2).bind fun c19 => (F_X11_withTime (hJ c17.2 x0 0) x1 c19.1 c19.2).bind fun c21 => (qJ c21.2 x0 0 c21.1).bind fun m23 => (F_X11_withTime (hJ m23 x0 0) x2 c17.1 m23).bind fun c25 => (qJ c25.2 x0 0 c25.1).bind fun m27 => some m27
def F_X3_clear (m : M2) : Option M2 :=
  (qI m 32 1 (0 : Int32)).bind fun m1 => (qI m1 32 2 (0 : Int32)).bind fun m3 => some m3
def F_X3_keep (x1 : Int64) (m : M2) : Option M2 :=
  (bJ m 33 100 (hI m 32 2) x1).bind fun m1 => (rmI ((hI m1 32 2) + (1 : Int32)) (100 : Int32)).bind fun v3 => (qI m1 32 2 v3).bind fun m5 => (qI m5 32 1 (mnI ((hI m5 32 1) + (1 : Int32)) (100 : Int32))).bind fun m7 => some m7
def F_X3_takeLast (m : M2) : Option (Int64 × M2) :=
  (rmI (((hI m 32 2) + (100 : Int32)) - (1 : Int32)) (100 : Int32)).bind fun v1 => (qI m 32 2 v1).bind fun m3 => (qI m3 32 1 (mxI ((hI m3 32 1) - (1 : Int32)) (0 : Int32))).bind fun m5 => (aJ m5 33 100 (hI m5 32 2)).bind fun v7 => some (v7, m5)
def F_X7_clear (x0 : Nat) (m : M2) : Option M2 :=
  (qI m x0 0 (24 : Int32)).bind fun m1 => (qI m1 x0 1 (0 : Int32)).bind fun m3 => (qI m3 x0 4 (0 : Int32)).bind fun m5 => (qI m5 x0 5 (0 : Int32)).bind fun m7 => (qJ m7 x0 7 (0 : Int64)).bind fun m9 => (qI m9 x0 8 (-1 : Int32)).bind fun m11 => (qI m11 x0 9 (0 : Int32)).bind fun m13 => (qI m13 x0 10 (-1 : Int32)).bind fun m15 => (qI m15 x0 11 (0 : Int32)).bind fun m17 => some m17
def f_X8_byteAt_22 (s0 : Int32) (m : M2) : Option (Int32 × M2) :=
  some (s0, m)
def F_X8_byteAt (x1 : Int32) (m : M2) : Option (Int32 × M2) :=
  if (hI m 18 5) ≤ x1 then f_X8_byteAt_22 (-1 : Int32) m else (aI m 1 2000 x1).bind fun v2 => f_X8_byteAt_22 (v2 &&& (255 : Int32)) m
def f_X8_isBlank_29 (s0 : Int32) (m : M2) : Option (Int32 × M2) :=
  (zb s0).bind fun v1 => some (v1, m)
def f_X8_isBlank_24 (m : M2) : Option (Int32 × M2) :=
  f_X8_isBlank_29 (1 : Int32) m
def F_X8_isBlank (x0 : Int32) (m : M2) : Option (Int32 × M2) :=
  if x0 = (9 : Int32) then f_X8_isBlank_24 m else if x0 = (10 : Int32) then f_X8_isBlank_24 m else if x0 = (13 : Int32) then f_X8_isBlank_24 m else if x0 = (32 : Int32) then f_X8_isBlank_24 m else f_X8_isBlank_29 (0 : Int32) m
def f_X8_skipBlanks_0 (m : M2) : Option ((M2) ⊕ ((M2))) :=
  if (hI m 18 5) ≤ (hI m 18 6) then some (Sum.inr m) else (F_X8_byteAt (hI m 18 6) m).bind fun c2 => (F_X8_isBlank c2.1 c2.2).bind fun c4 => if c4.1 = 0 then some (Sum.inr c4.2) else (qI c4.2 18 6 ((hI c4.2 18 6) + (1 : Int32))).bind fun m7 => some (Sum.inl m7)
def g_X8_skipBlanks_0 (s : M2) : Option ((M2) ⊕ ((M2))) := f_X8_skipBlanks_0 s
def f_X8_skipBlanks_38 (m : M2) : Option M2 :=
  some m
def F_X8_skipBlanks (m : M2) : Option M2 :=
  (loop (g_X8_skipBlanks_0) m).bind fun e1 => f_X8_skipBlanks_38 e1
def f_X8_isLetter_17 (s0 : Int32) (m : M2) : Option (Int32 × M2) :=
  (zb s0).bind fun v1 => some (v1, m)
def f_X8_isLetter_16 (m : M2) : Option (Int32 × M2) :=
  f_X8_isLetter_17 (0 : Int32) m
def F_X8_isLetter (x0 : Int32) (m : M2) : Option (Int32 × M2) :=
  if x0 < (97 : Int32) then f_X8_isLetter_16 m else if (122 : Int32) < x0 then f_X8_isLetter_16 m else f_X8_isLetter_17 (1 : Int32) m
def F_X8_withLetter (x0 : Int64) (x2 : Int32) (m : M2) : Option (Int64 × M2) :=
  some ((x0 <<< ((5 : Int32).toInt64 &&& 63)) ||| ((x2 - (97 : Int32)) + (1 : Int32)).toInt64, m)
def f_X8_nextWord_5 (x1 : Int32) (m : M2) : Option ((M2) ⊕ ((M2))) :=
  if (hI m 18 5) ≤ (hI m 18 6) then some (Sum.inr m) else (F_X8_byteAt (hI m 18 6) m).bind fun c2 => (F_X8_isLetter c2.1 c2.2).bind fun c4 => if c4.1 = 0 then some (Sum.inr c4.2) else (F_X8_byteAt (hI c4.2 18 6) c4.2).bind fun c7 => (F_X8_withLetter (hJ c4.2 18 7) c7.1 c7.2).bind fun c9 => (qJ c9.2 18 7 c9.1).bind fun m11 => (qI m11 18 6 ((hI m11 18 6) + (1 : Int32))).bind fun m13 => some (Sum.inl m13)
def g_X8_nextWord_5 (x1 : Int32) (s : M2) : Option ((M2) ⊕ ((M2))) := f_X8_nextWord_5 x1 s
def f_X8_nextWord_77 (x2 : Int32) (m : M2) : Option ((Int32 × M2) ⊕ ((Int32 × M2) ⊕ (M2))) :=
  if (17 : Int32) ≤ x2 then some (Sum.inr (Sum.inr m)) else (aJ m 19 17 x2).bind fun v2 => if (lg_cmp v2 (hJ m 18 7)) = 0 then some (Sum.inr (Sum.inl (x2, m))) else (nmI (x2 + (1 : Int32))).bind fun v5 => some (Sum.inl (v5, m))
def g_X8_nextWord_77 (s : Int32 × M2) : Option ((Int32 × M2) ⊕ ((Int32 × M2) ⊕ (M2))) := f_X8_nextWord_77 s.1 s.2
def f_X8_nextWord_62 (x1 : Int32) (m : M2) : Option (Int32 × M2) :=
  if ((hI m 18 6) - x1) ≤ (8 : Int32) then (loop (g_X8_nextWord_77) ((0 : Int32), m)).bind fun e2 => (Sum.elim (fun e2_0 => some ((17 : Int32) + e2_0.1, e2_0.2)) (fun e2_1 => some ((2 : Int32), e2_1))) e2 else some ((1 : Int32), m)
def F_X8_nextWord (m : M2) : Option (Int32 × M2) :=
  (nmI (hI m 18 6)).bind fun v1 => (loop (g_X8_nextWord_5 v1) m).bind fun e3 => f_X8_nextWord_62 v1 e3
def f_X8_isDigit_17 (s0 : Int32) (m : M2) : Option (Int32 × M2) :=
  (zb s0).bind fun v1 => some (v1, m)
def f_X8_isDigit_16 (m : M2) : Option (Int32 × M2) :=
  f_X8_isDigit_17 (0 : Int32) m
def F_X8_isDigit (x0 : Int32) (m : M2) : Option (Int32 × M2) :=
  if x0 < (48 : Int32) then f_X8_isDigit_16 m else if (57 : Int32) < x0 then f_X8_isDigit_16 m else f_X8_isDigit_17 (1 : Int32) m
def f_X8_nextInt_5 (x1 : Int32) (m : M2) : Option ((M2) ⊕ ((M2))) :=
  if (hI m 18 5) ≤ (hI m 18 6) then some (Sum.inr m) else (F_X8_byteAt (hI m 18 6) m).bind fun c2 => (F_X8_isDigit c2.1 c2.2).bind fun c4 => if c4.1 = 0 then some (Sum.inr c4.2) else (F_X8_byteAt (hI c4.2 18 6) c4.2).bind fun c7 => (qJ c7.2 18 7 (((hJ c4.2 18 7) * (10 : Int64)) + (c7.1 - (48 : Int32)).toInt64)).bind fun m9 => (qI m9 18 6 ((hI m9 18 6) + (1 : Int32))).bind fun m11 => some (Sum.inl m11)
def g_X8_nextInt_5 (x1 : Int32) (s : M2) : Option ((M2) ⊕ ((M2))) := f_X8_nextInt_5 x1 s
def f_X8_nextInt_83 (s0 : Int32) (m : M2) : Option (Int32 × M2) :=
  some (s0, m)
def f_X8_nextInt_68 (x1 : Int32) (m : M2) : Option (Int32 × M2) :=
  if ((hI m 18 6) - x1) ≤ (4 : Int32) then f_X8_nextInt_83 (3 : Int32) m else f_X8_nextInt_83 (1 : Int32) m
def F_X8_nextInt (m : M2) : Option (Int32 × M2) :=
  (nmI (hI m 18 6)).bind fun v1 => (loop (g_X8_nextInt_5 v1) m).bind fun e3 => f_X8_nextInt_68 v1 e3
def f_X8_nextSign_73 (s0 : Int32) (m : M2) : Option (Int32 × M2) :=
  some (s0, m)
def f_X8_nextSign_41 (x1 : Int32) (m : M2) : Option (Int32 × M2) :=
  (qI m 18 6 ((hI m 18 6) + (1 : Int32))).bind fun m1 => if x1 = (61 : Int32) then some ((11 : Int32), m1) else if x1 = (33 : Int32) then f_X8_nextSign_73 (12 : Int32) m1 else f_X8_nextSign_73 (14 : Int32) m1
def f_X8_nextSign_74 (x1 : Int32) (m : M2) : Option (Int32 × M2) :=
  if x1 = (40 : Int32) then some ((15 : Int32), m) else if x1 = (41 : Int32) then some ((16 : Int32), m) else if x1 = (42 : Int32) then some ((9 : Int32), m) else if x1 = (43 : Int32) then some ((7 : Int32), m) else if x1 = (44 : Int32) then some ((6 : Int32), m) else if x1 = (45 : Int32) then some ((8 : Int32), m) else if x1 = (46 : Int32) then some ((1 : Int32), m) else if x1 = (47 : Int32) then some ((10 : Int32), m) else if x1 = (48 : Int32) then some ((1 : Int32), m) else if x1 = (49 : Int32) then some ((1 : Int32), m) else if x1 = (50 : Int32) then some ((1 : Int32), m) else if x1 = (51 : Int32) then some ((1 : Int32), m) else if x1 = (52 : Int32) then some ((1 : Int32), m) else if x1 = (53 : Int32) then some ((1 : Int32), m) else if x1 = (54 : Int32) then some ((1 : Int32), m) else if x1 = (55 : Int32) then some ((1 : Int32), m) else if x1 = (56 : Int32) then some ((1 : Int32), m) else if x1 = (57 : Int32) then some ((1 : Int32), m) else if x1 = (58 : Int32) then some ((1 : Int32), m) else if x1 = (59 : Int32) then some ((4 : Int32), m) else if x1 = (60 : Int32) then some ((13 : Int32), m) else if x1 = (61 : Int32) then some ((5 : Int32), m) else some ((1 : Int32), m)
def F_X8_nextSign (x1 : Int32) (m : M2) : Option (Int32 × M2) :=
  (qI m 18 6 ((hI m 18 6) + (1 : Int32))).bind fun m1 => (F_X8_byteAt (hI m1 18 6) m1).bind fun c3 => if c3.1 = (61 : Int32) then if x1 = (61 : Int32) then f_X8_nextSign_41 x1 c3.2 else if x1 = (33 : Int32) then f_X8_nextSign_41 x1 c3.2 else if x1 = (60 : Int32) then f_X8_nextSign_41 x1 c3.2 else f_X8_nextSign_74 x1 c3.2 else f_X8_nextSign_74 x1 c3.2
def f_X8_nextKind_46 (s0 : Int32) (m : M2) : Option (Int32 × M2) :=
  some (s0, m)
def F_X8_nextKind (m : M2) : Option (Int32 × M2) :=
  (F_X8_byteAt (hI m 18 6) m).bind fun c1 => if 0 ≤ c1.1 then (F_X8_isLetter c1.1 c1.2).bind fun c4 => if c4.1 = 0 then (F_X8_isDigit c1.1 c4.2).bind fun c7 => if c7.1 = 0 then (F_X8_nextSign c1.1 c7.2).bind fun c10 => f_X8_nextKind_46 c10.1 c10.2 else (F_X8_nextInt c7.2).bind fun c12 => f_X8_nextKind_46 c12.1 c12.2 else (F_X8_nextWord c4.2).bind fun c14 => some (c14.1, c14.2) else some ((0 : Int32), c1.2)
def f_X8_cut_20 (x2 : Int32) (m : M2) : Option ((Int32 × M2) ⊕ ((M2) ⊕ (M2))) :=
  if (400 : Int32) < x2 then some (Sum.inr (Sum.inr m)) else (F_X8_skipBlanks m).bind fun c2 => (bI c2 22 401 x2 (hI c2 18 6)).bind fun m4 => (qJ m4 18 7 (0 : Int64)).bind fun m6 => (F_X8_nextKind m6).bind fun c8 => (bI c8.2 20 401 x2 c8.1).bind fun m10 => (bJ m10 21 401 x2 (hJ m10 18 7)).bind fun m12 => (aI m12 20 401 x2).bind fun v14 => if v14 = 0 then some (Sum.inr (Sum.inl m12)) else (aI m12 20 401 x2).bind fun v17 => if v17 = (1 : Int32) then some (Sum.inr (Sum.inl m12)) else (nmI (x2 + (1 : Int32))).bind fun v20 => some (Sum.inl (v20, m12))
def g_X8_cut_20 (s : Int32 × M2) : Option ((Int32 × M2) ⊕ ((M2) ⊕ (M2))) := f_X8_cut_20 s.1 s.2
def f_X8_cut_85 (m : M2) : Option M2 :=
  some m
def F_X8_cut (x1 : Int32) (m : M2) : Option M2 :=
  (qI m 18 5 (mnI x1 (nI 2000))).bind fun m1 => (qI m1 18 6 (0 : Int32)).bind fun m3 => (loop (g_X8_cut_20) ((0 : Int32), m3)).bind fun e5 => (Sum.elim (fun e5_0 => f_X8_cut_85 e5_0) (fun e5_1 => some e5_1)) e5
def f_J7_fill_53178_5 (x0 : Nat) (l0 : Nat) (x1 : Int32) (x2 : Int32) (x3 : Int32) (m : M2) : Option ((Int32 × M2) ⊕ ((M2))) :=
  if x3 ≤ x2 then some (Sum.inr m) else (bI m x0 l0 x2 x1).bind fun m2 => (nmI (x2 + (1 : Int32))).bind fun v4 => some (Sum.inl (v4, m2))
def g_J7_fill_53178_5 (x0 : Nat) (l0 : Nat) (x1 : Int32) (x3 : Int32) (s : Int32 × M2) : Option ((Int32 × M2) ⊕ ((M2))) := f_J7_fill_53178_5 x0 l0 x1 s.1 x3 s.2
def F_J7_fill_53178 (x0 : Nat) (l0 : Nat) (x1 : Int32) (m : M2) : Option M2 :=
  (nmI (nI l0)).bind fun v1 => (loop (g_J7_fill_53178_5 x0 l0 x1 v1) ((0 : Int32), m)).bind fun e3 => some e3
def F_X4_begin (e : Nat) (x1 : Int32) (x2 : Nat) (m : M2) : Option M2 :=
  (F_X7_clear x2 m).bind fun c1 => (F_X8_cut x1 c1).bind fun c3 => (qI c3 14 1 (0 : Int32)).bind fun m5 => (aI m5 20 401 (0 : Int32)).bind fun v7 => (qI m5 14 2 v7).bind fun m9 => (qI m9 14 4 (0 : Int32)).bind fun m11 => (qI m11 14 5 (-1 : Int32)).bind fun m13 => (qI m13 14 6 (0 : Int32)).bind fun m15 => (qI m15 14 11 (0 : Int32)).bind fun m17 => (F_J7_fill_53178 15 25 (-1 : Int32) m17).bind fun c19 => some c19
def f_X4_take_41 (e : Nat) (s1 : Int32) (m : M2) : Option (Int32 × M2) :=
  (qI m 14 4 s1).bind fun m1 => (aI m1 22 401 (hI m1 14 1)).bind fun v3 => (qI m1 14 5 v3).bind fun m5 => some ((0 : Int32), m5)
def f_X4_take_27 (e : Nat) (x1 : Int32) (m : M2) : Option (Int32 × M2) :=
  if (hI m 14 2) = x1 then f_X4_take_41 e (2 : Int32) m else f_X4_take_41 e (1 : Int32) m
def F_X4_take (e : Nat) (x1 : Int32) (m : M2) : Option (Int32 × M2) :=
  if (hI m 14 4) = 0 then if (hI m 14 2) = x1 then if (hI m 14 1) < (400 : Int32) then (qI m 14 1 ((hI m 14 1) + (1 : Int32))).bind fun m4 => (aI m4 20 401 (hI m4 14 1)).bind fun v6 => (qI m4 14 2 v6).bind fun m8 => some ((1 : Int32), m8) else f_X4_take_27 e x1 m else f_X4_take_27 e x1 m else some ((0 : Int32), m)
def f_X4_taken_25 (e : Nat) (s0 : Int64) (m : M2) : Option (Int64 × M2) :=
  some (s0, m)
def F_X4_taken (e : Nat) (m : M2) : Option (Int64 × M2) :=
  if (hI m 14 1) ≤ 0 then f_X4_taken_25 e (0 : Int64) m else (aJ m 21 401 ((hI m 14 1) - (1 : Int32))).bind fun v2 => f_X4_taken_25 e v2 m
def f_X4_slipAtTaken_37 (e : Nat) (m : M2) : Option M2 :=
  some m
def F_X4_slipAtTaken (e : Nat) (x1 : Int32) (m : M2) : Option M2 :=
  if (hI m 14 6) = 0 then if (hI m 14 1) ≤ 0 then f_X4_slipAtTaken_37 e m else (qI m 14 6 x1).bind fun m3 => (aI m3 22 401 ((hI m3 14 1) - (1 : Int32))).bind fun v5 => (qI m3 14 7 v5).bind fun m7 => f_X4_slipAtTaken_37 e m7 else f_X4_slipAtTaken_37 e m
def f_X4_readParts_57 (e : Nat) (m : M2) : Option M2 :=
  (F_X4_take e (4 : Int32) m).bind fun c1 => some c1.2
def f_X4_readParts_37 (e : Nat) (m : M2) : Option M2 :=
  (F_X4_slipAtTaken e (5 : Int32) m).bind fun c1 => f_X4_readParts_57 e c1
def F_X4_readParts (e : Nat) (m : M2) : Option M2 :=
  (F_X4_take e (17 : Int32) m).bind fun c1 => (F_X4_take e (3 : Int32) c1.2).bind fun c3 => if c3.1 = 0 then f_X4_readParts_57 e c3.2 else (F_X4_taken e c3.2).bind fun c6 => if (lg_cmp c6.1 (3 : Int64)) < 0 then f_X4_readParts_37 e c6.2 else (F_X4_taken e c6.2).bind fun c9 => if (lg_cmp c9.1 (24 : Int64)) ≤ 0 then (F_X4_taken e c9.2).bind fun c12 => (qI c12.2 e 0 c12.1.toInt32).bind fun m14 => f_X4_readParts_57 e m14 else f_X4_readParts_37 e c9.2
def f_X4_fail_28 (e : Nat) (m : M2) : Option M2 :=
  some m
def F_X4_fail (e : Nat) (x1 : Int32) (m : M2) : Option M2 :=
  if (hI m 14 4) = 0 then (qI m 14 4 x1).bind fun m2 => (aI m2 22 401 (hI m2 14 1)).bind fun v4 => (qI m2 14 5 v4).bind fun m6 => f_X4_fail_28 e m6 else f_X4_fail_28 e m
def f_X4_noteName_29 (e : Nat) (x1 : Int32) (x2 : Int32) (m : M2) : Option ((Int32 × M2) ⊕ ((M2))) :=
  (nmI (x2 + (1 : Int32))).bind fun v1 => some (Sum.inl (v1, m))
def f_X4_noteName_2 (e : Nat) (x1 : Int32) (x2 : Int32) (m : M2) : Option ((Int32 × M2) ⊕ ((M2))) :=
  if (hI m 14 11) ≤ x2 then some (Sum.inr m) else (aJ m 16 18 x2).bind fun v2 => (F_X4_taken e m).bind fun c4 => if (lg_cmp v2 c4.1) = 0 then (F_X4_slipAtTaken e (3 : Int32) c4.2).bind fun c7 => f_X4_noteName_29 e x1 x2 c7 else f_X4_noteName_29 e x1 x2 c4.2
def g_X4_noteName_2 (e : Nat) (x1 : Int32) (s : Int32 × M2) : Option ((Int32 × M2) ⊕ ((M2))) := f_X4_noteName_2 e x1 s.1 s.2
def f_X4_noteName_80 (e : Nat) (m : M2) : Option M2 :=
  some m
def F_X4_noteName (e : Nat) (x1 : Int32) (m : M2) : Option M2 :=
  (loop (g_X4_noteName_2 e x1) ((0 : Int32), m)).bind fun e1 => if (nI 18) ≤ (hI e1 14 11) then f_X4_noteName_80 e e1 else (F_X4_taken e e1).bind fun c4 => (bJ c4.2 16 18 (hI e1 14 11) c4.1).bind fun m6 => (bI m6 17 18 (hI m6 14 11) x1).bind fun m8 => (qI m8 14 11 ((hI m8 14 11) + (1 : Int32))).bind fun m10 => f_X4_noteName_80 e m10
def f_X4_joinsAt_21 (s0 : Int32) (m : M2) : Option (Int32 × M2) :=
  (zb s0).bind fun v1 => some (v1, m)
def f_X4_joinsAt_16 (m : M2) : Option (Int32 × M2) :=
  f_X4_joinsAt_21 (1 : Int32) m
def f_X4_joinsAt_39 (s0 : Int32) (m : M2) : Option (Int32 × M2) :=
  (zb s0).bind fun v1 => some (v1, m)
def f_X4_joinsAt_34 (m : M2) : Option (Int32 × M2) :=
  f_X4_joinsAt_39 (1 : Int32) m
def F_X4_joinsAt (x0 : Int32) (x1 : Int32) (m : M2) : Option (Int32 × M2) :=
  if x0 = 0 then if x1 = (7 : Int32) then f_X4_joinsAt_16 m else if x1 = (8 : Int32) then f_X4_joinsAt_16 m else f_X4_joinsAt_21 (0 : Int32) m else if x1 = (9 : Int32) then f_X4_joinsAt_34 m else if x1 = (10 : Int32) then f_X4_joinsAt_34 m else f_X4_joinsAt_39 (0 : Int32) m
def f_X4_emit_22 (e : Nat) (m : M2) : Option (Int32 × M2) :=
  some ((-1 : Int32), m)
def F_X4_emit (e : Nat) (x1 : Int32) (x2 : Int32) (m : M2) : Option (Int32 × M2) :=
  (nmI (hI m e 4)).bind fun v1 => if (hI m 14 4) = 0 then if v1 < (400 : Int32) then (bI m (e + 2) 400 v1 ((x2 <<< ((6 : Int32) &&& 31)) ||| x1)).bind fun m5 => (qI m5 e 4 ((hI m5 e 4) + (1 : Int32))).bind fun m7 => some (v1, m7) else f_X4_emit_22 e m else f_X4_emit_22 e m
def f_X4_readUnit_131 (E : Nat → Int32 → Int32 → M2 → Option M2) (e : Nat) (m : M2) : Option M2 :=
  (F_X4_take e (16 : Int32) m).bind fun c1 => some c1.2
def f_X4_readUnit_87 (E : Nat → Int32 → Int32 → M2 → Option M2) (e : Nat) (x1 : Int32) (x2 : Int32) (m : M2) : Option M2 :=
  (F_X4_take e (15 : Int32) m).bind fun c1 => (E e (0 : Int32) (x1 + (1 : Int32)) c1.2).bind fun c3 => if x2 = (27 : Int32) then (F_X4_take e (6 : Int32) c3).bind fun c6 => (E e (0 : Int32) (x1 + (1 : Int32)) c6.2).bind fun c8 => (F_X4_emit e (27 : Int32) (0 : Int32) c8).bind fun c10 => f_X4_readUnit_131 E e c10.2 else f_X4_readUnit_131 E e c3
def f_X4_readUnit_67 (E : Nat → Int32 → Int32 → M2 → Option M2) (e : Nat) (x1 : Int32) (x2 : Int32) (m : M2) : Option M2 :=
  if (hI m 14 2) = (15 : Int32) then if x1 < (6 : Int32) then f_X4_readUnit_87 E e x1 x2 m else (F_X4_fail e (2 : Int32) m).bind fun c3 => f_X4_readUnit_87 E e x1 x2 c3 else f_X4_readUnit_87 E e x1 x2 m
def f_X4_readUnit_54 (E : Nat → Int32 → Int32 → M2 → Option M2) (e : Nat) (x1 : Int32) (x2 : Int32) (m : M2) : Option M2 :=
  if x2 = (27 : Int32) then (F_X4_take e (27 : Int32) m).bind fun c2 => f_X4_readUnit_67 E e x1 x2 c2.2 else f_X4_readUnit_67 E e x1 x2 m
def F_X4_readUnit (E : Nat → Int32 → Int32 → M2 → Option M2) (e : Nat) (x1 : Int32) (m : M2) : Option M2 :=
  (nmI (hI m 14 2)).bind fun v1 => if v1 = (3 : Int32) then (F_X4_take e (3 : Int32) m).bind fun c10 => (F_X4_taken e c10.2).bind fun c12 => (F_X4_emit e (3 : Int32) c12.1.toInt32 c12.2).bind fun c14 => some c14.2 else if v1 < (28 : Int32) then f_X4_readUnit_54 E e x1 v1 m else if (33 : Int32) < v1 then f_X4_readUnit_54 E e x1 v1 m else (F_X4_take e v1 m).bind fun c6 => (F_X4_emit e v1 (0 : Int32) c6.2).bind fun c8 => some c8.2
def f_X4_readExpression_29 (E : Nat → Int32 → Int32 → M2 → Option M2) (e : Nat) (x1 : Int32) (x2 : Int32) (x3 : Int32) (m : M2) : Option ((Int32 × M2) ⊕ ((M2))) :=
  if (400 : Int32) ≤ x3 then some (Sum.inr m) else if (hI m 14 4) = 0 then (F_X4_joinsAt x1 (hI m 14 2) m).bind fun c3 => if c3.1 = 0 then some (Sum.inr c3.2) else (nmI (hI c3.2 14 2)).bind fun v6 => (F_X4_take e v6 c3.2).bind fun c8 => (E e (x1 + (1 : Int32)) x2 c8.2).bind fun c10 => (F_X4_emit e v6 (0 : Int32) c10).bind fun c12 => (nmI (x3 + (1 : Int32))).bind fun v14 => some (Sum.inl (v14, c12.2)) else some (Sum.inr m)
def g_X4_readExpression_29 (E : Nat → Int32 → Int32 → M2 → Option M2) (e : Nat) (x1 : Int32) (x2 : Int32) (s : Int32 × M2) : Option ((Int32 × M2) ⊕ ((M2))) := f_X4_readExpression_29 E e x1 x2 s.1 s.2
def f_X4_readExpression_89 (E : Nat → Int32 → Int32 → M2 → Option M2) (e : Nat) (m : M2) : Option M2 :=
  some m
def B_X4_readExpression (E : Nat → Int32 → Int32 → M2 → Option M2) (e : Nat) (x1 : Int32) (x2 : Int32) (m : M2) : Option M2 :=
  if (hI m 14 4) = 0 then if x1 < (2 : Int32) then (E e (x1 + (1 : Int32)) x2 m).bind fun c3 => (loop (g_X4_readExpression_29 E e x1 x2) ((0 : Int32), c3)).bind fun e5 => f_X4_readExpression_89 E e e5 else (F_X4_readUnit E e x2 m).bind fun c7 => some c7 else some m
def F_X4_readExpression : Nat → Nat → Int32 → Int32 → M2 → Option M2
  | 0, _, _, _, _ => none
  | n + 1, e, x1, x2, m => B_X4_readExpression (F_X4_readExpression n) e x1 x2 m
def f_X4_readRelation_43 (e : Nat) (x2 : Int32) (s0 : Int32) (m : M2) : Option ((Int32 × Int32 × M2) ⊕ ((Int32 × M2))) :=
  (nmI (x2 + (1 : Int32))).bind fun v1 => some (Sum.inl (s0, v1, m))
def f_X4_readRelation_4 (e : Nat) (x1 : Int32) (x2 : Int32) (m : M2) : Option ((Int32 × Int32 × M2) ⊕ ((Int32 × M2))) :=
  if (400 : Int32) ≤ x2 then some (Sum.inr (x1, m)) else if (hI m 14 4) = 0 then if (hI m 14 2) = (26 : Int32) then (F_X4_take e (26 : Int32) m).bind fun c4 => if x1 = 0 then f_X4_readRelation_43 e x2 (1 : Int32) c4.2 else f_X4_readRelation_43 e x2 (0 : Int32) c4.2 else some (Sum.inr (x1, m)) else some (Sum.inr (x1, m))
def g_X4_readRelation_4 (e : Nat) (s : Int32 × Int32 × M2) : Option ((Int32 × Int32 × M2) ⊕ ((Int32 × M2))) := f_X4_readRelation_4 e s.1 s.2.1 s.2.2
def f_X4_readRelation_109 (e : Nat) (m : M2) : Option M2 :=
  some m
def f_X4_readRelation_78 (e : Nat) (x1 : Int32) (x2 : Int32) (m : M2) : Option M2 :=
  (F_X4_take e x2 m).bind fun c1 => (F_X4_readExpression 24 e (0 : Int32) (0 : Int32) c1.2).bind fun c3 => (F_X4_emit e x2 (0 : Int32) c3).bind fun c5 => if x1 = 0 then f_X4_readRelation_109 e c5.2 else (F_X4_emit e (26 : Int32) (0 : Int32) c5.2).bind fun c8 => f_X4_readRelation_109 e c8.2
def f_X4_readRelation_73 (e : Nat) (x1 : Int32) (x2 : Int32) (m : M2) : Option M2 :=
  (F_X4_fail e (1 : Int32) m).bind fun c1 => f_X4_readRelation_78 e x1 x2 c1
def f_X4_readRelation_50 (e : Nat) (x1 : Int32) (m : M2) : Option M2 :=
  (F_X4_readExpression 24 e (0 : Int32) (0 : Int32) m).bind fun c1 => (nmI (hI c1 14 2)).bind fun v3 => if v3 < (11 : Int32) then f_X4_readRelation_73 e x1 v3 c1 else if v3 ≤ (14 : Int32) then f_X4_readRelation_78 e x1 v3 c1 else f_X4_readRelation_73 e x1 v3 c1
def F_X4_readRelation (e : Nat) (m : M2) : Option M2 :=
  (loop (g_X4_readRelation_4 e) ((0 : Int32), (0 : Int32), m)).bind fun e1 => f_X4_readRelation_50 e e1.1 e1.2
def f_X4_land_37 (e : Nat) (m : M2) : Option M2 :=
  some m
def F_X4_land (e : Nat) (x1 : Int32) (m : M2) : Option M2 :=
  if x1 = (-1 : Int32) then f_X4_land_37 e m else (aI m (e + 2) 400 x1).bind fun v2 => (bI m (e + 2) 400 x1 (((hI m e 4) <<< ((6 : Int32) &&& 31)) ||| (v2 &&& (63 : Int32)))).bind fun m4 => f_X4_land_37 e m4
def f_X4_landChain_4 (e : Nat) (x2 : Int32) (x3 : Int32) (m : M2) : Option ((Int32 × Int32 × M2) ⊕ ((M2))) :=
  if (400 : Int32) ≤ x3 then some (Sum.inr m) else if x2 = (-1 : Int32) then some (Sum.inr m) else (aI m (e + 2) 400 x2).bind fun v3 => (nmI ((v3 >>> ((6 : Int32) &&& 31)) - (1 : Int32))).bind fun v5 => (F_X4_land e x2 m).bind fun c7 => (nmI (x3 + (1 : Int32))).bind fun v9 => some (Sum.inl (v5, v9, c7))
def g_X4_landChain_4 (e : Nat) (s : Int32 × Int32 × M2) : Option ((Int32 × Int32 × M2) ⊕ ((M2))) := f_X4_landChain_4 e s.1 s.2.1 s.2.2
def f_X4_landChain_46 (e : Nat) (m : M2) : Option M2 :=
  some m
def F_X4_landChain (e : Nat) (x1 : Int32) (m : M2) : Option M2 :=
  (loop (g_X4_landChain_4 e) (x1, (0 : Int32), m)).bind fun e1 => f_X4_landChain_46 e e1
def f_X4_readCondition_95 (e : Nat) (x1 : Int32) (x2 : Int32) (x3 : Int32) (m : M2) : Option ((Int32 × Int32 × Int32 × M2) ⊕ ((Int32 × Int32 × M2))) :=
  (F_X4_readRelation e m).bind fun c1 => (nmI (x3 + (1 : Int32))).bind fun v3 => some (Sum.inl (x1, x2, v3, c1))
def f_X4_readCondition_42 (e : Nat) (x1 : Int32) (x2 : Int32) (x3 : Int32) (m : M2) : Option ((Int32 × Int32 × Int32 × M2) ⊕ ((Int32 × Int32 × M2))) :=
  if (hI m 14 2) = (25 : Int32) then (F_X4_take e (25 : Int32) m).bind fun c8 => (F_X4_emit e (25 : Int32) (x1 + (1 : Int32)) c8.2).bind fun c10 => f_X4_readCondition_95 e c10.1 x2 x3 c10.2 else (F_X4_take e (24 : Int32) m).bind fun c2 => (F_X4_landChain e x1 c2.2).bind fun c4 => (F_X4_emit e (24 : Int32) (x2 + (1 : Int32)) c4).bind fun c6 => f_X4_readCondition_95 e (-1 : Int32) c6.1 x3 c6.2
def f_X4_readCondition_10 (e : Nat) (x1 : Int32) (x2 : Int32) (x3 : Int32) (m : M2) : Option ((Int32 × Int32 × Int32 × M2) ⊕ ((Int32 × Int32 × M2))) :=
  if (400 : Int32) ≤ x3 then some (Sum.inr (x1, x2, m)) else if (hI m 14 4) = 0 then if (hI m 14 2) = (25 : Int32) then f_X4_readCondition_42 e x1 x2 x3 m else if (hI m 14 2) = (24 : Int32) then f_X4_readCondition_42 e x1 x2 x3 m else some (Sum.inr (x1, x2, m)) else some (Sum.inr (x1, x2, m))
def g_X4_readCondition_10 (e : Nat) (s : Int32 × Int32 × Int32 × M2) : Option ((Int32 × Int32 × Int32 × M2) ⊕ ((Int32 × Int32 × M2))) := f_X4_readCondition_10 e s.1 s.2.1 s.2.2.1 s.2.2.2
def f_X4_readCondition_105 (e : Nat) (x1 : Int32) (x2 : Int32) (m : M2) : Option M2 :=
  (F_X4_landChain e x1 m).bind fun c1 => (F_X4_landChain e x2 c1).bind fun c3 => some c3
def F_X4_readCondition (e : Nat) (m : M2) : Option M2 :=
  (F_X4_readRelation e m).bind fun c1 => (loop (g_X4_readCondition_10 e) ((-1 : Int32), (-1 : Int32), (0 : Int32), c1)).bind fun e3 => f_X4_readCondition_105 e e3.1 e3.2.1 e3.2.2
def f_X4_readLaw_107 (e : Nat) (x1 : Int32) (m : M2) : Option ((Int32 × M2) ⊕ ((M2))) :=
  (F_X4_take e (21 : Int32) m).bind fun c1 => (F_X4_readCondition e c1.2).bind fun c3 => (F_X4_take e (22 : Int32) c3).bind fun c5 => (F_X4_emit e (21 : Int32) (0 : Int32) c5.2).bind fun c7 => (F_X4_readExpression 24 e (0 : Int32) (0 : Int32) c7.2).bind fun c9 => (F_X4_take e (23 : Int32) c9).bind fun c11 => (F_X4_emit e (23 : Int32) (0 : Int32) c11.2).bind fun c13 => (F_X4_land e c7.1 c13.2).bind fun c15 => (nmI (x1 + (1 : Int32))).bind fun v17 => some (Sum.inl (v17, c15))
def f_X4_readLaw_74 (e : Nat) (x1 : Int32) (m : M2) : Option ((Int32 × M2) ⊕ ((M2))) :=
  if (8 : Int32) < x1 then some (Sum.inr m) else if (hI m 14 4) = 0 then if (hI m 14 2) = (21 : Int32) then if x1 = (8 : Int32) then (F_X4_fail e (2 : Int32) m).bind fun c5 => f_X4_readLaw_107 e x1 c5 else f_X4_readLaw_107 e x1 m else some (Sum.inr m) else some (Sum.inr m)
def g_X4_readLaw_74 (e : Nat) (s : Int32 × M2) : Option ((Int32 × M2) ⊕ ((M2))) := f_X4_readLaw_74 e s.1 s.2
def f_X4_readLaw_165 (e : Nat) (m : M2) : Option M2 :=
  (F_X4_readExpression 24 e (0 : Int32) (0 : Int32) m).bind fun c1 => (F_X4_take e (4 : Int32) c1).bind fun c3 => (F_X4_emit e (23 : Int32) (0 : Int32) c3.2).bind fun c5 => (qI c5.2 e 1 ((hI c5.2 e 1) + (1 : Int32))).bind fun m7 => some m7
def f_X4_readLaw_44 (e : Nat) (m : M2) : Option M2 :=
  (F_X4_take e (5 : Int32) m).bind fun c1 => (bI c1.2 (e + 1) 6 (hI c1.2 e 1) (hI c1.2 e 4)).bind fun m3 => (loop (g_X4_readLaw_74 e) ((0 : Int32), m3)).bind fun e5 => f_X4_readLaw_165 e e5
def F_X4_readLaw (e : Nat) (m : M2) : Option M2 :=
  if (hI m e 1) < (6 : Int32) then (F_X4_take e (18 : Int32) m).bind fun c2 => (F_X4_take e (2 : Int32) c2.2).bind fun c4 => if c4.1 = 0 then f_X4_readLaw_44 e c4.2 else (F_X4_noteName e (hI c4.2 e 1) c4.2).bind fun c7 => f_X4_readLaw_44 e c7 else (F_X4_fail e (2 : Int32) m).bind fun c9 => some c9
def f_X4_lawNamed_38 (e : Nat) (x1 : Int64) (x3 : Int32) (m : M2) : Option ((Int32 × M2) ⊕ ((Int32 × M2) ⊕ (M2))) :=
  (nmI (x3 + (1 : Int32))).bind fun v1 => some (Sum.inl (v1, m))
def f_X4_lawNamed_2 (e : Nat) (x1 : Int64) (x3 : Int32) (m : M2) : Option ((Int32 × M2) ⊕ ((Int32 × M2) ⊕ (M2))) :=
  if (hI m 14 11) ≤ x3 then some (Sum.inr (Sum.inr m)) else (aJ m 16 18 x3).bind fun v2 => if (lg_cmp v2 x1) = 0 then (aI m 17 18 x3).bind fun v5 => if v5 = (-1 : Int32) then f_X4_lawNamed_38 e x1 x3 m else some (Sum.inr (Sum.inl (x3, m))) else f_X4_lawNamed_38 e x1 x3 m
def g_X4_lawNamed_2 (e : Nat) (x1 : Int64) (s : Int32 × M2) : Option ((Int32 × M2) ⊕ ((Int32 × M2) ⊕ (M2))) := f_X4_lawNamed_2 e x1 s.1 s.2
def F_X4_lawNamed (e : Nat) (x1 : Int64) (m : M2) : Option (Int32 × M2) :=
  (loop (g_X4_lawNamed_2 e x1) ((0 : Int32), m)).bind fun e1 => (Sum.elim (fun e1_0 => (aI e1_0.2 17 18 e1_0.1).bind fun v3 => some (v3, e1_0.2)) (fun e1_1 => some ((-1 : Int32), e1_1))) e1
def f_X4_noteBeyond_55 (e : Nat) (x1 : Int32) (m : M2) : Option ((Int32 × M2) ⊕ ((M2))) :=
  (nmI (x1 + (1 : Int32))).bind fun v1 => some (Sum.inl (v1, m))
def f_X4_noteBeyond_2 (e : Nat) (x1 : Int32) (m : M2) : Option ((Int32 × M2) ⊕ ((M2))) :=
  if (24 : Int32) < x1 then some (Sum.inr m) else if (hI m 14 1) ≤ 0 then f_X4_noteBeyond_55 e x1 m else (F_X4_taken e m).bind fun c3 => if (lg_cmp c3.1 x1.toInt64) < 0 then f_X4_noteBeyond_55 e x1 c3.2 else (aI c3.2 15 25 x1).bind fun v6 => if v6 = (-1 : Int32) then (aI c3.2 22 401 ((hI c3.2 14 1) - (1 : Int32))).bind fun v9 => (bI c3.2 15 25 x1 v9).bind fun m11 => f_X4_noteBeyond_55 e x1 m11 else f_X4_noteBeyond_55 e x1 c3.2
def g_X4_noteBeyond_2 (e : Nat) (s : Int32 × M2) : Option ((Int32 × M2) ⊕ ((M2))) := f_X4_noteBeyond_2 e s.1 s.2
def F_X4_noteBeyond (e : Nat) (m : M2) : Option M2 :=
  (loop (g_X4_noteBeyond_2 e) ((3 : Int32), m)).bind fun e1 => some e1
def f_X4_readMan_134 (e : Nat) (m : M2) : Option M2 :=
  (F_X4_take e (4 : Int32) m).bind fun c1 => (qI c1.2 e 5 ((hI c1.2 e 5) + (1 : Int32))).bind fun m3 => some m3
def f_X4_readMan_93 (e : Nat) (m : M2) : Option M2 :=
  (F_X4_take e (3 : Int32) m).bind fun c1 => if c1.1 = 0 then f_X4_readMan_134 e c1.2 else (F_X4_noteBeyond e c1.2).bind fun c4 => (F_X4_taken e c4).bind fun c6 => (F_X11_withTime (hJ c4 e 7) (hI c4 e 5) c6.1.toInt32 c6.2).bind fun c8 => (qJ c8.2 e 7 c8.1).bind fun m10 => f_X4_readMan_134 e m10
def f_X4_readMan_38 (e : Nat) (m : M2) : Option M2 :=
  (F_X4_take e (2 : Int32) m).bind fun c1 => if c1.1 = 0 then f_X4_readMan_93 e c1.2 else (F_X4_taken e c1.2).bind fun c4 => (F_X4_lawNamed e c4.1 c4.2).bind fun c6 => (bI c6.2 (e + 3) 12 (hI c1.2 e 5) c6.1).bind fun m8 => (aI m8 (e + 3) 12 (hI m8 e 5)).bind fun v10 => if v10 = (-1 : Int32) then (F_X4_slipAtTaken e (4 : Int32) m8).bind fun c13 => f_X4_readMan_93 e c13 else f_X4_readMan_93 e m8
def F_X4_readMan (e : Nat) (m : M2) : Option M2 :=
  if (hI m e 5) < (12 : Int32) then (F_X4_take e (19 : Int32) m).bind fun c2 => (F_X4_take e (2 : Int32) c2.2).bind fun c4 => if c4.1 = 0 then f_X4_readMan_38 e c4.2 else (F_X4_noteName e (-1 : Int32) c4.2).bind fun c7 => f_X4_readMan_38 e c7 else (F_X4_fail e (2 : Int32) m).bind fun c9 => some c9
def f_X4_readDrum_67 (e : Nat) (m : M2) : Option M2 :=
  (F_X4_take e (4 : Int32) m).bind fun c1 => some c1.2
def f_X4_readDrum_55 (e : Nat) (m : M2) : Option M2 :=
  (F_X4_taken e m).bind fun c1 => (qI c1.2 e 9 c1.1.toInt32).bind fun m3 => f_X4_readDrum_67 e m3
def f_X4_readDrum_31 (e : Nat) (m : M2) : Option M2 :=
  (F_X4_take e (3 : Int32) m).bind fun c1 => if c1.1 = 0 then f_X4_readDrum_67 e c1.2 else (F_X4_taken e c1.2).bind fun c4 => if (lg_cmp c4.1 (23 : Int64)) ≤ 0 then f_X4_readDrum_55 e c4.2 else (F_X4_slipAtTaken e (5 : Int32) c4.2).bind fun c7 => f_X4_readDrum_55 e c7
def F_X4_readDrum (e : Nat) (m : M2) : Option M2 :=
  (F_X4_take e (31 : Int32) m).bind fun c1 => (F_X4_take e (3 : Int32) c1.2).bind fun c3 => if c3.1 = 0 then f_X4_readDrum_31 e c3.2 else (F_X4_noteBeyond e c3.2).bind fun c6 => (F_X4_taken e c6).bind fun c8 => (qI c8.2 e 8 c8.1.toInt32).bind fun m10 => f_X4_readDrum_31 e m10
def f_X4_readSong_31 (e : Nat) (m : M2) : Option M2 :=
  (F_X4_take e (4 : Int32) m).bind fun c1 => some c1.2
def F_X4_readSong (e : Nat) (m : M2) : Option M2 :=
  (F_X4_take e (33 : Int32) m).bind fun c1 => (F_X4_take e (3 : Int32) c1.2).bind fun c3 => if c3.1 = 0 then f_X4_readSong_31 e c3.2 else (F_X4_noteBeyond e c3.2).bind fun c6 => (F_X4_taken e c6).bind fun c8 => (qI c8.2 e 10 c8.1.toInt32).bind fun m10 => f_X4_readSong_31 e m10
def f_X4_readFog_136 (e : Nat) (m : M2) : Option M2 :=
  (F_X4_take e (4 : Int32) m).bind fun c1 => (qI c1.2 e 11 ((hI c1.2 e 11) + (1 : Int32))).bind fun m3 => some m3
def f_X4_readFog_131 (e : Nat) (m : M2) : Option M2 :=
  (F_X4_slipAtTaken e (5 : Int32) m).bind fun c1 => f_X4_readFog_136 e c1
def f_X4_readFog_68 (e : Nat) (m : M2) : Option M2 :=
  (F_X4_take e (3 : Int32) m).bind fun c1 => if c1.1 = 0 then f_X4_readFog_136 e c1.2 else (F_X4_taken e c1.2).bind fun c4 => (bI c4.2 (e + 5) 4 (hI c1.2 e 11) c4.1.toInt32).bind fun m6 => (F_X4_taken e m6).bind fun c8 => if 0 < (lg_cmp c8.1 (999 : Int64)) then f_X4_readFog_131 e c8.2 else (F_X4_taken e c8.2).bind fun c11 => (aI c11.2 (e + 4) 4 (hI c11.2 e 11)).bind fun v13 => if 0 ≤ (lg_cmp c11.1 v13.toInt64) then f_X4_readFog_136 e c11.2 else f_X4_readFog_131 e c11.2
def F_X4_readFog (e : Nat) (m : M2) : Option M2 :=
  if (hI m e 11) < (4 : Int32) then (F_X4_take e (20 : Int32) m).bind fun c2 => (F_X4_take e (3 : Int32) c2.2).bind fun c4 => if c4.1 = 0 then f_X4_readFog_68 e c4.2 else (F_X4_taken e c4.2).bind fun c7 => (bI c7.2 (e + 4) 4 (hI c4.2 e 11) c7.1.toInt32).bind fun m9 => (F_X4_taken e m9).bind fun c11 => if (lg_cmp c11.1 (999 : Int64)) ≤ 0 then f_X4_readFog_68 e c11.2 else (F_X4_slipAtTaken e (5 : Int32) c11.2).bind fun c14 => f_X4_readFog_68 e c14 else (F_X4_fail e (2 : Int32) m).bind fun c16 => some c16
def f_X4_takeLaterFault_64 (e : Nat) (m : M2) : Option M2 :=
  some m
def F_X4_takeLaterFault (e : Nat) (m : M2) : Option M2 :=
  if (hI m 14 6) = 0 then (aI m 15 25 (hI m e 0)).bind fun v2 => if v2 = (-1 : Int32) then f_X4_takeLaterFault_64 e m else (qI m 14 4 (6 : Int32)).bind fun m5 => (aI m5 15 25 (hI m5 e 0)).bind fun v7 => (qI m5 14 5 v7).bind fun m9 => f_X4_takeLaterFault_64 e m9 else (qI m 14 4 (hI m 14 6)).bind fun m11 => (qI m11 14 5 (hI m11 14 7)).bind fun m13 => f_X4_takeLaterFault_64 e m13
def f_X4_readTape_163 (e : Nat) (x3 : Int32) (m : M2) : Option ((Int32 × M2) ⊕ ((M2))) :=
  (nmI (x3 + (1 : Int32))).bind fun v1 => some (Sum.inl (v1, m))
def f_X4_readTape_8 (e : Nat) (x3 : Int32) (m : M2) : Option ((Int32 × M2) ⊕ ((M2))) :=
  if (400 : Int32) < x3 then some (Sum.inr m) else if (hI m 14 4) = 0 then if (hI m 14 2) = 0 then some (Sum.inr m) else if (hI m 14 2) = (17 : Int32) then (F_X4_readParts e m).bind fun c5 => f_X4_readTape_163 e x3 c5 else if (hI m 14 2) = (18 : Int32) then (F_X4_readLaw e m).bind fun c8 => f_X4_readTape_163 e x3 c8 else if (hI m 14 2) = (19 : Int32) then (F_X4_readMan e m).bind fun c11 => f_X4_readTape_163 e x3 c11 else if (hI m 14 2) = (20 : Int32) then (F_X4_readFog e m).bind fun c14 => f_X4_readTape_163 e x3 c14 else if (hI m 14 2) = (21 : Int32) then (F_X4_fail e (1 : Int32) m).bind fun c17 => f_X4_readTape_163 e x3 c17 else if (hI m 14 2) = (22 : Int32) then (F_X4_fail e (1 : Int32) m).bind fun c20 => f_X4_readTape_163 e x3 c20 else if (hI m 14 2) = (23 : Int32) then (F_X4_fail e (1 : Int32) m).bind fun c23 => f_X4_readTape_163 e x3 c23 else if (hI m 14 2) = (24 : Int32) then (F_X4_fail e (1 : Int32) m).bind fun c26 => f_X4_readTape_163 e x3 c26 else if (hI m 14 2) = (25 : Int32) then (F_X4_fail e (1 : Int32) m).bind fun c29 => f_X4_readTape_163 e x3 c29 else if (hI m 14 2) = (26 : Int32) then (F_X4_fail e (1 : Int32) m).bind fun c32 => f_X4_readTape_163 e x3 c32 else if (hI m 14 2) = (27 : Int32) then (F_X4_fail e (1 : Int32) m).bind fun c35 => f_X4_readTape_163 e x3 c35 else if (hI m 14 2) = (28 : Int32) then (F_X4_fail e (1 : Int32) m).bind fun c38 => f_X4_readTape_163 e x3 c38 else if (hI m 14 2) = (29 : Int32) then (F_X4_fail e (1 : Int32) m).bind fun c41 => f_X4_readTape_163 e x3 c41 else if (hI m 14 2) = (30 : Int32) then (F_X4_fail e (1 : Int32) m).bind fun c44 => f_X4_readTape_163 e x3 c44 else if (hI m 14 2) = (31 : Int32) then (F_X4_readDrum e m).bind fun c47 => f_X4_readTape_163 e x3 c47 else if (hI m 14 2) = (32 : Int32) then (F_X4_fail e (1 : Int32) m).bind fun c50 => f_X4_readTape_163 e x3 c50 else if (hI m 14 2) = (33 : Int32) then (F_X4_readSong e m).bind fun c53 => f_X4_readTape_163 e x3 c53 else (F_X4_fail e (1 : Int32) m).bind fun c55 => f_X4_readTape_163 e x3 c55 else some (Sum.inr m)
def g_X4_readTape_8 (e : Nat) (s : Int32 × M2) : Option ((Int32 × M2) ⊕ ((M2))) := f_X4_readTape_8 e s.1 s.2
def f_X4_readTape_180 (e : Nat) (m : M2) : Option (Int32 × M2) :=
  some (hI m 14 4, m)
def f_X4_readTape_169 (e : Nat) (m : M2) : Option (Int32 × M2) :=
  if (hI m 14 4) = 0 then (F_X4_takeLaterFault e m).bind fun c2 => f_X4_readTape_180 e c2 else f_X4_readTape_180 e m
def F_X4_readTape (e : Nat) (x1 : Int32) (x2 : Nat) (m : M2) : Option (Int32 × M2) :=
  (F_X4_begin e x1 x2 m).bind fun c1 => (loop (g_X4_readTape_8 x2) ((0 : Int32), c1)).bind fun e3 => f_X4_readTape_169 x2 e3
def f_X5_stroke_17 (c : Nat) (x1 : Int64) (x3 : Nat) (x4 : Int32) (x5 : Int32) (x6 : Int64) (x8 : Int32) (x9 : Int32) (x10 : Int32) (m : M2) : Option ((Int64 × Int32 × Int32 × Int32 × M2) ⊕ ((Int64 × M2))) :=
  if (hI m c 5) ≤ x10 then some (Sum.inr (x6, m)) else if (nI 12) ≤ x10 then some (Sum.inr (x6, m)) else (F_X11_timeAt x1 x10 m).bind fun c3 => (aI c3.2 x3 12 x10).bind fun v5 => (F_X5_turned c v5 x10 c3.1 x8 x9 x4 x5 c3.2).bind fun c7 => (F_X11_withTime x6 x10 c7.1 c7.2).bind fun c9 => (nmI (x10 + (1 : Int32))).bind fun v11 => some (Sum.inl (c9.1, c3.1, x8, v11, c9.2))
def g_X5_stroke_17 (c : Nat) (x1 : Int64) (x3 : Nat) (x4 : Int32) (x5 : Int32) (s : Int64 × Int32 × Int32 × Int32 × M2) : Option ((Int64 × Int32 × Int32 × Int32 × M2) ⊕ ((Int64 × M2))) := f_X5_stroke_17 c x1 x3 x4 x5 s.1 s.2.1 s.2.2.1 s.2.2.2.1 s.2.2.2.2
def f_X5_stroke_87 (c : Nat) (x6 : Int64) (m : M2) : Option (Int64 × M2) :=
  some (x6, m)
def F_X5_stroke (c : Nat) (x1 : Int64) (x3 : Nat) (x4 : Int32) (x5 : Int32) (m : M2) : Option (Int64 × M2) :=
  (F_X11_timeAt x1 (0 : Int32) m).bind fun c1 => (loop (g_X5_stroke_17 c x1 x3 x4 x5) ((0 : Int64), c1.1, c1.1, (0 : Int32), c1.2)).bind fun e3 => f_X5_stroke_87 c e3.1 e3.2
def F_X5_gapAhead (c : Nat) (x1 : Int64) (x3 : Int32) (m : M2) : Option (Int32 × M2) :=
  (F_X11_timeAt x1 x3 m).bind fun c1 => (F_X11_timeAt x1 (x3 - (1 : Int32)) c1.2).bind fun c3 => (F_X5_gap c c1.1 c3.1 c3.2).bind fun c5 => some (c5.1, c5.2)
def f_X5_clashBits_53 (c : Nat) (x1 : Int64) (x3 : Int32) (x4 : Int32) (x5 : Int32) (m : M2) : Option ((Int32 × Int32 × M2) ⊕ ((Int32 × M2))) :=
  (nmI (x5 + (1 : Int32))).bind fun v1 => some (Sum.inl (x4, v1, m))
def f_X5_clashBits_18 (c : Nat) (x1 : Int64) (x3 : Int32) (x4 : Int32) (x5 : Int32) (m : M2) : Option ((Int32 × Int32 × M2) ⊕ ((Int32 × M2))) :=
  if (hI m c 5) ≤ x5 then some (Sum.inr (x4, m)) else (F_X5_gapAhead c x1 x5 m).bind fun c2 => if (abI c2.1) < x3 then f_X5_clashBits_53 c x1 x3 x4 x5 c2.2 else (nmI (x4 ||| ((1 : Int32) <<< (x5 &&& 31)))).bind fun v5 => f_X5_clashBits_53 c x1 x3 v5 x5 c2.2
def g_X5_clashBits_18 (c : Nat) (x1 : Int64) (x3 : Int32) (s : Int32 × Int32 × M2) : Option ((Int32 × Int32 × M2) ⊕ ((Int32 × M2))) := f_X5_clashBits_18 c x1 x3 s.1 s.2.1 s.2.2
def F_X5_clashBits (c : Nat) (x1 : Int64) (m : M2) : Option (Int32 × M2) :=
  (dvI ((hI m c 0) + (2 : Int32)) (3 : Int32)).bind fun v1 => (loop (g_X5_clashBits_18 c x1 v1) ((0 : Int32), (1 : Int32), m)).bind fun e3 => some (e3.1, e3.2)
def f_X5_menNear_15 (c : Nat) (m : M2) : Option (Int32 × M2) :=
  some ((0 : Int32), m)
def f_X5_menNear_57 (c : Nat) (x1 : Int32) (x2 : Int32) (s0 : Int32) (m : M2) : Option (Int32 × M2) :=
  (aI m 26 24 x2).bind fun v1 => (aI m 26 24 x1).bind fun v3 => (aI m 26 24 s0).bind fun v5 => some ((v1 + v3) + v5, m)
def f_X5_menNear_36 (c : Nat) (x1 : Int32) (s0 : Int32) (m : M2) : Option (Int32 × M2) :=
  if x1 = ((hI m c 0) - (1 : Int32)) then f_X5_menNear_57 c x1 s0 (0 : Int32) m else f_X5_menNear_57 c x1 s0 (x1 + (1 : Int32)) m
def F_X5_menNear (c : Nat) (x1 : Int32) (m : M2) : Option (Int32 × M2) :=
  if x1 < 0 then f_X5_menNear_15 c m else if x1 < (hI m c 0) then if x1 = 0 then f_X5_menNear_36 c x1 ((hI m c 0) - (1 : Int32)) m else f_X5_menNear_36 c x1 (x1 - (1 : Int32)) m else f_X5_menNear_15 c m
def f_X5_wayPart_51 (c : Nat) (x1 : Int64) (x3 : Int32) (m : M2) : Option ((Int32 × M2) ⊕ ((M2))) :=
  (nmI (x3 + (1 : Int32))).bind fun v1 => some (Sum.inl (v1, m))
def f_X5_wayPart_10 (c : Nat) (x1 : Int64) (x3 : Int32) (m : M2) : Option ((Int32 × M2) ⊕ ((M2))) :=
  if (hI m c 5) ≤ x3 then some (Sum.inr m) else (F_X11_timeAt x1 x3 m).bind fun c2 => if (hI c2.2 c 0) ≤ c2.1 then f_X5_wayPart_51 c x1 x3 c2.2 else (aI c2.2 26 24 c2.1).bind fun v5 => (bI c2.2 26 24 c2.1 (v5 + (1 : Int32))).bind fun m7 => f_X5_wayPart_51 c x1 x3 m7
def g_X5_wayPart_10 (c : Nat) (x1 : Int64) (s : Int32 × M2) : Option ((Int32 × M2) ⊕ ((M2))) := f_X5_wayPart_10 c x1 s.1 s.2
def f_X5_wayPart_115 (c : Nat) (x3 : Int32) (x4 : Int32) (x5 : Int32) (m : M2) : Option ((Int32 × Int32 × Int32 × M2) ⊕ ((Int32 × M2))) :=
  (nmI (x5 + (1 : Int32))).bind fun v1 => some (Sum.inl (x3, x4, v1, m))
def f_X5_wayPart_69 (c : Nat) (x3 : Int32) (x4 : Int32) (x5 : Int32) (m : M2) : Option ((Int32 × Int32 × Int32 × M2) ⊕ ((Int32 × M2))) :=
  if (hI m c 0) ≤ x5 then some (Sum.inr (x3, m)) else if (hI m c 5) ≤ x4 then some (Sum.inr (x3, m)) else (F_X5_menNear c x5 m).bind fun c3 => if c3.1 ≤ x4 then f_X5_wayPart_115 c x3 x4 x5 c3.2 else f_X5_wayPart_115 c x5 c3.1 x5 c3.2
def g_X5_wayPart_69 (c : Nat) (s : Int32 × Int32 × Int32 × M2) : Option ((Int32 × Int32 × Int32 × M2) ⊕ ((Int32 × M2))) := f_X5_wayPart_69 c s.1 s.2.1 s.2.2.1 s.2.2.2
def f_X5_wayPart_121 (c : Nat) (x3 : Int32) (m : M2) : Option (Int32 × M2) :=
  some (x3, m)
def F_X5_wayPart (c : Nat) (x1 : Int64) (m : M2) : Option (Int32 × M2) :=
  (F_J7_fill_53178 26 24 (0 : Int32) m).bind fun c1 => (loop (g_X5_wayPart_10 c x1) ((0 : Int32), c1)).bind fun e3 => (F_X5_menNear c (0 : Int32) e3).bind fun c5 => (loop (g_X5_wayPart_69 c) ((0 : Int32), c5.1, (1 : Int32), c5.2)).bind fun e7 => f_X5_wayPart_121 c e7.1 e7.2
def F_X5_wayOf (c : Nat) (x1 : Int64) (m : M2) : Option (Int32 × M2) :=
  (F_X5_wayPart c x1 m).bind fun c1 => (F_X5_menNear c c1.1 c1.2).bind fun c3 => some (c3.1, c3.2)
def f_X5_waveOf_90 (c : Nat) (x1 : Int64) (x3 : Int32) (x4 : Int32) (x5 : Int32) (x6 : Int32) (x7 : Int32) (x8 : Int32) (x9 : Int32) (m : M2) : Option ((Int32 × Int32 × Int32 × Int32 × Int32 × Int32 × M2) ⊕ ((Int32 × Int32 × Int32 × M2))) :=
  (nmI (x9 + (1 : Int32))).bind fun v1 => some (Sum.inl (x4, x5, x6, x7, x8, v1, m))
def f_X5_waveOf_56 (c : Nat) (x1 : Int64) (x3 : Int32) (x4 : Int32) (x5 : Int32) (x6 : Int32) (x7 : Int32) (x8 : Int32) (x9 : Int32) (x10 : Int32) (m : M2) : Option ((Int32 × Int32 × Int32 × Int32 × Int32 × Int32 × M2) ⊕ ((Int32 × Int32 × Int32 × M2))) :=
  if x10 = 0 then f_X5_waveOf_90 c x1 x3 x4 x5 x6 x7 x8 x9 m else if ((x9 - x7) + (1 : Int32)) ≤ x4 then f_X5_waveOf_90 c x1 x3 x4 x5 x6 x7 x8 x9 m else (nmI ((x9 - x7) + (1 : Int32))).bind fun v3 => f_X5_waveOf_90 c x1 x3 v3 x7 x10 x7 x8 x9 m
def f_X5_waveOf_18 (c : Nat) (x1 : Int64) (x3 : Int32) (x4 : Int32) (x5 : Int32) (x6 : Int32) (x7 : Int32) (x8 : Int32) (x9 : Int32) (m : M2) : Option ((Int32 × Int32 × Int32 × Int32 × Int32 × Int32 × M2) ⊕ ((Int32 × Int32 × Int32 × M2))) :=
  if (hI m c 5) ≤ x9 then some (Sum.inr (x4, x5, x6, m)) else (F_X5_gapAhead c x1 x9 m).bind fun c2 => if c2.1 = x8 then f_X5_waveOf_56 c x1 x3 x4 x5 x6 x7 x8 x9 c2.1 c2.2 else (nmI (x9 - (1 : Int32))).bind fun v5 => f_X5_waveOf_56 c x1 x3 x4 x5 x6 v5 c2.1 x9 c2.1 c2.2
def g_X5_waveOf_18 (c : Nat) (x1 : Int64) (x3 : Int32) (s : Int32 × Int32 × Int32 × Int32 × Int32 × Int32 × M2) : Option ((Int32 × Int32 × Int32 × Int32 × Int32 × Int32 × M2) ⊕ ((Int32 × Int32 × Int32 × M2))) := f_X5_waveOf_18 c x1 x3 s.1 s.2.1 s.2.2.1 s.2.2.2.1 s.2.2.2.2.1 s.2.2.2.2.2.1 s.2.2.2.2.2.2
def f_X5_waveOf_124 (c : Nat) (s0 : Int32) (m : M2) : Option (Int32 × M2) :=
  some (s0, m)
def F_X5_waveOf (c : Nat) (x1 : Int64) (x3 : Int32) (m : M2) : Option (Int32 × M2) :=
  (loop (g_X5_waveOf_18 c x1 x3) ((0 : Int32), (0 : Int32), (0 : Int32), (0 : Int32), (0 : Int32), (1 : Int32), m)).bind fun e1 => if (2 : Int32) ≤ e1.1 then if x3 = 0 then some (e1.1, e1.2.2.2) else if x3 = (1 : Int32) then f_X5_waveOf_124 c e1.2.1 e1.2.2.2 else f_X5_waveOf_124 c e1.2.2.1 e1.2.2.2 else some ((-2 : Int32), e1.2.2.2)
def f_X7_isFog_32 (x0 : Nat) (x1 : Int32) (x2 : Int32) (m : M2) : Option ((Int32 × M2) ⊕ ((M2) ⊕ (M2))) :=
  (nmI (x2 + (1 : Int32))).bind fun v1 => some (Sum.inl (v1, m))
def f_X7_isFog_2 (x0 : Nat) (x1 : Int32) (x2 : Int32) (m : M2) : Option ((Int32 × M2) ⊕ ((M2) ⊕ (M2))) :=
  if (hI m x0 11) ≤ x2 then some (Sum.inr (Sum.inr m)) else (aI m (x0 + 4) 4 x2).bind fun v2 => if x1 < v2 then f_X7_isFog_32 x0 x1 x2 m else (aI m (x0 + 5) 4 x2).bind fun v5 => if v5 < x1 then f_X7_isFog_32 x0 x1 x2 m else some (Sum.inr (Sum.inl m))
def g_X7_isFog_2 (x0 : Nat) (x1 : Int32) (s : Int32 × M2) : Option ((Int32 × M2) ⊕ ((M2) ⊕ (M2))) := f_X7_isFog_2 x0 x1 s.1 s.2
def F_X7_isFog (x0 : Nat) (x1 : Int32) (m : M2) : Option (Int32 × M2) :=
  (loop (g_X7_isFog_2 x0 x1) ((0 : Int32), m)).bind fun e1 => (Sum.elim (fun e1_0 => some ((1 : Int32), e1_0)) (fun e1_1 => some ((0 : Int32), e1_1))) e1
def f_X5_mostClashing_60 (c : Nat) (x1 : Nat) (x2 : Int32) (x3 : Int64) (x5 : Int32) (x6 : Int32) (x7 : Int32) (m : M2) : Option ((Int32 × M2) ⊕ ((M2))) :=
  if (hI m c 5) ≤ x7 then some (Sum.inr m) else (aI m 27 12 x7).bind fun v2 => (bI m 27 12 x7 (v2 + ((x6 >>> (x7 &&& 31)) &&& (1 : Int32)))).bind fun m4 => (nmI (x7 + (1 : Int32))).bind fun v6 => some (Sum.inl (v6, m4))
def g_X5_mostClashing_60 (c : Nat) (x1 : Nat) (x2 : Int32) (x3 : Int64) (x5 : Int32) (x6 : Int32) (s : Int32 × M2) : Option ((Int32 × M2) ⊕ ((M2))) := f_X5_mostClashing_60 c x1 x2 x3 x5 x6 s.1 s.2
def f_X5_mostClashing_16 (c : Nat) (x1 : Nat) (x2 : Int32) (x3 : Int64) (x5 : Int32) (m : M2) : Option ((Int64 × Int32 × M2) ⊕ ((M2))) :=
  if x2 ≤ x5 then some (Sum.inr m) else (F_X7_isFog c ((hI m x1 4) + x5) m).bind fun c2 => (F_X5_stroke c x3 (x1 + 2) (hI m x1 3) c2.1 c2.2).bind fun c4 => (F_X5_clashBits c c4.1 c4.2).bind fun c6 => (loop (g_X5_mostClashing_60 c x1 x2 c4.1 x5 c6.1) ((1 : Int32), c6.2)).bind fun e8 => (nmI (x5 + (1 : Int32))).bind fun v10 => some (Sum.inl (c4.1, v10, e8))
def g_X5_mostClashing_16 (c : Nat) (x1 : Nat) (x2 : Int32) (s : Int64 × Int32 × M2) : Option ((Int64 × Int32 × M2) ⊕ ((M2))) := f_X5_mostClashing_16 c x1 x2 s.1 s.2.1 s.2.2
def f_X5_mostClashing_140 (c : Nat) (x5 : Int32) (x6 : Int32) (m : M2) : Option ((Int32 × Int32 × M2) ⊕ ((Int32 × M2))) :=
  (nmI (x6 + (1 : Int32))).bind fun v1 => some (Sum.inl (x5, v1, m))
def f_X5_mostClashing_107 (c : Nat) (x5 : Int32) (x6 : Int32) (m : M2) : Option ((Int32 × Int32 × M2) ⊕ ((Int32 × M2))) :=
  if (hI m c 5) ≤ x6 then some (Sum.inr (x5, m)) else (aI m 27 12 x6).bind fun v2 => (aI m 27 12 x5).bind fun v4 => if v2 ≤ v4 then f_X5_mostClashing_140 c x5 x6 m else f_X5_mostClashing_140 c x6 x6 m
def g_X5_mostClashing_107 (c : Nat) (s : Int32 × Int32 × M2) : Option ((Int32 × Int32 × M2) ⊕ ((Int32 × M2))) := f_X5_mostClashing_107 c s.1 s.2.1 s.2.2
def f_X5_mostClashing_158 (c : Nat) (s0 : Int32) (m : M2) : Option (Int32 × M2) :=
  some (s0, m)
def F_X5_mostClashing (c : Nat) (x1 : Nat) (x2 : Int32) (m : M2) : Option (Int32 × M2) :=
  (F_J7_fill_53178 27 12 (0 : Int32) m).bind fun c1 => (nmJ (hJ c1 x1 0)).bind fun v3 => (loop (g_X5_mostClashing_16 c x1 x2) (v3, (0 : Int32), c1)).bind fun e5 => (loop (g_X5_mostClashing_107 c) ((0 : Int32), (1 : Int32), e5)).bind fun e7 => if e7.1 = 0 then f_X5_mostClashing_158 c (-2 : Int32) e7.2 else f_X5_mostClashing_158 c e7.1 e7.2
def f_X6_isAim_25 (s0 : Int32) (m : M2) : Option (Int32 × M2) :=
  (zb s0).bind fun v1 => some (v1, m)
def f_X6_isAim_24 (m : M2) : Option (Int32 × M2) :=
  f_X6_isAim_25 (0 : Int32) m
def F_X6_isAim (x0 : Int32) (x1 : Int32) (m : M2) : Option (Int32 × M2) :=
  if x0 < 0 then f_X6_isAim_24 m else if (2 : Int32) < x0 then f_X6_isAim_24 m else if x1 < (1 : Int32) then f_X6_isAim_24 m else if (30 : Int32) < x1 then f_X6_isAim_24 m else f_X6_isAim_25 (1 : Int32) m
def f_X6_sitAsNow_2 (c : Nat) (x1 : Int32) (m : M2) : Option ((Int32 × M2) ⊕ ((M2))) :=
  if (12 : Int32) ≤ x1 then some (Sum.inr m) else (bI m 35 12 x1 x1).bind fun m2 => (nmI (x1 + (1 : Int32))).bind fun v4 => some (Sum.inl (v4, m2))
def g_X6_sitAsNow_2 (c : Nat) (s : Int32 × M2) : Option ((Int32 × M2) ⊕ ((M2))) := f_X6_sitAsNow_2 c s.1 s.2
def F_X6_sitAsNow (c : Nat) (m : M2) : Option M2 :=
  (loop (g_X6_sitAsNow_2 c) ((0 : Int32), m)).bind fun e1 => some e1
def F_J6_bitCount_0f7a4 (x0 : Int32) (m : M2) : Option (Int32 × M2) :=
  (nmI (x0 - ((x0.toUInt32 >>> ((1 : Int32).toUInt32 &&& Int32.toUInt32 31)).toInt32 &&& (1431655765 : Int32)))).bind fun v1 => (nmI ((v1 &&& (858993459 : Int32)) + ((v1.toUInt32 >>> ((2 : Int32).toUInt32 &&& Int32.toUInt32 31)).toInt32 &&& (858993459 : Int32)))).bind fun v3 => (nmI ((v3 + (v3.toUInt32 >>> ((4 : Int32).toUInt32 &&& Int32.toUInt32 31)).toInt32) &&& (252645135 : Int32))).bind fun v5 => (nmI (v5 + (v5.toUInt32 >>> ((8 : Int32).toUInt32 &&& Int32.toUInt32 31)).toInt32)).bind fun v7 => (nmI (v7 + (v7.toUInt32 >>> ((16 : Int32).toUInt32 &&& Int32.toUInt32 31)).toInt32)).bind fun v9 => some (v9 &&& (63 : Int32), m)
def f_X6_costOf_34 (c : Nat) (s0 : Int32) (m : M2) : Option (Int32 × M2) :=
  some (s0, m)
def F_X6_costOf (c : Nat) (x1 : Int32) (x2 : Int64) (m : M2) : Option (Int32 × M2) :=
  if x1 = 0 then some ((0 : Int32), m) else if x1 = (1 : Int32) then (F_X5_clashBits c x2 m).bind fun c5 => (F_J6_bitCount_0f7a4 c5.1 c5.2).bind fun c7 => f_X6_costOf_34 c c7.1 c7.2 else (F_X5_wayOf c x2 m).bind fun c3 => f_X6_costOf_34 c (-c3.1) c3.2
def f_X6_cost_6 (c : Nat) (x1 : Nat) (x2 : Int32) (x3 : Int32) (x4 : Int64) (x6 : Int32) (m : M2) : Option ((Int64 × Int32 × M2) ⊕ ((Int64 × M2))) :=
  if (hI m c 5) ≤ x6 then some (Sum.inr (x4, m)) else (aI m 35 12 x6).bind fun v2 => (F_X11_timeAt (hJ m x1 0) v2 m).bind fun c4 => (F_X11_withTime x4 x6 c4.1 c4.2).bind fun c6 => (aI c6.2 35 12 x6).bind fun v8 => (aI c6.2 (x1 + 2) 12 v8).bind fun v10 => (bI c6.2 37 12 x6 v10).bind fun m12 => (nmI (x6 + (1 : Int32))).bind fun v14 => some (Sum.inl (c6.1, v14, m12))
def g_X6_cost_6 (c : Nat) (x1 : Nat) (x2 : Int32) (x3 : Int32) (s : Int64 × Int32 × M2) : Option ((Int64 × Int32 × M2) ⊕ ((Int64 × M2))) := f_X6_cost_6 c x1 x2 x3 s.1 s.2.1 s.2.2
def f_X6_cost_151 (c : Nat) (x1 : Nat) (x2 : Int32) (x3 : Int32) (x6 : Int32) (x7 : Int32) (x8 : Int64) (m : M2) : Option ((Int64 × Int32 × Int32 × M2) ⊕ ((Int32 × Int32 × Int32 × M2) ⊕ (Int32 × M2))) :=
  (nmI (x7 + (1 : Int32))).bind fun v1 => some (Sum.inl (x8, x6, v1, m))
def f_X6_cost_75 (c : Nat) (x1 : Nat) (x2 : Int32) (x3 : Int32) (x4 : Int64) (x6 : Int32) (x7 : Int32) (m : M2) : Option ((Int64 × Int32 × Int32 × M2) ⊕ ((Int32 × Int32 × Int32 × M2) ⊕ (Int32 × M2))) :=
  if x3 < x7 then some (Sum.inr (Sum.inr (x6, m))) else (F_X5_stroke c x4 37 (hI m x1 3) (0 : Int32) m).bind fun c2 => (F_X6_costOf c x2 c2.1 c2.2).bind fun c4 => if (lg_cmp c2.1 x4) = 0 then some (Sum.inr (Sum.inl (x6, x7, c4.1, c4.2))) else if x3 ≤ x7 then f_X6_cost_151 c x1 x2 x3 x6 x7 c2.1 c4.2 else (nmI (x6 + c4.1)).bind fun v8 => f_X6_cost_151 c x1 x2 x3 v8 x7 c2.1 c4.2
def g_X6_cost_75 (c : Nat) (x1 : Nat) (x2 : Int32) (x3 : Int32) (s : Int64 × Int32 × Int32 × M2) : Option ((Int64 × Int32 × Int32 × M2) ⊕ ((Int32 × Int32 × Int32 × M2) ⊕ (Int32 × M2))) := f_X6_cost_75 c x1 x2 x3 s.1 s.2.1 s.2.2.1 s.2.2.2
def f_X6_cost_137 (c : Nat) (s0 : Int32) (m : M2) : Option (Int32 × M2) :=
  some (s0, m)
def f_X6_cost_173 (c : Nat) (s0 : Int32) (m : M2) : Option (Int32 × M2) :=
  some (s0, m)
def F_X6_cost (c : Nat) (x1 : Nat) (x2 : Int32) (x3 : Int32) (m : M2) : Option (Int32 × M2) :=
  (loop (g_X6_cost_6 c x1 x2 x3) ((0 : Int64), (0 : Int32), m)).bind fun e1 => (loop (g_X6_cost_75 c x1 x2 x3) (e1.1, (0 : Int32), (0 : Int32), e1.2)).bind fun e3 => (Sum.elim (fun e3_0 => if x2 = 0 then f_X6_cost_137 c e3_0.2.1 e3_0.2.2.2 else f_X6_cost_137 c (e3_0.1 + (e3_0.2.2.1 * (x3 - e3_0.2.1))) e3_0.2.2.2) (fun e3_1 => if x2 = 0 then f_X6_cost_173 c (x3 + (1 : Int32)) e3_1.2 else f_X6_cost_173 c e3_1.1 e3_1.2)) e3
def F_X6_swap (c : Nat) (x1 : Int32) (x2 : Int32) (m : M2) : Option M2 :=
  (aI m 35 12 x1).bind fun v1 => (aI m 35 12 x2).bind fun v3 => (bI m 35 12 x1 v3).bind fun m5 => (bI m5 35 12 x2 v1).bind fun m7 => some m7
def f_X6_goToNextOrder_4 (c : Nat) (x1 : Int32) (x2 : Int32) (m : M2) : Option ((Int32 × M2) ⊕ ((Int32 × M2))) :=
  if x2 < 0 then some (Sum.inr (x2, m)) else (aI m 35 12 x2).bind fun v2 => (aI m 35 12 (x2 + (1 : Int32))).bind fun v4 => if v2 ≤ v4 then some (Sum.inr (x2, m)) else (nmI (x2 + (-1 : Int32))).bind fun v7 => some (Sum.inl (v7, m))
def g_X6_goToNextOrder_4 (c : Nat) (x1 : Int32) (s : Int32 × M2) : Option ((Int32 × M2) ⊕ ((Int32 × M2))) := f_X6_goToNextOrder_4 c x1 s.1 s.2
def f_X6_goToNextOrder_41 (c : Nat) (x1 : Int32) (x2 : Int32) (x3 : Int32) (m : M2) : Option ((Int32 × M2) ⊕ ((Int32 × M2))) :=
  if x3 ≤ x2 then some (Sum.inr (x3, m)) else (aI m 35 12 x3).bind fun v2 => (aI m 35 12 x2).bind fun v4 => if v4 ≤ v2 then some (Sum.inr (x3, m)) else (nmI (x3 + (-1 : Int32))).bind fun v7 => some (Sum.inl (v7, m))
def g_X6_goToNextOrder_41 (c : Nat) (x1 : Int32) (x2 : Int32) (s : Int32 × M2) : Option ((Int32 × M2) ⊕ ((Int32 × M2))) := f_X6_goToNextOrder_41 c x1 x2 s.1 s.2
def f_X6_goToNextOrder_83 (c : Nat) (x4 : Int32) (x5 : Int32) (m : M2) : Option ((Int32 × Int32 × M2) ⊕ ((M2))) :=
  if x5 ≤ x4 then some (Sum.inr m) else (F_X6_swap c x4 x5 m).bind fun c2 => (nmI (x4 + (1 : Int32))).bind fun v4 => (nmI (x5 + (-1 : Int32))).bind fun v6 => some (Sum.inl (v4, v6, c2))
def g_X6_goToNextOrder_83 (c : Nat) (s : Int32 × Int32 × M2) : Option ((Int32 × Int32 × M2) ⊕ ((M2))) := f_X6_goToNextOrder_83 c s.1 s.2.1 s.2.2
def f_X6_goToNextOrder_67 (c : Nat) (x1 : Int32) (x2 : Int32) (x3 : Int32) (m : M2) : Option (Int32 × M2) :=
  (F_X6_swap c x2 x3 m).bind fun c1 => (nmI (x2 + (1 : Int32))).bind fun v3 => (nmI (x1 - (1 : Int32))).bind fun v5 => (loop (g_X6_goToNextOrder_83 c) (v3, v5, c1)).bind fun e7 => some ((1 : Int32), e7)
def f_X6_goToNextOrder_31 (c : Nat) (x1 : Int32) (x2 : Int32) (m : M2) : Option (Int32 × M2) :=
  if 0 ≤ x2 then (nmI (x1 - (1 : Int32))).bind fun v2 => (loop (g_X6_goToNextOrder_41 c x1 x2) (v2, m)).bind fun e4 => f_X6_goToNextOrder_67 c x1 x2 e4.1 e4.2 else some ((0 : Int32), m)
def F_X6_goToNextOrder (c : Nat) (x1 : Int32) (m : M2) : Option (Int32 × M2) :=
  (nmI (x1 - (2 : Int32))).bind fun v1 => (loop (g_X6_goToNextOrder_4 c x1) (v1, m)).bind fun e3 => f_X6_goToNextOrder_31 c x1 e3.1 e3.2
def f_X6_bestOrder_95 (c : Nat) (x1 : Nat) (x2 : Int32) (x3 : Int32) (x4 : Int32) (x5 : Int32) (x6 : Int32) (m : M2) : Option ((Int32 × Int32 × M2) ⊕ ((Int32 × M2))) :=
  (nmI (x6 + (1 : Int32))).bind fun v1 => some (Sum.inl (x5, v1, m))
def f_X6_bestOrder_43 (c : Nat) (x1 : Nat) (x2 : Int32) (x3 : Int32) (x4 : Int32) (x5 : Int32) (x6 : Int32) (m : M2) : Option ((Int32 × Int32 × M2) ⊕ ((Int32 × M2))) :=
  if (720 : Int32) ≤ x6 then some (Sum.inr (x5, m)) else (F_X6_goToNextOrder c x4 m).bind fun c2 => if c2.1 = 0 then some (Sum.inr (x5, c2.2)) else (F_X6_cost c x1 x2 x3 c2.2).bind fun c5 => if x5 ≤ c5.1 then f_X6_bestOrder_95 c x1 x2 x3 x4 x5 x6 c5.2 else (kC c5.2 35 12 36 12 (0 : Int32) (0 : Int32) (12 : Int32)).bind fun m8 => f_X6_bestOrder_95 c x1 x2 x3 x4 c5.1 x6 m8
def g_X6_bestOrder_43 (c : Nat) (x1 : Nat) (x2 : Int32) (x3 : Int32) (x4 : Int32) (s : Int32 × Int32 × M2) : Option ((Int32 × Int32 × M2) ⊕ ((Int32 × M2))) := f_X6_bestOrder_43 c x1 x2 x3 x4 s.1 s.2.1 s.2.2
def f_X6_bestOrder_114 (c : Nat) (s0 : Int32) (m : M2) : Option (Int32 × M2) :=
  some (s0, m)
def f_X6_bestOrder_101 (c : Nat) (x2 : Int32) (x5 : Int32) (m : M2) : Option (Int32 × M2) :=
  if x2 = (2 : Int32) then f_X6_bestOrder_114 c (-x5) m else f_X6_bestOrder_114 c x5 m
def F_X6_bestOrder (c : Nat) (x1 : Nat) (x2 : Int32) (x3 : Int32) (m : M2) : Option (Int32 × M2) :=
  (nmI (hI m c 5)).bind fun v1 => (F_X6_sitAsNow c m).bind fun c3 => (kC c3 35 12 36 12 (0 : Int32) (0 : Int32) (12 : Int32)).bind fun m5 => (F_X6_cost c x1 x2 x3 m5).bind fun c7 => (loop (g_X6_bestOrder_43 c x1 x2 x3 v1) (c7.1, (1 : Int32), c7.2)).bind fun e9 => f_X6_bestOrder_101 c x2 e9.1 e9.2
def f_X6_bestExchange_90 (c : Nat) (x1 : Nat) (x2 : Int32) (x3 : Int32) (x4 : Int32) (x5 : Int32) (x6 : Int32) (x7 : Int32) (x8 : Int32) (m : M2) : Option ((Int32 × Int32 × Int32 × M2) ⊕ ((Int32 × Int32 × M2))) :=
  (F_X6_swap c x7 x8 m).bind fun c1 => (nmI (x8 + (1 : Int32))).bind fun v3 => some (Sum.inl (x5, x6, v3, c1))
def f_X6_bestExchange_45 (c : Nat) (x1 : Nat) (x2 : Int32) (x3 : Int32) (x4 : Int32) (x5 : Int32) (x6 : Int32) (x7 : Int32) (x8 : Int32) (m : M2) : Option ((Int32 × Int32 × Int32 × M2) ⊕ ((Int32 × Int32 × M2))) :=
  if x4 ≤ x8 then some (Sum.inr (x5, x6, m)) else (F_X6_swap c x7 x8 m).bind fun c2 => (F_X6_cost c x1 x2 x3 c2).bind fun c4 => if x5 ≤ c4.1 then f_X6_bestExchange_90 c x1 x2 x3 x4 x5 x6 x7 x8 c4.2 else (nmI (((100 : Int32) * x7) + x8)).bind fun v7 => f_X6_bestExchange_90 c x1 x2 x3 x4 c4.1 v7 x7 x8 c4.2
def g_X6_bestExchange_45 (c : Nat) (x1 : Nat) (x2 : Int32) (x3 : Int32) (x4 : Int32) (x7 : Int32) (s : Int32 × Int32 × Int32 × M2) : Option ((Int32 × Int32 × Int32 × M2) ⊕ ((Int32 × Int32 × M2))) := f_X6_bestExchange_45 c x1 x2 x3 x4 s.1 s.2.1 x7 s.2.2.1 s.2.2.2
def f_X6_bestExchange_32 (c : Nat) (x1 : Nat) (x2 : Int32) (x3 : Int32) (x4 : Int32) (x5 : Int32) (x6 : Int32) (x7 : Int32) (m : M2) : Option ((Int32 × Int32 × Int32 × M2) ⊕ ((Int32 × M2))) :=
  if x4 ≤ x7 then some (Sum.inr (x6, m)) else (nmI (x7 + (1 : Int32))).bind fun v2 => (loop (g_X6_bestExchange_45 c x1 x2 x3 x4 x7) (x5, x6, v2, m)).bind fun e4 => (nmI (x7 + (1 : Int32))).bind fun v6 => some (Sum.inl (e4.1, e4.2.1, v6, e4.2.2))
def g_X6_bestExchange_32 (c : Nat) (x1 : Nat) (x2 : Int32) (x3 : Int32) (x4 : Int32) (s : Int32 × Int32 × Int32 × M2) : Option ((Int32 × Int32 × Int32 × M2) ⊕ ((Int32 × M2))) := f_X6_bestExchange_32 c x1 x2 x3 x4 s.1 s.2.1 s.2.2.1 s.2.2.2
def F_X6_bestExchange (c : Nat) (x1 : Nat) (x2 : Int32) (x3 : Int32) (m : M2) : Option (Int32 × M2) :=
  (nmI (hI m c 5)).bind fun v1 => (F_X6_sitAsNow c m).bind fun c3 => (F_X6_cost c x1 x2 x3 c3).bind fun c5 => (loop (g_X6_bestExchange_32 c x1 x2 x3 v1) (c5.1, (-2 : Int32), (0 : Int32), c5.2)).bind fun e7 => some (e7.1, e7.2)
def f_X9_findRound_12 (c : Nat) (x1 : Nat) (x2 : Int32) (m : M2) : Option ((Int32 × M2) ⊕ ((Int32 × M2) ⊕ (M2))) :=
  if (400 : Int32) < x2 then some (Sum.inr (Sum.inr m)) else (aJ m 40 401 (x2 - (1 : Int32))).bind fun v2 => (F_X5_stroke c v2 (x1 + 2) (hI m x1 3) (0 : Int32) m).bind fun c4 => (bJ c4.2 40 401 x2 c4.1).bind fun m6 => (aJ m6 40 401 x2).bind fun v8 => (aJ m6 40 401 (x2 - (1 : Int32))).bind fun v10 => if (lg_cmp v8 v10) = 0 then some (Sum.inr (Sum.inl (x2, m6))) else (nmI (x2 + (1 : Int32))).bind fun v13 => some (Sum.inl (v13, m6))
def g_X9_findRound_12 (c : Nat) (x1 : Nat) (s : Int32 × M2) : Option ((Int32 × M2) ⊕ ((Int32 × M2) ⊕ (M2))) := f_X9_findRound_12 c x1 s.1 s.2
def f_X9_findRound_92 (c : Nat) (m : M2) : Option ((M2) ⊕ ((M2))) :=
  if (400 : Int32) < (hI m 39 2) then some (Sum.inr m) else (aJ m 40 401 ((400 : Int32) - (hI m 39 2))).bind fun v2 => (aJ m 40 401 (400 : Int32)).bind fun v4 => if (lg_cmp v2 v4) = 0 then some (Sum.inr m) else (qI m 39 2 ((hI m 39 2) + (1 : Int32))).bind fun m7 => some (Sum.inl m7)
def g_X9_findRound_92 (c : Nat) (s : M2) : Option ((M2) ⊕ ((M2))) := f_X9_findRound_92 c s
def f_X9_findRound_145 (c : Nat) (m : M2) : Option ((M2) ⊕ ((M2))) :=
  if (400 : Int32) ≤ ((hI m 39 3) + (hI m 39 2)) then some (Sum.inr m) else (aJ m 40 401 (hI m 39 3)).bind fun v2 => (aJ m 40 401 ((hI m 39 3) + (hI m 39 2))).bind fun v4 => if (lg_cmp v2 v4) = 0 then some (Sum.inr m) else (qI m 39 3 ((hI m 39 3) + (1 : Int32))).bind fun m7 => some (Sum.inl m7)
def g_X9_findRound_145 (c : Nat) (s : M2) : Option ((M2) ⊕ ((M2))) := f_X9_findRound_145 c s
def f_X9_findRound_215 (c : Nat) (s0 : Int32) (m : M2) : Option (Int32 × M2) :=
  (zb s0).bind fun v1 => some (v1, m)
def f_X9_findRound_200 (c : Nat) (m : M2) : Option (Int32 × M2) :=
  if (400 : Int32) < (hI m 39 2) then f_X9_findRound_215 c (0 : Int32) m else f_X9_findRound_215 c (1 : Int32) m
def f_X9_findRound_140 (c : Nat) (m : M2) : Option (Int32 × M2) :=
  (qI m 39 3 (0 : Int32)).bind fun m1 => (loop (g_X9_findRound_145 c) m1).bind fun e3 => f_X9_findRound_200 c e3
def F_X9_findRound (c : Nat) (x1 : Nat) (m : M2) : Option (Int32 × M2) :=
  (bJ m 40 401 (0 : Int32) (hJ m x1 0)).bind fun m1 => (loop (g_X9_findRound_12 c x1) ((1 : Int32), m1)).bind fun e3 => (Sum.elim (fun e3_0 => (qI e3_0.2 39 2 (1 : Int32)).bind fun m5 => (qI m5 39 3 (e3_0.1 - (1 : Int32))).bind fun m7 => some ((1 : Int32), m7)) (fun e3_1 => (qI e3_1 39 2 (1 : Int32)).bind fun m9 => (loop (g_X9_findRound_92 c) m9).bind fun e11 => f_X9_findRound_140 c e11)) e3
def f_X9_wayBehind_80 (c : Nat) (x1 : Nat) (x2 : Int32) (x3 : Int32) (x4 : Int32) (x5 : Int64) (x7 : Int32) (m : M2) : Option ((Int64 × Int32 × M2) ⊕ ((M2) ⊕ (Int64 × M2))) :=
  (nmI (x7 + (1 : Int32))).bind fun v1 => some (Sum.inl (x5, v1, m))
def f_X9_wayBehind_13 (c : Nat) (x1 : Nat) (x2 : Int32) (x3 : Int32) (x4 : Int32) (x5 : Int64) (x7 : Int32) (m : M2) : Option ((Int64 × Int32 × M2) ⊕ ((M2) ⊕ (Int64 × M2))) :=
  if x3 < x7 then some (Sum.inr (Sum.inr (x5, m))) else (F_X7_isFog c (((hI m x1 4) + x7) - (1 : Int32)) m).bind fun c2 => (F_X5_stroke c x5 (x1 + 2) x4 c2.1 c2.2).bind fun c4 => if x7 = x2 then if x3 ≤ x2 then f_X9_wayBehind_80 c x1 x2 x3 x4 c4.1 x7 c4.2 else (aJ c4.2 40 401 x2).bind fun v8 => if (lg_cmp c4.1 v8) = 0 then some (Sum.inr (Sum.inl c4.2)) else f_X9_wayBehind_80 c x1 x2 x3 x4 c4.1 x7 c4.2 else f_X9_wayBehind_80 c x1 x2 x3 x4 c4.1 x7 c4.2
def g_X9_wayBehind_13 (c : Nat) (x1 : Nat) (x2 : Int32) (x3 : Int32) (x4 : Int32) (s : Int64 × Int32 × M2) : Option ((Int64 × Int32 × M2) ⊕ ((M2) ⊕ (Int64 × M2))) := f_X9_wayBehind_13 c x1 x2 x3 x4 s.1 s.2.1 s.2.2
def F_X9_wayBehind (c : Nat) (x1 : Nat) (x2 : Int32) (x3 : Int32) (x4 : Int32) (m : M2) : Option (Int32 × M2) :=
  (aJ m 40 401 (x2 - (1 : Int32))).bind fun v1 => (loop (g_X9_wayBehind_13 c x1 x2 x3 x4) (v1, x2, m)).bind fun e3 => (Sum.elim (fun e3_0 => some ((0 : Int32), e3_0)) (fun e3_1 => (F_X5_wayOf c e3_1.1 e3_1.2).bind fun c5 => some (c5.1, c5.2))) e3
def f_X9_planRam_20 (c : Nat) (x1 : Nat) (x3 : Int32) (x4 : Int32) (m : M2) : Option ((Int32 × M2) ⊕ ((M2))) :=
  if x3 ≤ x4 then some (Sum.inr m) else (aJ m 40 401 (x4 - (1 : Int32))).bind fun v2 => (F_X7_isFog c (((hI m x1 4) + x4) - (1 : Int32)) m).bind fun c4 => (F_X5_stroke c v2 (x1 + 2) (hI m x1 3) c4.1 c4.2).bind fun c6 => (bJ c6.2 40 401 x4 c6.1).bind fun m8 => (nmI (x4 + (1 : Int32))).bind fun v10 => some (Sum.inl (v10, m8))
def g_X9_planRam_20 (c : Nat) (x1 : Nat) (x3 : Int32) (s : Int32 × M2) : Option ((Int32 × M2) ⊕ ((M2))) := f_X9_planRam_20 c x1 x3 s.1 s.2
def f_X9_planRam_187 (c : Nat) (x1 : Nat) (x3 : Int32) (x4 : Int32) (x5 : Int32) (m : M2) : Option ((Int32 × M2) ⊕ ((M2))) :=
  (nmI (x5 + (1 : Int32))).bind fun v1 => some (Sum.inl (v1, m))
def f_X9_planRam_116 (c : Nat) (x1 : Nat) (x3 : Int32) (x4 : Int32) (x5 : Int32) (m : M2) : Option ((Int32 × M2) ⊕ ((M2))) :=
  if (hI m c 0) ≤ x5 then some (Sum.inr m) else if (hI m c 5) ≤ (hI m 39 4) then some (Sum.inr m) else (F_X9_wayBehind c x1 x4 x3 x5 m).bind fun c3 => if c3.1 ≤ (hI c3.2 39 4) then f_X9_planRam_187 c x1 x3 x4 x5 c3.2 else (qI c3.2 39 4 c3.1).bind fun m6 => (qI m6 39 5 x4).bind fun m8 => (qI m8 39 6 x5).bind fun m10 => f_X9_planRam_187 c x1 x3 x4 x5 m10
def g_X9_planRam_116 (c : Nat) (x1 : Nat) (x3 : Int32) (x4 : Int32) (s : Int32 × M2) : Option ((Int32 × M2) ⊕ ((M2))) := f_X9_planRam_116 c x1 x3 x4 s.1 s.2
def f_X9_planRam_193 (c : Nat) (x1 : Nat) (x3 : Int32) (x4 : Int32) (m : M2) : Option ((Int32 × M2) ⊕ ((M2))) :=
  (nmI (x4 + (-1 : Int32))).bind fun v1 => some (Sum.inl (v1, m))
def f_X9_planRam_90 (c : Nat) (x1 : Nat) (x3 : Int32) (x4 : Int32) (m : M2) : Option ((Int32 × M2) ⊕ ((M2))) :=
  if x4 < (1 : Int32) then some (Sum.inr m) else if (hI m c 5) ≤ (hI m 39 4) then some (Sum.inr m) else (loop (g_X9_planRam_116 c x1 x3 x4) ((0 : Int32), m)).bind fun e3 => f_X9_planRam_193 c x1 x3 x4 e3
def g_X9_planRam_90 (c : Nat) (x1 : Nat) (x3 : Int32) (s : Int32 × M2) : Option ((Int32 × M2) ⊕ ((M2))) := f_X9_planRam_90 c x1 x3 s.1 s.2
def f_X9_planRam_199 (c : Nat) (m : M2) : Option M2 :=
  some m
def F_X9_planRam (c : Nat) (x1 : Nat) (x2 : Int32) (m : M2) : Option M2 :=
  (nmI (mnI x2 (60 : Int32))).bind fun v1 => (bJ m 40 401 (0 : Int32) (hJ m x1 0)).bind fun m3 => (loop (g_X9_planRam_20 c x1 v1) ((1 : Int32), m3)).bind fun e5 => (qI e5 39 4 (0 : Int32)).bind fun m7 => (loop (g_X9_planRam_90 c x1 v1) (v1, m7)).bind fun e9 => f_X9_planRam_199 c e9
def f_X9_weighed_147 (E : Nat → Nat → Int64 → Int32 → Int32 → Int32 → M2 → Option (Int64 × M2)) (c : Nat) (x11 : Int64) (m : M2) : Option (Int64 × M2) :=
  some (x11, m)
def f_X9_weighed_113 (E : Nat → Nat → Int64 → Int32 → Int32 → Int32 → M2 → Option (Int64 × M2)) (c : Nat) (x1 : Nat) (x4 : Int32) (x5 : Int32) (x6 : Int32) (x9 : Int64) (x11 : Int64) (m : M2) : Option (Int64 × M2) :=
  if x6 ≤ x5 then f_X9_weighed_147 E c x11 m else (E c x1 x9 (x4 - (1 : Int32)) x5 x6 m).bind fun c2 => (nmJ (x11 + ((x6 - x5).toInt64 * c2.1))).bind fun v4 => f_X9_weighed_147 E c v4 c2.2
def B_X9_weighed (E : Nat → Nat → Int64 → Int32 → Int32 → Int32 → M2 → Option (Int64 × M2)) (c : Nat) (x1 : Nat) (x2 : Int64) (x4 : Int32) (x5 : Int32) (x6 : Int32) (m : M2) : Option (Int64 × M2) :=
  if 0 < x4 then (F_X5_stroke c x2 (x1 + 2) (hI m x1 3) (1 : Int32) m).bind fun c2 => (F_X5_stroke c x2 (x1 + 2) (hI c2.2 x1 3) (0 : Int32) c2.2).bind fun c4 => if (lg_cmp c2.1 c4.1) = 0 then (E c x1 c4.1 (x4 - (1 : Int32)) x5 x6 c4.2).bind fun c12 => some (x6.toInt64 * c12.1, c12.2) else if x5 ≤ 0 then f_X9_weighed_113 E c x1 x4 x5 x6 c4.1 (0 : Int64) c4.2 else (E c x1 c2.1 (x4 - (1 : Int32)) x5 x6 c4.2).bind fun c8 => (nmJ ((0 : Int64) + (x5.toInt64 * c8.1))).bind fun v10 => f_X9_weighed_113 E c x1 x4 x5 x6 c4.1 v10 c8.2 else (F_X5_wayOf c x2 m).bind fun c14 => some (c14.1.toInt64, c14.2)
def F_X9_weighed : Nat → Nat → Nat → Int64 → Int32 → Int32 → Int32 → M2 → Option (Int64 × M2)
  | 0, _, _, _, _, _, _, _ => none
  | n + 1, c, x1, x2, x4, x5, x6, m => B_X9_weighed (F_X9_weighed n) c x1 x2 x4 x5 x6 m
def f_X10_isStroke_15 (s0 : Int32) (m : M2) : Option (Int32 × M2) :=
  (zb s0).bind fun v1 => some (v1, m)
def f_X10_isStroke_14 (m : M2) : Option (Int32 × M2) :=
  f_X10_isStroke_15 (0 : Int32) m
def F_X10_isStroke (x0 : Int32) (m : M2) : Option (Int32 × M2) :=
  if x0 < 0 then f_X10_isStroke_14 m else if (99 : Int32) < x0 then f_X10_isStroke_14 m else f_X10_isStroke_15 (1 : Int32) m
def f_X10_isQuestion_26 (c : Nat) (s0 : Int32) (m : M2) : Option (Int32 × M2) :=
  (zb s0).bind fun v1 => some (v1, m)
def f_X10_isQuestion_25 (c : Nat) (m : M2) : Option (Int32 × M2) :=
  f_X10_isQuestion_26 c (0 : Int32) m
def F_X10_isQuestion (c : Nat) (x1 : Int32) (x2 : Int32) (m : M2) : Option (Int32 × M2) :=
  if x1 < 0 then f_X10_isQuestion_25 c m else if (2 : Int32) < x1 then f_X10_isQuestion_25 c m else if x2 < 0 then f_X10_isQuestion_25 c m else if (hI m 41 1) < x2 then f_X10_isQuestion_25 c m else f_X10_isQuestion_26 c (1 : Int32) m
def f_X10_note_48 (c : Nat) (s1 : Int32) (s2 : Int32) (m : M2) : Option (Int32 × M2) :=
  (bI m 44 20 s1 s2).bind fun m1 => (qI m1 41 1 ((hI m1 41 1) + (1 : Int32))).bind fun m3 => some ((hI m3 41 1) - (1 : Int32), m3)
def F_X10_note (c : Nat) (x1 : Int32) (x2 : Int32) (x3 : Int32) (m : M2) : Option (Int32 × M2) :=
  if (hI m 41 1) < (20 : Int32) then (bI m 42 20 (hI m 41 1) x1).bind fun m2 => (bI m2 43 20 (hI m2 41 1) x2).bind fun m4 => if x3 = 0 then f_X10_note_48 c (hI m4 41 1) (0 : Int32) m4 else f_X10_note_48 c (hI m4 41 1) (1 : Int32) m4 else some ((-1 : Int32), m)
def f_X10_breakMen_46 (c : Nat) (x1 : Int32) (x2 : Int32) (s1 : Int32) (s2 : Int32) (m : M2) : Option ((Int32 × M2) ⊕ ((M2))) :=
  (bI m 45 12 s1 s2).bind fun m1 => (nmI (x2 + (1 : Int32))).bind fun v3 => some (Sum.inl (v3, m1))
def f_X10_breakMen_2 (c : Nat) (x1 : Int32) (x2 : Int32) (m : M2) : Option ((Int32 × M2) ⊕ ((M2))) :=
  if (hI m c 5) ≤ x2 then some (Sum.inr m) else if ((x1 >>> (x2 &&& 31)) &&& (1 : Int32)) = (1 : Int32) then f_X10_breakMen_46 c x1 x2 x2 (-1 : Int32) m else (aI m (c + 3) 12 x2).bind fun v3 => f_X10_breakMen_46 c x1 x2 x2 v3 m
def g_X10_breakMen_2 (c : Nat) (x1 : Int32) (s : Int32 × M2) : Option ((Int32 × M2) ⊕ ((M2))) := f_X10_breakMen_2 c x1 s.1 s.2
def F_X10_breakMen (c : Nat) (x1 : Int32) (m : M2) : Option M2 :=
  (loop (g_X10_breakMen_2 c x1) ((0 : Int32), m)).bind fun e1 => some e1
def f_X10_lastKnown_4 (c : Nat) (x1 : Int32) (x2 : Int32) (x3 : Int32) (m : M2) : Option ((Int32 × Int32 × M2) ⊕ ((Int32 × M2))) :=
  if x1 ≤ x3 then some (Sum.inr (x2, m)) else if (20 : Int32) ≤ x3 then some (Sum.inr (x2, m)) else (aI m 42 20 x3).bind fun v3 => (nmI (mxI x2 v3)).bind fun v5 => (nmI (x3 + (1 : Int32))).bind fun v7 => some (Sum.inl (v5, v7, m))
def g_X10_lastKnown_4 (c : Nat) (x1 : Int32) (s : Int32 × Int32 × M2) : Option ((Int32 × Int32 × M2) ⊕ ((Int32 × M2))) := f_X10_lastKnown_4 c x1 s.1 s.2.1 s.2.2
def f_X10_lastKnown_32 (c : Nat) (x2 : Int32) (m : M2) : Option (Int32 × M2) :=
  some (x2, m)
def F_X10_lastKnown (c : Nat) (x1 : Int32) (m : M2) : Option (Int32 × M2) :=
  (loop (g_X10_lastKnown_4 c x1) ((-1 : Int32), (0 : Int32), m)).bind fun e1 => f_X10_lastKnown_32 c e1.1 e1.2
def f_X10_agrees_50 (c : Nat) (x1 : Int32) (x2 : Int32) (x3 : Int32) (x4 : Int32) (m : M2) : Option ((Int32 × M2) ⊕ ((M2) ⊕ (M2))) :=
  (nmI (x4 + (1 : Int32))).bind fun v1 => some (Sum.inl (v1, m))
def f_X10_agrees_3 (c : Nat) (x1 : Int32) (x2 : Int32) (x3 : Int32) (x4 : Int32) (m : M2) : Option ((Int32 × M2) ⊕ ((M2) ⊕ (M2))) :=
  if x3 ≤ x4 then some (Sum.inr (Sum.inr m)) else if (20 : Int32) ≤ x4 then some (Sum.inr (Sum.inr m)) else (aI m 42 20 x4).bind fun v3 => if v3 = x2 then (aI m 43 20 x4).bind fun v6 => (aI m 44 20 x4).bind fun v8 => if ((x1 >>> (v6 &&& 31)) &&& (1 : Int32)) = v8 then f_X10_agrees_50 c x1 x2 x3 x4 m else some (Sum.inr (Sum.inl m)) else f_X10_agrees_50 c x1 x2 x3 x4 m
def g_X10_agrees_3 (c : Nat) (x1 : Int32) (x2 : Int32) (x3 : Int32) (s : Int32 × M2) : Option ((Int32 × M2) ⊕ ((M2) ⊕ (M2))) := f_X10_agrees_3 c x1 x2 x3 s.1 s.2
def f_X10_agrees_56 (c : Nat) (m : M2) : Option (Int32 × M2) :=
  some ((1 : Int32), m)
def F_X10_agrees (c : Nat) (x1 : Int32) (x2 : Int32) (x3 : Int32) (m : M2) : Option (Int32 × M2) :=
  (loop (g_X10_agrees_3 c x1 x2 x3) ((0 : Int32), m)).bind fun e1 => (Sum.elim (fun e1_0 => some ((0 : Int32), e1_0)) (fun e1_1 => f_X10_agrees_56 c e1_1)) e1
def f_X10_isSuspect_37 (c : Nat) (x3 : Int32) (x4 : Int32) (x5 : Int64) (x7 : Int32) (m : M2) : Option ((Int64 × Int32 × M2) ⊕ ((M2) ⊕ (M2))) :=
  if x4 < x7 then some (Sum.inr (Sum.inr m)) else (F_X5_clashBits c x5 m).bind fun c2 => (F_X10_agrees c c2.1 x7 x3 c2.2).bind fun c4 => if c4.1 = 0 then some (Sum.inr (Sum.inl c4.2)) else (F_X7_isFog c x7 c4.2).bind fun c7 => (F_X5_stroke c x5 45 (hI c4.2 c 8) c7.1 c7.2).bind fun c9 => (nmI (x7 + (1 : Int32))).bind fun v11 => some (Sum.inl (c9.1, v11, c9.2))
def g_X10_isSuspect_37 (c : Nat) (x3 : Int32) (x4 : Int32) (s : Int64 × Int32 × M2) : Option ((Int64 × Int32 × M2) ⊕ ((M2) ⊕ (M2))) := f_X10_isSuspect_37 c x3 x4 s.1 s.2.1 s.2.2
def F_X10_isSuspect (c : Nat) (x1 : Int32) (x2 : Int32) (x3 : Int32) (m : M2) : Option (Int32 × M2) :=
  (F_J6_bitCount_0f7a4 x1 m).bind fun c1 => if c1.1 = x2 then (F_X10_breakMen c x1 c1.2).bind fun c4 => (F_X10_lastKnown c x3 c4).bind fun c6 => (nmJ (hJ c6.2 c 7)).bind fun v8 => (loop (g_X10_isSuspect_37 c x3 c6.1) (v8, (0 : Int32), c6.2)).bind fun e10 => (Sum.elim (fun e10_0 => some ((0 : Int32), e10_0)) (fun e10_1 => some ((1 : Int32), e10_1))) e10 else some ((0 : Int32), c1.2)
def f_X10_countSets_36 (c : Nat) (x1 : Int32) (x2 : Int32) (x3 : Int32) (x4 : Int32) (m : M2) : Option ((Int32 × Int32 × M2) ⊕ ((Int32 × M2))) :=
  (nmI (x4 + (1 : Int32))).bind fun v1 => some (Sum.inl (x3, v1, m))
def f_X10_countSets_5 (c : Nat) (x1 : Int32) (x2 : Int32) (x3 : Int32) (x4 : Int32) (m : M2) : Option ((Int32 × Int32 × M2) ⊕ ((Int32 × M2))) :=
  if ((1 : Int32) <<< ((hI m c 5) &&& 31)) ≤ x4 then some (Sum.inr (x3, m)) else (F_X10_isSuspect c x4 x1 x2 m).bind fun c2 => if c2.1 = 0 then f_X10_countSets_36 c x1 x2 x3 x4 c2.2 else (nmI (x3 + (1 : Int32))).bind fun v5 => f_X10_countSets_36 c x1 x2 v5 x4 c2.2
def g_X10_countSets_5 (c : Nat) (x1 : Int32) (x2 : Int32) (s : Int32 × Int32 × M2) : Option ((Int32 × Int32 × M2) ⊕ ((Int32 × M2))) := f_X10_countSets_5 c x1 x2 s.1 s.2.1 s.2.2
def F_X10_countSets (c : Nat) (x1 : Int32) (x2 : Int32) (m : M2) : Option (Int32 × M2) :=
  (loop (g_X10_countSets_5 c x1 x2) ((0 : Int32), (0 : Int32), m)).bind fun e1 => some (e1.1, e1.2)
def f_X10_setNumber_46 (c : Nat) (x1 : Int32) (x2 : Int32) (x3 : Int32) (x4 : Int32) (x5 : Int32) (m : M2) : Option ((Int32 × Int32 × M2) ⊕ ((Int32 × M2) ⊕ (M2))) :=
  (nmI (x5 + (1 : Int32))).bind fun v1 => some (Sum.inl (x4, v1, m))
def f_X10_setNumber_6 (c : Nat) (x1 : Int32) (x2 : Int32) (x3 : Int32) (x4 : Int32) (x5 : Int32) (m : M2) : Option ((Int32 × Int32 × M2) ⊕ ((Int32 × M2) ⊕ (M2))) :=
  if ((1 : Int32) <<< ((hI m c 5) &&& 31)) ≤ x5 then some (Sum.inr (Sum.inr m)) else (F_X10_isSuspect c x5 x1 x2 m).bind fun c2 => if c2.1 = 0 then f_X10_setNumber_46 c x1 x2 x3 x4 x5 c2.2 else if x4 = x3 then some (Sum.inr (Sum.inl (x5, c2.2))) else (nmI (x4 + (1 : Int32))).bind fun v6 => f_X10_setNumber_46 c x1 x2 x3 v6 x5 c2.2
def g_X10_setNumber_6 (c : Nat) (x1 : Int32) (x2 : Int32) (x3 : Int32) (s : Int32 × Int32 × M2) : Option ((Int32 × Int32 × M2) ⊕ ((Int32 × M2) ⊕ (M2))) := f_X10_setNumber_6 c x1 x2 x3 s.1 s.2.1 s.2.2
def F_X10_setNumber (c : Nat) (x1 : Int32) (x2 : Int32) (x3 : Int32) (m : M2) : Option (Int32 × M2) :=
  (loop (g_X10_setNumber_6 c x1 x2 x3) ((0 : Int32), (0 : Int32), m)).bind fun e1 => (Sum.elim (fun e1_0 => some (e1_0.1, e1_0.2)) (fun e1_1 => some ((-1 : Int32), e1_1))) e1
def f_X10_clashesAt_19 (c : Nat) (x2 : Int32) (x3 : Int64) (x5 : Int32) (m : M2) : Option ((Int64 × Int32 × M2) ⊕ ((Int64 × M2))) :=
  if x2 ≤ x5 then some (Sum.inr (x3, m)) else (F_X7_isFog c x5 m).bind fun c2 => (F_X5_stroke c x3 45 (hI m c 8) c2.1 c2.2).bind fun c4 => (nmI (x5 + (1 : Int32))).bind fun v6 => some (Sum.inl (c4.1, v6, c4.2))
def g_X10_clashesAt_19 (c : Nat) (x2 : Int32) (s : Int64 × Int32 × M2) : Option ((Int64 × Int32 × M2) ⊕ ((Int64 × M2))) := f_X10_clashesAt_19 c x2 s.1 s.2.1 s.2.2
def F_X10_clashesAt (c : Nat) (x1 : Int32) (x2 : Int32) (m : M2) : Option (Int32 × M2) :=
  (F_X10_breakMen c x1 m).bind fun c1 => (nmJ (hJ c1 c 7)).bind fun v3 => (loop (g_X10_clashesAt_19 c x2) (v3, (0 : Int32), c1)).bind fun e5 => (F_X5_clashBits c e5.1 e5.2).bind fun c7 => some (c7.1, c7.2)
def F_X10_greaterPart (c : Nat) (x1 : Int32) (x2 : Int32) (m : M2) : Option (Int32 × M2) :=
  (aI m 46 12 x1).bind fun v1 => (aI m 46 12 x1).bind fun v3 => some (mxI v1 (x2 - v3), m)
def f_X10_evenestBench_61 (c : Nat) (x1 : Int32) (x2 : Int32) (x3 : Int32) (x4 : Int32) (x5 : Int32) (x6 : Int32) (x7 : Int32) (x8 : Int32) (m : M2) : Option ((Int32 × M2) ⊕ ((M2))) :=
  if x4 ≤ x8 then some (Sum.inr m) else (aI m 46 12 x8).bind fun v2 => (bI m 46 12 x8 (v2 + ((x7 >>> (x8 &&& 31)) &&& (1 : Int32)))).bind fun m4 => (nmI (x8 + (1 : Int32))).bind fun v6 => some (Sum.inl (v6, m4))
def g_X10_evenestBench_61 (c : Nat) (x1 : Int32) (x2 : Int32) (x3 : Int32) (x4 : Int32) (x5 : Int32) (x6 : Int32) (x7 : Int32) (s : Int32 × M2) : Option ((Int32 × M2) ⊕ ((M2))) := f_X10_evenestBench_61 c x1 x2 x3 x4 x5 x6 x7 s.1 s.2
def f_X10_evenestBench_91 (c : Nat) (x1 : Int32) (x2 : Int32) (x3 : Int32) (x4 : Int32) (x5 : Int32) (x6 : Int32) (m : M2) : Option ((Int32 × Int32 × M2) ⊕ ((Int32 × M2))) :=
  (nmI (x6 + (1 : Int32))).bind fun v1 => some (Sum.inl (x5, v1, m))
def f_X10_evenestBench_26 (c : Nat) (x1 : Int32) (x2 : Int32) (x3 : Int32) (x4 : Int32) (x5 : Int32) (x6 : Int32) (m : M2) : Option ((Int32 × Int32 × M2) ⊕ ((Int32 × M2))) :=
  if ((1 : Int32) <<< (x4 &&& 31)) ≤ x6 then some (Sum.inr (x5, m)) else (F_X10_isSuspect c x6 x1 x2 m).bind fun c2 => if c2.1 = 0 then f_X10_evenestBench_91 c x1 x2 x3 x4 x5 x6 c2.2 else (nmI (x5 + (1 : Int32))).bind fun v5 => (F_X10_clashesAt c x6 x3 c2.2).bind fun c7 => (loop (g_X10_evenestBench_61 c x1 x2 x3 x4 v5 x6 c7.1) ((1 : Int32), c7.2)).bind fun e9 => f_X10_evenestBench_91 c x1 x2 x3 x4 v5 x6 e9
def g_X10_evenestBench_26 (c : Nat) (x1 : Int32) (x2 : Int32) (x3 : Int32) (x4 : Int32) (s : Int32 × Int32 × M2) : Option ((Int32 × Int32 × M2) ⊕ ((Int32 × M2))) := f_X10_evenestBench_26 c x1 x2 x3 x4 s.1 s.2.1 s.2.2
def f_X10_evenestBench_108 (c : Nat) (m : M2) : Option (Int32 × M2) :=
  some ((-2 : Int32), m)
def f_X10_evenestBench_147 (c : Nat) (x4 : Int32) (x5 : Int32) (x6 : Int32) (x7 : Int32) (m : M2) : Option ((Int32 × Int32 × M2) ⊕ ((Int32 × M2))) :=
  (nmI (x7 + (1 : Int32))).bind fun v1 => some (Sum.inl (x6, v1, m))
def f_X10_evenestBench_117 (c : Nat) (x4 : Int32) (x5 : Int32) (x6 : Int32) (x7 : Int32) (m : M2) : Option ((Int32 × Int32 × M2) ⊕ ((Int32 × M2))) :=
  if x4 ≤ x7 then some (Sum.inr (x6, m)) else (F_X10_greaterPart c x7 x5 m).bind fun c2 => (F_X10_greaterPart c x6 x5 c2.2).bind fun c4 => if c4.1 ≤ c2.1 then f_X10_evenestBench_147 c x4 x5 x6 x7 c4.2 else f_X10_evenestBench_147 c x4 x5 x7 x7 c4.2
def g_X10_evenestBench_117 (c : Nat) (x4 : Int32) (x5 : Int32) (s : Int32 × Int32 × M2) : Option ((Int32 × Int32 × M2) ⊕ ((Int32 × M2))) := f_X10_evenestBench_117 c x4 x5 s.1 s.2.1 s.2.2
def F_X10_evenestBench (c : Nat) (x1 : Int32) (x2 : Int32) (x3 : Int32) (m : M2) : Option (Int32 × M2) :=
  (nmI (hI m c 5)).bind fun v1 => (F_J7_fill_53178 46 12 (0 : Int32) m).bind fun c3 => (loop (g_X10_evenestBench_26 c x1 x2 x3 v1) ((0 : Int32), (0 : Int32), c3)).bind fun e5 => if e5.1 = 0 then f_X10_evenestBench_108 c e5.2 else if (2 : Int32) ≤ v1 then (loop (g_X10_evenestBench_117 c v1 e5.1) ((1 : Int32), (2 : Int32), e5.2)).bind fun e9 => some (e9.1, e9.2) else f_X10_evenestBench_108 c e5.2
def f_X11_tapeWord_3 (c : Nat) (x1 : Int32) (x2 : Int32) (m : M2) : Option ((Int32 × M2) ⊕ ((M2))) :=
  if x2 < 0 then some (Sum.inr m) else (bB m 1 2000 (hI m 0 1) (x1.toUInt32 >>> (x2.toUInt32 &&& Int32.toUInt32 31)).toInt32.toInt8.toInt32).bind fun m2 => (qI m2 0 1 ((hI m2 0 1) + (1 : Int32))).bind fun m4 => (nmI (x2 + (-8 : Int32))).bind fun v6 => some (Sum.inl (v6, m4))
def g_X11_tapeWord_3 (c : Nat) (x1 : Int32) (s : Int32 × M2) : Option ((Int32 × M2) ⊕ ((M2))) := f_X11_tapeWord_3 c x1 s.1 s.2
def F_X11_tapeWord (c : Nat) (x1 : Int32) (m : M2) : Option M2 :=
  (loop (g_X11_tapeWord_3 c x1) ((24 : Int32), m)).bind fun e1 => some e1
def F_X11_feed (c : Nat) (x1 : Int32) (x2 : Int32) (x3 : Int32) (x4 : Int32) (x5 : Int32) (m : M2) : Option (Int32 × M2) :=
  if (hI m 0 1) ≤ (1980 : Int32) then (F_X11_tapeWord c x1 m).bind fun c2 => (F_X11_tapeWord c x2 c2).bind fun c4 => (F_X11_tapeWord c x3 c4).bind fun c6 => (F_X11_tapeWord c x4 c6).bind fun c8 => (F_X11_tapeWord c x5 c8).bind fun c10 => some (hI c10 0 1, c10) else some ((-1 : Int32), m)
def f_X11_back_12 (c : Nat) (m : M2) : Option (Int32 × M2) :=
  some ((-1 : Int32), m)
def F_X11_back (c : Nat) (x1 : Int32) (m : M2) : Option (Int32 × M2) :=
  if x1 < 0 then f_X11_back_12 c m else if x1 ≤ (hI m 0 1) then (qI m 0 1 ((hI m 0 1) - x1)).bind fun m3 => some (hI m3 0 1, m3) else f_X11_back_12 c m
def F_X11_place (c : Nat) (m : M2) : Option (Int32 × M2) :=
  some (hI m 14 5, m)
def f_X11_isBench_20 (c : Nat) (s0 : Int32) (m : M2) : Option (Int32 × M2) :=
  (zb s0).bind fun v1 => some (v1, m)
def f_X11_isBench_19 (c : Nat) (m : M2) : Option (Int32 × M2) :=
  f_X11_isBench_20 c (0 : Int32) m
def F_X11_isBench (c : Nat) (x1 : Int32) (m : M2) : Option (Int32 × M2) :=
  if x1 < 0 then f_X11_isBench_19 c m else if (hI m c 5) ≤ x1 then f_X11_isBench_19 c m else f_X11_isBench_20 c (1 : Int32) m
def F_X11_bench (c : Nat) (x1 : Int32) (x2 : Int32) (m : M2) : Option (Int32 × M2) :=
  (F_X11_isBench c x1 m).bind fun c1 => if c1.1 = 0 then some ((-1 : Int32), c1.2) else (F_X11_timeAt (hJ c1.2 28 0) x1 c1.2).bind fun c4 => if x2 = (0 : Int32) then some (c4.1, c4.2) else if x2 = (1 : Int32) then (aI c4.2 (28 + 1) 12 x1).bind fun v8 => some (v8, c4.2) else if x2 = (2 : Int32) then (aI c4.2 (28 + 2) 12 x1).bind fun v11 => some (v11, c4.2) else if x2 = (3 : Int32) then (F_X7_isFog c (hI c4.2 28 4) c4.2).bind fun c14 => (F_X5_heard c x1 c4.1 (hI c4.2 28 3) c14.1 c14.2).bind fun c16 => some (c16.1, c16.2) else some ((-1 : Int32), c4.2)
def f_X11_row_10 (c : Nat) (m : M2) : Option (Int32 × M2) :=
  some ((-1 : Int32), m)
def f_X11_row_14 (c : Nat) (x1 : Int32) (x2 : Int32) (m : M2) : Option ((Int32 × M2) ⊕ ((M2))) :=
  if x1 ≤ x2 then some (Sum.inr m) else (F_X3_keep (hJ m 28 0) m).bind fun c2 => (F_X7_isFog c (hI c2 28 4) c2).bind fun c4 => (F_X5_stroke c (hJ c2 28 0) (28 + 2) (hI c2 28 3) c4.1 c4.2).bind fun c6 => (qJ c6.2 28 0 c6.1).bind fun m8 => (qI m8 28 4 ((hI m8 28 4) + (1 : Int32))).bind fun m10 => (nmI (x2 + (1 : Int32))).bind fun v12 => some (Sum.inl (v12, m10))
def g_X11_row_14 (c : Nat) (x1 : Int32) (s : Int32 × M2) : Option ((Int32 × M2) ⊕ ((M2))) := f_X11_row_14 c x1 s.1 s.2
def F_X11_row (c : Nat) (x1 : Int32) (m : M2) : Option (Int32 × M2) :=
  if x1 < 0 then f_X11_row_10 c m else if x1 ≤ (100 : Int32) then (loop (g_X11_row_14 c x1) ((0 : Int32), m)).bind fun e3 => some (hI e3 28 4, e3) else f_X11_row_10 c m
def F_X11_undo (c : Nat) (m : M2) : Option (Int32 × M2) :=
  if (hI m 32 1) = 0 then some ((0 : Int32), m) else (F_X3_takeLast m).bind fun c2 => (qJ c2.2 28 0 c2.1).bind fun m4 => (qI m4 28 4 ((hI m4 28 4) - (1 : Int32))).bind fun m6 => some ((1 : Int32), m6)
def F_X11_clashes (c : Nat) (m : M2) : Option (Int32 × M2) :=
  (F_X5_clashBits c (hJ m 28 0) m).bind fun c1 => some (c1.1, c1.2)
def f_X11_way_19 (c : Nat) (m : M2) : Option (Int32 × M2) :=
  some ((-1 : Int32), m)
def f_X11_way_52 (c : Nat) (s0 : Int32) (m : M2) : Option (Int32 × M2) :=
  some (s0, m)
def F_X11_way (c : Nat) (x1 : Int32) (m : M2) : Option (Int32 × M2) :=
  if x1 < 0 then f_X11_way_19 c m else if (1 : Int32) < x1 then f_X11_way_19 c m else if (hI m c 5) = 0 then f_X11_way_19 c m else (F_X5_wayPart c (hJ m 28 0) m).bind fun c4 => if x1 = 0 then (F_X5_menNear c c4.1 c4.2).bind fun c7 => f_X11_way_52 c c7.1 c7.2 else f_X11_way_52 c c4.1 c4.2
def f_X11_wave_9 (c : Nat) (m : M2) : Option (Int32 × M2) :=
  some ((-1 : Int32), m)
def F_X11_wave (c : Nat) (x1 : Int32) (m : M2) : Option (Int32 × M2) :=
  if x1 < 0 then f_X11_wave_9 c m else if x1 ≤ (2 : Int32) then (F_X5_waveOf c (hJ m 28 0) x1 m).bind fun c3 => some (c3.1, c3.2) else f_X11_wave_9 c m
def f_X11_soon_16 (c : Nat) (m : M2) : Option (Int32 × M2) :=
  some ((-1 : Int32), m)
def f_X11_soon_29 (c : Nat) (x1 : Int32) (x2 : Int64) (x4 : Int32) (m : M2) : Option ((Int64 × Int32 × M2) ⊕ ((Int32 × M2) ⊕ (M2))) :=
  if (100 : Int32) < x4 then some (Sum.inr (Sum.inr m)) else (F_X5_wayOf c x2 m).bind fun c2 => if c2.1 < x1 then (F_X7_isFog c ((hI c2.2 28 4) + x4) c2.2).bind fun c5 => (F_X5_stroke c x2 (28 + 2) (hI c2.2 28 3) c5.1 c5.2).bind fun c7 => (nmI (x4 + (1 : Int32))).bind fun v9 => some (Sum.inl (c7.1, v9, c7.2)) else some (Sum.inr (Sum.inl (x4, c2.2)))
def g_X11_soon_29 (c : Nat) (x1 : Int32) (s : Int64 × Int32 × M2) : Option ((Int64 × Int32 × M2) ⊕ ((Int32 × M2) ⊕ (M2))) := f_X11_soon_29 c x1 s.1 s.2.1 s.2.2
def F_X11_soon (c : Nat) (x1 : Int32) (m : M2) : Option (Int32 × M2) :=
  if x1 < (1 : Int32) then f_X11_soon_16 c m else if x1 ≤ (hI m c 5) then (nmJ (hJ m 28 0)).bind fun v3 => (loop (g_X11_soon_29 c x1) (v3, (0 : Int32), m)).bind fun e5 => (Sum.elim (fun e5_0 => some (e5_0.1, e5_0.2)) (fun e5_1 => some ((-2 : Int32), e5_1))) e5 else f_X11_soon_16 c m
def f_X11_rubs_11 (c : Nat) (m : M2) : Option (Int32 × M2) :=
  some ((-1 : Int32), m)
def F_X11_rubs (c : Nat) (x1 : Int32) (m : M2) : Option (Int32 × M2) :=
  if x1 < (1 : Int32) then f_X11_rubs_11 c m else if x1 ≤ (100 : Int32) then (F_X5_mostClashing c 28 x1 m).bind fun c3 => some (c3.1, c3.2) else f_X11_rubs_11 c m
def f_X11_still_45 (c : Nat) (s0 : Int32) (m : M2) : Option (Int32 × M2) :=
  some (s0, m)
def F_X11_still (c : Nat) (m : M2) : Option (Int32 × M2) :=
  (F_X5_stroke c (hJ m 28 0) (28 + 2) (hI m 28 3) (0 : Int32) m).bind fun c1 => if (lg_cmp c1.1 (hJ c1.2 28 0)) = 0 then f_X11_still_45 c (1 : Int32) c1.2 else f_X11_still_45 c (0 : Int32) c1.2
def f_X11_round_9 (c : Nat) (m : M2) : Option (Int32 × M2) :=
  some ((-1 : Int32), m)
def f_X11_round_49 (c : Nat) (s0 : Int32) (m : M2) : Option (Int32 × M2) :=
  some (s0, m)
def F_X11_round (c : Nat) (x1 : Int32) (m : M2) : Option (Int32 × M2) :=
  if x1 < 0 then f_X11_round_9 c m else if x1 ≤ (1 : Int32) then (F_X9_findRound c 28 m).bind fun c3 => if c3.1 = 0 then some ((-2 : Int32), c3.2) else if x1 = 0 then f_X11_round_49 c (hI c3.2 39 2) c3.2 else f_X11_round_49 c (hI c3.2 39 3) c3.2 else f_X11_round_9 c m
def f_X11_change_21 (c : Nat) (m : M2) : Option (Int32 × M2) :=
  some ((0 : Int32), m)
def F_X11_change (c : Nat) (x1 : Int32) (x2 : Int32) (m : M2) : Option (Int32 × M2) :=
  (F_X11_isBench c x1 m).bind fun c1 => if c1.1 = 0 then f_X11_change_21 c c1.2 else (F_X11_isBench c x2 c1.2).bind fun c4 => if c4.1 = 0 then f_X11_change_21 c c4.2 else if x1 = x2 then f_X11_change_21 c c4.2 else (F_X1_exchange 28 x1 x2 c4.2).bind fun c8 => some ((1 : Int32), c8)
def f_X11_teach_23 (c : Nat) (m : M2) : Option (Int32 × M2) :=
  some ((0 : Int32), m)
def F_X11_teach (c : Nat) (x1 : Int32) (x2 : Int32) (m : M2) : Option (Int32 × M2) :=
  (F_X11_isBench c x1 m).bind fun c1 => if c1.1 = 0 then f_X11_teach_23 c c1.2 else if x2 < 0 then f_X11_teach_23 c c1.2 else if x2 < (hI c1.2 c 1) then (bI c1.2 (28 + 2) 12 x1 x2).bind fun m6 => some ((1 : Int32), m6) else f_X11_teach_23 c c1.2
def f_X11_set_23 (c : Nat) (m : M2) : Option (Int32 × M2) :=
  some ((0 : Int32), m)
def F_X11_set (c : Nat) (x1 : Int32) (x2 : Int32) (m : M2) : Option (Int32 × M2) :=
  (F_X11_isBench c x1 m).bind fun c1 => if c1.1 = 0 then f_X11_set_23 c c1.2 else if x2 < 0 then f_X11_set_23 c c1.2 else if x2 < (hI c1.2 c 0) then (F_X11_withTime (hJ c1.2 28 0) x1 x2 c1.2).bind fun c6 => (qJ c6.2 28 0 c6.1).bind fun m8 => some ((1 : Int32), m8) else f_X11_set_23 c c1.2
def f_X11_beat_15 (c : Nat) (m : M2) : Option (Int32 × M2) :=
  some ((0 : Int32), m)
def F_X11_beat (c : Nat) (x1 : Int32) (m : M2) : Option (Int32 × M2) :=
  if x1 < 0 then f_X11_beat_15 c m else if x1 < (hI m c 0) then (qI m 28 3 x1).bind fun m3 => some ((1 : Int32), m3) else f_X11_beat_15 c m
def f_X11_seating_18 (c : Nat) (m : M2) : Option (Int32 × M2) :=
  some ((-1 : Int32), m)
def F_X11_seating (c : Nat) (x1 : Int32) (x2 : Int32) (m : M2) : Option (Int32 × M2) :=
  (F_X6_isAim x1 x2 m).bind fun c1 => if c1.1 = 0 then f_X11_seating_18 c c1.2 else if (hI c1.2 c 5) = 0 then f_X11_seating_18 c c1.2 else if (hI c1.2 c 5) ≤ (6 : Int32) then (F_X6_bestOrder c 28 x1 x2 c1.2).bind fun c6 => some (c6.1, c6.2) else some ((-2 : Int32), c1.2)
def f_X11_seat_16 (c : Nat) (m : M2) : Option (Int32 × M2) :=
  some ((-1 : Int32), m)
def F_X11_seat (c : Nat) (x1 : Int32) (x2 : Int32) (x3 : Int32) (m : M2) : Option (Int32 × M2) :=
  (F_X6_isAim x1 x2 m).bind fun c1 => if c1.1 = 0 then f_X11_seat_16 c c1.2 else (F_X11_isBench c x3 c1.2).bind fun c4 => if c4.1 = 0 then f_X11_seat_16 c c4.2 else if (hI c4.2 c 5) ≤ (6 : Int32) then (F_X6_bestOrder c 28 x1 x2 c4.2).bind fun c8 => (aI c8.2 36 12 x3).bind fun v10 => some (v10, c8.2) else some ((-2 : Int32), c4.2)
def f_X11_better_18 (c : Nat) (m : M2) : Option (Int32 × M2) :=
  some ((-1 : Int32), m)
def F_X11_better (c : Nat) (x1 : Int32) (x2 : Int32) (m : M2) : Option (Int32 × M2) :=
  (F_X6_isAim x1 x2 m).bind fun c1 => if c1.1 = 0 then f_X11_better_18 c c1.2 else if (hI c1.2 c 5) = 0 then f_X11_better_18 c c1.2 else (F_X6_bestExchange c 28 x1 x2 c1.2).bind fun c5 => some (c5.1, c5.2)
def f_X11_ram_30 (c : Nat) (m : M2) : Option (Int32 × M2) :=
  some ((-1 : Int32), m)
def f_X11_ram_91 (c : Nat) (s0 : Int32) (m : M2) : Option (Int32 × M2) :=
  some (s0, m)
def F_X11_ram (c : Nat) (x1 : Int32) (x2 : Int32) (m : M2) : Option (Int32 × M2) :=
  if x1 < (1 : Int32) then f_X11_ram_30 c m else if (60 : Int32) < x1 then f_X11_ram_30 c m else if x2 < 0 then f_X11_ram_30 c m else if (2 : Int32) < x2 then f_X11_ram_30 c m else if (hI m c 5) = 0 then f_X11_ram_30 c m else if 0 ≤ (hI m 28 3) then (F_X9_planRam c 28 x1 m).bind fun c7 => if x2 = 0 then some (hI c7 39 4, c7) else if x2 = (1 : Int32) then f_X11_ram_91 c (hI c7 39 5) c7 else f_X11_ram_91 c (hI c7 39 6) c7 else some ((-2 : Int32), m)
def f_X11_odds_41 (c : Nat) (m : M2) : Option (Int64 × M2) :=
  some ((-1 : Int64), m)
def F_X11_odds (c : Nat) (x1 : Int32) (x2 : Int32) (x3 : Int32) (m : M2) : Option (Int64 × M2) :=
  if x1 < (1 : Int32) then f_X11_odds_41 c m else if (10 : Int32) < x1 then f_X11_odds_41 c m else if x3 < (1 : Int32) then f_X11_odds_41 c m else if (9 : Int32) < x3 then f_X11_odds_41 c m else if x2 < 0 then f_X11_odds_41 c m else if x3 < x2 then f_X11_odds_41 c m else if (hI m c 5) = 0 then f_X11_odds_41 c m else (F_X9_weighed 12 c 28 (hJ m 28 0) x1 x2 x3 m).bind fun c8 => some (c8.1, c8.2)
def f_X11_tell_32 (c : Nat) (m : M2) : Option (Int32 × M2) :=
  some ((-1 : Int32), m)
def F_X11_tell (c : Nat) (x1 : Int32) (x2 : Int32) (x3 : Int32) (m : M2) : Option (Int32 × M2) :=
  if (20 : Int32) ≤ (hI m 41 1) then f_X11_tell_32 c m else (F_X10_isStroke x1 m).bind fun c2 => if c2.1 = 0 then f_X11_tell_32 c c2.2 else if x2 < (1 : Int32) then f_X11_tell_32 c c2.2 else (F_X11_isBench c x2 c2.2).bind fun c6 => if c6.1 = 0 then f_X11_tell_32 c c6.2 else (F_X10_note c x1 x2 x3 c6.2).bind fun c9 => some (c9.1, c9.2)
def F_X11_forget (c : Nat) (m : M2) : Option (Int32 × M2) :=
  (nmI (hI m 41 1)).bind fun v1 => (qI m 41 1 (0 : Int32)).bind fun m3 => some (v1, m3)
def f_X11_suspects_25 (c : Nat) (s0 : Int32) (m : M2) : Option (Int32 × M2) :=
  some (s0, m)
def F_X11_suspects (c : Nat) (x1 : Int32) (x2 : Int32) (m : M2) : Option (Int32 × M2) :=
  (F_X10_isQuestion c x1 x2 m).bind fun c1 => if c1.1 = 0 then f_X11_suspects_25 c (-1 : Int32) c1.2 else (F_X10_countSets c x1 x2 c1.2).bind fun c4 => f_X11_suspects_25 c c4.1 c4.2
def f_X11_suspect_30 (c : Nat) (s0 : Int32) (m : M2) : Option (Int32 × M2) :=
  some (s0, m)
def f_X11_suspect_29 (c : Nat) (m : M2) : Option (Int32 × M2) :=
  f_X11_suspect_30 c (-1 : Int32) m
def F_X11_suspect (c : Nat) (x1 : Int32) (x2 : Int32) (x3 : Int32) (m : M2) : Option (Int32 × M2) :=
  (F_X10_isQuestion c x1 x2 m).bind fun c1 => if c1.1 = 0 then f_X11_suspect_29 c c1.2 else if x3 < 0 then f_X11_suspect_29 c c1.2 else (F_X10_setNumber c x1 x2 x3 c1.2).bind fun c5 => f_X11_suspect_30 c c5.1 c5.2
def f_X11_check_19 (c : Nat) (m : M2) : Option (Int32 × M2) :=
  some ((-1 : Int32), m)
def F_X11_check (c : Nat) (x1 : Int32) (x2 : Int32) (x3 : Int32) (m : M2) : Option (Int32 × M2) :=
  (F_X10_isQuestion c x1 x2 m).bind fun c1 => if c1.1 = 0 then f_X11_check_19 c c1.2 else (F_X10_isStroke x3 c1.2).bind fun c4 => if c4.1 = 0 then f_X11_check_19 c c4.2 else (F_X10_evenestBench c x1 x2 x3 c4.2).bind fun c7 => some (c7.1, c7.2)
def f_X11_hold_9 (c : Nat) (m : M2) : Option (Int32 × M2) :=
  some ((0 : Int32), m)
def F_X11_hold (c : Nat) (x1 : Int32) (m : M2) : Option (Int32 × M2) :=
  if x1 < 0 then f_X11_hold_9 c m else if x1 < (3 : Int32) then (ixC x1 3).bind fun v3 => (F_X1_take (47 + 3 * v3) 28 m).bind fun c5 => (ixC x1 3).bind fun v7 => (qI c5 (47 + 3 * v7) 5 (1 : Int32)).bind fun m9 => some ((1 : Int32), m9) else f_X11_hold_9 c m
def f_X11_restore_21 (c : Nat) (m : M2) : Option (Int32 × M2) :=
  some ((0 : Int32), m)
def F_X11_restore (c : Nat) (x1 : Int32) (m : M2) : Option (Int32 × M2) :=
  if x1 < 0 then f_X11_restore_21 c m else if (3 : Int32) ≤ x1 then f_X11_restore_21 c m else (ixC x1 3).bind fun v3 => if (hI m (47 + 3 * v3) 5) = 0 then f_X11_restore_21 c m else (ixC x1 3).bind fun v6 => (F_X1_take 28 (47 + 3 * v6) m).bind fun c8 => (F_X3_clear c8).bind fun c10 => some ((1 : Int32), c10)
def f_X11_orNotSo_10 (s0 : Int32) (m : M2) : Option (Int32 × M2) :=
  some (s0, m)
def F_X11_orNotSo (x0 : Int32) (m : M2) : Option (Int32 × M2) :=
  if 0 ≤ x0 then f_X11_orNotSo_10 x0 m else f_X11_orNotSo_10 (-2 : Int32) m
def f_X11_heldSlots_24 (c : Nat) (x1 : Int32) (x2 : Int32) (m : M2) : Option ((Int32 × Int32 × M2) ⊕ ((Int32 × M2))) :=
  (nmI (x2 + (1 : Int32))).bind fun v1 => some (Sum.inl (x1, v1, m))
def f_X11_heldSlots_4 (c : Nat) (x1 : Int32) (x2 : Int32) (m : M2) : Option ((Int32 × Int32 × M2) ⊕ ((Int32 × M2))) :=
  if (3 : Int32) ≤ x2 then some (Sum.inr (x1, m)) else (ixC x2 3).bind fun v2 => if (hI m (47 + 3 * v2) 5) = 0 then f_X11_heldSlots_24 c x1 x2 m else (nmI (x1 + (1 : Int32))).bind fun v5 => f_X11_heldSlots_24 c v5 x2 m
def g_X11_heldSlots_4 (c : Nat) (s : Int32 × Int32 × M2) : Option ((Int32 × Int32 × M2) ⊕ ((Int32 × M2))) := f_X11_heldSlots_4 c s.1 s.2.1 s.2.2
def F_X11_heldSlots (c : Nat) (m : M2) : Option (Int32 × M2) :=
  (loop (g_X11_heldSlots_4 c) ((0 : Int32), (0 : Int32), m)).bind fun e1 => some (e1.1, e1.2)
def f_X11_count_186 (c : Nat) (s0 : Int32) (m : M2) : Option (Int32 × M2) :=
  some (s0, m)
def F_X11_count (c : Nat) (x1 : Int32) (m : M2) : Option (Int32 × M2) :=
  if x1 = (0 : Int32) then some (hI m c 0, m) else if x1 = (1 : Int32) then some (hI m c 1, m) else if x1 = (2 : Int32) then some (hI m c 5, m) else if x1 = (3 : Int32) then some (hI m 28 4, m) else if x1 = (4 : Int32) then (F_X11_orNotSo (hI m 28 3) m).bind fun c6 => some (c6.1, c6.2) else if x1 = (5 : Int32) then some (hI m c 9, m) else if x1 = (6 : Int32) then (F_X11_orNotSo (hI m c 10) m).bind fun c10 => some (c10.1, c10.2) else if x1 = (7 : Int32) then some (hI m c 11, m) else if x1 = (8 : Int32) then some (hI m 0 1, m) else if x1 = (9 : Int32) then some (hI m 32 1, m) else if x1 = (10 : Int32) then some (hI m 41 1, m) else if x1 = (11 : Int32) then (F_X11_heldSlots c m).bind fun c17 => some (c17.1, c17.2) else if x1 = (12 : Int32) then (F_X7_isFog c (hI m 28 4) m).bind fun c20 => if c20.1 = 0 then f_X11_count_186 c (0 : Int32) c20.2 else f_X11_count_186 c (1 : Int32) c20.2 else some ((-1 : Int32), m)
def f_X12_put_3 (x1 : Int32) (x2 : Int32) (m : M2) : Option ((Int32 × M2) ⊕ ((M2))) :=
  if x2 < 0 then some (Sum.inr m) else (bB m 57 2000 (hI m 56 2) (x1 >>> (x2 &&& 31)).toInt8.toInt32).bind fun m2 => (qI m2 56 2 ((hI m2 56 2) + (1 : Int32))).bind fun m4 => (nmI (x2 + (-8 : Int32))).bind fun v6 => some (Sum.inl (v6, m4))
def g_X12_put_3 (x1 : Int32) (s : Int32 × M2) : Option ((Int32 × M2) ⊕ ((M2))) := f_X12_put_3 x1 s.1 s.2
def F_X12_put (x1 : Int32) (m : M2) : Option M2 :=
  (loop (g_X12_put_3 x1) ((24 : Int32), m)).bind fun e1 => some e1
def F_X12_feed (x1 : Int32) (x2 : Int32) (x3 : Int32) (x4 : Int32) (x5 : Int32) (m : M2) : Option (Int32 × M2) :=
  if ((hI m 56 2) + (20 : Int32)) ≤ (2000 : Int32) then (F_X12_put x1 m).bind fun c2 => (F_X12_put x2 c2).bind fun c4 => (F_X12_put x3 c4).bind fun c6 => (F_X12_put x4 c6).bind fun c8 => (F_X12_put x5 c8).bind fun c10 => some (hI c10 56 2, c10) else some ((-1 : Int32), m)
def f_X12_back_12 (m : M2) : Option (Int32 × M2) :=
  some ((-1 : Int32), m)
def F_X12_back (x1 : Int32) (m : M2) : Option (Int32 × M2) :=
  if x1 < 0 then f_X12_back_12 m else if x1 ≤ (hI m 56 2) then (qI m 56 2 ((hI m 56 2) - x1)).bind fun m3 => some (hI m3 56 2, m3) else f_X12_back_12 m
def f_X12_byteAt_22 (s0 : Int32) (m : M2) : Option (Int32 × M2) :=
  some (s0, m)
def F_X12_byteAt (x1 : Int32) (m : M2) : Option (Int32 × M2) :=
  if (hI m 56 4) ≤ x1 then f_X12_byteAt_22 (0 : Int32) m else (aI m 58 2000 x1).bind fun v2 => f_X12_byteAt_22 (v2 &&& (255 : Int32)) m
def f_X12_isDigit_17 (s0 : Int32) (m : M2) : Option (Int32 × M2) :=
  (zb s0).bind fun v1 => some (v1, m)
def f_X12_isDigit_16 (m : M2) : Option (Int32 × M2) :=
  f_X12_isDigit_17 (0 : Int32) m
def F_X12_isDigit (x0 : Int32) (m : M2) : Option (Int32 × M2) :=
  if x0 < (48 : Int32) then f_X12_isDigit_16 m else if (57 : Int32) < x0 then f_X12_isDigit_16 m else f_X12_isDigit_17 (1 : Int32) m
def f_X12_isLetter_17 (s0 : Int32) (m : M2) : Option (Int32 × M2) :=
  (zb s0).bind fun v1 => some (v1, m)
def f_X12_isLetter_16 (m : M2) : Option (Int32 × M2) :=
  f_X12_isLetter_17 (0 : Int32) m
def F_X12_isLetter (x0 : Int32) (m : M2) : Option (Int32 × M2) :=
  if x0 < (97 : Int32) then f_X12_isLetter_16 m else if (122 : Int32) < x0 then f_X12_isLetter_16 m else f_X12_isLetter_17 (1 : Int32) m
def f_X12_appends_21 (s0 : Int64) (m : M2) : Option (Int64 × M2) :=
  some (s0, m)
def F_X12_appends (x0 : Int64) (x2 : Int32) (m : M2) : Option (Int64 × M2) :=
  if x2 = 0 then f_X12_appends_21 x0 m else f_X12_appends_21 (((27 : Int64) * x0) + ((x2 - (97 : Int32)) + (1 : Int32)).toInt64) m
def F_X12_word (x0 : Int32) (x1 : Int32) (x2 : Int32) (x3 : Int32) (x4 : Int32) (x5 : Int32) (x6 : Int32) (m : M2) : Option (Int64 × M2) :=
  (F_X12_appends (0 : Int64) x0 m).bind fun c1 => (F_X12_appends c1.1 x1 c1.2).bind fun c3 => (F_X12_appends c3.1 x2 c3.2).bind fun c5 => (F_X12_appends c5.1 x3 c5.2).bind fun c7 => (F_X12_appends c7.1 x4 c7.2).bind fun c9 => (F_X12_appends c9.1 x5 c9.2).bind fun c11 => (F_X12_appends c11.1 x6 c11.2).bind fun c13 => some (c13.1, c13.2)
def F_X12_token (x1 : Int32) (x2 : Int32) (x3 : Int32) (x4 : Int64) (m : M2) : Option M2 :=
  (bI m 59 403 (hI m 56 10) x1).bind fun m1 => (bI m1 60 403 (hI m1 56 10) x2).bind fun m3 => (bI m3 61 403 (hI m3 56 10) x3).bind fun m5 => (bJ m5 62 403 (hI m5 56 10) x4).bind fun m7 => (qI m7 56 10 ((hI m7 56 10) + (1 : Int32))).bind fun m9 => some m9
def f_X12_sign_205 (s0 : Int32) (m : M2) : Option (Int32 × M2) :=
  some (s0, m)
def f_X12_sign_186 (x1 : Int32) (x4 : Int32) (x5 : Int32) (m : M2) : Option (Int32 × M2) :=
  (F_X12_token x5 x1 (0 : Int32) (0 : Int64) m).bind fun c1 => if x4 ≤ 0 then f_X12_sign_205 (1 : Int32) c1 else f_X12_sign_205 (2 : Int32) c1
def f_X12_sign_44 (x1 : Int32) (x2 : Int32) (s0 : Int32) (m : M2) : Option (Int32 × M2) :=
  if s0 ≤ 0 then if x2 = (59 : Int32) then f_X12_sign_186 x1 s0 (4 : Int32) m else if x2 = (40 : Int32) then f_X12_sign_186 x1 s0 (6 : Int32) m else if x2 = (41 : Int32) then f_X12_sign_186 x1 s0 (7 : Int32) m else if x2 = (43 : Int32) then f_X12_sign_186 x1 s0 (8 : Int32) m else if x2 = (45 : Int32) then f_X12_sign_186 x1 s0 (9 : Int32) m else if x2 = (42 : Int32) then f_X12_sign_186 x1 s0 (10 : Int32) m else if x2 = (60 : Int32) then f_X12_sign_186 x1 s0 (13 : Int32) m else if x2 = (47 : Int32) then f_X12_sign_186 x1 s0 (15 : Int32) m else if x2 = (44 : Int32) then f_X12_sign_186 x1 s0 (16 : Int32) m else if x2 = (61 : Int32) then f_X12_sign_186 x1 s0 (5 : Int32) m else f_X12_sign_186 x1 s0 (3 : Int32) m else f_X12_sign_186 x1 s0 s0 m
def F_X12_sign (x1 : Int32) (x2 : Int32) (x3 : Int32) (m : M2) : Option (Int32 × M2) :=
  if x3 = (61 : Int32) then if x2 = (61 : Int32) then f_X12_sign_44 x1 x2 (11 : Int32) m else if x2 = (33 : Int32) then f_X12_sign_44 x1 x2 (12 : Int32) m else if x2 = (60 : Int32) then f_X12_sign_44 x1 x2 (14 : Int32) m else f_X12_sign_44 x1 x2 (0 : Int32) m else f_X12_sign_44 x1 x2 (0 : Int32) m
def f_X12_cut_291 (x1 : Int32) (m : M2) : Option ((Int32 × M2) ⊕ ((M2) ⊕ (M2))) :=
  some (Sum.inl (x1, m))
def f_X12_cut_67 (x1 : Int32) (m : M2) : Option ((Int32 × M2) ⊕ ((M2) ⊕ (M2))) :=
  (nmI (x1 + (1 : Int32))).bind fun v1 => f_X12_cut_291 v1 m
def f_X12_cut_118 (x1 : Int32) (x3 : Int32) (x4 : Int64) (m : M2) : Option ((Int32 × Int64 × M2) ⊕ ((Int32 × Int64 × M2))) :=
  (nmI (x3 + (1 : Int32))).bind fun v1 => some (Sum.inl (v1, x4, m))
def f_X12_cut_85 (x1 : Int32) (x3 : Int32) (x4 : Int64) (m : M2) : Option ((Int32 × Int64 × M2) ⊕ ((Int32 × Int64 × M2))) :=
  (F_X12_byteAt (x1 + x3) m).bind fun c1 => (F_X12_isLetter c1.1 c1.2).bind fun c3 => if c3.1 = 0 then some (Sum.inr (x3, x4, c3.2)) else if (8 : Int32) ≤ x3 then f_X12_cut_118 x1 x3 x4 c3.2 else (F_X12_byteAt (x1 + x3) c3.2).bind fun c7 => (F_X12_appends x4 c7.1 c7.2).bind fun c9 => f_X12_cut_118 x1 x3 c9.1 c9.2
def g_X12_cut_85 (x1 : Int32) (s : Int32 × Int64 × M2) : Option ((Int32 × Int64 × M2) ⊕ ((Int32 × Int64 × M2))) := f_X12_cut_85 x1 s.1 s.2.1 s.2.2
def f_X12_cut_173 (x1 : Int32) (x3 : Int32) (x4 : Int64) (x6 : Int32) (x7 : Int32) (m : M2) : Option ((Int32 × Int32 × M2) ⊕ ((Int32 × M2))) :=
  (nmI (x7 + (1 : Int32))).bind fun v1 => some (Sum.inl (x6, v1, m))
def f_X12_cut_146 (x1 : Int32) (x3 : Int32) (x4 : Int64) (x6 : Int32) (x7 : Int32) (m : M2) : Option ((Int32 × Int32 × M2) ⊕ ((Int32 × M2))) :=
  if (17 : Int32) ≤ x7 then some (Sum.inr (x6, m)) else (aJ m 63 17 x7).bind fun v2 => if (lg_cmp v2 x4) = 0 then (nmI ((20 : Int32) + x7)).bind fun v5 => f_X12_cut_173 x1 x3 x4 v5 x7 m else f_X12_cut_173 x1 x3 x4 x6 x7 m
def g_X12_cut_146 (x1 : Int32) (x3 : Int32) (x4 : Int64) (s : Int32 × Int32 × M2) : Option ((Int32 × Int32 × M2) ⊕ ((Int32 × M2))) := f_X12_cut_146 x1 x3 x4 s.1 s.2.1 s.2.2
def f_X12_cut_179 (x1 : Int32) (x3 : Int32) (x4 : Int64) (x6 : Int32) (m : M2) : Option ((Int32 × M2) ⊕ ((M2) ⊕ (M2))) :=
  (F_X12_token x6 x1 (0 : Int32) x4 m).bind fun c1 => (nmI (x1 + x3)).bind fun v3 => f_X12_cut_291 v3 c1
def f_X12_cut_135 (x1 : Int32) (x3 : Int32) (x4 : Int64) (s0 : Int32) (m : M2) : Option ((Int32 × M2) ⊕ ((M2) ⊕ (M2))) :=
  if (7 : Int32) < x3 then f_X12_cut_179 x1 x3 x4 s0 m else (loop (g_X12_cut_146 x1 x3 x4) (s0, (0 : Int32), m)).bind fun e2 => f_X12_cut_179 x1 x3 x4 e2.1 e2.2
def f_X12_cut_244 (x1 : Int32) (x3 : Int32) (x4 : Int32) (m : M2) : Option ((Int32 × Int32 × M2) ⊕ ((Int32 × Int32 × M2))) :=
  (nmI (x3 + (1 : Int32))).bind fun v1 => some (Sum.inl (v1, x4, m))
def f_X12_cut_208 (x1 : Int32) (x3 : Int32) (x4 : Int32) (m : M2) : Option ((Int32 × Int32 × M2) ⊕ ((Int32 × Int32 × M2))) :=
  (F_X12_byteAt (x1 + x3) m).bind fun c1 => (F_X12_isDigit c1.1 c1.2).bind fun c3 => if c3.1 = 0 then some (Sum.inr (x3, x4, c3.2)) else if (4 : Int32) ≤ x3 then f_X12_cut_244 x1 x3 x4 c3.2 else (F_X12_byteAt (x1 + x3) c3.2).bind fun c7 => (nmI ((((10 : Int32) * x4) + c7.1) - (48 : Int32))).bind fun v9 => f_X12_cut_244 x1 x3 v9 c7.2
def g_X12_cut_208 (x1 : Int32) (s : Int32 × Int32 × M2) : Option ((Int32 × Int32 × M2) ⊕ ((Int32 × Int32 × M2))) := f_X12_cut_208 x1 s.1 s.2.1 s.2.2
def f_X12_cut_261 (x1 : Int32) (x3 : Int32) (x4 : Int32) (s1 : Int32) (m : M2) : Option ((Int32 × M2) ⊕ ((M2) ⊕ (M2))) :=
  (F_X12_token s1 x1 x4 (0 : Int64) m).bind fun c1 => (nmI (x1 + x3)).bind fun v3 => f_X12_cut_291 v3 c1
def f_X12_cut_7 (x1 : Int32) (m : M2) : Option ((Int32 × M2) ⊕ ((M2) ⊕ (M2))) :=
  if (400 : Int32) < (hI m 56 10) then some (Sum.inr (Sum.inr m)) else (F_X12_byteAt x1 m).bind fun c2 => if x1 < (hI c2.2 56 4) then if c2.1 = (9 : Int32) then f_X12_cut_67 x1 c2.2 else if c2.1 = (10 : Int32) then f_X12_cut_67 x1 c2.2 else if c2.1 = (13 : Int32) then f_X12_cut_67 x1 c2.2 else if c2.1 = (32 : Int32) then f_X12_cut_67 x1 c2.2 else (F_X12_isLetter c2.1 c2.2).bind fun c9 => if c9.1 = 0 then (F_X12_isDigit c2.1 c9.2).bind fun c12 => if c12.1 = 0 then (F_X12_byteAt (x1 + (1 : Int32)) c12.2).bind fun c15 => (F_X12_sign x1 c2.1 c15.1 c15.2).bind fun c17 => (nmI (x1 + c17.1)).bind fun v19 => f_X12_cut_291 v19 c17.2 else (loop (g_X12_cut_208 x1) ((0 : Int32), (0 : Int32), c12.2)).bind fun e21 => if e21.1 ≤ (4 : Int32) then f_X12_cut_261 x1 e21.1 e21.2.1 (2 : Int32) e21.2.2 else f_X12_cut_261 x1 e21.1 e21.2.1 (3 : Int32) e21.2.2 else (loop (g_X12_cut_85 x1) ((0 : Int32), (0 : Int64), c9.2)).bind fun e24 => if e24.1 ≤ (8 : Int32) then f_X12_cut_135 x1 e24.1 e24.2.1 (1 : Int32) e24.2.2 else f_X12_cut_135 x1 e24.1 e24.2.1 (3 : Int32) e24.2.2 else some (Sum.inr (Sum.inl c2.2))
def g_X12_cut_7 (s : Int32 × M2) : Option ((Int32 × M2) ⊕ ((M2) ⊕ (M2))) := f_X12_cut_7 s.1 s.2
def F_X12_cut (m : M2) : Option M2 :=
  (qI m 56 10 (0 : Int32)).bind fun m1 => (loop (g_X12_cut_7) ((0 : Int32), m1)).bind fun e3 => (Sum.elim (fun e3_0 => (F_X12_token (0 : Int32) (hI e3_0 56 4) (0 : Int32) (0 : Int64) e3_0).bind fun c5 => some c5) (fun e3_1 => some e3_1)) e3
def f_X12_is_25 (s0 : Int32) (m : M2) : Option (Int32 × M2) :=
  (zb s0).bind fun v1 => some (v1, m)
def f_X12_is_24 (m : M2) : Option (Int32 × M2) :=
  f_X12_is_25 (0 : Int32) m
def F_X12_is (x1 : Int32) (m : M2) : Option (Int32 × M2) :=
  if (hI m 56 13) = 0 then (aI m 59 403 (hI m 56 11)).bind fun v2 => if v2 = x1 then f_X12_is_25 (1 : Int32) m else f_X12_is_24 m else f_X12_is_24 m
def F_X12_fail (x1 : Int32) (m : M2) : Option M2 :=
  if (hI m 56 13) ≤ 0 then (qI m 56 13 x1).bind fun m2 => (aI m2 60 403 (hI m2 56 11)).bind fun v4 => (qI m2 56 14 v4).bind fun m6 => some m6 else some m
def f_X12_wrong_45 (m : M2) : Option M2 :=
  some m
def f_X12_wrong_46 (x1 : Int32) (x3 : Int32) (m : M2) : Option M2 :=
  (qI m 56 15 x1).bind fun m1 => (qI m1 56 16 x3).bind fun m3 => some m3
def F_X12_wrong (x1 : Int32) (x2 : Int32) (m : M2) : Option M2 :=
  (aI m 60 403 x2).bind fun v1 => if 0 < (hI m 56 13) then f_X12_wrong_45 m else if (hI m 56 15) = 0 then f_X12_wrong_46 x1 v1 m else if (hI m 56 16) < v1 then f_X12_wrong_45 m else if v1 = (hI m 56 16) then if x1 < (hI m 56 15) then f_X12_wrong_46 x1 v1 m else f_X12_wrong_45 m else f_X12_wrong_46 x1 v1 m
def f_X12_goesOn_28 (m : M2) : Option M2 :=
  some m
def F_X12_goesOn (m : M2) : Option M2 :=
  if (hI m 56 11) = (400 : Int32) then (F_X12_fail (2 : Int32) m).bind fun c4 => f_X12_goesOn_28 c4 else (qI m 56 11 ((hI m 56 11) + (1 : Int32))).bind fun m2 => f_X12_goesOn_28 m2
def f_X12_must_20 (m : M2) : Option M2 :=
  some m
def F_X12_must (x1 : Int32) (m : M2) : Option M2 :=
  (F_X12_is x1 m).bind fun c1 => if c1.1 = 0 then (F_X12_fail (1 : Int32) c1.2).bind fun c4 => f_X12_must_20 c4 else (F_X12_goesOn c1.2).bind fun c6 => f_X12_must_20 c6
def f_X12_bounded_15 (x1 : Int32) (m : M2) : Option (Int32 × M2) :=
  (F_X12_fail (1 : Int32) m).bind fun c1 => some (x1, c1)
def f_X12_bounded_51 (x3 : Int32) (m : M2) : Option (Int32 × M2) :=
  (F_X12_goesOn m).bind fun c1 => some (x3, c1)
def f_X12_bounded_42 (x3 : Int32) (m : M2) : Option (Int32 × M2) :=
  (F_X12_wrong (5 : Int32) (hI m 56 11) m).bind fun c1 => f_X12_bounded_51 x3 c1
def F_X12_bounded (x1 : Int32) (x2 : Int32) (m : M2) : Option (Int32 × M2) :=
  if 0 < (hI m 56 13) then f_X12_bounded_15 x1 m else (F_X12_is (2 : Int32) m).bind fun c2 => if c2.1 = 0 then f_X12_bounded_15 x1 c2.2 else (aI c2.2 61 403 (hI c2.2 56 11)).bind fun v5 => if v5 < x1 then f_X12_bounded_42 v5 c2.2 else if v5 ≤ x2 then f_X12_bounded_51 v5 c2.2 else f_X12_bounded_42 v5 c2.2
def f_X12_roomFor_21 (m : M2) : Option M2 :=
  some m
def f_X12_roomFor_10 (m : M2) : Option M2 :=
  if (hI m 56 13) = 0 then (F_X12_goesOn m).bind fun c2 => f_X12_roomFor_21 c2 else f_X12_roomFor_21 m
def F_X12_roomFor (x1 : Int32) (x2 : Int32) (m : M2) : Option M2 :=
  if x1 = x2 then (F_X12_fail (2 : Int32) m).bind fun c2 => f_X12_roomFor_10 c2 else f_X12_roomFor_10 m
def f_X12_named_49 (x1 : Int32) (x2 : Int32) (m : M2) : Option ((Int32 × M2) ⊕ ((M2))) :=
  (nmI (x2 + (1 : Int32))).bind fun v1 => some (Sum.inl (v1, m))
def f_X12_named_12 (x1 : Int32) (x2 : Int32) (m : M2) : Option ((Int32 × M2) ⊕ ((M2))) :=
  if (hI m 56 20) ≤ x2 then some (Sum.inr m) else if (hI m 56 13) = 0 then (aJ m 64 20 x2).bind fun v3 => (aJ m 62 403 x1).bind fun v5 => if (lg_cmp v3 v5) = 0 then (F_X12_wrong (3 : Int32) x1 m).bind fun c8 => f_X12_named_49 x1 x2 c8 else f_X12_named_49 x1 x2 m else some (Sum.inr m)
def g_X12_named_12 (x1 : Int32) (s : Int32 × M2) : Option ((Int32 × M2) ⊕ ((M2))) := f_X12_named_12 x1 s.1 s.2
def f_X12_named_55 (x1 : Int32) (m : M2) : Option (Int32 × M2) :=
  some (x1, m)
def F_X12_named (m : M2) : Option (Int32 × M2) :=
  (nmI (hI m 56 11)).bind fun v1 => (F_X12_must (1 : Int32) m).bind fun c3 => (loop (g_X12_named_12 v1) ((0 : Int32), c3)).bind fun e5 => f_X12_named_55 v1 e5
def F_X12_pushes (x1 : Int32) (m : M2) : Option M2 :=
  (bI m 92 64 (hI m 56 54) x1).bind fun m1 => (qI m1 56 54 ((hI m1 56 54) + (1 : Int32))).bind fun m3 => some m3
def f_X12_opensMany_66 (x1 : Int32) (m : M2) : Option ((M2) ⊕ ((M2) ⊕ (M2))) :=
  if (hI m 56 13) ≤ 0 then (qI m 56 12 ((hI m 56 12) + (1 : Int32))).bind fun m2 => (F_X12_goesOn m2).bind fun c4 => (F_X12_pushes x1 c4).bind fun c6 => some (Sum.inl c6) else some (Sum.inr (Sum.inl m))
def f_X12_opensMany_52 (x1 : Int32) (m : M2) : Option ((M2) ⊕ ((M2) ⊕ (M2))) :=
  if (hI m 56 12) = (6 : Int32) then (F_X12_fail (2 : Int32) m).bind fun c2 => f_X12_opensMany_66 x1 c2 else f_X12_opensMany_66 x1 m
def f_X12_opensMany_18 (m : M2) : Option ((M2) ⊕ ((M2) ⊕ (M2))) :=
  (aI m 59 403 (hI m 56 11)).bind fun v1 => if v1 = (36 : Int32) then (F_X12_goesOn m).bind fun c4 => (F_X12_is (6 : Int32) c4).bind fun c6 => if c6.1 = 0 then (F_X12_fail (1 : Int32) c6.2).bind fun c9 => f_X12_opensMany_52 v1 c9 else f_X12_opensMany_52 v1 c6.2 else f_X12_opensMany_52 v1 m
def f_X12_opensMany_0 (m : M2) : Option ((M2) ⊕ ((M2) ⊕ (M2))) :=
  (F_X12_is (6 : Int32) m).bind fun c1 => if c1.1 = 0 then (F_X12_is (36 : Int32) c1.2).bind fun c4 => if c4.1 = 0 then some (Sum.inr (Sum.inr c4.2)) else f_X12_opensMany_18 c4.2 else f_X12_opensMany_18 c1.2
def g_X12_opensMany_0 (s : M2) : Option ((M2) ⊕ ((M2) ⊕ (M2))) := f_X12_opensMany_0 s
def F_X12_opensMany (m : M2) : Option M2 :=
  (loop (g_X12_opensMany_0) m).bind fun e1 => (Sum.elim (fun e1_0 => some e1_0) (fun e1_1 => some e1_1)) e1
def F_X12_emit (x1 : Int32) (x2 : Int32) (m : M2) : Option M2 :=
  (bI m 89 840 (hI m 56 48) x1).bind fun m1 => (bI m1 90 840 (hI m1 56 48) x2).bind fun m3 => (qI m3 56 48 ((hI m3 56 48) + (1 : Int32))).bind fun m5 => some m5
def F_X12_variableOf (x0 : Int32) (m : M2) : Option (Int32 × M2) :=
  if x0 = (26 : Int32) then some ((3 : Int32), m) else if x0 = (27 : Int32) then some ((5 : Int32), m) else if x0 = (28 : Int32) then some ((-1 : Int32), m) else if x0 = (29 : Int32) then some ((-1 : Int32), m) else if x0 = (30 : Int32) then some ((-1 : Int32), m) else if x0 = (31 : Int32) then some ((-1 : Int32), m) else if x0 = (32 : Int32) then some ((0 : Int32), m) else if x0 = (33 : Int32) then some ((1 : Int32), m) else if x0 = (34 : Int32) then some ((2 : Int32), m) else if x0 = (35 : Int32) then some ((4 : Int32), m) else some ((-1 : Int32), m)
def f_X12_unit_57 (x1 : Int32) (m : M2) : Option M2 :=
  if (hI m 56 13) ≤ 0 then (F_X12_emit (1 : Int32) x1 m).bind fun c2 => (F_X12_goesOn c2).bind fun c4 => some c4 else some m
def F_X12_unit (m : M2) : Option M2 :=
  if (hI m 56 13) ≤ 0 then (F_X12_is (2 : Int32) m).bind fun c2 => if c2.1 = 0 then (aI c2.2 59 403 (hI c2.2 56 11)).bind fun v5 => (F_X12_variableOf v5 c2.2).bind fun c7 => if 0 ≤ c7.1 then f_X12_unit_57 c7.1 c7.2 else (F_X12_fail (1 : Int32) c7.2).bind fun c10 => f_X12_unit_57 c7.1 c10 else (aI c2.2 61 403 (hI c2.2 56 11)).bind fun v12 => (F_X12_emit (0 : Int32) v12 c2.2).bind fun c14 => (F_X12_goesOn c14).bind fun c16 => some c16 else some m
def f_X12_isWall_23 (s0 : Int32) (m : M2) : Option (Int32 × M2) :=
  (zb s0).bind fun v1 => some (v1, m)
def f_X12_isWall_18 (m : M2) : Option (Int32 × M2) :=
  f_X12_isWall_23 (1 : Int32) m
def F_X12_isWall (x0 : Int32) (m : M2) : Option (Int32 × M2) :=
  if x0 = (6 : Int32) then f_X12_isWall_18 m else if x0 = (36 : Int32) then f_X12_isWall_18 m else if x0 = (16 : Int32) then f_X12_isWall_18 m else f_X12_isWall_23 (0 : Int32) m
def f_X12_comesOut_85 (x1 : Int32) (s1 : Int32) (m : M2) : Option ((M2) ⊕ ((M2) ⊕ (M2))) :=
  (F_X12_emit s1 (0 : Int32) m).bind fun c1 => some (Sum.inl c1)
def f_X12_comesOut_43 (x1 : Int32) (x2 : Int32) (m : M2) : Option ((M2) ⊕ ((M2) ⊕ (M2))) :=
  (qI m 56 54 ((hI m 56 54) - (1 : Int32))).bind fun m1 => if x2 = (8 : Int32) then f_X12_comesOut_85 x1 (2 : Int32) m1 else if x2 = (9 : Int32) then f_X12_comesOut_85 x1 (3 : Int32) m1 else if x2 = (10 : Int32) then f_X12_comesOut_85 x1 (4 : Int32) m1 else f_X12_comesOut_85 x1 (5 : Int32) m1
def f_X12_comesOut_0 (x1 : Int32) (m : M2) : Option ((M2) ⊕ ((M2) ⊕ (M2))) :=
  if (hI m 56 54) ≤ 0 then some (Sum.inr (Sum.inr m)) else (aI m 92 64 ((hI m 56 54) - (1 : Int32))).bind fun v2 => (F_X12_isWall v2 m).bind fun c4 => if c4.1 = 0 then if x1 = 0 then f_X12_comesOut_43 x1 v2 c4.2 else if v2 = (8 : Int32) then some (Sum.inr (Sum.inl c4.2)) else if v2 = (9 : Int32) then some (Sum.inr (Sum.inl c4.2)) else f_X12_comesOut_43 x1 v2 c4.2 else some (Sum.inr (Sum.inl c4.2))
def g_X12_comesOut_0 (x1 : Int32) (s : M2) : Option ((M2) ⊕ ((M2) ⊕ (M2))) := f_X12_comesOut_0 x1 s
def f_X12_comesOut_42 (m : M2) : Option M2 :=
  some m
def F_X12_comesOut (x1 : Int32) (m : M2) : Option M2 :=
  (loop (g_X12_comesOut_0 x1) m).bind fun e1 => (Sum.elim (fun e1_0 => f_X12_comesOut_42 e1_0) (fun e1_1 => some e1_1)) e1
def f_X12_closesMany_131 (x1 : Int32) (m : M2) : Option ((M2) ⊕ ((Int32 × M2) ⊕ (M2) ⊕ (M2))) :=
  (qI m 56 54 ((hI m 56 54) - (1 : Int32))).bind fun m1 => (qI m1 56 12 ((hI m1 56 12) - (1 : Int32))).bind fun m3 => (F_X12_goesOn m3).bind fun c5 => some (Sum.inl c5)
def f_X12_closesMany_109 (x1 : Int32) (x2 : Int32) (m : M2) : Option ((M2) ⊕ ((Int32 × M2) ⊕ (M2) ⊕ (M2))) :=
  if (hI m 56 13) ≤ 0 then if x2 = (16 : Int32) then (F_X12_emit (6 : Int32) (0 : Int32) m).bind fun c3 => f_X12_closesMany_131 x1 c3 else f_X12_closesMany_131 x1 m else some (Sum.inr (Sum.inr (Sum.inl m)))
def f_X12_closesMany_33 (x1 : Int32) (m : M2) : Option ((M2) ⊕ ((Int32 × M2) ⊕ (M2) ⊕ (M2))) :=
  (F_X12_comesOut (0 : Int32) m).bind fun c1 => (aI c1 92 64 ((hI c1 56 54) - (1 : Int32))).bind fun v3 => (F_X12_is (16 : Int32) c1).bind fun c5 => if c5.1 = 0 then if v3 = (36 : Int32) then (F_X12_fail (1 : Int32) c5.2).bind fun c9 => f_X12_closesMany_109 x1 v3 c9 else f_X12_closesMany_109 x1 v3 c5.2 else some (Sum.inr (Sum.inl (v3, c5.2)))
def f_X12_closesMany_0 (x1 : Int32) (m : M2) : Option ((M2) ⊕ ((Int32 × M2) ⊕ (M2) ⊕ (M2))) :=
  if (hI m 56 13) = 0 then if (hI m 56 12) ≤ x1 then some (Sum.inr (Sum.inr (Sum.inr m))) else (F_X12_is (7 : Int32) m).bind fun c3 => if c3.1 = 0 then (F_X12_is (16 : Int32) c3.2).bind fun c6 => if c6.1 = 0 then some (Sum.inr (Sum.inr (Sum.inr c6.2))) else f_X12_closesMany_33 x1 c6.2 else f_X12_closesMany_33 x1 c3.2 else some (Sum.inr (Sum.inr (Sum.inr m)))
def g_X12_closesMany_0 (x1 : Int32) (s : M2) : Option ((M2) ⊕ ((Int32 × M2) ⊕ (M2) ⊕ (M2))) := f_X12_closesMany_0 x1 s
def f_X12_closesMany_70 (m : M2) : Option (Int32 × M2) :=
  if (hI m 56 13) ≤ 0 then (bI m 92 64 ((hI m 56 54) - (1 : Int32)) (16 : Int32)).bind fun m2 => (F_X12_goesOn m2).bind fun c4 => some ((1 : Int32), c4) else some ((0 : Int32), m)
def f_X12_closesMany_158 (m : M2) : Option (Int32 × M2) :=
  some ((0 : Int32), m)
def F_X12_closesMany (x1 : Int32) (m : M2) : Option (Int32 × M2) :=
  (loop (g_X12_closesMany_0 x1) m).bind fun e1 => (Sum.elim (fun e1_0 => if e1_0.1 = (36 : Int32) then f_X12_closesMany_70 e1_0.2 else (F_X12_fail (1 : Int32) e1_0.2).bind fun c4 => f_X12_closesMany_70 c4) (Sum.elim (fun e1_1 => some ((0 : Int32), e1_1)) (fun e1_2 => f_X12_closesMany_158 e1_2))) e1
def f_X12_expression_140 (x1 : Int32) (x2 : Int32) (s1 : Int32) (m : M2) : Option ((Int32 × M2) ⊕ ((M2) ⊕ (M2))) :=
  (F_X12_comesOut s1 m).bind fun c1 => (aI c1 59 403 (hI c1 56 11)).bind fun v3 => (F_X12_pushes v3 c1).bind fun c5 => (F_X12_goesOn c5).bind fun c7 => some (Sum.inl (x2, c7))
def f_X12_expression_135 (x1 : Int32) (x2 : Int32) (m : M2) : Option ((Int32 × M2) ⊕ ((M2) ⊕ (M2))) :=
  f_X12_expression_140 x1 x2 (1 : Int32) m
def f_X12_expression_92 (x1 : Int32) (s0 : Int32) (m : M2) : Option ((Int32 × M2) ⊕ ((M2) ⊕ (M2))) :=
  if s0 = 0 then some (Sum.inr (Sum.inl m)) else (F_X12_is (10 : Int32) m).bind fun c2 => if c2.1 = 0 then (F_X12_is (15 : Int32) c2.2).bind fun c5 => if c5.1 = 0 then f_X12_expression_140 x1 s0 (0 : Int32) c5.2 else f_X12_expression_135 x1 s0 c5.2 else f_X12_expression_135 x1 s0 c2.2
def f_X12_expression_87 (x1 : Int32) (m : M2) : Option ((Int32 × M2) ⊕ ((M2) ⊕ (M2))) :=
  f_X12_expression_92 x1 (1 : Int32) m
def f_X12_expression_12 (x1 : Int32) (x2 : Int32) (m : M2) : Option ((Int32 × M2) ⊕ ((M2) ⊕ (M2))) :=
  if x2 = 0 then some (Sum.inr (Sum.inr m)) else if (hI m 56 13) = 0 then (F_X12_opensMany m).bind fun c3 => (F_X12_unit c3).bind fun c5 => (F_X12_closesMany x1 c5).bind fun c7 => if 0 < (hI c7.2 56 13) then some (Sum.inl (x2, c7.2)) else if c7.1 = 0 then (F_X12_is (8 : Int32) c7.2).bind fun c11 => if c11.1 = 0 then (F_X12_is (9 : Int32) c11.2).bind fun c14 => if c14.1 = 0 then (F_X12_is (10 : Int32) c14.2).bind fun c17 => if c17.1 = 0 then (F_X12_is (15 : Int32) c17.2).bind fun c20 => if c20.1 = 0 then f_X12_expression_92 x1 (0 : Int32) c20.2 else f_X12_expression_87 x1 c20.2 else f_X12_expression_87 x1 c17.2 else f_X12_expression_87 x1 c14.2 else f_X12_expression_87 x1 c11.2 else some (Sum.inl (x2, c7.2)) else some (Sum.inr (Sum.inr m))
def g_X12_expression_12 (x1 : Int32) (s : Int32 × M2) : Option ((Int32 × M2) ⊕ ((M2) ⊕ (M2))) := f_X12_expression_12 x1 s.1 s.2
def f_X12_expression_110 (m : M2) : Option M2 :=
  (F_X12_comesOut (0 : Int32) m).bind fun c1 => some c1
def f_X12_expression_163 (m : M2) : Option M2 :=
  some m
def F_X12_expression (m : M2) : Option M2 :=
  (qI m 56 54 (0 : Int32)).bind fun m1 => (nmI (hI m1 56 12)).bind fun v3 => (loop (g_X12_expression_12 v3) ((1 : Int32), m1)).bind fun e5 => (Sum.elim (fun e5_0 => if (hI e5_0 56 12) ≤ v3 then f_X12_expression_110 e5_0 else (F_X12_fail (1 : Int32) e5_0).bind fun c8 => f_X12_expression_110 c8) (fun e5_1 => f_X12_expression_163 e5_1)) e5
def f_X12_literal_20 (x1 : Int32) (s0 : Int32) (m : M2) : Option ((Int32 × M2) ⊕ ((Int32 × M2))) :=
  (F_X12_goesOn m).bind fun c1 => some (Sum.inl (s0, c1))
def f_X12_literal_2 (x1 : Int32) (x2 : Int32) (m : M2) : Option ((Int32 × M2) ⊕ ((Int32 × M2))) :=
  (F_X12_is (31 : Int32) m).bind fun c1 => if c1.1 = 0 then some (Sum.inr (x2, c1.2)) else if x2 = 0 then f_X12_literal_20 x1 (1 : Int32) c1.2 else f_X12_literal_20 x1 (0 : Int32) c1.2
def g_X12_literal_2 (x1 : Int32) (s : Int32 × M2) : Option ((Int32 × M2) ⊕ ((Int32 × M2))) := f_X12_literal_2 x1 s.1 s.2
def f_X12_literal_100 (x1 : Int32) (x2 : Int32) (x3 : Int32) (x4 : Int32) (m : M2) : Option M2 :=
  if (hI m 56 13) ≤ 0 then (F_X12_goesOn m).bind fun c2 => (nmI (hI c2 56 48)).bind fun v4 => (F_X12_expression c2).bind fun c6 => if (hI c6 56 13) ≤ 0 then (bI c6 83 300 (hI c6 56 41) x4).bind fun m9 => (zb x2).bind fun v11 => (bI m9 84 300 (hI m9 56 41) v11).bind fun m13 => (zb x1).bind fun v15 => (bI m13 85 300 (hI m13 56 41) v15).bind fun m17 => (bI m17 86 300 (hI m17 56 41) x3).bind fun m19 => (bI m19 87 300 (hI m19 56 41) v4).bind fun m21 => (bI m21 88 300 (hI m21 56 41) (hI m21 56 48)).bind fun m23 => (qI m23 56 41 ((hI m23 56 41) + (1 : Int32))).bind fun m25 => some m25 else some c6 else some m
def f_X12_literal_88 (x1 : Int32) (x2 : Int32) (x3 : Int32) (s0 : Int32) (m : M2) : Option M2 :=
  if 0 ≤ s0 then f_X12_literal_100 x1 x2 x3 s0 m else (F_X12_fail (1 : Int32) m).bind fun c2 => f_X12_literal_100 x1 x2 x3 s0 c2
def f_X12_literal_72 (x1 : Int32) (x2 : Int32) (x3 : Int32) (m : M2) : Option M2 :=
  f_X12_literal_88 x1 x2 x3 (-1 : Int32) m
def F_X12_literal (x1 : Int32) (m : M2) : Option M2 :=
  (loop (g_X12_literal_2 x1) ((0 : Int32), m)).bind fun e1 => (nmI (hI e1.2 56 48)).bind fun v3 => (F_X12_expression e1.2).bind fun c5 => if 0 < (hI c5 56 13) then f_X12_literal_72 x1 e1.1 v3 c5 else (aI c5 59 403 (hI c5 56 11)).bind fun v8 => if v8 < (11 : Int32) then f_X12_literal_72 x1 e1.1 v3 c5 else (aI c5 59 403 (hI c5 56 11)).bind fun v11 => if v11 ≤ (14 : Int32) then (aI c5 59 403 (hI c5 56 11)).bind fun v14 => f_X12_literal_88 x1 e1.1 v3 (v14 - (11 : Int32)) c5 else f_X12_literal_72 x1 e1.1 v3 c5
def f_X12_condition_49 (x1 : Int32) (s0 : Int32) (m : M2) : Option ((Int32 × Int32 × M2) ⊕ ((M2))) :=
  if s0 = 0 then some (Sum.inl (x1, s0, m)) else (F_X12_goesOn m).bind fun c2 => some (Sum.inl (x1, s0, c2))
def f_X12_condition_44 (x1 : Int32) (m : M2) : Option ((Int32 × Int32 × M2) ⊕ ((M2))) :=
  f_X12_condition_49 x1 (1 : Int32) m
def f_X12_condition_8 (x1 : Int32) (x2 : Int32) (m : M2) : Option ((Int32 × Int32 × M2) ⊕ ((M2))) :=
  if x2 = 0 then some (Sum.inr m) else if (hI m 56 13) = 0 then (F_X12_literal x1 m).bind fun c3 => (F_X12_is (29 : Int32) c3).bind fun c5 => if c5.1 = 0 then (F_X12_is (30 : Int32) c5.2).bind fun c8 => if c8.1 = 0 then f_X12_condition_49 c5.1 (0 : Int32) c8.2 else f_X12_condition_44 c5.1 c8.2 else f_X12_condition_44 c5.1 c5.2 else some (Sum.inr m)
def g_X12_condition_8 (s : Int32 × Int32 × M2) : Option ((Int32 × Int32 × M2) ⊕ ((M2))) := f_X12_condition_8 s.1 s.2.1 s.2.2
def f_X12_condition_61 (m : M2) : Option M2 :=
  some m
def F_X12_condition (m : M2) : Option M2 :=
  (F_X12_goesOn m).bind fun c1 => (loop (g_X12_condition_8) ((1 : Int32), (1 : Int32), c1)).bind fun e3 => f_X12_condition_61 e3
def f_X12_term_24 (m : M2) : Option M2 :=
  (bI m 73 108 (hI m 56 27) (hI m 56 48)).bind fun m1 => (qI m1 56 27 ((hI m1 56 27) + (1 : Int32))).bind fun m3 => some m3
def F_X12_term (m : M2) : Option M2 :=
  (bI m 72 108 (hI m 56 27) (hI m 56 48)).bind fun m1 => if (hI m1 56 13) = 0 then (F_X12_expression m1).bind fun c4 => f_X12_term_24 c4 else f_X12_term_24 m1
def F_X12_notes (x1 : Int32) (x2 : Int32) (m : M2) : Option M2 :=
  (aJ m 62 403 x1).bind fun v1 => (bJ m 64 20 (hI m 56 20) v1).bind fun m3 => (bI m3 65 20 (hI m3 56 20) x2).bind fun m5 => (qI m5 56 20 ((hI m5 56 20) + (1 : Int32))).bind fun m7 => some m7
def f_X12_tellLaw_67 (x1 : Int32) (x2 : Int32) (x3 : Int32) (m : M2) : Option ((Int32 × M2) ⊕ ((M2) ⊕ (M2))) :=
  if (hI m 56 13) ≤ 0 then (nmI (x3 + (1 : Int32))).bind fun v2 => (bI m 70 108 (hI m 56 27) (hI m 56 41)).bind fun m4 => (F_X12_condition m4).bind fun c6 => (bI c6 71 108 (hI c6 56 27) (hI c6 56 41)).bind fun m8 => (F_X12_must (23 : Int32) m8).bind fun c10 => (F_X12_term c10).bind fun c12 => (F_X12_must (24 : Int32) c12).bind fun c14 => some (Sum.inl (v2, c14)) else some (Sum.inr (Sum.inl m))
def f_X12_tellLaw_40 (x1 : Int32) (x2 : Int32) (x3 : Int32) (m : M2) : Option ((Int32 × M2) ⊕ ((M2) ⊕ (M2))) :=
  if (hI m 56 13) = 0 then (F_X12_is (22 : Int32) m).bind fun c2 => if c2.1 = 0 then some (Sum.inr (Sum.inr c2.2)) else if x3 = (8 : Int32) then (F_X12_fail (2 : Int32) c2.2).bind fun c6 => f_X12_tellLaw_67 x1 x2 x3 c6 else f_X12_tellLaw_67 x1 x2 x3 c2.2 else some (Sum.inr (Sum.inr m))
def g_X12_tellLaw_40 (x1 : Int32) (x2 : Int32) (s : Int32 × M2) : Option ((Int32 × M2) ⊕ ((M2) ⊕ (M2))) := f_X12_tellLaw_40 x1 x2 s.1 s.2
def f_X12_tellLaw_127 (x1 : Int32) (x2 : Int32) (m : M2) : Option M2 :=
  (bI m 70 108 (hI m 56 27) (hI m 56 41)).bind fun m1 => (bI m1 71 108 (hI m1 56 27) (hI m1 56 41)).bind fun m3 => (F_X12_term m3).bind fun c5 => (bI c5 69 12 x1 (hI c5 56 27)).bind fun m7 => (F_X12_must (4 : Int32) m7).bind fun c9 => if (hI c9 56 13) ≤ 0 then (aI c9 67 2 (hI c9 56 19)).bind fun v12 => (F_X12_notes x2 v12 c9).bind fun c14 => (aI c14 67 2 (hI c14 56 19)).bind fun v16 => (bI c14 67 2 (hI c14 56 19) (v16 + (1 : Int32))).bind fun m18 => some m18 else some c9
def F_X12_tellLaw (m : M2) : Option M2 :=
  (aI m 67 2 (hI m 56 19)).bind fun v1 => (nmI (((6 : Int32) * (hI m 56 19)) + v1)).bind fun v3 => (F_X12_named m).bind fun c5 => (F_X12_must (5 : Int32) c5.2).bind fun c7 => (bI c7 68 12 v3 (hI c7 56 27)).bind fun m9 => (loop (g_X12_tellLaw_40 v3 c5.1) ((0 : Int32), m9)).bind fun e11 => (Sum.elim (fun e11_0 => some e11_0) (fun e11_1 => f_X12_tellLaw_127 v3 c5.1 e11_1)) e11
def F_X12_part (m : M2) : Option (Int32 × M2) :=
  (nmI (hI m 56 11)).bind fun v1 => (F_X12_bounded (0 : Int32) (9999 : Int32) m).bind fun c3 => if (hI c3.2 56 13) ≤ 0 then (bI c3.2 91 140 (hI c3.2 56 51) v1).bind fun m6 => (qI m6 56 51 ((hI m6 56 51) + (1 : Int32))).bind fun m8 => some (c3.1, m8) else some ((0 : Int32), c3.2)
def f_X12_tellMan_99 (x1 : Int32) (x2 : Int32) (x3 : Int32) (x4 : Int32) (m : M2) : Option ((Int32 × M2) ⊕ ((M2))) :=
  (nmI (x4 + (1 : Int32))).bind fun v1 => some (Sum.inl (v1, m))
def f_X12_tellMan_43 (x1 : Int32) (x2 : Int32) (x3 : Int32) (x4 : Int32) (m : M2) : Option ((Int32 × M2) ⊕ ((M2))) :=
  if (hI m 56 20) ≤ x4 then some (Sum.inr m) else if (hI m 56 13) = 0 then (aJ m 64 20 x4).bind fun v3 => (aJ m 62 403 x3).bind fun v5 => if (lg_cmp v3 v5) = 0 then (aI m 65 20 x4).bind fun v8 => if v8 < 0 then f_X12_tellMan_99 x1 x2 x3 x4 m else (aI m 65 20 x4).bind fun v11 => (bI m 75 24 x1 v11).bind fun m13 => f_X12_tellMan_99 x1 x2 x3 x4 m13 else f_X12_tellMan_99 x1 x2 x3 x4 m else some (Sum.inr m)
def g_X12_tellMan_43 (x1 : Int32) (x2 : Int32) (x3 : Int32) (s : Int32 × M2) : Option ((Int32 × M2) ⊕ ((M2))) := f_X12_tellMan_43 x1 x2 x3 s.1 s.2
def f_X12_tellMan_127 (x1 : Int32) (x2 : Int32) (m : M2) : Option M2 :=
  (F_X12_part m).bind fun c1 => (bI c1.2 76 24 x1 c1.1).bind fun m3 => (F_X12_must (4 : Int32) m3).bind fun c5 => if (hI c5 56 13) ≤ 0 then (F_X12_notes x2 (-1 : Int32) c5).bind fun c8 => (aI c8 74 2 (hI c8 56 19)).bind fun v10 => (bI c8 74 2 (hI c8 56 19) (v10 + (1 : Int32))).bind fun m12 => some m12 else some c5
def f_X12_tellMan_105 (x1 : Int32) (x2 : Int32) (x3 : Int32) (m : M2) : Option M2 :=
  if (hI m 56 13) = 0 then (aI m 75 24 x1).bind fun v2 => if 0 ≤ v2 then f_X12_tellMan_127 x1 x2 m else (F_X12_wrong (4 : Int32) x3 m).bind fun c5 => f_X12_tellMan_127 x1 x2 c5 else f_X12_tellMan_127 x1 x2 m
def F_X12_tellMan (m : M2) : Option M2 :=
  (aI m 74 2 (hI m 56 19)).bind fun v1 => (nmI (((12 : Int32) * (hI m 56 19)) + v1)).bind fun v3 => (F_X12_named m).bind fun c5 => (nmI (hI c5.2 56 11)).bind fun v7 => (F_X12_must (1 : Int32) c5.2).bind fun c9 => (bI c9 75 24 v3 (-1 : Int32)).bind fun m11 => (loop (g_X12_tellMan_43 v3 c5.1 v7) ((0 : Int32), m11)).bind fun e13 => f_X12_tellMan_105 v3 c5.1 v7 e13
def f_X12_tellFog_75 (m : M2) : Option M2 :=
  some m
def F_X12_tellFog (m : M2) : Option M2 :=
  (aI m 80 2 (hI m 56 19)).bind fun v1 => (nmI (((4 : Int32) * (hI m 56 19)) + v1)).bind fun v3 => (F_X12_bounded (0 : Int32) (999 : Int32) m).bind fun c5 => (bI c5.2 81 8 v3 c5.1).bind fun m7 => (aI m7 81 8 v3).bind fun v9 => (F_X12_bounded v9 (999 : Int32) m7).bind fun c11 => (bI c11.2 82 8 v3 c11.1).bind fun m13 => (F_X12_must (4 : Int32) m13).bind fun c15 => if (hI c15 56 13) = 0 then (aI c15 80 2 (hI c15 56 19)).bind fun v18 => (bI c15 80 2 (hI c15 56 19) (v18 + (1 : Int32))).bind fun m20 => f_X12_tellFog_75 m20 else f_X12_tellFog_75 c15
def f_X12_tell_245 (m : M2) : Option M2 :=
  some m
def F_X12_tell (m : M2) : Option M2 :=
  (aI m 59 403 (hI m 56 11)).bind fun v1 => if v1 = (20 : Int32) then (F_X12_goesOn m).bind fun c4 => (F_X12_bounded (3 : Int32) (24 : Int32) c4).bind fun c6 => (bI c6.2 66 2 (hI c4 56 19) c6.1).bind fun m8 => (F_X12_must (4 : Int32) m8).bind fun c10 => f_X12_tell_245 c10 else if v1 = (21 : Int32) then (aI m 67 2 (hI m 56 19)).bind fun v13 => (F_X12_roomFor v13 (6 : Int32) m).bind fun c15 => if (hI c15 56 13) = 0 then (F_X12_tellLaw c15).bind fun c18 => f_X12_tell_245 c18 else f_X12_tell_245 c15 else if v1 = (22 : Int32) then (F_X12_fail (1 : Int32) m).bind fun c21 => f_X12_tell_245 c21 else if v1 = (23 : Int32) then (F_X12_fail (1 : Int32) m).bind fun c24 => f_X12_tell_245 c24 else if v1 = (24 : Int32) then (F_X12_fail (1 : Int32) m).bind fun c27 => f_X12_tell_245 c27 else if v1 = (25 : Int32) then (aI m 74 2 (hI m 56 19)).bind fun v30 => (F_X12_roomFor v30 (12 : Int32) m).bind fun c32 => if (hI c32 56 13) = 0 then (F_X12_tellMan c32).bind fun c35 => f_X12_tell_245 c35 else f_X12_tell_245 c32 else if v1 = (26 : Int32) then (F_X12_goesOn m).bind fun c38 => (F_X12_part c38).bind fun c40 => (bI c40.2 77 2 (hI c38 56 19) c40.1).bind fun m42 => (F_X12_bounded (0 : Int32) (23 : Int32) m42).bind fun c44 => (bI c44.2 78 2 (hI m42 56 19) c44.1).bind fun m46 => (F_X12_must (4 : Int32) m46).bind fun c48 => f_X12_tell_245 c48 else if v1 = (27 : Int32) then (F_X12_goesOn m).bind fun c51 => (F_X12_part c51).bind fun c53 => (bI c53.2 79 2 (hI c51 56 19) c53.1).bind fun m55 => (F_X12_must (4 : Int32) m55).bind fun c57 => f_X12_tell_245 c57 else if v1 = (28 : Int32) then (aI m 80 2 (hI m 56 19)).bind fun v60 => (F_X12_roomFor v60 (4 : Int32) m).bind fun c62 => if (hI c62 56 13) = 0 then (F_X12_tellFog c62).bind fun c65 => f_X12_tell_245 c65 else f_X12_tell_245 c62 else (F_X12_fail (1 : Int32) m).bind fun c67 => f_X12_tell_245 c67
def F_X12_menNow (m : M2) : Option (Int32 × M2) :=
  (aI m 74 2 (hI m 56 18)).bind fun v1 => some (v1, m)
def f_X12_begins_2 (x1 : Int32) (m : M2) : Option ((Int32 × M2) ⊕ ((M2))) :=
  (F_X12_menNow m).bind fun c1 => if c1.1 ≤ x1 then some (Sum.inr c1.2) else (aI c1.2 76 24 (((12 : Int32) * (hI c1.2 56 18)) + x1)).bind fun v4 => (bI c1.2 93 12 x1 v4).bind fun m6 => (bI m6 94 12 x1 x1).bind fun m8 => (aI m8 75 24 (((12 : Int32) * (hI m8 56 18)) + x1)).bind fun v10 => (bI m8 95 12 x1 v10).bind fun m12 => (nmI (x1 + (1 : Int32))).bind fun v14 => some (Sum.inl (v14, m12))
def g_X12_begins_2 (s : Int32 × M2) : Option ((Int32 × M2) ⊕ ((M2))) := f_X12_begins_2 s.1 s.2
def F_X12_begins (m : M2) : Option M2 :=
  (loop (g_X12_begins_2) ((0 : Int32), m)).bind fun e1 => (aI e1 77 2 (hI e1 56 18)).bind fun v3 => (qI e1 56 58 v3).bind fun m5 => (aI m5 78 2 (hI m5 56 18)).bind fun v7 => (qI m5 56 59 v7).bind fun m9 => (qI m9 56 60 (0 : Int32)).bind fun m11 => some m11
def f_X12_read_10 (x1 : Int32) (m : M2) : Option ((Int32 × M2) ⊕ ((M2))) :=
  if (hI m 56 4) ≤ x1 then some (Sum.inr m) else (aI m 57 2000 x1).bind fun v2 => (bB m 58 2000 x1 v2).bind fun m4 => (nmI (x1 + (1 : Int32))).bind fun v6 => some (Sum.inl (v6, m4))
def g_X12_read_10 (s : Int32 × M2) : Option ((Int32 × M2) ⊕ ((M2))) := f_X12_read_10 s.1 s.2
def f_X12_read_191 (m : M2) : Option ((M2) ⊕ ((M2))) :=
  if (hI m 56 13) = 0 then (F_X12_is (0 : Int32) m).bind fun c2 => if c2.1 = 0 then (F_X12_tell c2.2).bind fun c5 => some (Sum.inl c5) else some (Sum.inr c2.2) else some (Sum.inr m)
def g_X12_read_191 (s : M2) : Option ((M2) ⊕ ((M2))) := f_X12_read_191 s
def f_X12_read_272 (x1 : Int32) (m : M2) : Option ((Int32 × M2) ⊕ ((Int32 × M2) ⊕ (M2))) :=
  if (hI m 56 51) ≤ x1 then some (Sum.inr (Sum.inr m)) else (aI m 91 140 x1).bind fun v2 => (aI m 61 403 v2).bind fun v4 => (aI m 66 2 (hI m 56 19)).bind fun v6 => if v6 ≤ v4 then some (Sum.inr (Sum.inl (x1, m))) else (nmI (x1 + (1 : Int32))).bind fun v9 => some (Sum.inl (v9, m))
def g_X12_read_272 (s : Int32 × M2) : Option ((Int32 × M2) ⊕ ((Int32 × M2) ⊕ (M2))) := f_X12_read_272 s.1 s.2
def f_X12_read_354 (x1 : Int32) (m : M2) : Option ((Int32 × M2) ⊕ ((M2))) :=
  if (3 : Int32) ≤ x1 then some (Sum.inr m) else (bI m 113 3 x1 (0 : Int32)).bind fun m2 => (nmI (x1 + (1 : Int32))).bind fun v4 => some (Sum.inl (v4, m2))
def g_X12_read_354 (s : Int32 × M2) : Option ((Int32 × M2) ⊕ ((M2))) := f_X12_read_354 s.1 s.2
def f_X12_read_243 (s1 : Int32) (m : M2) : Option (Int32 × M2) :=
  (qI m 56 17 s1).bind fun m1 => if (hI m1 56 13) ≤ 0 then if (hI m1 56 15) ≤ 0 then (loop (g_X12_read_272) ((0 : Int32), m1)).bind fun e5 => (Sum.elim (fun e5_0 => (aI e5_0.2 91 140 e5_0.1).bind fun v7 => (aI e5_0.2 60 403 v7).bind fun v9 => (qI e5_0.2 56 17 v9).bind fun m11 => some ((6 : Int32), m11)) (fun e5_1 => (qI e5_1 56 18 (hI e5_1 56 19)).bind fun m13 => (F_X12_begins m13).bind fun c15 => (qI c15 56 61 (0 : Int32)).bind fun m17 => (qI m17 56 79 (0 : Int32)).bind fun m19 => (loop (g_X12_read_354) ((0 : Int32), m19)).bind fun e21 => some ((0 : Int32), e21))) e5 else some (hI m1 56 15, m1) else some (hI m1 56 13, m1)
def f_X12_read_213 (m : M2) : Option (Int32 × M2) :=
  if (hI m 56 13) ≤ 0 then if (hI m 56 15) ≤ 0 then f_X12_read_243 (-1 : Int32) m else f_X12_read_243 (hI m 56 16) m else f_X12_read_243 (hI m 56 14) m
def F_X12_read (m : M2) : Option (Int32 × M2) :=
  (qI m 56 4 (hI m 56 2)).bind fun m1 => (loop (g_X12_read_10) ((0 : Int32), m1)).bind fun e3 => (qI e3 56 2 (0 : Int32)).bind fun m5 => (F_X12_cut m5).bind fun c7 => (qI c7 56 11 (0 : Int32)).bind fun m9 => (qI m9 56 12 (0 : Int32)).bind fun m11 => (qI m11 56 13 (0 : Int32)).bind fun m13 => (qI m13 56 15 (0 : Int32)).bind fun m15 => (qI m15 56 19 ((1 : Int32) - (hI m15 56 18))).bind fun m17 => (qI m17 56 20 (0 : Int32)).bind fun m19 => (bI m19 66 2 (hI m19 56 19) (24 : Int32)).bind fun m21 => (bI m21 67 2 (hI m21 56 19) (0 : Int32)).bind fun m23 => (qI m23 56 27 ((54 : Int32) * (hI m23 56 19))).bind fun m25 => (bI m25 74 2 (hI m25 56 19) (0 : Int32)).bind fun m27 => (bI m27 77 2 (hI m27 56 19) (-1 : Int32)).bind fun m29 => (bI m29 78 2 (hI m29 56 19) (0 : Int32)).bind fun m31 => (bI m31 79 2 (hI m31 56 19) (-1 : Int32)).bind fun m33 => (bI m33 80 2 (hI m33 56 19) (0 : Int32)).bind fun m35 => (qI m35 56 41 ((150 : Int32) * (hI m35 56 19))).bind fun m37 => (qI m37 56 48 ((420 : Int32) * (hI m37 56 19))).bind fun m39 => (qI m39 56 51 (0 : Int32)).bind fun m41 => (loop (g_X12_read_191) m41).bind fun e43 => f_X12_read_213 e43
def F_X12_place (m : M2) : Option (Int32 × M2) :=
  some (hI m 56 17, m)
def f_X12_in_15 (s0 : Int32) (m : M2) : Option (Int32 × M2) :=
  (zb s0).bind fun v1 => some (v1, m)
def f_X12_in_14 (m : M2) : Option (Int32 × M2) :=
  f_X12_in_15 (0 : Int32) m
def F_X12_in (x0 : Int32) (x1 : Int32) (x2 : Int32) (m : M2) : Option (Int32 × M2) :=
  if x0 < x1 then f_X12_in_14 m else if x2 < x0 then f_X12_in_14 m else f_X12_in_15 (1 : Int32) m
def F_X12_all (m : M2) : Option (Int32 × M2) :=
  (aI m 66 2 (hI m 56 18)).bind fun v1 => some (v1, m)
def f_X12_takes_26 (x1 : Int32) (m : M2) : Option ((Int32 × M2) ⊕ ((M2))) :=
  if (hI m 56 65) ≤ x1 then some (Sum.inr m) else (aI m 93 12 x1).bind fun v2 => (bI m 97 12 x1 v2).bind fun m4 => (aI m4 95 12 x1).bind fun v6 => (bI m4 98 12 x1 v6).bind fun m8 => (nmI (x1 + (1 : Int32))).bind fun v10 => some (Sum.inl (v10, m8))
def g_X12_takes_26 (s : Int32 × M2) : Option ((Int32 × M2) ⊕ ((M2))) := f_X12_takes_26 s.1 s.2
def F_X12_takes (m : M2) : Option M2 :=
  (F_X12_menNow m).bind fun c1 => (qI c1.2 56 65 c1.1).bind fun m3 => (qI m3 56 66 (hI m3 56 58)).bind fun m5 => (qI m5 56 67 (hI m5 56 59)).bind fun m7 => (loop (g_X12_takes_26) ((0 : Int32), m7)).bind fun e9 => some e9
def f_X12_rest_21 (s0 : Int32) (m : M2) : Option (Int32 × M2) :=
  some (s0, m)
def F_X12_rest (x1 : Int32) (m : M2) : Option (Int32 × M2) :=
  (F_X12_all m).bind fun c1 => (rmI x1 c1.1).bind fun v3 => if 0 ≤ v3 then f_X12_rest_21 v3 c1.2 else (F_X12_all c1.2).bind fun c6 => f_X12_rest_21 (v3 + c6.1) c6.2
def f_X12_gap_28 (s0 : Int32) (m : M2) : Option (Int32 × M2) :=
  some (s0, m)
def F_X12_gap (x1 : Int32) (x2 : Int32) (m : M2) : Option (Int32 × M2) :=
  (F_X12_rest (x1 - x2) m).bind fun c1 => (F_X12_all c1.2).bind fun c3 => if ((2 : Int32) * c1.1) ≤ c3.1 then f_X12_gap_28 c1.1 c3.2 else (F_X12_all c3.2).bind fun c6 => f_X12_gap_28 (c1.1 - c6.1) c6.2
def f_X12_isFog_2 (x1 : Int32) (x2 : Int32) (m : M2) : Option ((Int32 × M2) ⊕ ((M2) ⊕ (M2))) :=
  (aI m 80 2 (hI m 56 18)).bind fun v1 => if v1 ≤ x2 then some (Sum.inr (Sum.inr m)) else (aI m 81 8 (((4 : Int32) * (hI m 56 18)) + x2)).bind fun v4 => (aI m 82 8 (((4 : Int32) * (hI m 56 18)) + x2)).bind fun v6 => (F_X12_in x1 v4 v6 m).bind fun c8 => if c8.1 = 0 then (nmI (x2 + (1 : Int32))).bind fun v11 => some (Sum.inl (v11, c8.2)) else some (Sum.inr (Sum.inl c8.2))
def g_X12_isFog_2 (x1 : Int32) (s : Int32 × M2) : Option ((Int32 × M2) ⊕ ((M2) ⊕ (M2))) := f_X12_isFog_2 x1 s.1 s.2
def F_X12_isFog (x1 : Int32) (m : M2) : Option (Int32 × M2) :=
  (loop (g_X12_isFog_2 x1) ((0 : Int32), m)).bind fun e1 => (Sum.elim (fun e1_0 => some ((1 : Int32), e1_0)) (fun e1_1 => some ((0 : Int32), e1_1))) e1
def f_X12_heard_36 (s0 : Int32) (m : M2) : Option (Int32 × M2) :=
  some (s0, m)
def f_X12_heard_12 (x1 : Int32) (m : M2) : Option (Int32 × M2) :=
  (aI m 97 12 x1).bind fun v1 => f_X12_heard_36 v1 m
def F_X12_heard (x1 : Int32) (x2 : Int32) (m : M2) : Option (Int32 × M2) :=
  if x2 = 0 then if (hI m 56 66) = (-1 : Int32) then f_X12_heard_12 x1 m else (F_X12_rest ((hI m 56 66) + ((hI m 56 67) * x1)) m).bind fun c3 => f_X12_heard_36 c3.1 c3.2 else f_X12_heard_12 x1 m
def f_X12_termOf_189 (x2 : Int32) (x3 : Int32) (x4 : Int32) (m : M2) : Option ((Int32 × Int32 × M2) ⊕ ((M2) ⊕ (M2))) :=
  (nmI (x4 + (1 : Int32))).bind fun v1 => some (Sum.inl (x3, v1, m))
def f_X12_termOf_58 (x2 : Int32) (x3 : Int32) (x4 : Int32) (s1 : Int32) (s2 : Int32) (m : M2) : Option ((Int32 × Int32 × M2) ⊕ ((M2) ⊕ (M2))) :=
  (bI m 101 400 s1 s2).bind fun m1 => (nmI (x3 + (1 : Int32))).bind fun v3 => f_X12_termOf_189 x2 v3 x4 m1
def f_X12_termOf_188 (x2 : Int32) (x3 : Int32) (x4 : Int32) (s1 : Int32) (s2 : Int32) (m : M2) : Option ((Int32 × Int32 × M2) ⊕ ((M2) ⊕ (M2))) :=
  (bI m 101 400 s1 s2).bind fun m1 => f_X12_termOf_189 x2 x3 x4 m1
def f_X12_termOf_104 (x2 : Int32) (x3 : Int32) (x4 : Int32) (x5 : Int32) (x6 : Int32) (x7 : Int32) (m : M2) : Option ((Int32 × Int32 × M2) ⊕ ((M2) ⊕ (M2))) :=
  if x5 = (2 : Int32) then f_X12_termOf_188 x2 x3 x4 (x3 - (1 : Int32)) (x6 + x7) m else if x5 = (3 : Int32) then f_X12_termOf_188 x2 x3 x4 (x3 - (1 : Int32)) (x6 - x7) m else if x5 = (4 : Int32) then f_X12_termOf_188 x2 x3 x4 (x3 - (1 : Int32)) (x6 * x7) m else if x5 = (6 : Int32) then (F_X12_gap x6 x7 m).bind fun c8 => f_X12_termOf_188 x2 x3 x4 (x3 - (1 : Int32)) c8.1 c8.2 else if x7 = (-1 : Int32) then f_X12_termOf_188 x2 x3 x4 (x3 - (1 : Int32)) (-x6) m else (dvI x6 x7).bind fun v6 => f_X12_termOf_188 x2 x3 x4 (x3 - (1 : Int32)) v6 m
def f_X12_termOf_5 (x2 : Int32) (x3 : Int32) (x4 : Int32) (m : M2) : Option ((Int32 × Int32 × M2) ⊕ ((M2) ⊕ (M2))) :=
  if x2 ≤ x4 then some (Sum.inr (Sum.inr m)) else (aI m 89 840 x4).bind fun v2 => if (2 : Int32) ≤ v2 then (nmI (x3 + (-1 : Int32))).bind fun v5 => (aI m 101 400 (v5 - (1 : Int32))).bind fun v7 => (aI m 101 400 v5).bind fun v9 => if v2 = (5 : Int32) then if v9 = 0 then some (Sum.inr (Sum.inl m)) else f_X12_termOf_104 x2 v5 x4 v2 v7 v9 m else f_X12_termOf_104 x2 v5 x4 v2 v7 v9 m else if v2 = 0 then (aI m 90 840 x4).bind fun v18 => f_X12_termOf_58 x2 x3 x4 x3 v18 m else (aI m 90 840 x4).bind fun v14 => (aI m 100 6 v14).bind fun v16 => f_X12_termOf_58 x2 x3 x4 x3 v16 m
def g_X12_termOf_5 (x2 : Int32) (s : Int32 × Int32 × M2) : Option ((Int32 × Int32 × M2) ⊕ ((M2) ⊕ (M2))) := f_X12_termOf_5 x2 s.1 s.2.1 s.2.2
def F_X12_termOf (x1 : Int32) (x2 : Int32) (m : M2) : Option (Int32 × M2) :=
  (loop (g_X12_termOf_5 x2) ((0 : Int32), x1, m)).bind fun e1 => (Sum.elim (fun e1_0 => (qI e1_0 56 71 (1 : Int32)).bind fun m3 => some ((0 : Int32), m3)) (fun e1_1 => (aI e1_1 101 400 (0 : Int32)).bind fun v5 => some (v5, e1_1))) e1
def f_X12_isTrue_130 (s0 : Int32) (m : M2) : Option (Int32 × M2) :=
  (zb s0).bind fun v1 => some (v1, m)
def f_X12_isTrue_112 (x1 : Int32) (s0 : Int32) (m : M2) : Option (Int32 × M2) :=
  (aI m 84 300 x1).bind fun v1 => if s0 = v1 then f_X12_isTrue_130 (0 : Int32) m else f_X12_isTrue_130 (1 : Int32) m
def F_X12_isTrue (x1 : Int32) (m : M2) : Option (Int32 × M2) :=
  (aI m 86 300 x1).bind fun v1 => (aI m 87 300 x1).bind fun v3 => (F_X12_termOf v1 v3 m).bind fun c5 => (aI c5.2 87 300 x1).bind fun v7 => (aI c5.2 88 300 x1).bind fun v9 => (F_X12_termOf v7 v9 c5.2).bind fun c11 => (aI c11.2 83 300 x1).bind fun v13 => if v13 = 0 then if c5.1 = c11.1 then f_X12_isTrue_112 x1 (1 : Int32) c11.2 else f_X12_isTrue_112 x1 (0 : Int32) c11.2 else (aI c11.2 83 300 x1).bind fun v16 => if v16 = (1 : Int32) then if c5.1 = c11.1 then f_X12_isTrue_112 x1 (0 : Int32) c11.2 else f_X12_isTrue_112 x1 (1 : Int32) c11.2 else (aI c11.2 83 300 x1).bind fun v19 => if v19 = (2 : Int32) then if c11.1 ≤ c5.1 then f_X12_isTrue_112 x1 (0 : Int32) c11.2 else f_X12_isTrue_112 x1 (1 : Int32) c11.2 else if c11.1 < c5.1 then f_X12_isTrue_112 x1 (0 : Int32) c11.2 else f_X12_isTrue_112 x1 (1 : Int32) c11.2
def f_X12_holds_62 (x1 : Int32) (x2 : Int32) (x3 : Int32) (m : M2) : Option ((Int32 × Int32 × M2) ⊕ ((M2) ⊕ (Int32 × M2))) :=
  (nmI (x3 + (1 : Int32))).bind fun v1 => some (Sum.inl (x2, v1, m))
def f_X12_holds_52 (x1 : Int32) (x2 : Int32) (x3 : Int32) (m : M2) : Option ((Int32 × Int32 × M2) ⊕ ((M2) ⊕ (Int32 × M2))) :=
  if x2 = 0 then f_X12_holds_62 x1 x2 x3 m else (F_X12_isTrue x3 m).bind fun c2 => f_X12_holds_62 x1 c2.1 x3 c2.2
def f_X12_holds_41 (x1 : Int32) (x2 : Int32) (x3 : Int32) (m : M2) : Option ((Int32 × Int32 × M2) ⊕ ((M2) ⊕ (Int32 × M2))) :=
  (aI m 85 300 x3).bind fun v1 => if v1 = 0 then f_X12_holds_52 x1 x2 x3 m else f_X12_holds_52 x1 (1 : Int32) x3 m
def f_X12_holds_9 (x1 : Int32) (x2 : Int32) (x3 : Int32) (m : M2) : Option ((Int32 × Int32 × M2) ⊕ ((M2) ⊕ (Int32 × M2))) :=
  (aI m 71 108 x1).bind fun v1 => if v1 ≤ x3 then some (Sum.inr (Sum.inr (x2, m))) else if (hI m 56 71) = 0 then (aI m 85 300 x3).bind fun v5 => if v5 = 0 then f_X12_holds_41 x1 x2 x3 m else if x2 = 0 then f_X12_holds_41 x1 x2 x3 m else some (Sum.inr (Sum.inl m)) else some (Sum.inr (Sum.inr (x2, m)))
def g_X12_holds_9 (x1 : Int32) (s : Int32 × Int32 × M2) : Option ((Int32 × Int32 × M2) ⊕ ((M2) ⊕ (Int32 × M2))) := f_X12_holds_9 x1 s.1 s.2.1 s.2.2
def f_X12_holds_68 (x2 : Int32) (m : M2) : Option (Int32 × M2) :=
  (zb x2).bind fun v1 => some (v1, m)
def F_X12_holds (x1 : Int32) (m : M2) : Option (Int32 × M2) :=
  (aI m 70 108 x1).bind fun v1 => (loop (g_X12_holds_9 x1) ((0 : Int32), v1, m)).bind fun e3 => (Sum.elim (fun e3_0 => some ((1 : Int32), e3_0)) (fun e3_1 => f_X12_holds_68 e3_1.1 e3_1.2)) e3
def f_X12_rowsBy_72 (x2 : Int32) (x3 : Int32) (x4 : Int32) (s0 : Int32) (m : M2) : Option ((Int32 × M2) ⊕ ((M2) ⊕ (Int32 × M2) ⊕ (M2))) :=
  if (hI m 56 71) = 0 then if s0 = 0 then (nmI (x4 + (1 : Int32))).bind fun v3 => some (Sum.inl (v3, m)) else some (Sum.inr (Sum.inr (Sum.inl (x4, m)))) else some (Sum.inr (Sum.inl m))
def f_X12_rowsBy_67 (x2 : Int32) (x3 : Int32) (x4 : Int32) (m : M2) : Option ((Int32 × M2) ⊕ ((M2) ⊕ (Int32 × M2) ⊕ (M2))) :=
  f_X12_rowsBy_72 x2 x3 x4 (1 : Int32) m
def f_X12_rowsBy_30 (x2 : Int32) (x3 : Int32) (x4 : Int32) (m : M2) : Option ((Int32 × M2) ⊕ ((M2) ⊕ (Int32 × M2) ⊕ (M2))) :=
  (aI m 69 12 x3).bind fun v1 => if v1 ≤ x4 then some (Sum.inr (Sum.inr (Sum.inr m))) else (aI m 70 108 x4).bind fun v4 => (aI m 71 108 x4).bind fun v6 => if v4 = v6 then f_X12_rowsBy_67 x2 x3 x4 m else (F_X12_holds x4 m).bind fun c9 => if c9.1 = 0 then f_X12_rowsBy_72 x2 x3 x4 (0 : Int32) c9.2 else f_X12_rowsBy_67 x2 x3 x4 c9.2
def g_X12_rowsBy_30 (x2 : Int32) (x3 : Int32) (s : Int32 × M2) : Option ((Int32 × M2) ⊕ ((M2) ⊕ (Int32 × M2) ⊕ (M2))) := f_X12_rowsBy_30 x2 x3 s.1 s.2
def f_X12_rowsBy_128 (s0 : Int32) (m : M2) : Option (Int32 × M2) :=
  some (s0, m)
def F_X12_rowsBy (x1 : Int32) (x2 : Int32) (m : M2) : Option (Int32 × M2) :=
  if x1 = (-1 : Int32) then some (x2, m) else (nmI (((6 : Int32) * (hI m 56 18)) + x1)).bind fun v2 => (qI m 56 71 (0 : Int32)).bind fun m4 => (aI m4 68 12 v2).bind fun v6 => (loop (g_X12_rowsBy_30 x2 v2) (v6, m4)).bind fun e8 => (Sum.elim (fun e8_0 => some (x2, e8_0)) (Sum.elim (fun e8_1 => (aI e8_1.2 72 108 e8_1.1).bind fun v10 => (aI e8_1.2 73 108 e8_1.1).bind fun v12 => (F_X12_termOf v10 v12 e8_1.2).bind fun c14 => if (hI c14.2 56 71) = 0 then (F_X12_rest c14.1 c14.2).bind fun c17 => f_X12_rowsBy_128 c17.1 c17.2 else f_X12_rowsBy_128 x2 c14.2) (fun e8_2 => some (x2, e8_2)))) e8
def f_X12_strikes_140 (x1 : Int32) (x2 : Int32) (s1 : Int32) (s2 : Int32) (m : M2) : Option ((Int32 × M2) ⊕ ((M2))) :=
  (bI m 100 6 s1 s2).bind fun m1 => (aI m1 98 12 x2).bind fun v3 => (aI m1 97 12 x2).bind fun v5 => (F_X12_rowsBy v3 v5 m1).bind fun c7 => (bI c7.2 99 12 x2 c7.1).bind fun m9 => (nmI (x2 + (1 : Int32))).bind fun v11 => some (Sum.inl (v11, m9))
def f_X12_strikes_84 (x1 : Int32) (x2 : Int32) (s1 : Int32) (s2 : Int32) (m : M2) : Option ((Int32 × M2) ⊕ ((M2))) :=
  (bI m 100 6 s1 s2).bind fun m1 => (F_X12_heard x2 x1 m1).bind fun c3 => (bI c3.2 100 6 (3 : Int32) c3.1).bind fun m5 => (bI m5 100 6 (4 : Int32) x2).bind fun m7 => (aI m7 79 2 (hI m7 56 18)).bind fun v9 => if v9 = (-1 : Int32) then (aI m7 97 12 x2).bind fun v14 => f_X12_strikes_140 x1 x2 (5 : Int32) v14 m7 else (aI m7 79 2 (hI m7 56 18)).bind fun v12 => f_X12_strikes_140 x1 x2 (5 : Int32) v12 m7
def f_X12_strikes_83 (x1 : Int32) (x2 : Int32) (s1 : Int32) (s3 : Int32) (m : M2) : Option ((Int32 × M2) ⊕ ((M2))) :=
  (aI m 97 12 s3).bind fun v1 => f_X12_strikes_84 x1 x2 s1 v1 m
def f_X12_strikes_48 (x1 : Int32) (x2 : Int32) (s1 : Int32) (s2 : Int32) (m : M2) : Option ((Int32 × M2) ⊕ ((M2))) :=
  (bI m 100 6 s1 s2).bind fun m1 => if x2 = 0 then (aI m1 97 12 (0 : Int32)).bind fun v5 => f_X12_strikes_84 x1 x2 (2 : Int32) v5 m1 else if x2 = (1 : Int32) then f_X12_strikes_83 x1 x2 (2 : Int32) (0 : Int32) m1 else f_X12_strikes_83 x1 x2 (2 : Int32) (x2 - (2 : Int32)) m1
def f_X12_strikes_2 (x1 : Int32) (x2 : Int32) (m : M2) : Option ((Int32 × M2) ⊕ ((M2))) :=
  if (hI m 56 65) ≤ x2 then some (Sum.inr m) else (aI m 97 12 x2).bind fun v2 => (bI m 100 6 (0 : Int32) v2).bind fun m4 => if x2 = 0 then (aI m4 97 12 (0 : Int32)).bind fun v9 => f_X12_strikes_48 x1 x2 (1 : Int32) v9 m4 else (aI m4 97 12 (x2 - (1 : Int32))).bind fun v7 => f_X12_strikes_48 x1 x2 (1 : Int32) v7 m4
def g_X12_strikes_2 (x1 : Int32) (s : Int32 × M2) : Option ((Int32 × M2) ⊕ ((M2))) := f_X12_strikes_2 x1 s.1 s.2
def f_X12_strikes_171 (x2 : Int32) (m : M2) : Option ((Int32 × M2) ⊕ ((M2))) :=
  if (hI m 56 65) ≤ x2 then some (Sum.inr m) else (aI m 99 12 x2).bind fun v2 => (bI m 97 12 x2 v2).bind fun m4 => (nmI (x2 + (1 : Int32))).bind fun v6 => some (Sum.inl (v6, m4))
def g_X12_strikes_171 (s : Int32 × M2) : Option ((Int32 × M2) ⊕ ((M2))) := f_X12_strikes_171 s.1 s.2
def F_X12_strikes (x1 : Int32) (m : M2) : Option M2 :=
  (loop (g_X12_strikes_2 x1) ((0 : Int32), m)).bind fun e1 => (loop (g_X12_strikes_171) ((0 : Int32), e1)).bind fun e3 => some e3
def F_X12_isBench (x1 : Int32) (m : M2) : Option (Int32 × M2) :=
  (F_X12_menNow m).bind fun c1 => (F_X12_in x1 (0 : Int32) (c1.1 - (1 : Int32)) c1.2).bind fun c3 => (zb c3.1).bind fun v5 => some (v5, c3.2)
def F_X12_bench (x1 : Int32) (x2 : Int32) (m : M2) : Option (Int32 × M2) :=
  (F_X12_isBench x1 m).bind fun c1 => if c1.1 = 0 then some ((-1 : Int32), c1.2) else if x2 = (0 : Int32) then (aI c1.2 93 12 x1).bind fun v5 => some (v5, c1.2) else if x2 = (1 : Int32) then (aI c1.2 94 12 x1).bind fun v8 => some (v8, c1.2) else if x2 = (2 : Int32) then (aI c1.2 95 12 x1).bind fun v11 => some (v11, c1.2) else if x2 = (3 : Int32) then (F_X12_takes c1.2).bind fun c14 => (F_X12_isFog (hI c14 56 60) c14).bind fun c16 => (F_X12_heard x1 c16.1 c16.2).bind fun c18 => some (c18.1, c18.2) else some ((-1 : Int32), c1.2)
def f_X12_row_34 (x1 : Int32) (x2 : Int32) (x3 : Int32) (m : M2) : Option ((Int32 × M2) ⊕ ((M2))) :=
  if (1188 : Int32) ≤ x3 then some (Sum.inr m) else (aI m 96 1200 (x3 + (12 : Int32))).bind fun v2 => (bI m 96 1200 x3 v2).bind fun m4 => (nmI (x3 + (1 : Int32))).bind fun v6 => some (Sum.inl (v6, m4))
def g_X12_row_34 (x1 : Int32) (x2 : Int32) (s : Int32 × M2) : Option ((Int32 × M2) ⊕ ((M2))) := f_X12_row_34 x1 x2 s.1 s.2
def f_X12_row_74 (x1 : Int32) (x2 : Int32) (x3 : Int32) (m : M2) : Option ((Int32 × M2) ⊕ ((M2))) :=
  if (hI m 56 65) ≤ x3 then some (Sum.inr m) else (aI m 97 12 x3).bind fun v2 => (bI m 96 1200 (((12 : Int32) * (hI m 56 61)) + x3) v2).bind fun m4 => (nmI (x3 + (1 : Int32))).bind fun v6 => some (Sum.inl (v6, m4))
def g_X12_row_74 (x1 : Int32) (x2 : Int32) (s : Int32 × M2) : Option ((Int32 × M2) ⊕ ((M2))) := f_X12_row_74 x1 x2 s.1 s.2
def f_X12_row_72 (x1 : Int32) (x2 : Int32) (m : M2) : Option ((Int32 × M2) ⊕ ((M2))) :=
  (loop (g_X12_row_74 x1 x2) ((0 : Int32), m)).bind fun e1 => (qI e1 56 61 ((hI e1 56 61) + (1 : Int32))).bind fun m3 => (F_X12_isFog (hI m3 56 60) m3).bind fun c5 => (F_X12_strikes c5.1 c5.2).bind fun c7 => (qI c7 56 60 ((hI c7 56 60) + (1 : Int32))).bind fun m9 => (nmI (x2 + (1 : Int32))).bind fun v11 => some (Sum.inl (v11, m9))
def f_X12_row_18 (x1 : Int32) (x2 : Int32) (m : M2) : Option ((Int32 × M2) ⊕ ((M2))) :=
  if x1 ≤ x2 then some (Sum.inr m) else if (hI m 56 61) = (100 : Int32) then (loop (g_X12_row_34 x1 x2) ((0 : Int32), m)).bind fun e3 => (qI e3 56 61 ((hI e3 56 61) - (1 : Int32))).bind fun m5 => f_X12_row_72 x1 x2 m5 else f_X12_row_72 x1 x2 m
def g_X12_row_18 (x1 : Int32) (s : Int32 × M2) : Option ((Int32 × M2) ⊕ ((M2))) := f_X12_row_18 x1 s.1 s.2
def f_X12_row_148 (x2 : Int32) (m : M2) : Option ((Int32 × M2) ⊕ ((M2))) :=
  if (hI m 56 65) ≤ x2 then some (Sum.inr m) else (aI m 97 12 x2).bind fun v2 => (bI m 93 12 x2 v2).bind fun m4 => (nmI (x2 + (1 : Int32))).bind fun v6 => some (Sum.inl (v6, m4))
def g_X12_row_148 (s : Int32 × M2) : Option ((Int32 × M2) ⊕ ((M2))) := f_X12_row_148 s.1 s.2
def F_X12_row (x1 : Int32) (m : M2) : Option (Int32 × M2) :=
  (F_X12_in x1 (0 : Int32) (100 : Int32) m).bind fun c1 => if c1.1 = 0 then some ((-1 : Int32), c1.2) else (F_X12_takes c1.2).bind fun c4 => (loop (g_X12_row_18 x1) ((0 : Int32), c4)).bind fun e6 => (loop (g_X12_row_148) ((0 : Int32), e6)).bind fun e8 => some (hI e8 56 60, e8)
def f_X12_undo_31 (x1 : Int32) (m : M2) : Option ((Int32 × M2) ⊕ ((M2))) :=
  (F_X12_menNow m).bind fun c1 => if c1.1 ≤ x1 then some (Sum.inr c1.2) else (aI c1.2 96 1200 (((12 : Int32) * (hI c1.2 56 61)) + x1)).bind fun v4 => (bI c1.2 93 12 x1 v4).bind fun m6 => (nmI (x1 + (1 : Int32))).bind fun v8 => some (Sum.inl (v8, m6))
def g_X12_undo_31 (s : Int32 × M2) : Option ((Int32 × M2) ⊕ ((M2))) := f_X12_undo_31 s.1 s.2
def F_X12_undo (m : M2) : Option (Int32 × M2) :=
  if (hI m 56 61) = 0 then some ((0 : Int32), m) else (qI m 56 61 ((hI m 56 61) - (1 : Int32))).bind fun m2 => (qI m2 56 60 ((hI m2 56 60) - (1 : Int32))).bind fun m4 => (loop (g_X12_undo_31) ((0 : Int32), m4)).bind fun e6 => some ((1 : Int32), e6)
def f_X12_clashesNow_56 (x1 : Int32) (x2 : Int32) (m : M2) : Option ((Int32 × Int32 × M2) ⊕ ((Int32 × M2))) :=
  (nmI (x2 + (1 : Int32))).bind fun v1 => some (Sum.inl (x1, v1, m))
def f_X12_clashesNow_38 (x1 : Int32) (x2 : Int32) (x3 : Int32) (m : M2) : Option ((Int32 × Int32 × M2) ⊕ ((Int32 × M2))) :=
  (F_X12_all m).bind fun c1 => (dvI (c1.1 + (2 : Int32)) (3 : Int32)).bind fun v3 => if x3 < v3 then f_X12_clashesNow_56 x1 x2 c1.2 else (nmI (x1 ||| ((1 : Int32) <<< (x2 &&& 31)))).bind fun v6 => f_X12_clashesNow_56 v6 x2 c1.2
def f_X12_clashesNow_4 (x1 : Int32) (x2 : Int32) (m : M2) : Option ((Int32 × Int32 × M2) ⊕ ((Int32 × M2))) :=
  if (hI m 56 65) ≤ x2 then some (Sum.inr (x1, m)) else (aI m 97 12 x2).bind fun v2 => (aI m 97 12 (x2 - (1 : Int32))).bind fun v4 => (F_X12_gap v2 v4 m).bind fun c6 => if 0 ≤ c6.1 then f_X12_clashesNow_38 x1 x2 c6.1 c6.2 else (nmI (-c6.1)).bind fun v9 => f_X12_clashesNow_38 x1 x2 v9 c6.2
def g_X12_clashesNow_4 (s : Int32 × Int32 × M2) : Option ((Int32 × Int32 × M2) ⊕ ((Int32 × M2))) := f_X12_clashesNow_4 s.1 s.2.1 s.2.2
def F_X12_clashesNow (m : M2) : Option (Int32 × M2) :=
  (loop (g_X12_clashesNow_4) ((0 : Int32), (1 : Int32), m)).bind fun e1 => some (e1.1, e1.2)
def F_X12_clashes (m : M2) : Option (Int32 × M2) :=
  (F_X12_takes m).bind fun c1 => (F_X12_clashesNow c1).bind fun c3 => some (c3.1, c3.2)
def f_X12_nearTo_34 (x1 : Int32) (x2 : Int32) (x3 : Int32) (m : M2) : Option ((Int32 × Int32 × M2) ⊕ ((Int32 × M2))) :=
  (nmI (x3 + (1 : Int32))).bind fun v1 => some (Sum.inl (x2, v1, m))
def f_X12_nearTo_4 (x1 : Int32) (x2 : Int32) (x3 : Int32) (m : M2) : Option ((Int32 × Int32 × M2) ⊕ ((Int32 × M2))) :=
  if (hI m 56 65) ≤ x3 then some (Sum.inr (x2, m)) else (aI m 97 12 x3).bind fun v2 => (F_X12_gap v2 x1 m).bind fun c4 => (F_X12_in c4.1 (-1 : Int32) (1 : Int32) c4.2).bind fun c6 => if c6.1 = 0 then f_X12_nearTo_34 x1 x2 x3 c6.2 else (nmI (x2 + (1 : Int32))).bind fun v9 => f_X12_nearTo_34 x1 v9 x3 c6.2
def g_X12_nearTo_4 (x1 : Int32) (s : Int32 × Int32 × M2) : Option ((Int32 × Int32 × M2) ⊕ ((Int32 × M2))) := f_X12_nearTo_4 x1 s.1 s.2.1 s.2.2
def F_X12_nearTo (x1 : Int32) (m : M2) : Option (Int32 × M2) :=
  (loop (g_X12_nearTo_4 x1) ((0 : Int32), (0 : Int32), m)).bind fun e1 => some (e1.1, e1.2)
def f_X12_wayNow_27 (x1 : Int32) (x2 : Int32) (m : M2) : Option ((Int32 × Int32 × M2) ⊕ ((Int32 × M2))) :=
  (nmI (x2 + (1 : Int32))).bind fun v1 => some (Sum.inl (x1, v1, m))
def f_X12_wayNow_4 (x1 : Int32) (x2 : Int32) (m : M2) : Option ((Int32 × Int32 × M2) ⊕ ((Int32 × M2))) :=
  (F_X12_all m).bind fun c1 => if c1.1 ≤ x2 then some (Sum.inr (x1, c1.2)) else (F_X12_nearTo x2 c1.2).bind fun c4 => if c4.1 ≤ x1 then f_X12_wayNow_27 x1 x2 c4.2 else (F_X12_nearTo x2 c4.2).bind fun c7 => f_X12_wayNow_27 c7.1 x2 c7.2
def g_X12_wayNow_4 (s : Int32 × Int32 × M2) : Option ((Int32 × Int32 × M2) ⊕ ((Int32 × M2))) := f_X12_wayNow_4 s.1 s.2.1 s.2.2
def F_X12_wayNow (m : M2) : Option (Int32 × M2) :=
  (loop (g_X12_wayNow_4) ((0 : Int32), (0 : Int32), m)).bind fun e1 => some (e1.1, e1.2)
def f_X12_way_16 (m : M2) : Option (Int32 × M2) :=
  some ((-1 : Int32), m)
def f_X12_way_29 (x1 : Int32) (x2 : Int32) (x3 : Int32) (m : M2) : Option ((Int32 × M2) ⊕ ((Int32 × M2))) :=
  (F_X12_nearTo x3 m).bind fun c1 => if c1.1 = x2 then some (Sum.inr (x3, c1.2)) else (nmI (x3 + (1 : Int32))).bind fun v4 => some (Sum.inl (v4, c1.2))
def g_X12_way_29 (x1 : Int32) (x2 : Int32) (s : Int32 × M2) : Option ((Int32 × M2) ⊕ ((Int32 × M2))) := f_X12_way_29 x1 x2 s.1 s.2
def f_X12_way_53 (s0 : Int32) (m : M2) : Option (Int32 × M2) :=
  some (s0, m)
def F_X12_way (x1 : Int32) (m : M2) : Option (Int32 × M2) :=
  (F_X12_in x1 (0 : Int32) (1 : Int32) m).bind fun c1 => if c1.1 = 0 then f_X12_way_16 c1.2 else (F_X12_menNow c1.2).bind fun c4 => if c4.1 = 0 then f_X12_way_16 c4.2 else (F_X12_takes c4.2).bind fun c7 => (F_X12_wayNow c7).bind fun c9 => (loop (g_X12_way_29 x1 c9.1) ((0 : Int32), c9.2)).bind fun e11 => if x1 = 0 then f_X12_way_53 c9.1 e11.2 else f_X12_way_53 e11.1 e11.2
def f_X12_wave_70 (x1 : Int32) (x2 : Int32) (x3 : Int32) (x4 : Int32) (x5 : Int32) (x6 : Int32) (x7 : Int32) (m : M2) : Option ((Int32 × M2) ⊕ ((Int32 × M2))) :=
  if x7 = 0 then some (Sum.inr (x6, m)) else (F_X12_menNow m).bind fun c2 => if c2.1 ≤ (x5 + x6) then some (Sum.inr (x6, c2.2)) else (aI c2.2 93 12 (x5 + x6)).bind fun v5 => (aI c2.2 93 12 ((x5 + x6) - (1 : Int32))).bind fun v7 => (F_X12_gap v5 v7 c2.2).bind fun c9 => if c9.1 = x7 then (nmI (x6 + (1 : Int32))).bind fun v12 => some (Sum.inl (v12, c9.2)) else some (Sum.inr (x6, c9.2))
def g_X12_wave_70 (x1 : Int32) (x2 : Int32) (x3 : Int32) (x4 : Int32) (x5 : Int32) (x7 : Int32) (s : Int32 × M2) : Option ((Int32 × M2) ⊕ ((Int32 × M2))) := f_X12_wave_70 x1 x2 x3 x4 x5 s.1 x7 s.2
def f_X12_wave_143 (x1 : Int32) (x2 : Int32) (x3 : Int32) (x4 : Int32) (x5 : Int32) (m : M2) : Option ((Int32 × Int32 × Int32 × Int32 × M2) ⊕ ((Int32 × Int32 × Int32 × M2))) :=
  (nmI (x5 + (1 : Int32))).bind fun v1 => some (Sum.inl (x2, x3, x4, v1, m))
def f_X12_wave_124 (x1 : Int32) (x2 : Int32) (x3 : Int32) (x4 : Int32) (x5 : Int32) (x6 : Int32) (x7 : Int32) (m : M2) : Option ((Int32 × Int32 × Int32 × Int32 × M2) ⊕ ((Int32 × Int32 × Int32 × M2))) :=
  if x2 < x6 then f_X12_wave_143 x1 x6 x5 x7 x5 m else f_X12_wave_143 x1 x2 x3 x4 x5 m
def f_X12_wave_68 (x1 : Int32) (x2 : Int32) (x3 : Int32) (x4 : Int32) (x5 : Int32) (x6 : Int32) (s0 : Int32) (m : M2) : Option ((Int32 × Int32 × Int32 × Int32 × M2) ⊕ ((Int32 × Int32 × Int32 × M2))) :=
  (loop (g_X12_wave_70 x1 x2 x3 x4 x5 s0) (x6, m)).bind fun e1 => f_X12_wave_124 x1 x2 x3 x4 x5 e1.1 s0 e1.2
def f_X12_wave_21 (x1 : Int32) (x2 : Int32) (x3 : Int32) (x4 : Int32) (x5 : Int32) (m : M2) : Option ((Int32 × Int32 × Int32 × Int32 × M2) ⊕ ((Int32 × Int32 × Int32 × M2))) :=
  (F_X12_menNow m).bind fun c1 => if c1.1 ≤ x5 then some (Sum.inr (x2, x3, x4, c1.2)) else (F_X12_menNow c1.2).bind fun c4 => if c4.1 ≤ (x5 + (1 : Int32)) then f_X12_wave_68 x1 x2 x3 x4 x5 (1 : Int32) (0 : Int32) c4.2 else (aI c4.2 93 12 (x5 + (1 : Int32))).bind fun v7 => (aI c4.2 93 12 x5).bind fun v9 => (F_X12_gap v7 v9 c4.2).bind fun c11 => f_X12_wave_68 x1 x2 x3 x4 x5 (1 : Int32) c11.1 c11.2
def g_X12_wave_21 (x1 : Int32) (s : Int32 × Int32 × Int32 × Int32 × M2) : Option ((Int32 × Int32 × Int32 × Int32 × M2) ⊕ ((Int32 × Int32 × Int32 × M2))) := f_X12_wave_21 x1 s.1 s.2.1 s.2.2.1 s.2.2.2.1 s.2.2.2.2
def f_X12_wave_178 (s0 : Int32) (m : M2) : Option (Int32 × M2) :=
  some (s0, m)
def F_X12_wave (x1 : Int32) (m : M2) : Option (Int32 × M2) :=
  (F_X12_in x1 (0 : Int32) (2 : Int32) m).bind fun c1 => if c1.1 = 0 then some ((-1 : Int32), c1.2) else (loop (g_X12_wave_21 x1) ((1 : Int32), (0 : Int32), (0 : Int32), (0 : Int32), c1.2)).bind fun e4 => if (2 : Int32) ≤ e4.1 then if x1 = 0 then f_X12_wave_178 e4.1 e4.2.2.2 else if x1 = (1 : Int32) then f_X12_wave_178 e4.2.1 e4.2.2.2 else f_X12_wave_178 e4.2.2.1 e4.2.2.2 else f_X12_wave_178 (-2 : Int32) e4.2.2.2
def f_X12_soon_20 (x1 : Int32) (x2 : Int32) (m : M2) : Option ((Int32 × M2) ⊕ ((Int32 × M2) ⊕ (M2))) :=
  if (100 : Int32) < x2 then some (Sum.inr (Sum.inr m)) else (F_X12_wayNow m).bind fun c2 => if c2.1 < x1 then (F_X12_isFog ((hI c2.2 56 60) + x2) c2.2).bind fun c5 => (F_X12_strikes c5.1 c5.2).bind fun c7 => (nmI (x2 + (1 : Int32))).bind fun v9 => some (Sum.inl (v9, c7)) else some (Sum.inr (Sum.inl (x2, c2.2)))
def g_X12_soon_20 (x1 : Int32) (s : Int32 × M2) : Option ((Int32 × M2) ⊕ ((Int32 × M2) ⊕ (M2))) := f_X12_soon_20 x1 s.1 s.2
def F_X12_soon (x1 : Int32) (m : M2) : Option (Int32 × M2) :=
  (F_X12_menNow m).bind fun c1 => (F_X12_in x1 (1 : Int32) c1.1 c1.2).bind fun c3 => if c3.1 = 0 then some ((-1 : Int32), c3.2) else (F_X12_takes c3.2).bind fun c6 => (loop (g_X12_soon_20 x1) ((0 : Int32), c6)).bind fun e8 => (Sum.elim (fun e8_0 => some (e8_0.1, e8_0.2)) (fun e8_1 => some ((-2 : Int32), e8_1))) e8
def f_X12_rubs_18 (x1 : Int32) (x2 : Int32) (m : M2) : Option ((Int32 × M2) ⊕ ((M2))) :=
  if (12 : Int32) ≤ x2 then some (Sum.inr m) else (bI m 102 12 x2 (0 : Int32)).bind fun m2 => (nmI (x2 + (1 : Int32))).bind fun v4 => some (Sum.inl (v4, m2))
def g_X12_rubs_18 (x1 : Int32) (s : Int32 × M2) : Option ((Int32 × M2) ⊕ ((M2))) := f_X12_rubs_18 x1 s.1 s.2
def f_X12_rubs_66 (x1 : Int32) (x2 : Int32) (x3 : Int32) (x4 : Int32) (m : M2) : Option ((Int32 × M2) ⊕ ((M2))) :=
  if (12 : Int32) ≤ x4 then some (Sum.inr m) else (aI m 102 12 x4).bind fun v2 => (bI m 102 12 x4 (v2 + ((x3 >>> (x4 &&& 31)) &&& (1 : Int32)))).bind fun m4 => (nmI (x4 + (1 : Int32))).bind fun v6 => some (Sum.inl (v6, m4))
def g_X12_rubs_66 (x1 : Int32) (x2 : Int32) (x3 : Int32) (s : Int32 × M2) : Option ((Int32 × M2) ⊕ ((M2))) := f_X12_rubs_66 x1 x2 x3 s.1 s.2
def f_X12_rubs_39 (x1 : Int32) (x2 : Int32) (m : M2) : Option ((Int32 × M2) ⊕ ((M2))) :=
  if x1 ≤ x2 then some (Sum.inr m) else (F_X12_isFog ((hI m 56 60) + x2) m).bind fun c2 => (F_X12_strikes c2.1 c2.2).bind fun c4 => (F_X12_clashesNow c4).bind fun c6 => (loop (g_X12_rubs_66 x1 x2 c6.1) ((0 : Int32), c6.2)).bind fun e8 => (nmI (x2 + (1 : Int32))).bind fun v10 => some (Sum.inl (v10, e8))
def g_X12_rubs_39 (x1 : Int32) (s : Int32 × M2) : Option ((Int32 × M2) ⊕ ((M2))) := f_X12_rubs_39 x1 s.1 s.2
def f_X12_rubs_144 (x2 : Int32) (x3 : Int32) (m : M2) : Option ((Int32 × Int32 × M2) ⊕ ((Int32 × M2))) :=
  (nmI (x3 + (1 : Int32))).bind fun v1 => some (Sum.inl (x2, v1, m))
def f_X12_rubs_142 (x3 : Int32) (m : M2) : Option ((Int32 × Int32 × M2) ⊕ ((Int32 × M2))) :=
  f_X12_rubs_144 x3 x3 m
def f_X12_rubs_106 (x2 : Int32) (x3 : Int32) (m : M2) : Option ((Int32 × Int32 × M2) ⊕ ((Int32 × M2))) :=
  (F_X12_menNow m).bind fun c1 => if c1.1 ≤ x3 then some (Sum.inr (x2, c1.2)) else (aI c1.2 102 12 x3).bind fun v4 => if v4 ≤ 0 then f_X12_rubs_144 x2 x3 c1.2 else if x2 < 0 then f_X12_rubs_142 x3 c1.2 else (aI c1.2 102 12 x3).bind fun v8 => (aI c1.2 102 12 x2).bind fun v10 => if v8 ≤ v10 then f_X12_rubs_144 x2 x3 c1.2 else f_X12_rubs_142 x3 c1.2
def g_X12_rubs_106 (s : Int32 × Int32 × M2) : Option ((Int32 × Int32 × M2) ⊕ ((Int32 × M2))) := f_X12_rubs_106 s.1 s.2.1 s.2.2
def F_X12_rubs (x1 : Int32) (m : M2) : Option (Int32 × M2) :=
  (F_X12_in x1 (1 : Int32) (100 : Int32) m).bind fun c1 => if c1.1 = 0 then some ((-1 : Int32), c1.2) else (F_X12_takes c1.2).bind fun c4 => (loop (g_X12_rubs_18 x1) ((0 : Int32), c4)).bind fun e6 => (loop (g_X12_rubs_39 x1) ((0 : Int32), e6)).bind fun e8 => (loop (g_X12_rubs_106) ((-2 : Int32), (1 : Int32), e8)).bind fun e10 => some (e10.1, e10.2)
def f_X12_isStill_2 (x1 : Int32) (m : M2) : Option ((Int32 × M2) ⊕ ((M2))) :=
  if (hI m 56 65) ≤ x1 then some (Sum.inr m) else (aI m 97 12 x1).bind fun v2 => (bI m 103 12 x1 v2).bind fun m4 => (nmI (x1 + (1 : Int32))).bind fun v6 => some (Sum.inl (v6, m4))
def g_X12_isStill_2 (s : Int32 × M2) : Option ((Int32 × M2) ⊕ ((M2))) := f_X12_isStill_2 s.1 s.2
def f_X12_isStill_69 (x2 : Int32) (s0 : Int32) (m : M2) : Option ((Int32 × Int32 × M2) ⊕ ((Int32 × M2))) :=
  (aI m 103 12 x2).bind fun v1 => (bI m 97 12 x2 v1).bind fun m3 => (nmI (x2 + (1 : Int32))).bind fun v5 => some (Sum.inl (s0, v5, m3))
def f_X12_isStill_68 (x2 : Int32) (m : M2) : Option ((Int32 × Int32 × M2) ⊕ ((Int32 × M2))) :=
  f_X12_isStill_69 x2 (0 : Int32) m
def f_X12_isStill_37 (x1 : Int32) (x2 : Int32) (m : M2) : Option ((Int32 × Int32 × M2) ⊕ ((Int32 × M2))) :=
  if (hI m 56 65) ≤ x2 then some (Sum.inr (x1, m)) else if x1 = 0 then f_X12_isStill_68 x2 m else (aI m 97 12 x2).bind fun v3 => (aI m 103 12 x2).bind fun v5 => if v3 = v5 then f_X12_isStill_69 x2 (1 : Int32) m else f_X12_isStill_68 x2 m
def g_X12_isStill_37 (s : Int32 × Int32 × M2) : Option ((Int32 × Int32 × M2) ⊕ ((Int32 × M2))) := f_X12_isStill_37 s.1 s.2.1 s.2.2
def F_X12_isStill (m : M2) : Option (Int32 × M2) :=
  (loop (g_X12_isStill_2) ((0 : Int32), m)).bind fun e1 => (F_X12_strikes (0 : Int32) e1).bind fun c3 => (loop (g_X12_isStill_37) ((1 : Int32), (0 : Int32), c3)).bind fun e5 => (zb e5.1).bind fun v7 => some (v7, e5.2)
def f_X12_still_16 (s0 : Int32) (m : M2) : Option (Int32 × M2) :=
  some (s0, m)
def F_X12_still (m : M2) : Option (Int32 × M2) :=
  (F_X12_takes m).bind fun c1 => (F_X12_isStill c1).bind fun c3 => if c3.1 = 0 then f_X12_still_16 (0 : Int32) c3.2 else f_X12_still_16 (1 : Int32) c3.2
def f_X12_isAt_2 (x1 : Int32) (x2 : Int32) (m : M2) : Option ((Int32 × M2) ⊕ ((M2) ⊕ (M2))) :=
  if (hI m 56 65) ≤ x2 then some (Sum.inr (Sum.inr m)) else (aI m 104 4812 (((12 : Int32) * x1) + x2)).bind fun v2 => (aI m 97 12 x2).bind fun v4 => if v2 = v4 then (nmI (x2 + (1 : Int32))).bind fun v7 => some (Sum.inl (v7, m)) else some (Sum.inr (Sum.inl m))
def g_X12_isAt_2 (x1 : Int32) (s : Int32 × M2) : Option ((Int32 × M2) ⊕ ((M2) ⊕ (M2))) := f_X12_isAt_2 x1 s.1 s.2
def F_X12_isAt (x1 : Int32) (m : M2) : Option (Int32 × M2) :=
  (loop (g_X12_isAt_2 x1) ((0 : Int32), m)).bind fun e1 => (Sum.elim (fun e1_0 => some ((0 : Int32), e1_0)) (fun e1_1 => some ((1 : Int32), e1_1))) e1
def f_X12_round_26 (x1 : Int32) (x2 : Int32) (x3 : Int32) (m : M2) : Option ((Int32 × M2) ⊕ ((Int32 × M2) ⊕ (M2))) :=
  if x2 ≤ x3 then some (Sum.inr (Sum.inr m)) else (F_X12_isAt x3 m).bind fun c2 => if c2.1 = 0 then (nmI (x3 + (1 : Int32))).bind fun v5 => some (Sum.inl (v5, c2.2)) else some (Sum.inr (Sum.inl (x3, c2.2)))
def g_X12_round_26 (x1 : Int32) (x2 : Int32) (s : Int32 × M2) : Option ((Int32 × M2) ⊕ ((Int32 × M2) ⊕ (M2))) := f_X12_round_26 x1 x2 s.1 s.2
def f_X12_round_59 (x1 : Int32) (x2 : Int32) (x3 : Int32) (m : M2) : Option ((Int32 × M2) ⊕ ((M2))) :=
  if (hI m 56 65) ≤ x3 then some (Sum.inr m) else (aI m 97 12 x3).bind fun v2 => (bI m 104 4812 (((12 : Int32) * x2) + x3) v2).bind fun m4 => (nmI (x3 + (1 : Int32))).bind fun v6 => some (Sum.inl (v6, m4))
def g_X12_round_59 (x1 : Int32) (x2 : Int32) (s : Int32 × M2) : Option ((Int32 × M2) ⊕ ((M2))) := f_X12_round_59 x1 x2 s.1 s.2
def f_X12_round_17 (x1 : Int32) (x2 : Int32) (m : M2) : Option ((Int32 × M2) ⊕ ((Int32 × Int32 × M2) ⊕ (M2))) :=
  if (400 : Int32) < x2 then some (Sum.inr (Sum.inr m)) else (loop (g_X12_round_26 x1 x2) ((0 : Int32), m)).bind fun e2 => (Sum.elim (fun e2_0 => some (Sum.inr (Sum.inl (x2, e2_0.1, e2_0.2)))) (fun e2_1 => (loop (g_X12_round_59 x1 x2) ((0 : Int32), e2_1)).bind fun e4 => (F_X12_strikes (0 : Int32) e4).bind fun c6 => (nmI (x2 + (1 : Int32))).bind fun v8 => some (Sum.inl (v8, c6)))) e2
def g_X12_round_17 (x1 : Int32) (s : Int32 × M2) : Option ((Int32 × M2) ⊕ ((Int32 × Int32 × M2) ⊕ (M2))) := f_X12_round_17 x1 s.1 s.2
def f_X12_round_50 (s0 : Int32) (m : M2) : Option (Int32 × M2) :=
  some (s0, m)
def F_X12_round (x1 : Int32) (m : M2) : Option (Int32 × M2) :=
  (F_X12_in x1 (0 : Int32) (1 : Int32) m).bind fun c1 => if c1.1 = 0 then some ((-1 : Int32), c1.2) else (F_X12_takes c1.2).bind fun c4 => (loop (g_X12_round_17 x1) ((0 : Int32), c4)).bind fun e6 => (Sum.elim (fun e6_0 => if x1 = 0 then f_X12_round_50 (e6_0.1 - e6_0.2.1) e6_0.2.2 else f_X12_round_50 e6_0.2.1 e6_0.2.2) (fun e6_1 => some ((-2 : Int32), e6_1))) e6
def f_X12_change_21 (m : M2) : Option (Int32 × M2) :=
  some ((0 : Int32), m)
def F_X12_change (x1 : Int32) (x2 : Int32) (m : M2) : Option (Int32 × M2) :=
  (F_X12_isBench x1 m).bind fun c1 => if c1.1 = 0 then f_X12_change_21 c1.2 else (F_X12_isBench x2 c1.2).bind fun c4 => if c4.1 = 0 then f_X12_change_21 c4.2 else if x1 = x2 then f_X12_change_21 c4.2 else (aI c4.2 93 12 x1).bind fun v8 => (aI c4.2 94 12 x1).bind fun v10 => (aI c4.2 95 12 x1).bind fun v12 => (aI c4.2 93 12 x2).bind fun v14 => (bI c4.2 93 12 x1 v14).bind fun m16 => (aI m16 94 12 x2).bind fun v18 => (bI m16 94 12 x1 v18).bind fun m20 => (aI m20 95 12 x2).bind fun v22 => (bI m20 95 12 x1 v22).bind fun m24 => (bI m24 93 12 x2 v8).bind fun m26 => (bI m26 94 12 x2 v10).bind fun m28 => (bI m28 95 12 x2 v12).bind fun m30 => some ((1 : Int32), m30)
def f_X12_teach_27 (m : M2) : Option (Int32 × M2) :=
  some ((0 : Int32), m)
def F_X12_teach (x1 : Int32) (x2 : Int32) (m : M2) : Option (Int32 × M2) :=
  (F_X12_isBench x1 m).bind fun c1 => if c1.1 = 0 then f_X12_teach_27 c1.2 else (aI c1.2 67 2 (hI c1.2 56 18)).bind fun v4 => (F_X12_in x2 (0 : Int32) (v4 - (1 : Int32)) c1.2).bind fun c6 => if c6.1 = 0 then f_X12_teach_27 c6.2 else (bI c6.2 95 12 x1 x2).bind fun m9 => some ((1 : Int32), m9)
def f_X12_set_22 (m : M2) : Option (Int32 × M2) :=
  some ((0 : Int32), m)
def F_X12_set (x1 : Int32) (x2 : Int32) (m : M2) : Option (Int32 × M2) :=
  (F_X12_isBench x1 m).bind fun c1 => if c1.1 = 0 then f_X12_set_22 c1.2 else (F_X12_all c1.2).bind fun c4 => (F_X12_in x2 (0 : Int32) (c4.1 - (1 : Int32)) c4.2).bind fun c6 => if c6.1 = 0 then f_X12_set_22 c6.2 else (bI c6.2 93 12 x1 x2).bind fun m9 => some ((1 : Int32), m9)
def f_X12_beat_29 (x1 : Int32) (m : M2) : Option (Int32 × M2) :=
  (qI m 56 58 x1).bind fun m1 => some ((1 : Int32), m1)
def F_X12_beat (x1 : Int32) (m : M2) : Option (Int32 × M2) :=
  (F_X12_all m).bind fun c1 => (F_X12_in x1 (0 : Int32) (c1.1 - (1 : Int32)) c1.2).bind fun c3 => if c3.1 = 0 then some ((0 : Int32), c3.2) else if (hI c3.2 56 58) = (-1 : Int32) then (qI c3.2 56 59 (0 : Int32)).bind fun m7 => f_X12_beat_29 x1 m7 else f_X12_beat_29 x1 c3.2
def f_X12_sits_6 (x1 : Int32) (m : M2) : Option ((Int32 × M2) ⊕ ((M2))) :=
  if (hI m 56 65) ≤ x1 then some (Sum.inr m) else (aI m 105 12 x1).bind fun v2 => (aI m 93 12 v2).bind fun v4 => (bI m 97 12 x1 v4).bind fun m6 => (aI m6 105 12 x1).bind fun v8 => (aI m6 95 12 v8).bind fun v10 => (bI m6 98 12 x1 v10).bind fun m12 => (nmI (x1 + (1 : Int32))).bind fun v14 => some (Sum.inl (v14, m12))
def g_X12_sits_6 (s : Int32 × M2) : Option ((Int32 × M2) ⊕ ((M2))) := f_X12_sits_6 s.1 s.2
def F_X12_sits (m : M2) : Option M2 :=
  (F_X12_takes m).bind fun c1 => (loop (g_X12_sits_6) ((0 : Int32), c1)).bind fun e3 => some e3
def f_X12_bits_5 (x1 : Int32) (x2 : Int32) (x3 : Int32) (x4 : Int32) (m : M2) : Option ((Int32 × Int32 × M2) ⊕ ((Int32 × M2))) :=
  if x2 ≤ x4 then some (Sum.inr (x3, m)) else (nmI (x3 + ((x1 >>> (x4 &&& 31)) &&& (1 : Int32)))).bind fun v2 => (nmI (x4 + (1 : Int32))).bind fun v4 => some (Sum.inl (v2, v4, m))
def g_X12_bits_5 (x1 : Int32) (x2 : Int32) (s : Int32 × Int32 × M2) : Option ((Int32 × Int32 × M2) ⊕ ((Int32 × M2))) := f_X12_bits_5 x1 x2 s.1 s.2.1 s.2.2
def F_X12_bits (x1 : Int32) (x2 : Int32) (m : M2) : Option (Int32 × M2) :=
  (loop (g_X12_bits_5 x1 x2) ((0 : Int32), (0 : Int32), m)).bind fun e1 => some (e1.1, e1.2)
def f_X12_comesTo_10 (x2 : Int32) (x3 : Int32) (m : M2) : Option ((Int32 × M2) ⊕ ((Int32 × M2) ⊕ (M2))) :=
  if x2 < x3 then some (Sum.inr (Sum.inr m)) else (F_X12_isStill m).bind fun c2 => if c2.1 = 0 then (F_X12_strikes (0 : Int32) c2.2).bind fun c5 => (nmI (x3 + (1 : Int32))).bind fun v7 => some (Sum.inl (v7, c5)) else some (Sum.inr (Sum.inl (x3, c2.2)))
def g_X12_comesTo_10 (x2 : Int32) (s : Int32 × M2) : Option ((Int32 × M2) ⊕ ((Int32 × M2) ⊕ (M2))) := f_X12_comesTo_10 x2 s.1 s.2
def f_X12_comesTo_78 (x1 : Int32) (x2 : Int32) (x4 : Int32) (s0 : Int32) (s1 : Int32) (m : M2) : Option ((Int32 × Int32 × M2) ⊕ ((Int32 × M2))) :=
  (nmI (s0 + s1)).bind fun v1 => (nmI (x4 + (1 : Int32))).bind fun v3 => some (Sum.inl (v1, v3, m))
def f_X12_comesTo_44 (x1 : Int32) (x2 : Int32) (x3 : Int32) (x4 : Int32) (m : M2) : Option ((Int32 × Int32 × M2) ⊕ ((Int32 × M2))) :=
  if x2 ≤ x4 then some (Sum.inr (x3, m)) else (F_X12_strikes (0 : Int32) m).bind fun c2 => if x1 = (1 : Int32) then (F_X12_clashesNow c2).bind fun c7 => (F_X12_bits c7.1 (12 : Int32) c7.2).bind fun c9 => f_X12_comesTo_78 x1 x2 x4 x3 c9.1 c9.2 else (F_X12_wayNow c2).bind fun c5 => f_X12_comesTo_78 x1 x2 x4 x3 c5.1 c5.2
def g_X12_comesTo_44 (x1 : Int32) (x2 : Int32) (s : Int32 × Int32 × M2) : Option ((Int32 × Int32 × M2) ⊕ ((Int32 × M2))) := f_X12_comesTo_44 x1 x2 s.1 s.2.1 s.2.2
def F_X12_comesTo (x1 : Int32) (x2 : Int32) (m : M2) : Option (Int32 × M2) :=
  (F_X12_sits m).bind fun c1 => if x1 = 0 then (loop (g_X12_comesTo_10 x2) ((0 : Int32), c1)).bind fun e6 => (Sum.elim (fun e6_0 => some (e6_0.1, e6_0.2)) (fun e6_1 => some (x2 + (1 : Int32), e6_1))) e6 else (loop (g_X12_comesTo_44 x1 x2) ((0 : Int32), (0 : Int32), c1)).bind fun e4 => some (e4.1, e4.2)
def f_X12_isBetter_28 (s0 : Int32) (m : M2) : Option (Int32 × M2) :=
  (zb s0).bind fun v1 => some (v1, m)
def F_X12_isBetter (x0 : Int32) (x1 : Int32) (x2 : Int32) (m : M2) : Option (Int32 × M2) :=
  if x0 = (2 : Int32) then if x1 ≤ x2 then f_X12_isBetter_28 (0 : Int32) m else f_X12_isBetter_28 (1 : Int32) m else if x2 ≤ x1 then f_X12_isBetter_28 (0 : Int32) m else f_X12_isBetter_28 (1 : Int32) m
def f_X12_nextOrder_7 (x1 : Int32) (m : M2) : Option ((Int32 × M2) ⊕ ((Int32 × M2))) :=
  if x1 < 0 then some (Sum.inr (x1, m)) else (aI m 105 12 x1).bind fun v2 => (aI m 105 12 (x1 + (1 : Int32))).bind fun v4 => if v2 ≤ v4 then some (Sum.inr (x1, m)) else (nmI (x1 + (-1 : Int32))).bind fun v7 => some (Sum.inl (v7, m))
def g_X12_nextOrder_7 (s : Int32 × M2) : Option ((Int32 × M2) ⊕ ((Int32 × M2))) := f_X12_nextOrder_7 s.1 s.2
def f_X12_nextOrder_47 (x1 : Int32) (x2 : Int32) (m : M2) : Option ((Int32 × M2) ⊕ ((Int32 × M2))) :=
  (aI m 105 12 x2).bind fun v1 => (aI m 105 12 x1).bind fun v3 => if v3 ≤ v1 then some (Sum.inr (x2, m)) else (nmI (x2 + (-1 : Int32))).bind fun v6 => some (Sum.inl (v6, m))
def g_X12_nextOrder_47 (x1 : Int32) (s : Int32 × M2) : Option ((Int32 × M2) ⊕ ((Int32 × M2))) := f_X12_nextOrder_47 x1 s.1 s.2
def f_X12_nextOrder_107 (x4 : Int32) (x5 : Int32) (m : M2) : Option ((Int32 × Int32 × M2) ⊕ ((M2))) :=
  if x5 ≤ x4 then some (Sum.inr m) else (aI m 105 12 x4).bind fun v2 => (aI m 105 12 x5).bind fun v4 => (bI m 105 12 x4 v4).bind fun m6 => (bI m6 105 12 x5 v2).bind fun m8 => (nmI (x4 + (1 : Int32))).bind fun v10 => (nmI (x5 + (-1 : Int32))).bind fun v12 => some (Sum.inl (v10, v12, m8))
def g_X12_nextOrder_107 (s : Int32 × Int32 × M2) : Option ((Int32 × Int32 × M2) ⊕ ((M2))) := f_X12_nextOrder_107 s.1 s.2.1 s.2.2
def f_X12_nextOrder_34 (x1 : Int32) (m : M2) : Option (Int32 × M2) :=
  if 0 ≤ x1 then (nmI ((hI m 56 65) - (1 : Int32))).bind fun v2 => (loop (g_X12_nextOrder_47 x1) (v2, m)).bind fun e4 => (aI e4.2 105 12 x1).bind fun v6 => (aI e4.2 105 12 e4.1).bind fun v8 => (bI e4.2 105 12 x1 v8).bind fun m10 => (bI m10 105 12 e4.1 v6).bind fun m12 => (nmI (x1 + (1 : Int32))).bind fun v14 => (nmI ((hI m12 56 65) - (1 : Int32))).bind fun v16 => (loop (g_X12_nextOrder_107) (v14, v16, m12)).bind fun e18 => some ((1 : Int32), e18) else some ((0 : Int32), m)
def F_X12_nextOrder (m : M2) : Option (Int32 × M2) :=
  (nmI ((hI m 56 65) - (2 : Int32))).bind fun v1 => (loop (g_X12_nextOrder_7) (v1, m)).bind fun e3 => f_X12_nextOrder_34 e3.1 e3.2
def f_X12_seats_2 (x1 : Int32) (x2 : Int32) (x3 : Int32) (m : M2) : Option ((Int32 × M2) ⊕ ((M2))) :=
  (F_X12_menNow m).bind fun c1 => if c1.1 ≤ x3 then some (Sum.inr c1.2) else (bI c1.2 105 12 x3 x3).bind fun m4 => (nmI (x3 + (1 : Int32))).bind fun v6 => some (Sum.inl (v6, m4))
def g_X12_seats_2 (x1 : Int32) (x2 : Int32) (s : Int32 × M2) : Option ((Int32 × M2) ⊕ ((M2))) := f_X12_seats_2 x1 x2 s.1 s.2
def f_X12_seats_65 (x1 : Int32) (x2 : Int32) (x3 : Int32) (x7 : Int32) (m : M2) : Option ((Int32 × M2) ⊕ ((M2))) :=
  (F_X12_menNow m).bind fun c1 => if c1.1 ≤ x7 then some (Sum.inr c1.2) else (aI c1.2 105 12 x7).bind fun v4 => (bI c1.2 106 12 x7 v4).bind fun m6 => (nmI (x7 + (1 : Int32))).bind fun v8 => some (Sum.inl (v8, m6))
def g_X12_seats_65 (x1 : Int32) (x2 : Int32) (x3 : Int32) (s : Int32 × M2) : Option ((Int32 × M2) ⊕ ((M2))) := f_X12_seats_65 x1 x2 x3 s.1 s.2
def f_X12_seats_94 (x1 : Int32) (x2 : Int32) (x3 : Int32) (m : M2) : Option ((Int32 × Int32 × Int32 × M2) ⊕ ((Int32 × M2))) :=
  (F_X12_nextOrder m).bind fun c1 => some (Sum.inl (x3, (0 : Int32), c1.1, c1.2))
def f_X12_seats_59 (x1 : Int32) (x2 : Int32) (x6 : Int32) (m : M2) : Option ((Int32 × Int32 × Int32 × M2) ⊕ ((Int32 × M2))) :=
  (loop (g_X12_seats_65 x1 x2 x6) ((0 : Int32), m)).bind fun e1 => f_X12_seats_94 x1 x2 x6 e1
def f_X12_seats_31 (x1 : Int32) (x2 : Int32) (x3 : Int32) (x4 : Int32) (x5 : Int32) (m : M2) : Option ((Int32 × Int32 × Int32 × M2) ⊕ ((Int32 × M2))) :=
  if x5 = 0 then some (Sum.inr (x3, m)) else (F_X12_comesTo x1 x2 m).bind fun c2 => if x4 = 0 then (F_X12_isBetter x1 c2.1 x3 c2.2).bind fun c5 => if c5.1 = 0 then f_X12_seats_94 x1 x2 x3 c5.2 else f_X12_seats_59 x1 x2 c2.1 c5.2 else f_X12_seats_59 x1 x2 c2.1 c2.2
def g_X12_seats_31 (x1 : Int32) (x2 : Int32) (s : Int32 × Int32 × Int32 × M2) : Option ((Int32 × Int32 × Int32 × M2) ⊕ ((Int32 × M2))) := f_X12_seats_31 x1 x2 s.1 s.2.1 s.2.2.1 s.2.2.2
def F_X12_seats (x1 : Int32) (x2 : Int32) (m : M2) : Option (Int32 × M2) :=
  (loop (g_X12_seats_2 x1 x2) ((0 : Int32), m)).bind fun e1 => (loop (g_X12_seats_31 x1 x2) ((0 : Int32), (1 : Int32), (1 : Int32), e1)).bind fun e3 => some (e3.1, e3.2)
def f_X12_canSeat_31 (s0 : Int32) (m : M2) : Option (Int32 × M2) :=
  (zb s0).bind fun v1 => some (v1, m)
def f_X12_canSeat_30 (m : M2) : Option (Int32 × M2) :=
  f_X12_canSeat_31 (0 : Int32) m
def F_X12_canSeat (x1 : Int32) (x2 : Int32) (m : M2) : Option (Int32 × M2) :=
  (F_X12_in x1 (0 : Int32) (2 : Int32) m).bind fun c1 => if c1.1 = 0 then f_X12_canSeat_30 c1.2 else (F_X12_in x2 (1 : Int32) (30 : Int32) c1.2).bind fun c4 => if c4.1 = 0 then f_X12_canSeat_30 c4.2 else (F_X12_menNow c4.2).bind fun c7 => if c7.1 ≤ 0 then f_X12_canSeat_30 c7.2 else f_X12_canSeat_31 (1 : Int32) c7.2
def f_X12_seating_33 (s0 : Int32) (m : M2) : Option (Int32 × M2) :=
  some (s0, m)
def F_X12_seating (x1 : Int32) (x2 : Int32) (m : M2) : Option (Int32 × M2) :=
  (F_X12_canSeat x1 x2 m).bind fun c1 => if c1.1 = 0 then f_X12_seating_33 (-1 : Int32) c1.2 else (F_X12_menNow c1.2).bind fun c4 => if c4.1 ≤ (6 : Int32) then (F_X12_seats x1 x2 c4.2).bind fun c7 => f_X12_seating_33 c7.1 c7.2 else f_X12_seating_33 (-2 : Int32) c4.2
def f_X12_seat_17 (m : M2) : Option (Int32 × M2) :=
  some ((-1 : Int32), m)
def f_X12_seat_50 (s0 : Int32) (m : M2) : Option (Int32 × M2) :=
  some (s0, m)
def F_X12_seat (x1 : Int32) (x2 : Int32) (x3 : Int32) (m : M2) : Option (Int32 × M2) :=
  (F_X12_canSeat x1 x2 m).bind fun c1 => if c1.1 = 0 then f_X12_seat_17 c1.2 else (F_X12_isBench x3 c1.2).bind fun c4 => if c4.1 = 0 then f_X12_seat_17 c4.2 else (F_X12_menNow c4.2).bind fun c7 => if c7.1 ≤ (6 : Int32) then (F_X12_seats x1 x2 c7.2).bind fun c10 => if 0 ≤ c10.1 then (aI c10.2 106 12 x3).bind fun v13 => f_X12_seat_50 v13 c10.2 else f_X12_seat_50 (-1 : Int32) c10.2 else some ((-2 : Int32), c7.2)
def f_X12_better_13 (x1 : Int32) (x2 : Int32) (x3 : Int32) (m : M2) : Option ((Int32 × M2) ⊕ ((M2))) :=
  (F_X12_menNow m).bind fun c1 => if c1.1 ≤ x3 then some (Sum.inr c1.2) else (bI c1.2 105 12 x3 x3).bind fun m4 => (nmI (x3 + (1 : Int32))).bind fun v6 => some (Sum.inl (v6, m4))
def g_X12_better_13 (x1 : Int32) (x2 : Int32) (s : Int32 × M2) : Option ((Int32 × M2) ⊕ ((M2))) := f_X12_better_13 x1 x2 s.1 s.2
def f_X12_better_142 (x1 : Int32) (x2 : Int32) (x3 : Int32) (x4 : Int32) (x5 : Int32) (x6 : Int32) (m : M2) : Option ((Int32 × Int32 × Int32 × M2) ⊕ ((Int32 × Int32 × M2))) :=
  (nmI (x6 + (1 : Int32))).bind fun v1 => some (Sum.inl (x3, x4, v1, m))
def f_X12_better_63 (x1 : Int32) (x2 : Int32) (x3 : Int32) (x4 : Int32) (x5 : Int32) (x6 : Int32) (m : M2) : Option ((Int32 × Int32 × Int32 × M2) ⊕ ((Int32 × Int32 × M2))) :=
  (F_X12_menNow m).bind fun c1 => if c1.1 ≤ x6 then some (Sum.inr (x3, x4, c1.2)) else (bI c1.2 105 12 x5 x6).bind fun m4 => (bI m4 105 12 x6 x5).bind fun m6 => (F_X12_comesTo x1 x2 m6).bind fun c8 => (bI c8.2 105 12 x5 x5).bind fun m10 => (bI m10 105 12 x6 x6).bind fun m12 => (F_X12_isBetter x1 c8.1 x3 m12).bind fun c14 => if c14.1 = 0 then f_X12_better_142 x1 x2 x3 x4 x5 x6 c14.2 else (nmI (((100 : Int32) * x5) + x6)).bind fun v17 => f_X12_better_142 x1 x2 c8.1 v17 x5 x6 c14.2
def g_X12_better_63 (x1 : Int32) (x2 : Int32) (x5 : Int32) (s : Int32 × Int32 × Int32 × M2) : Option ((Int32 × Int32 × Int32 × M2) ⊕ ((Int32 × Int32 × M2))) := f_X12_better_63 x1 x2 s.1 s.2.1 x5 s.2.2.1 s.2.2.2
def f_X12_better_48 (x1 : Int32) (x2 : Int32) (x3 : Int32) (x4 : Int32) (x5 : Int32) (m : M2) : Option ((Int32 × Int32 × Int32 × M2) ⊕ ((Int32 × M2))) :=
  (F_X12_menNow m).bind fun c1 => if c1.1 ≤ x5 then some (Sum.inr (x4, c1.2)) else (nmI (x5 + (1 : Int32))).bind fun v4 => (loop (g_X12_better_63 x1 x2 x5) (x3, x4, v4, c1.2)).bind fun e6 => (nmI (x5 + (1 : Int32))).bind fun v8 => some (Sum.inl (e6.1, e6.2.1, v8, e6.2.2))
def g_X12_better_48 (x1 : Int32) (x2 : Int32) (s : Int32 × Int32 × Int32 × M2) : Option ((Int32 × Int32 × Int32 × M2) ⊕ ((Int32 × M2))) := f_X12_better_48 x1 x2 s.1 s.2.1 s.2.2.1 s.2.2.2
def F_X12_better (x1 : Int32) (x2 : Int32) (m : M2) : Option (Int32 × M2) :=
  (F_X12_canSeat x1 x2 m).bind fun c1 => if c1.1 = 0 then some ((-1 : Int32), c1.2) else (loop (g_X12_better_13 x1 x2) ((0 : Int32), c1.2)).bind fun e4 => (F_X12_comesTo x1 x2 e4).bind fun c6 => (loop (g_X12_better_48 x1 x2) (c6.1, (-2 : Int32), (0 : Int32), c6.2)).bind fun e8 => some (e8.1, e8.2)
def f_X12_numberOf_6 (x2 : Int32) (x3 : Int32) (m : M2) : Option ((Int32 × Int32 × M2) ⊕ ((Int32 × M2))) :=
  if x3 < 0 then some (Sum.inr (x2, m)) else (F_X12_all m).bind fun c2 => (aI c2.2 97 12 x3).bind fun v4 => (nmI ((x2 * c2.1) + v4)).bind fun v6 => (nmI (x3 + (-1 : Int32))).bind fun v8 => some (Sum.inl (v6, v8, c2.2))
def g_X12_numberOf_6 (s : Int32 × Int32 × M2) : Option ((Int32 × Int32 × M2) ⊕ ((Int32 × M2))) := f_X12_numberOf_6 s.1 s.2.1 s.2.2
def F_X12_numberOf (x1 : Int32) (m : M2) : Option (Int32 × M2) :=
  (nmI (x1 - (1 : Int32))).bind fun v1 => (loop (g_X12_numberOf_6) ((0 : Int32), v1, m)).bind fun e3 => some (e3.1, e3.2)
def f_X12_follows_4 (x1 : Int32) (x2 : Int32) (x3 : Int32) (m : M2) : Option ((Int32 × Int32 × M2) ⊕ ((Int32 × Int32 × M2))) :=
  (aI m 108 20736 x2).bind fun v1 => if v1 = (-1 : Int32) then (bI m 108 20736 x2 (-3 : Int32)).bind fun m4 => (aI m4 107 20736 x2).bind fun v6 => (nmI (x3 + (1 : Int32))).bind fun v8 => some (Sum.inl (v6, v8, m4)) else some (Sum.inr (x2, x3, m))
def g_X12_follows_4 (x1 : Int32) (s : Int32 × Int32 × M2) : Option ((Int32 × Int32 × M2) ⊕ ((Int32 × Int32 × M2))) := f_X12_follows_4 x1 s.1 s.2.1 s.2.2
def f_X12_follows_68 (x2 : Int32) (x3 : Int32) (x4 : Int32) (s1 : Int32) (s2 : Int32) (m : M2) : Option ((Int32 × Int32 × M2) ⊕ ((M2))) :=
  (bI m 108 20736 s1 s2).bind fun m1 => (aI m1 107 20736 x2).bind fun v3 => (nmI (x3 + (-1 : Int32))).bind fun v5 => some (Sum.inl (v3, v5, m1))
def f_X12_follows_45 (x2 : Int32) (x3 : Int32) (x4 : Int32) (m : M2) : Option ((Int32 × Int32 × M2) ⊕ ((M2))) :=
  if x3 ≤ 0 then some (Sum.inr m) else if 0 ≤ x4 then f_X12_follows_68 x2 x3 x4 x2 (x4 + x3) m else f_X12_follows_68 x2 x3 x4 x2 (-2 : Int32) m
def g_X12_follows_45 (x4 : Int32) (s : Int32 × Int32 × M2) : Option ((Int32 × Int32 × M2) ⊕ ((M2))) := f_X12_follows_45 s.1 s.2.1 x4 s.2.2
def F_X12_follows (x1 : Int32) (m : M2) : Option M2 :=
  (loop (g_X12_follows_4 x1) (x1, (0 : Int32), m)).bind fun e1 => (aI e1.2.2 108 20736 e1.1).bind fun v3 => (loop (g_X12_follows_45 v3) (x1, e1.2.1, e1.2.2)).bind fun e5 => some e5
def f_X12_fillEvery_25 (x1 : Int32) (x2 : Int32) (x3 : Int32) (x4 : Int32) (x5 : Int32) (x6 : Int32) (m : M2) : Option ((Int32 × Int32 × M2) ⊕ ((M2))) :=
  if x2 ≤ x6 then some (Sum.inr m) else (F_X12_all m).bind fun c2 => (rmI x5 c2.1).bind fun v4 => (bI c2.2 97 12 x6 v4).bind fun m6 => (bI m6 98 12 x6 x1).bind fun m8 => (F_X12_all m8).bind fun c10 => (dvI x5 c10.1).bind fun v12 => (nmI (x6 + (1 : Int32))).bind fun v14 => some (Sum.inl (v12, v14, c10.2))
def g_X12_fillEvery_25 (x1 : Int32) (x2 : Int32) (x3 : Int32) (x4 : Int32) (s : Int32 × Int32 × M2) : Option ((Int32 × Int32 × M2) ⊕ ((M2))) := f_X12_fillEvery_25 x1 x2 x3 x4 s.1 s.2.1 s.2.2
def f_X12_fillEvery_108 (x1 : Int32) (x2 : Int32) (x3 : Int32) (x4 : Int32) (s1 : Int32) (s2 : Int32) (m : M2) : Option ((Int32 × M2) ⊕ ((M2))) :=
  (bI m 108 20736 s1 s2).bind fun m1 => (nmI (x4 + (1 : Int32))).bind fun v3 => some (Sum.inl (v3, m1))
def f_X12_fillEvery_12 (x1 : Int32) (x2 : Int32) (x3 : Int32) (x4 : Int32) (m : M2) : Option ((Int32 × M2) ⊕ ((M2))) :=
  if x3 ≤ x4 then some (Sum.inr m) else (loop (g_X12_fillEvery_25 x1 x2 x3 x4) (x4, (0 : Int32), m)).bind fun e2 => (F_X12_strikes (0 : Int32) e2).bind fun c4 => (F_X12_numberOf x2 c4).bind fun c6 => (bI c6.2 107 20736 x4 c6.1).bind fun m8 => (aI m8 107 20736 x4).bind fun v10 => if v10 = x4 then f_X12_fillEvery_108 x1 x2 x3 x4 x4 (0 : Int32) m8 else f_X12_fillEvery_108 x1 x2 x3 x4 x4 (-1 : Int32) m8
def g_X12_fillEvery_12 (x1 : Int32) (x2 : Int32) (x3 : Int32) (s : Int32 × M2) : Option ((Int32 × M2) ⊕ ((M2))) := f_X12_fillEvery_12 x1 x2 x3 s.1 s.2
def f_X12_fillEvery_118 (x3 : Int32) (x4 : Int32) (m : M2) : Option ((Int32 × M2) ⊕ ((M2))) :=
  if x3 ≤ x4 then some (Sum.inr m) else (F_X12_follows x4 m).bind fun c2 => (nmI (x4 + (1 : Int32))).bind fun v4 => some (Sum.inl (v4, c2))
def g_X12_fillEvery_118 (x3 : Int32) (s : Int32 × M2) : Option ((Int32 × M2) ⊕ ((M2))) := f_X12_fillEvery_118 x3 s.1 s.2
def F_X12_fillEvery (x1 : Int32) (x2 : Int32) (x3 : Int32) (m : M2) : Option M2 :=
  (F_X12_takes m).bind fun c1 => (qI c1 56 65 x2).bind fun m3 => (loop (g_X12_fillEvery_12 x1 x2 x3) ((0 : Int32), m3)).bind fun e5 => (loop (g_X12_fillEvery_118 x3) ((0 : Int32), e5)).bind fun e7 => some e7
def f_X12_every_37 (m : M2) : Option (Int32 × M2) :=
  some ((-1 : Int32), m)
def f_X12_every_45 (x1 : Int32) (x2 : Int32) (x3 : Int32) (x4 : Int32) (x5 : Int32) (m : M2) : Option ((Int32 × Int32 × M2) ⊕ ((Int32 × M2))) :=
  if x2 ≤ x5 then some (Sum.inr (x4, m)) else (F_X12_all m).bind fun c2 => (nmI (x4 * c2.1)).bind fun v4 => (nmI (x5 + (1 : Int32))).bind fun v6 => some (Sum.inl (v4, v6, c2.2))
def g_X12_every_45 (x1 : Int32) (x2 : Int32) (x3 : Int32) (s : Int32 × Int32 × M2) : Option ((Int32 × Int32 × M2) ⊕ ((Int32 × M2))) := f_X12_every_45 x1 x2 x3 s.1 s.2.1 s.2.2
def f_X12_every_146 (x3 : Int32) (x4 : Int32) (x5 : Int32) (x6 : Int32) (x7 : Int32) (m : M2) : Option ((Int32 × Int32 × Int32 × M2) ⊕ ((Int32 × Int32 × M2))) :=
  (nmI (x7 + (1 : Int32))).bind fun v1 => some (Sum.inl (x5, x6, v1, m))
def f_X12_every_102 (x3 : Int32) (x4 : Int32) (x5 : Int32) (x6 : Int32) (x7 : Int32) (m : M2) : Option ((Int32 × Int32 × Int32 × M2) ⊕ ((Int32 × Int32 × M2))) :=
  if x4 ≤ x7 then some (Sum.inr (x5, x6, m)) else (aI m 108 20736 x7).bind fun v2 => if 0 ≤ v2 then (nmI (x5 + (1 : Int32))).bind fun v5 => (aI m 108 20736 x7).bind fun v7 => if v7 ≤ x6 then f_X12_every_146 x3 x4 v5 x6 x7 m else (aI m 108 20736 x7).bind fun v10 => f_X12_every_146 x3 x4 v5 v10 x7 m else f_X12_every_146 x3 x4 x5 x6 x7 m
def g_X12_every_102 (x3 : Int32) (x4 : Int32) (s : Int32 × Int32 × Int32 × M2) : Option ((Int32 × Int32 × Int32 × M2) ⊕ ((Int32 × Int32 × M2))) := f_X12_every_102 x3 x4 s.1 s.2.1 s.2.2.1 s.2.2.2
def f_X12_every_163 (s0 : Int32) (m : M2) : Option (Int32 × M2) :=
  some (s0, m)
def F_X12_every (x1 : Int32) (x2 : Int32) (x3 : Int32) (m : M2) : Option (Int32 × M2) :=
  (aI m 67 2 (hI m 56 18)).bind fun v1 => (F_X12_in x1 (0 : Int32) (v1 - (1 : Int32)) m).bind fun c3 => if c3.1 = 0 then f_X12_every_37 c3.2 else (F_X12_in x2 (1 : Int32) (4 : Int32) c3.2).bind fun c6 => if c6.1 = 0 then f_X12_every_37 c6.2 else (F_X12_in x3 (0 : Int32) (2 : Int32) c6.2).bind fun c9 => if c9.1 = 0 then f_X12_every_37 c9.2 else (loop (g_X12_every_45 x1 x2 x3) ((1 : Int32), (0 : Int32), c9.2)).bind fun e12 => if e12.1 ≤ (20736 : Int32) then if x3 = (2 : Int32) then some (e12.1, e12.2) else (F_X12_fillEvery x1 x2 e12.1 e12.2).bind fun c16 => (loop (g_X12_every_102 x3 e12.1) ((0 : Int32), (0 : Int32), (0 : Int32), c16)).bind fun e18 => if x3 = 0 then f_X12_every_163 e18.1 e18.2.2 else f_X12_every_163 e18.2.1 e18.2.2 else some ((-2 : Int32), e12.2)
def f_X12_ram_26 (m : M2) : Option (Int32 × M2) :=
  some ((-1 : Int32), m)
def f_X12_ram_93 (x1 : Int32) (x2 : Int32) (x3 : Int32) (x4 : Int32) (x5 : Int32) (x6 : Int32) (x7 : Int32) (x8 : Int32) (m : M2) : Option ((Int32 × M2) ⊕ ((M2))) :=
  (F_X12_isFog (((hI m 56 60) + x8) - (1 : Int32)) m).bind fun c1 => (F_X12_strikes c1.1 c1.2).bind fun c3 => (nmI (x8 + (1 : Int32))).bind fun v5 => some (Sum.inl (v5, c3))
def f_X12_ram_74 (x1 : Int32) (x2 : Int32) (x3 : Int32) (x4 : Int32) (x5 : Int32) (x6 : Int32) (x7 : Int32) (x8 : Int32) (m : M2) : Option ((Int32 × M2) ⊕ ((M2))) :=
  if x1 < x8 then some (Sum.inr m) else if x8 = x6 then (qI m 56 66 x7).bind fun m3 => f_X12_ram_93 x1 x2 x3 x4 x5 x6 x7 x8 m3 else f_X12_ram_93 x1 x2 x3 x4 x5 x6 x7 x8 m
def g_X12_ram_74 (x1 : Int32) (x2 : Int32) (x3 : Int32) (x4 : Int32) (x5 : Int32) (x6 : Int32) (x7 : Int32) (s : Int32 × M2) : Option ((Int32 × M2) ⊕ ((M2))) := f_X12_ram_74 x1 x2 x3 x4 x5 x6 x7 s.1 s.2
def f_X12_ram_142 (x1 : Int32) (x2 : Int32) (x3 : Int32) (x4 : Int32) (x5 : Int32) (x6 : Int32) (x7 : Int32) (m : M2) : Option ((Int32 × Int32 × Int32 × Int32 × M2) ⊕ ((Int32 × Int32 × Int32 × M2))) :=
  (nmI (x7 + (1 : Int32))).bind fun v1 => some (Sum.inl (x3, x4, x5, v1, m))
def f_X12_ram_58 (x1 : Int32) (x2 : Int32) (x3 : Int32) (x4 : Int32) (x5 : Int32) (x6 : Int32) (x7 : Int32) (m : M2) : Option ((Int32 × Int32 × Int32 × Int32 × M2) ⊕ ((Int32 × Int32 × Int32 × M2))) :=
  (F_X12_all m).bind fun c1 => if c1.1 ≤ x7 then some (Sum.inr (x3, x4, x5, c1.2)) else (F_X12_takes c1.2).bind fun c4 => (loop (g_X12_ram_74 x1 x2 x3 x4 x5 x6 x7) ((1 : Int32), c4)).bind fun e6 => (F_X12_wayNow e6).bind fun c8 => if x3 < c8.1 then f_X12_ram_142 x1 x2 c8.1 x6 x7 x6 x7 c8.2 else f_X12_ram_142 x1 x2 x3 x4 x5 x6 x7 c8.2
def g_X12_ram_58 (x1 : Int32) (x2 : Int32) (x6 : Int32) (s : Int32 × Int32 × Int32 × Int32 × M2) : Option ((Int32 × Int32 × Int32 × Int32 × M2) ⊕ ((Int32 × Int32 × Int32 × M2))) := f_X12_ram_58 x1 x2 s.1 s.2.1 s.2.2.1 x6 s.2.2.2.1 s.2.2.2.2
def f_X12_ram_50 (x1 : Int32) (x2 : Int32) (x3 : Int32) (x4 : Int32) (x5 : Int32) (x6 : Int32) (m : M2) : Option ((Int32 × Int32 × Int32 × Int32 × M2) ⊕ ((Int32 × Int32 × Int32 × M2))) :=
  if x6 ≤ 0 then some (Sum.inr (x3, x4, x5, m)) else (loop (g_X12_ram_58 x1 x2 x6) (x3, x4, x5, (0 : Int32), m)).bind fun e2 => (nmI (x6 + (-1 : Int32))).bind fun v4 => some (Sum.inl (e2.1, e2.2.1, e2.2.2.1, v4, e2.2.2.2))
def g_X12_ram_50 (x1 : Int32) (x2 : Int32) (s : Int32 × Int32 × Int32 × Int32 × M2) : Option ((Int32 × Int32 × Int32 × Int32 × M2) ⊕ ((Int32 × Int32 × Int32 × M2))) := f_X12_ram_50 x1 x2 s.1 s.2.1 s.2.2.1 s.2.2.2.1 s.2.2.2.2
def f_X12_ram_174 (s0 : Int32) (m : M2) : Option (Int32 × M2) :=
  some (s0, m)
def F_X12_ram (x1 : Int32) (x2 : Int32) (m : M2) : Option (Int32 × M2) :=
  (F_X12_in x1 (1 : Int32) (60 : Int32) m).bind fun c1 => if c1.1 = 0 then f_X12_ram_26 c1.2 else (F_X12_in x2 (0 : Int32) (2 : Int32) c1.2).bind fun c4 => if c4.1 = 0 then f_X12_ram_26 c4.2 else (F_X12_menNow c4.2).bind fun c7 => if c7.1 = 0 then f_X12_ram_26 c7.2 else if (hI c7.2 56 58) = (-1 : Int32) then some ((-2 : Int32), c7.2) else (loop (g_X12_ram_50 x1 x2) ((-1 : Int32), (0 : Int32), (0 : Int32), x1, c7.2)).bind fun e11 => if x2 = 0 then f_X12_ram_174 e11.1 e11.2.2.2 else if x2 = (1 : Int32) then f_X12_ram_174 e11.2.1 e11.2.2.2 else f_X12_ram_174 e11.2.2.1 e11.2.2.2
def f_X12_odds_36 (m : M2) : Option (Int64 × M2) :=
  some ((-1 : Int64), m)
def f_X12_odds_104 (x1 : Int32) (x2 : Int32) (x3 : Int32) (x4 : Int64) (x6 : Int32) (x9 : Int32) (x10 : Int32) (s0 : Int64) (s1 : Int64) (m : M2) : Option ((Int64 × Int32 × M2) ⊕ ((Int64 × M2))) :=
  (nmJ (s0 * s1)).bind fun v1 => (F_X12_strikes x10 m).bind fun c3 => (nmI (x9 + (1 : Int32))).bind fun v5 => some (Sum.inl (v1, v5, c3))
def f_X12_odds_86 (x1 : Int32) (x2 : Int32) (x3 : Int32) (x4 : Int64) (x6 : Int32) (x7 : Int64) (x9 : Int32) (s0 : Int32) (m : M2) : Option ((Int64 × Int32 × M2) ⊕ ((Int64 × M2))) :=
  if s0 = 0 then f_X12_odds_104 x1 x2 x3 x4 x6 x9 s0 x7 (x3 - x2).toInt64 m else f_X12_odds_104 x1 x2 x3 x4 x6 x9 s0 x7 x2.toInt64 m
def f_X12_odds_64 (x1 : Int32) (x2 : Int32) (x3 : Int32) (x4 : Int64) (x6 : Int32) (x7 : Int64) (x9 : Int32) (m : M2) : Option ((Int64 × Int32 × M2) ⊕ ((Int64 × M2))) :=
  if x1 ≤ x9 then some (Sum.inr (x7, m)) else if ((x6 >>> (x9 &&& 31)) &&& (1 : Int32)) = (1 : Int32) then f_X12_odds_86 x1 x2 x3 x4 x6 x7 x9 (1 : Int32) m else f_X12_odds_86 x1 x2 x3 x4 x6 x7 x9 (0 : Int32) m
def g_X12_odds_64 (x1 : Int32) (x2 : Int32) (x3 : Int32) (x4 : Int64) (x6 : Int32) (s : Int64 × Int32 × M2) : Option ((Int64 × Int32 × M2) ⊕ ((Int64 × M2))) := f_X12_odds_64 x1 x2 x3 x4 x6 s.1 s.2.1 s.2.2
def f_X12_odds_46 (x1 : Int32) (x2 : Int32) (x3 : Int32) (x4 : Int64) (x6 : Int32) (m : M2) : Option ((Int64 × Int32 × M2) ⊕ ((Int64 × M2))) :=
  if ((1 : Int32) <<< (x1 &&& 31)) ≤ x6 then some (Sum.inr (x4, m)) else (F_X12_takes m).bind fun c2 => (loop (g_X12_odds_64 x1 x2 x3 x4 x6) ((1 : Int64), (0 : Int32), c2)).bind fun e4 => (F_X12_wayNow e4.2).bind fun c6 => (nmJ (x4 + (e4.1 * c6.1.toInt64))).bind fun v8 => (nmI (x6 + (1 : Int32))).bind fun v10 => some (Sum.inl (v8, v10, c6.2))
def g_X12_odds_46 (x1 : Int32) (x2 : Int32) (x3 : Int32) (s : Int64 × Int32 × M2) : Option ((Int64 × Int32 × M2) ⊕ ((Int64 × M2))) := f_X12_odds_46 x1 x2 x3 s.1 s.2.1 s.2.2
def F_X12_odds (x1 : Int32) (x2 : Int32) (x3 : Int32) (m : M2) : Option (Int64 × M2) :=
  (F_X12_in x1 (1 : Int32) (10 : Int32) m).bind fun c1 => if c1.1 = 0 then f_X12_odds_36 c1.2 else (F_X12_in x3 (1 : Int32) (9 : Int32) c1.2).bind fun c4 => if c4.1 = 0 then f_X12_odds_36 c4.2 else (F_X12_in x2 (0 : Int32) x3 c4.2).bind fun c7 => if c7.1 = 0 then f_X12_odds_36 c7.2 else (F_X12_menNow c7.2).bind fun c10 => if c10.1 = 0 then f_X12_odds_36 c10.2 else (loop (g_X12_odds_46 x1 x2 x3) ((0 : Int64), (0 : Int32), c10.2)).bind fun e13 => some (e13.1, e13.2)
def f_X12_tell__33 (m : M2) : Option (Int32 × M2) :=
  some ((-1 : Int32), m)
def F_X12_tell_ (x1 : Int32) (x2 : Int32) (x3 : Int32) (m : M2) : Option (Int32 × M2) :=
  if (hI m 56 79) = (20 : Int32) then f_X12_tell__33 m else (F_X12_in x1 (0 : Int32) (99 : Int32) m).bind fun c2 => if c2.1 = 0 then f_X12_tell__33 c2.2 else (F_X12_menNow c2.2).bind fun c5 => (F_X12_in x2 (1 : Int32) (c5.1 - (1 : Int32)) c5.2).bind fun c7 => if c7.1 = 0 then f_X12_tell__33 c7.2 else (bI c7.2 109 20 (hI c7.2 56 79) x1).bind fun m10 => (bI m10 110 20 (hI m10 56 79) x2).bind fun m12 => (zb x3).bind fun v14 => (bI m12 111 20 (hI m12 56 79) v14).bind fun m16 => (qI m16 56 79 ((hI m16 56 79) + (1 : Int32))).bind fun m18 => some ((hI m18 56 79) - (1 : Int32), m18)
def F_X12_forget (m : M2) : Option (Int32 × M2) :=
  (nmI (hI m 56 79)).bind fun v1 => (qI m 56 79 (0 : Int32)).bind fun m3 => some (v1, m3)
def f_X12_breaks_96 (x1 : Int32) (x2 : Int32) (s1 : Int32) (s2 : Int32) (m : M2) : Option ((Int32 × M2) ⊕ ((M2))) :=
  (bI m 98 12 s1 s2).bind fun m1 => (nmI (x2 + (1 : Int32))).bind fun v3 => some (Sum.inl (v3, m1))
def f_X12_breaks_36 (x1 : Int32) (x2 : Int32) (m : M2) : Option ((Int32 × M2) ⊕ ((M2))) :=
  if (hI m 56 65) ≤ x2 then some (Sum.inr m) else (aI m 76 24 (((12 : Int32) * (hI m 56 18)) + x2)).bind fun v2 => (bI m 97 12 x2 v2).bind fun m4 => if ((x1 >>> (x2 &&& 31)) &&& (1 : Int32)) = (1 : Int32) then f_X12_breaks_96 x1 x2 x2 (-1 : Int32) m4 else (aI m4 75 24 (((12 : Int32) * (hI m4 56 18)) + x2)).bind fun v7 => f_X12_breaks_96 x1 x2 x2 v7 m4
def g_X12_breaks_36 (x1 : Int32) (s : Int32 × M2) : Option ((Int32 × M2) ⊕ ((M2))) := f_X12_breaks_36 x1 s.1 s.2
def F_X12_breaks (x1 : Int32) (m : M2) : Option M2 :=
  (F_X12_menNow m).bind fun c1 => (qI c1.2 56 65 c1.1).bind fun m3 => (aI m3 77 2 (hI m3 56 18)).bind fun v5 => (qI m3 56 66 v5).bind fun m7 => (aI m7 78 2 (hI m7 56 18)).bind fun v9 => (qI m7 56 67 v9).bind fun m11 => (loop (g_X12_breaks_36 x1) ((0 : Int32), m11)).bind fun e13 => some e13
def f_X12_fits_35 (x2 : Int32) (x3 : Int32) (x4 : Int32) (m : M2) : Option ((Int32 × Int32 × M2) ⊕ ((Int32 × M2))) :=
  (nmI (x4 + (1 : Int32))).bind fun v1 => some (Sum.inl (x3, v1, m))
def f_X12_fits_10 (x2 : Int32) (x3 : Int32) (x4 : Int32) (m : M2) : Option ((Int32 × Int32 × M2) ⊕ ((Int32 × M2))) :=
  if x2 ≤ x4 then some (Sum.inr (x3, m)) else (aI m 109 20 x4).bind fun v2 => if v2 ≤ x3 then f_X12_fits_35 x2 x3 x4 m else (aI m 109 20 x4).bind fun v5 => f_X12_fits_35 x2 v5 x4 m
def g_X12_fits_10 (x2 : Int32) (s : Int32 × Int32 × M2) : Option ((Int32 × Int32 × M2) ⊕ ((Int32 × M2))) := f_X12_fits_10 x2 s.1 s.2.1 s.2.2
def f_X12_fits_110 (x2 : Int32) (x3 : Int32) (x4 : Int32) (x5 : Int32) (x6 : Int32) (m : M2) : Option ((Int32 × M2) ⊕ ((M2) ⊕ (M2))) :=
  (nmI (x6 + (1 : Int32))).bind fun v1 => some (Sum.inl (v1, m))
def f_X12_fits_98 (x2 : Int32) (x3 : Int32) (x4 : Int32) (x5 : Int32) (x6 : Int32) (s0 : Int32) (m : M2) : Option ((Int32 × M2) ⊕ ((M2) ⊕ (M2))) :=
  (aI m 111 20 x6).bind fun v1 => if s0 = v1 then f_X12_fits_110 x2 x3 x4 x5 x6 m else some (Sum.inr (Sum.inl m))
def f_X12_fits_59 (x2 : Int32) (x3 : Int32) (x4 : Int32) (x5 : Int32) (x6 : Int32) (m : M2) : Option ((Int32 × M2) ⊕ ((M2) ⊕ (M2))) :=
  if x2 ≤ x6 then some (Sum.inr (Sum.inr m)) else (aI m 109 20 x6).bind fun v2 => if v2 = x4 then (aI m 110 20 x6).bind fun v5 => if ((x5 >>> (v5 &&& 31)) &&& (1 : Int32)) = (1 : Int32) then f_X12_fits_98 x2 x3 x4 x5 x6 (1 : Int32) m else f_X12_fits_98 x2 x3 x4 x5 x6 (0 : Int32) m else f_X12_fits_110 x2 x3 x4 x5 x6 m
def g_X12_fits_59 (x2 : Int32) (x3 : Int32) (x4 : Int32) (x5 : Int32) (s : Int32 × M2) : Option ((Int32 × M2) ⊕ ((M2) ⊕ (M2))) := f_X12_fits_59 x2 x3 x4 x5 s.1 s.2
def f_X12_fits_44 (x2 : Int32) (x3 : Int32) (x4 : Int32) (m : M2) : Option ((Int32 × M2) ⊕ ((M2) ⊕ (M2))) :=
  if x3 < x4 then some (Sum.inr (Sum.inr m)) else (F_X12_clashesNow m).bind fun c2 => (loop (g_X12_fits_59 x2 x3 x4 c2.1) ((0 : Int32), c2.2)).bind fun e4 => (Sum.elim (fun e4_0 => some (Sum.inr (Sum.inl e4_0))) (fun e4_1 => (F_X12_isFog x4 e4_1).bind fun c6 => (F_X12_strikes c6.1 c6.2).bind fun c8 => (nmI (x4 + (1 : Int32))).bind fun v10 => some (Sum.inl (v10, c8)))) e4
def g_X12_fits_44 (x2 : Int32) (x3 : Int32) (s : Int32 × M2) : Option ((Int32 × M2) ⊕ ((M2) ⊕ (M2))) := f_X12_fits_44 x2 x3 s.1 s.2
def F_X12_fits (x1 : Int32) (x2 : Int32) (m : M2) : Option (Int32 × M2) :=
  (F_X12_breaks x1 m).bind fun c1 => (loop (g_X12_fits_10 x2) ((-1 : Int32), (0 : Int32), c1)).bind fun e3 => (loop (g_X12_fits_44 x2 e3.1) ((0 : Int32), e3.2)).bind fun e5 => (Sum.elim (fun e5_0 => some ((0 : Int32), e5_0)) (fun e5_1 => some ((1 : Int32), e5_1))) e5
def f_X12_canSuspect_26 (s0 : Int32) (m : M2) : Option (Int32 × M2) :=
  (zb s0).bind fun v1 => some (v1, m)
def f_X12_canSuspect_25 (m : M2) : Option (Int32 × M2) :=
  f_X12_canSuspect_26 (0 : Int32) m
def F_X12_canSuspect (x1 : Int32) (x2 : Int32) (m : M2) : Option (Int32 × M2) :=
  (F_X12_in x1 (0 : Int32) (2 : Int32) m).bind fun c1 => if c1.1 = 0 then f_X12_canSuspect_25 c1.2 else (F_X12_in x2 (0 : Int32) (hI c1.2 56 79) c1.2).bind fun c4 => if c4.1 = 0 then f_X12_canSuspect_25 c4.2 else f_X12_canSuspect_26 (1 : Int32) c4.2
def f_X12_fillSuspects_60 (x1 : Int32) (x2 : Int32) (x3 : Int32) (m : M2) : Option ((Int32 × M2) ⊕ ((M2))) :=
  (nmI (x3 + (1 : Int32))).bind fun v1 => some (Sum.inl (v1, m))
def f_X12_fillSuspects_7 (x1 : Int32) (x2 : Int32) (x3 : Int32) (m : M2) : Option ((Int32 × M2) ⊕ ((M2))) :=
  (F_X12_menNow m).bind fun c1 => if ((1 : Int32) <<< (c1.1 &&& 31)) ≤ x3 then some (Sum.inr c1.2) else (F_X12_bits x3 (12 : Int32) c1.2).bind fun c4 => if c4.1 = x1 then (F_X12_fits x3 x2 c4.2).bind fun c7 => if c7.1 = 0 then f_X12_fillSuspects_60 x1 x2 x3 c7.2 else (bI c7.2 112 80 (hI c7.2 56 84) x3).bind fun m10 => (qI m10 56 84 ((hI m10 56 84) + (1 : Int32))).bind fun m12 => f_X12_fillSuspects_60 x1 x2 x3 m12 else f_X12_fillSuspects_60 x1 x2 x3 c4.2
def g_X12_fillSuspects_7 (x1 : Int32) (x2 : Int32) (s : Int32 × M2) : Option ((Int32 × M2) ⊕ ((M2))) := f_X12_fillSuspects_7 x1 x2 s.1 s.2
def F_X12_fillSuspects (x1 : Int32) (x2 : Int32) (m : M2) : Option M2 :=
  (qI m 56 84 (0 : Int32)).bind fun m1 => (loop (g_X12_fillSuspects_7 x1 x2) ((0 : Int32), m1)).bind fun e3 => some e3
def F_X12_suspects (x1 : Int32) (x2 : Int32) (m : M2) : Option (Int32 × M2) :=
  (F_X12_canSuspect x1 x2 m).bind fun c1 => if c1.1 = 0 then some ((-1 : Int32), c1.2) else (F_X12_fillSuspects x1 x2 c1.2).bind fun c4 => some (hI c4 56 84, c4)
def f_X12_suspect_41 (s0 : Int32) (m : M2) : Option (Int32 × M2) :=
  some (s0, m)
def F_X12_suspect (x1 : Int32) (x2 : Int32) (x3 : Int32) (m : M2) : Option (Int32 × M2) :=
  (F_X12_canSuspect x1 x2 m).bind fun c1 => if c1.1 = 0 then some ((-1 : Int32), c1.2) else (F_X12_fillSuspects x1 x2 c1.2).bind fun c4 => (F_X12_in x3 (0 : Int32) ((hI c4 56 84) - (1 : Int32)) c4).bind fun c6 => if c6.1 = 0 then f_X12_suspect_41 (-1 : Int32) c6.2 else (aI c6.2 112 80 x3).bind fun v9 => f_X12_suspect_41 v9 c6.2
def f_X12_greater_40 (s0 : Int32) (m : M2) : Option (Int32 × M2) :=
  some (s0, m)
def F_X12_greater (x1 : Int32) (m : M2) : Option (Int32 × M2) :=
  (aI m 102 12 x1).bind fun v1 => (aI m 102 12 x1).bind fun v3 => if v1 ≤ ((hI m 56 84) - v3) then (aI m 102 12 x1).bind fun v6 => f_X12_greater_40 ((hI m 56 84) - v6) m else (aI m 102 12 x1).bind fun v8 => f_X12_greater_40 v8 m
def f_X12_check_19 (m : M2) : Option (Int32 × M2) :=
  some ((-1 : Int32), m)
def f_X12_check_42 (m : M2) : Option (Int32 × M2) :=
  some ((-2 : Int32), m)
def f_X12_check_48 (x3 : Int32) (x4 : Int32) (m : M2) : Option ((Int32 × M2) ⊕ ((M2))) :=
  if (12 : Int32) ≤ x4 then some (Sum.inr m) else (bI m 102 12 x4 (0 : Int32)).bind fun m2 => (nmI (x4 + (1 : Int32))).bind fun v4 => some (Sum.inl (v4, m2))
def g_X12_check_48 (x3 : Int32) (s : Int32 × M2) : Option ((Int32 × M2) ⊕ ((M2))) := f_X12_check_48 x3 s.1 s.2
def f_X12_check_95 (x3 : Int32) (x4 : Int32) (x5 : Int32) (m : M2) : Option ((Int32 × M2) ⊕ ((M2))) :=
  if x3 ≤ x5 then some (Sum.inr m) else (F_X12_isFog x5 m).bind fun c2 => (F_X12_strikes c2.1 c2.2).bind fun c4 => (nmI (x5 + (1 : Int32))).bind fun v6 => some (Sum.inl (v6, c4))
def g_X12_check_95 (x3 : Int32) (x4 : Int32) (s : Int32 × M2) : Option ((Int32 × M2) ⊕ ((M2))) := f_X12_check_95 x3 x4 s.1 s.2
def f_X12_check_126 (x3 : Int32) (x4 : Int32) (x5 : Int32) (x6 : Int32) (m : M2) : Option ((Int32 × M2) ⊕ ((M2))) :=
  if (12 : Int32) ≤ x6 then some (Sum.inr m) else (aI m 102 12 x6).bind fun v2 => (bI m 102 12 x6 (v2 + ((x5 >>> (x6 &&& 31)) &&& (1 : Int32)))).bind fun m4 => (nmI (x6 + (1 : Int32))).bind fun v6 => some (Sum.inl (v6, m4))
def g_X12_check_126 (x3 : Int32) (x4 : Int32) (x5 : Int32) (s : Int32 × M2) : Option ((Int32 × M2) ⊕ ((M2))) := f_X12_check_126 x3 x4 x5 s.1 s.2
def f_X12_check_72 (x3 : Int32) (x4 : Int32) (m : M2) : Option ((Int32 × M2) ⊕ ((M2))) :=
  if (hI m 56 84) ≤ x4 then some (Sum.inr m) else (aI m 112 80 x4).bind fun v2 => (F_X12_breaks v2 m).bind fun c4 => (loop (g_X12_check_95 x3 x4) ((0 : Int32), c4)).bind fun e6 => (F_X12_clashesNow e6).bind fun c8 => (loop (g_X12_check_126 x3 x4 c8.1) ((0 : Int32), c8.2)).bind fun e10 => (nmI (x4 + (1 : Int32))).bind fun v12 => some (Sum.inl (v12, e10))
def g_X12_check_72 (x3 : Int32) (s : Int32 × M2) : Option ((Int32 × M2) ⊕ ((M2))) := f_X12_check_72 x3 s.1 s.2
def f_X12_check_196 (x4 : Int32) (x5 : Int32) (m : M2) : Option ((Int32 × Int32 × M2) ⊕ ((Int32 × M2))) :=
  (nmI (x5 + (1 : Int32))).bind fun v1 => some (Sum.inl (x4, v1, m))
def f_X12_check_168 (x4 : Int32) (x5 : Int32) (m : M2) : Option ((Int32 × Int32 × M2) ⊕ ((Int32 × M2))) :=
  (F_X12_menNow m).bind fun c1 => if c1.1 ≤ x5 then some (Sum.inr (x4, c1.2)) else (F_X12_greater x5 c1.2).bind fun c4 => (F_X12_greater x4 c4.2).bind fun c6 => if c6.1 ≤ c4.1 then f_X12_check_196 x4 x5 c6.2 else f_X12_check_196 x5 x5 c6.2
def g_X12_check_168 (s : Int32 × Int32 × M2) : Option ((Int32 × Int32 × M2) ⊕ ((Int32 × M2))) := f_X12_check_168 s.1 s.2.1 s.2.2
def F_X12_check (x1 : Int32) (x2 : Int32) (x3 : Int32) (m : M2) : Option (Int32 × M2) :=
  (F_X12_canSuspect x1 x2 m).bind fun c1 => if c1.1 = 0 then f_X12_check_19 c1.2 else (F_X12_in x3 (0 : Int32) (99 : Int32) c1.2).bind fun c4 => if c4.1 = 0 then f_X12_check_19 c4.2 else (F_X12_fillSuspects x1 x2 c4.2).bind fun c7 => if (hI c7 56 84) = 0 then f_X12_check_42 c7 else (F_X12_menNow c7).bind fun c10 => if (2 : Int32) ≤ c10.1 then (loop (g_X12_check_48 x3) ((0 : Int32), c10.2)).bind fun e13 => (loop (g_X12_check_72 x3) ((0 : Int32), e13)).bind fun e15 => (loop (g_X12_check_168) ((1 : Int32), (2 : Int32), e15)).bind fun e17 => some (e17.1, e17.2) else f_X12_check_42 c10.2
def f_X12_hold_50 (x1 : Int32) (x2 : Int32) (m : M2) : Option ((Int32 × M2) ⊕ ((M2))) :=
  if (12 : Int32) ≤ x2 then some (Sum.inr m) else (aI m 93 12 x2).bind fun v2 => (bI m 114 36 (((12 : Int32) * x1) + x2) v2).bind fun m4 => (aI m4 94 12 x2).bind fun v6 => (bI m4 115 36 (((12 : Int32) * x1) + x2) v6).bind fun m8 => (aI m8 95 12 x2).bind fun v10 => (bI m8 116 36 (((12 : Int32) * x1) + x2) v10).bind fun m12 => (nmI (x2 + (1 : Int32))).bind fun v14 => some (Sum.inl (v14, m12))
def g_X12_hold_50 (x1 : Int32) (s : Int32 × M2) : Option ((Int32 × M2) ⊕ ((M2))) := f_X12_hold_50 x1 s.1 s.2
def F_X12_hold (x1 : Int32) (m : M2) : Option (Int32 × M2) :=
  (F_X12_in x1 (0 : Int32) (2 : Int32) m).bind fun c1 => if c1.1 = 0 then some ((0 : Int32), c1.2) else (bI c1.2 113 3 x1 (1 : Int32)).bind fun m4 => (bI m4 117 3 x1 (hI m4 56 58)).bind fun m6 => (bI m6 118 3 x1 (hI m6 56 59)).bind fun m8 => (bI m8 119 3 x1 (hI m8 56 60)).bind fun m10 => (loop (g_X12_hold_50 x1) ((0 : Int32), m10)).bind fun e12 => some ((1 : Int32), e12)
def f_X12_restore_18 (m : M2) : Option (Int32 × M2) :=
  some ((0 : Int32), m)
def f_X12_restore_57 (x1 : Int32) (x2 : Int32) (m : M2) : Option ((Int32 × M2) ⊕ ((M2))) :=
  if (12 : Int32) ≤ x2 then some (Sum.inr m) else (aI m 114 36 (((12 : Int32) * x1) + x2)).bind fun v2 => (bI m 93 12 x2 v2).bind fun m4 => (aI m4 115 36 (((12 : Int32) * x1) + x2)).bind fun v6 => (bI m4 94 12 x2 v6).bind fun m8 => (aI m8 116 36 (((12 : Int32) * x1) + x2)).bind fun v10 => (bI m8 95 12 x2 v10).bind fun m12 => (nmI (x2 + (1 : Int32))).bind fun v14 => some (Sum.inl (v14, m12))
def g_X12_restore_57 (x1 : Int32) (s : Int32 × M2) : Option ((Int32 × M2) ⊕ ((M2))) := f_X12_restore_57 x1 s.1 s.2
def F_X12_restore (x1 : Int32) (m : M2) : Option (Int32 × M2) :=
  (F_X12_in x1 (0 : Int32) (2 : Int32) m).bind fun c1 => if c1.1 = 0 then f_X12_restore_18 c1.2 else (aI c1.2 113 3 x1).bind fun v4 => if v4 = 0 then f_X12_restore_18 c1.2 else (aI c1.2 117 3 x1).bind fun v7 => (qI c1.2 56 58 v7).bind fun m9 => (aI m9 118 3 x1).bind fun v11 => (qI m9 56 59 v11).bind fun m13 => (aI m13 119 3 x1).bind fun v15 => (qI m13 56 60 v15).bind fun m17 => (qI m17 56 61 (0 : Int32)).bind fun m19 => (loop (g_X12_restore_57 x1) ((0 : Int32), m19)).bind fun e21 => some ((1 : Int32), e21)
def f_X12_count_115 (s0 : Int32) (m : M2) : Option (Int32 × M2) :=
  some (s0, m)
def f_X12_count_148 (s0 : Int32) (m : M2) : Option (Int32 × M2) :=
  some (s0, m)
def f_X12_count_217 (s0 : Int32) (s1 : Int32) (m : M2) : Option (Int32 × M2) :=
  some (s0 + s1, m)
def f_X12_count_202 (s0 : Int32) (s1 : Int32) (m : M2) : Option (Int32 × M2) :=
  (aI m 113 3 (2 : Int32)).bind fun v1 => if v1 = 0 then f_X12_count_217 (s0 + s1) (0 : Int32) m else f_X12_count_217 (s0 + s1) (1 : Int32) m
def f_X12_count_188 (s0 : Int32) (m : M2) : Option (Int32 × M2) :=
  (aI m 113 3 (1 : Int32)).bind fun v1 => if v1 = 0 then f_X12_count_202 s0 (0 : Int32) m else f_X12_count_202 s0 (1 : Int32) m
def f_X12_count_235 (s0 : Int32) (m : M2) : Option (Int32 × M2) :=
  some (s0, m)
def F_X12_count (x1 : Int32) (m : M2) : Option (Int32 × M2) :=
  if x1 = (0 : Int32) then (aI m 66 2 (hI m 56 18)).bind fun v2 => some (v2, m) else if x1 = (1 : Int32) then (aI m 67 2 (hI m 56 18)).bind fun v5 => some (v5, m) else if x1 = (2 : Int32) then (F_X12_menNow m).bind fun c8 => some (c8.1, c8.2) else if x1 = (3 : Int32) then some (hI m 56 60, m) else if x1 = (4 : Int32) then if (hI m 56 58) = (-1 : Int32) then f_X12_count_115 (-2 : Int32) m else f_X12_count_115 (hI m 56 58) m else if x1 = (5 : Int32) then some (hI m 56 59, m) else if x1 = (6 : Int32) then (aI m 79 2 (hI m 56 18)).bind fun v15 => if v15 = (-1 : Int32) then f_X12_count_148 (-2 : Int32) m else (aI m 79 2 (hI m 56 18)).bind fun v18 => f_X12_count_148 v18 m else if x1 = (7 : Int32) then (aI m 80 2 (hI m 56 18)).bind fun v21 => some (v21, m) else if x1 = (8 : Int32) then some (hI m 56 2, m) else if x1 = (9 : Int32) then some (hI m 56 61, m) else if x1 = (10 : Int32) then some (hI m 56 79, m) else if x1 = (11 : Int32) then (aI m 113 3 (0 : Int32)).bind fun v27 => if v27 = 0 then f_X12_count_188 (0 : Int32) m else f_X12_count_188 (1 : Int32) m else if x1 = (12 : Int32) then (F_X12_isFog (hI m 56 60) m).bind fun c31 => if c31.1 = 0 then f_X12_count_235 (0 : Int32) c31.2 else f_X12_count_235 (1 : Int32) c31.2 else some ((-1 : Int32), m)
