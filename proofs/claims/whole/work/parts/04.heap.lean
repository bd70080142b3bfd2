/-! ===== classes, fields and links ===== -/
theorem inw_RX0 : ∀ w ∈ u_ws RX0 TX0 5, w ∈ gw := gw_in (goodIn_r _ [482, 484, 486, 488, 490] (by decide +kernel) (by decide +kernel)) (by decide +kernel)
theorem dcl_RX0 : ∀ k, k < 5 → (TX0 k).1 = RX0 := by decide +kernel
theorem inw_RX1 : ∀ w ∈ u_ws RX1 TX1 6, w ∈ gw := gw_in (goodIn_r _ [418, 420, 422, 424, 426, 428] (by decide +kernel) (by decide +kernel)) (by decide +kernel)
theorem dcl_RX1 : ∀ k, k < 6 → (TX1 k).1 = RX1 := by decide +kernel
theorem inw_RX3 : ∀ w ∈ u_ws RX3 TX3 3, w ∈ gw := gw_in (goodIn_r _ [442, 444, 446] (by decide +kernel) (by decide +kernel)) (by decide +kernel)
theorem dcl_RX3 : ∀ k, k < 3 → (TX3 k).1 = RX3 := by decide +kernel
theorem inw_RX4 : ∀ w ∈ u_ws RX4 TX4 12, w ∈ gw := gw_in (goodIn_r _ [338, 340, 342, 344, 346, 348, 350, 352, 354, 356, 358, 360] (by decide +kernel) (by decide +kernel)) (by decide +kernel)
theorem dcl_RX4 : ∀ k, k < 12 → (TX4 k).1 = RX4 := by decide +kernel
theorem inw_RX5 : ∀ w ∈ u_ws RX5 TX5 5, w ∈ gw := gw_in (goodIn_r _ [379, 381, 383, 385, 387] (by decide +kernel) (by decide +kernel)) (by decide +kernel)
theorem dcl_RX5 : ∀ k, k < 5 → (TX5 k).1 = RX5 := by decide +kernel
theorem inw_RX6 : ∀ w ∈ u_ws RX6 TX6 4, w ∈ gw := gw_in (goodIn_r _ [460, 462, 464, 466] (by decide +kernel) (by decide +kernel)) (by decide +kernel)
theorem dcl_RX6 : ∀ k, k < 4 → (TX6 k).1 = RX6 := by decide +kernel
theorem inw_RX7 : ∀ w ∈ u_ws RX7 TX7 14, w ∈ gw := gw_in (goodIn_r _ [201, 203, 205, 207, 209, 211, 213, 215, 217, 219, 221, 223, 225, 227] (by decide +kernel) (by decide +kernel)) (by decide +kernel)
theorem dcl_RX7 : ∀ k, k < 14 → (TX7 k).1 = RX7 := by decide +kernel
theorem inw_RX8 : ∀ w ∈ u_ws RX8 TX8 8, w ∈ gw := gw_in (goodIn_r _ [307, 309, 311, 313, 315, 317, 319, 321] (by decide +kernel) (by decide +kernel)) (by decide +kernel)
theorem dcl_RX8 : ∀ k, k < 8 → (TX8 k).1 = RX8 := by decide +kernel
theorem inw_RX9 : ∀ w ∈ u_ws RX9 TX9 7, w ∈ gw := gw_in (goodIn_r _ [511, 513, 515, 517, 519, 521, 523] (by decide +kernel) (by decide +kernel)) (by decide +kernel)
theorem dcl_RX9 : ∀ k, k < 7 → (TX9 k).1 = RX9 := by decide +kernel
theorem inw_RX10 : ∀ w ∈ u_ws RX10 TX10 7, w ∈ gw := gw_in (goodIn_r _ [540, 542, 544, 546, 548, 550, 552] (by decide +kernel) (by decide +kernel)) (by decide +kernel)
theorem dcl_RX10 : ∀ k, k < 7 → (TX10 k).1 = RX10 := by decide +kernel
theorem inw_RX11 : ∀ w ∈ u_ws RX11 TX11 13, w ∈ gw := gw_in (goodIn_r _ [572, 574, 576, 578, 580, 582, 584, 586, 588, 590, 592, 594, 596] (by decide +kernel) (by decide +kernel)) (by decide +kernel)
theorem dcl_RX11 : ∀ k, k < 13 → (TX11 k).1 = RX11 := by decide +kernel
theorem inw_RX12 : ∀ w ∈ u_ws RX12 TX12 92, w ∈ gw := gw_in (goodIn_r _ [1245, 1247, 1249, 1251, 1253, 1255, 1257, 1259, 1261, 1263, 1265, 1267, 1269, 1271, 1273, 1275, 1277, 1279, 1281, 1283, 1285, 1287, 1289, 1291, 1293, 1295, 1297, 1299, 1301, 1303, 1305, 1307, 1309, 1311, 1313, 1315, 1317, 1319, 1321, 1323, 1325, 1327, 1329, 1331, 1333, 1335, 1337, 1339, 1341, 1343, 1345, 1347, 1349, 1351, 1353, 1355, 1357, 1359, 1361, 1363, 1365, 1367, 1369, 1371, 1373, 1375, 1377, 1379, 1381, 1383, 1385, 1387, 1389, 1391, 1393, 1395, 1397, 1399, 1401, 1403, 1405, 1407, 1409, 1411, 1413, 1415, 1417, 1419, 1421, 1423, 1425, 1427] (by decide +kernel) (by decide +kernel)) (by decide +kernel)
theorem dcl_RX12 : ∀ k, k < 92 → (TX12 k).1 = RX12 := by decide +kernel
def CKp (ci : Nat) (C : String) (TT : u_T) (N : Nat) : Prop := (∀ k, k < N → parseFieldDescriptor (TT k).2.2.1 = some (fT ci k)) ∧ (∀ a, a < N → ∀ b, b < N → a ≠ b → (TT a).2.1 ≠ (TT b).2.1) ∧ (∀ w ∈ u_ws C TT N, w ∈ gw) ∧ (∀ k, k < N → (TT k).1 = C) ∧ cN ci = N
theorem ck {ci : Nat} {C : String} {TT : u_T} {N : Nat} (h : vwCl[ci]? = some (C, TT, N)) : CKp ci C TT N := by
  match ci, h with
  | 0, h => cases h; exact ⟨tyX0_ok, nmX0, inw_RX0, dcl_RX0, rfl⟩
  | 1, h => cases h; exact ⟨tyX1_ok, nmX1, inw_RX1, dcl_RX1, rfl⟩
  | 2, h => cases h; exact ⟨tyX3_ok, nmX3, inw_RX3, dcl_RX3, rfl⟩
  | 3, h => cases h; exact ⟨tyX4_ok, nmX4, inw_RX4, dcl_RX4, rfl⟩
  | 4, h => cases h; exact ⟨tyX5_ok, nmX5, inw_RX5, dcl_RX5, rfl⟩
  | 5, h => cases h; exact ⟨tyX6_ok, nmX6, inw_RX6, dcl_RX6, rfl⟩
  | 6, h => cases h; exact ⟨tyX7_ok, nmX7, inw_RX7, dcl_RX7, rfl⟩
  | 7, h => cases h; exact ⟨tyX8_ok, nmX8, inw_RX8, dcl_RX8, rfl⟩
  | 8, h => cases h; exact ⟨tyX9_ok, nmX9, inw_RX9, dcl_RX9, rfl⟩
  | 9, h => cases h; exact ⟨tyX10_ok, nmX10, inw_RX10, dcl_RX10, rfl⟩
  | 10, h => cases h; exact ⟨tyX11_ok, nmX11, inw_RX11, dcl_RX11, rfl⟩
  | 11, h => cases h; exact ⟨tyX12_ok, nmX12, inw_RX12, dcl_RX12, rfl⟩
  | n + 12, h => simp [vwCl] at h
/-- a field's link: of class number ci the field j, by the entry ix of the class own -/
def FK (own : String) (ix ci j : Nat) : Prop := ∃ (C : String) (TT : u_T) (N : Nat), vwCl[ci]? = some (C, TT, N) ∧ j < N ∧ Cond.fieldLink own ix C (TT j).2.1 (TT j).2.2.1 ∈ gw
def FKf (own : String) (ci j : Nat) (fin : Bool) : Prop := ∀ (C : String) (TT : u_T) (N : Nat), vwCl[ci]? = some (C, TT, N) → (TT j).2.2.2 = fin ∧ (fin = true → C = own)
def isO (T : List Dsc) (r ci : Nat) : Bool := match T[r]? with
  | some (.inl c) => c == ci
  | _ => false
theorem isO_T {T : List Dsc} {r ci : Nat} (h : isO T r ci = true) : T[r]? = some (.inl ci) := by
  unfold isO at h
  split at h
  · next c hc => rw [hc, (beq_iff_eq.mp h)]
  · cases h
/-- the reference in a field, to an object of class number c1 -/
def gO (T : List Dsc) (μ : Mem) (k j c1 : Nat) : Option Nat := match gR μ k j with
  | some r => if isO T r c1 = true then some r else none
  | none => none
def tyc (ty : FieldType) : Nat := match ty with
  | .int => 0
  | .long => 1
  | .byte => 2
  | .boolean => 3
  | .object _ => 4
  | _ => 5
def aLen (T : List Dsc) (r tc : Nat) : Option Nat := match T[r]? with
  | some (.inr (ty, n)) => if tyc ty = tc then some n else none
  | _ => none
theorem aLen_T {T : List Dsc} {r tc n : Nat} (h : aLen T r tc = some n) : ∃ ty, T[r]? = some (.inr (ty, n)) ∧ tyc ty = tc := by
  unfold aLen at h
  split at h
  · next ty m hc =>
    split at h
    · next ht => cases h; exact ⟨ty, hc, ht⟩
    · cases h
  · cases h
/-- the reference in a field, to an array of type tc, and its length -/
def gA (T : List Dsc) (μ : Mem) (k j tc : Nat) : Option (Nat × Nat) := match gR μ k j with
  | some r => match aLen T r tc with
    | some n => some (r, n)
    | none => none
  | none => none
theorem gO_R {T : List Dsc} {μ : Mem} {k j c1 r : Nat} (h : gO T μ k j c1 = some r) : gR μ k j = some r := by
  unfold gO at h
  split at h
  · next q hq =>
    split at h
    · cases h; exact hq
    · cases h
  · cases h
theorem gO_T {T : List Dsc} {μ : Mem} {k j c1 r : Nat} (h : gO T μ k j c1 = some r) : T[r]? = some (.inl c1) := by
  unfold gO at h
  split at h
  · next q hq =>
    split at h
    · next hi => cases h; exact isO_T hi
    · cases h
  · cases h
theorem gA_R {T : List Dsc} {μ : Mem} {k j tc : Nat} {r : Nat × Nat} (h : gA T μ k j tc = some r) : gR μ k j = some r.1 := by
  unfold gA at h
  split at h
  · next q hq =>
    split at h
    · cases h; exact hq
    · cases h
  · cases h
theorem gA_T {T : List Dsc} {μ : Mem} {k j tc : Nat} {r : Nat × Nat} (h : gA T μ k j tc = some r) : aLen T r.1 tc = some r.2 := by
  unfold gA at h
  split at h
  · next q hq =>
    split at h
    · next n hn => cases h; exact hn
    · cases h
  · cases h
/-- an index within, as a test -/
def ixb (i : Int32) (n : Nat) : Bool := !(decide (i < 0)) && decide (i.toNatClampNeg < n)
theorem ixb_in {i : Int32} {n : Nat} (h : ixb i n = true) : vp_in i n := by
  simp only [ixb, Bool.and_eq_true, Bool.not_eq_true', decide_eq_false_iff_not, decide_eq_true_eq] at h
  intro q
  rcases q with q | q
  · exact h.1 q
  · omega
def rI (μ : Mem) (r n : Nat) (i : Int32) : Option Int32 := if ixb i n = true then some (gI μ r i.toNatClampNeg) else none
def rJ (μ : Mem) (r n : Nat) (i : Int32) : Option Int64 := if ixb i n = true then some (gJ μ r i.toNatClampNeg) else none
def rO (T : List Dsc) (μ : Mem) (r n : Nat) (i : Int32) (c1 : Nat) : Option Nat := if ixb i n = true then gO T μ r i.toNatClampNeg c1 else none
def wI (μ : Mem) (r n : Nat) (i : Int32) (v : Int32) : Option Mem := if ixb i n = true then some (sI μ r i.toNatClampNeg v) else none
def wB (μ : Mem) (r n : Nat) (i : Int32) (v : Int32) : Option Mem := if ixb i n = true then some (sI μ r i.toNatClampNeg v.toInt8.toInt32) else none
def wJ (μ : Mem) (r n : Nat) (i : Int32) (v : Int64) : Option Mem := if ixb i n = true then some (sJ μ r i.toNatClampNeg v) else none
def zb (v : Int32) : Option Int32 := if v = 0 ∨ v = 1 then some v else none
def dvI (x y : Int32) : Option Int32 := if y = 0 then none else some (x / y)
def rmI (x y : Int32) : Option Int32 := if y = 0 then none else some (x - x / y * y)
theorem of_dvI {x y v : Int32} (h : dvI x y = some v) : ¬ y = 0 ∧ x / y = v := by
  unfold dvI at h
  split at h
  · cases h
  · next hy => exact ⟨hy, Option.some.inj h⟩
theorem of_rmI {x y v : Int32} (h : rmI x y = some v) : ¬ y = 0 ∧ x - x / y * y = v := by
  unfold rmI at h
  split at h
  · cases h
  · next hy => exact ⟨hy, Option.some.inj h⟩
theorem of_zb {x v : Int32} (h : zb x = some v) : (x = 0 ∨ x = 1) ∧ x = v := by
  unfold zb at h
  split at h
  · next hy => exact ⟨hy, Option.some.inj h⟩
  · cases h
theorem of_if {α : Type} {b : Prop} [Decidable b] {x v : α} (h : (if b then some x else none) = some v) : b ∧ x = v := by
  split at h
  · next hy => exact ⟨hy, Option.some.inj h⟩
  · cases h
section WPH
variable {X : CX} {cc : ByteArray} {own : String} {nL : Nat} {T : List Dsc} {μ : Mem} {n1 n2 pc : Nat} {lo : List (Nat × Value)} {st : List Value}
theorem Wp.getV {k ci j ix : Nat} {v : Value} (hT : T[k]? = some (.inl ci)) (hf : FK own ix ci j) (hv : ∀ α, fV μ α (fT ci j) k j = gv α v) (hd : decode cc pc = .ok (.getfield ix, 3)) (kk : Wp X cc own nL T μ n1 n2 (pc + 3) lo (v :: st)) : Wp X cc own nL T μ n1 n2 pc lo (.ref k :: st) := by
  obtain ⟨p, l, e, R, s, m, args, below, meth, c, Q, A, D, n0, α0⟩ := X
  intro hx hb hml hown hts hlk hA H locs ls α cA ha hW hS hl
  obtain ⟨C, TT, N, h1, h2, h3⟩ := hf
  obtain ⟨k1, k2, k3, k4, k5⟩ := ck h1
  obtain ⟨tys, hK, hP, hD, ht, hn⟩ := id hW
  refine va_get hx hb hts k3 hown hK hP k (fs := (List.range (cN ci)).map (fun j => fV μ α (fT ci j) k j)) (by rw [wS_at hT, eN_obj hT]) h1 j h2 (ref := C) (hts _ h3) (fun x hx => by rw [k4 j h2] at hx; exact hx) (v := gv α v) (by rw [k5]; simp [h2, hv α]) hd ?_
  exact kk hx hb hml hown hts hlk hA H locs ls α cA ha hW hS hl
theorem Wp.getI {k ci j ix : Nat} (hT : T[k]? = some (.inl ci)) (hf : FK own ix ci j) (hty : isI (fT ci j) = true) (hd : decode cc pc = .ok (.getfield ix, 3)) (kk : Wp X cc own nL T μ n1 n2 (pc + 3) lo (.int (gI μ k j) :: st)) : Wp X cc own nL T μ n1 n2 pc lo (.ref k :: st) :=
  Wp.getV hT hf (fun α => fV_I hty) hd kk
theorem Wp.getJ {k ci j ix : Nat} (hT : T[k]? = some (.inl ci)) (hf : FK own ix ci j) (hty : fT ci j = .long) (hd : decode cc pc = .ok (.getfield ix, 3)) (kk : Wp X cc own nL T μ n1 n2 (pc + 3) lo (.long (gJ μ k j) :: st)) : Wp X cc own nL T μ n1 n2 pc lo (.ref k :: st) :=
  Wp.getV hT hf (fun α => by rw [hty]; rfl) hd kk
theorem Wp.getR {k ci j ix r : Nat} (hr : gR μ k j = some r) (hT : T[k]? = some (.inl ci)) (hf : FK own ix ci j) (hty : isP (fT ci j) = true) (hd : decode cc pc = .ok (.getfield ix, 3)) (kk : Wp X cc own nL T μ n1 n2 (pc + 3) lo (.ref r :: st)) : Wp X cc own nL T μ n1 n2 pc lo (.ref k :: st) :=
  Wp.getV (v := .ref r) hT hf (fun α => by rw [fV_P hty, hr]; rfl) hd kk
theorem Wp.getN {k ci j ix : Nat} (hr : gR μ k j = none) (hT : T[k]? = some (.inl ci)) (hf : FK own ix ci j) (hty : isP (fT ci j) = true) (hd : decode cc pc = .ok (.getfield ix, 3)) (kk : Wp X cc own nL T μ n1 n2 (pc + 3) lo (.null :: st)) : Wp X cc own nL T μ n1 n2 pc lo (.ref k :: st) :=
  Wp.getV (v := .null) hT hf (fun α => by rw [fV_P hty, hr]; rfl) hd kk
theorem Wp.putV {k ci j ix : Nat} {v : Value} {μ' : Mem} {ty : FieldType} (hT : T[k]? = some (.inl ci)) (hf : FK own ix ci j) (hff : FKf own ci j false) (hty : fT ci j = ty) (hnw : ∀ α, narrow ty (gv α v) = gv α v) (hft : ∀ α, fits ty (gv α v) = true) (hset : ∀ α cA, (wS T μ α cA).set k (α k, .inr (ci, ((List.range (cN ci)).map (fun j => fV μ α (fT ci j) k j)).set j (gv α v))) = wS T μ' α cA) (hd : decode cc pc = .ok (.putfield ix, 3)) (kk : Wp X cc own nL T μ' n1 n2 (pc + 3) lo st) : Wp X cc own nL T μ n1 n2 pc lo (v :: .ref k :: st) := by
  obtain ⟨p, l, e, R, s, m, args, below, meth, c, Q, A, D, n0, α0⟩ := X
  intro hx hb hml hown hts hlk hA H locs ls α cA ha hW hS hl
  obtain ⟨C, TT, N, h1, h2, h3⟩ := hf
  obtain ⟨k1, k2, k3, k4, k5⟩ := ck h1
  obtain ⟨tys, hK, hP, hD, ht, hn⟩ := hW
  refine va_put hx hb hts k3 (fT ci) k1 k2 hown hK hP hD hS k (fs := (List.range (cN ci)).map (fun j => fV μ α (fT ci j) k j)) (by rw [wS_at hT, eN_obj hT]) h1 j h2 (ref := C) (hts _ h3) (fun x hx => by rw [k4 j h2] at hx; exact hx) (hff C TT N h1).1 (ty := ty) (v := gv α v) (by rw [k1 j h2, hty]) (hnw α) (hft α) (by rw [k5]; simp [h2]) hd (fun H1 locs1 hP1 hD1 hS1 => ?_)
  rw [hset α cA] at hP1 hD1
  exact kk hx hb hml hown hts hlk hA H1 locs1 ls α cA ha ⟨tys, hK, hP1, hD1, ht, hn⟩ hS1 hl
theorem Wp.putFV {k ci j ix : Nat} {v : Value} {μ' : Mem} {ty : FieldType} (hT : T[k]? = some (.inl ci)) (hf : FK own ix ci j) (hff : FKf own ci j true) (hini : ∀ p l e R s m args below meth c Q A D n0 α0, X = (p, l, e, R, s, m, args, below, meth, c, Q, A, D, n0, α0) → meth.name = "<init>") (hty : fT ci j = ty) (hnw : ∀ α, narrow ty (gv α v) = gv α v) (hft : ∀ α, fits ty (gv α v) = true) (hset : ∀ α cA, (wS T μ α cA).set k (α k, .inr (ci, ((List.range (cN ci)).map (fun j => fV μ α (fT ci j) k j)).set j (gv α v))) = wS T μ' α cA) (hd : decode cc pc = .ok (.putfield ix, 3)) (kk : Wp X cc own nL T μ' n1 n2 (pc + 3) lo st) : Wp X cc own nL T μ n1 n2 pc lo (v :: .ref k :: st) := by
  obtain ⟨p, l, e, R, s, m, args, below, meth, c, Q, A, D, n0, α0⟩ := X
  have hin := hini p l e R s m args below meth c Q A D n0 α0 rfl
  intro hx hb hml hown hts hlk hA H locs ls α cA ha hW hS hl
  obtain ⟨C, TT, N, h1, h2, h3⟩ := hf
  obtain ⟨k1, k2, k3, k4, k5⟩ := ck h1
  obtain ⟨tys, hK, hP, hD, ht, hn⟩ := hW
  refine va_putF hx hb hts k3 (fT ci) k1 k2 hown hK hP hD hS k (fs := (List.range (cN ci)).map (fun j => fV μ α (fT ci j) k j)) (by rw [wS_at hT, eN_obj hT]) h1 j h2 (ref := C) (hts _ h3) (fun x hx => by rw [k4 j h2] at hx; exact hx) (hff C TT N h1).1 hin ((k4 j h2).trans ((hff C TT N h1).2 rfl)) (ty := ty) (v := gv α v) (by rw [k1 j h2, hty]) (hnw α) (hft α) (by rw [k5]; simp [h2]) hd (fun H1 locs1 hP1 hD1 hS1 => ?_)
  rw [hset α cA] at hP1 hD1
  exact kk hx hb hml hown hts hlk hA H1 locs1 ls α cA ha ⟨tys, hK, hP1, hD1, ht, hn⟩ hS1 hl
theorem Wp.putI {k ci j ix : Nat} {v : Int32} (hT : T[k]? = some (.inl ci)) (hf : FK own ix ci j) (hff : FKf own ci j false) (hty : fT ci j = .int) (hd : decode cc pc = .ok (.putfield ix, 3)) (kk : Wp X cc own nL T (sI μ k j v) n1 n2 (pc + 3) lo st) : Wp X cc own nL T μ n1 n2 pc lo (.int v :: .ref k :: st) :=
  Wp.putV (v := .int v) hT hf hff hty (fun _ => rfl) (fun _ => rfl) (fun α cA => wS_putI hT (by rw [hty]; rfl)) hd kk
theorem Wp.putZ {k ci j ix : Nat} {v : Int32} (hz : v = 0 ∨ v = 1) (hT : T[k]? = some (.inl ci)) (hf : FK own ix ci j) (hff : FKf own ci j false) (hty : fT ci j = .boolean) (hd : decode cc pc = .ok (.putfield ix, 3)) (kk : Wp X cc own nL T (sI μ k j v) n1 n2 (pc + 3) lo st) : Wp X cc own nL T μ n1 n2 pc lo (.int v :: .ref k :: st) :=
  Wp.putV (v := .int v) hT hf hff hty (fun _ => by rcases hz with rfl | rfl <;> rfl) (fun _ => by rcases hz with rfl | rfl <;> rfl) (fun α cA => wS_putI hT (by rw [hty]; rfl)) hd kk
theorem Wp.putJ {k ci j ix : Nat} {v : Int64} (hT : T[k]? = some (.inl ci)) (hf : FK own ix ci j) (hff : FKf own ci j false) (hty : fT ci j = .long) (hd : decode cc pc = .ok (.putfield ix, 3)) (kk : Wp X cc own nL T (sJ μ k j v) n1 n2 (pc + 3) lo st) : Wp X cc own nL T μ n1 n2 pc lo (.long v :: .ref k :: st) :=
  Wp.putV (v := .long v) hT hf hff hty (fun _ => rfl) (fun _ => rfl) (fun α cA => wS_putJ hT hty) hd kk
theorem nar_P {ty : FieldType} (h : isP ty = true) (v : Value) : narrow ty v = v := by cases ty <;> first | rfl | cases h
theorem fit_P {ty : FieldType} (h : isP ty = true) (r : Nat) : fits ty (.ref r) = true := by cases ty <;> first | rfl | cases h
theorem Wp.putR {k ci j ix r : Nat} (hT : T[k]? = some (.inl ci)) (hf : FK own ix ci j) (hff : FKf own ci j false) (hty : isP (fT ci j) = true) (hd : decode cc pc = .ok (.putfield ix, 3)) (kk : Wp X cc own nL T (sR μ k j (some r)) n1 n2 (pc + 3) lo st) : Wp X cc own nL T μ n1 n2 pc lo (.ref r :: .ref k :: st) :=
  Wp.putV (v := .ref r) hT hf hff rfl (fun _ => nar_P hty _) (fun α => fit_P hty _) (fun α cA => wS_putR (v := some r) hT hty) hd kk
theorem Wp.iald {r n : Nat} {i v : Int32} (hr : rI μ r n i = some v) (hT : aLen T r 0 = some n) (hd : decode cc pc = .ok (.iaload, 1)) (kk : Wp X cc own nL T μ n1 n2 (pc + 1) lo (.int v :: st)) : Wp X cc own nL T μ n1 n2 pc lo (.int i :: .ref r :: st) := by
  obtain ⟨p, l, e, R, s, m, args, below, meth, c, Q, A, D, n0, α0⟩ := X
  intro hx hb hml hown hts hlk hA H locs ls α cA ha hW hS hl
  obtain ⟨hi, rfl⟩ := of_if hr
  obtain ⟨ty, h1, h2⟩ := aLen_T hT
  have hty : ty = .int := by cases ty <;> first | rfl | cases h2
  subst hty
  obtain ⟨tys, hK, hP, hD, ht, hn⟩ := id hW
  obtain ⟨t0, ht0⟩ := ht r n _ h1
  exact va_iald hx hb hK hP r t0 (f := gI μ r) (by rw [wS_at h1, eN_arr h1]; rfl) ht0 (ixb_in hi) hd (kk hx hb hml hown hts hlk hA H locs ls α cA ha hW hS hl)
theorem Wp.bald {r n : Nat} {i v : Int32} (hr : rI μ r n i = some v) (hT : aLen T r 2 = some n) (hd : decode cc pc = .ok (.baload, 1)) (kk : Wp X cc own nL T μ n1 n2 (pc + 1) lo (.int v :: st)) : Wp X cc own nL T μ n1 n2 pc lo (.int i :: .ref r :: st) := by
  obtain ⟨p, l, e, R, s, m, args, below, meth, c, Q, A, D, n0, α0⟩ := X
  intro hx hb hml hown hts hlk hA H locs ls α cA ha hW hS hl
  obtain ⟨hi, rfl⟩ := of_if hr
  obtain ⟨ty, h1, h2⟩ := aLen_T hT
  have hty : ty = .byte := by cases ty <;> first | rfl | cases h2
  subst hty
  obtain ⟨tys, hK, hP, hD, ht, hn⟩ := id hW
  obtain ⟨t0, ht0⟩ := ht r n _ h1
  exact va_bald hx hb hK hP r t0 (f := gI μ r) (by rw [wS_at h1, eN_arr h1]; rfl) ht0 (ixb_in hi) hd (kk hx hb hml hown hts hlk hA H locs ls α cA ha hW hS hl)
theorem Wp.zald {r n : Nat} {i v : Int32} (hr : rI μ r n i = some v) (hT : aLen T r 3 = some n) (hd : decode cc pc = .ok (.baload, 1)) (kk : Wp X cc own nL T μ n1 n2 (pc + 1) lo (.int v :: st)) : Wp X cc own nL T μ n1 n2 pc lo (.int i :: .ref r :: st) := by
  obtain ⟨p, l, e, R, s, m, args, below, meth, c, Q, A, D, n0, α0⟩ := X
  intro hx hb hml hown hts hlk hA H locs ls α cA ha hW hS hl
  obtain ⟨hi, rfl⟩ := of_if hr
  obtain ⟨ty, h1, h2⟩ := aLen_T hT
  have hty : ty = .boolean := by cases ty <;> first | rfl | cases h2
  subst hty
  obtain ⟨tys, hK, hP, hD, ht, hn⟩ := id hW
  obtain ⟨t0, ht0⟩ := ht r n _ h1
  exact va_zald hx hb hK hP r t0 (f := gI μ r) (by rw [wS_at h1, eN_arr h1]; rfl) ht0 (ixb_in hi) hd (kk hx hb hml hown hts hlk hA H locs ls α cA ha hW hS hl)
theorem Wp.lald {r n : Nat} {i : Int32} {v : Int64} (hr : rJ μ r n i = some v) (hT : aLen T r 1 = some n) (hd : decode cc pc = .ok (.laload, 1)) (kk : Wp X cc own nL T μ n1 n2 (pc + 1) lo (.long v :: st)) : Wp X cc own nL T μ n1 n2 pc lo (.int i :: .ref r :: st) := by
  obtain ⟨p, l, e, R, s, m, args, below, meth, c, Q, A, D, n0, α0⟩ := X
  intro hx hb hml hown hts hlk hA H locs ls α cA ha hW hS hl
  obtain ⟨hi, rfl⟩ := of_if hr
  obtain ⟨ty, h1, h2⟩ := aLen_T hT
  have hty : ty = .long := by cases ty <;> first | rfl | cases h2
  subst hty
  obtain ⟨tys, hK, hP, hD, ht, hn⟩ := id hW
  obtain ⟨t0, ht0⟩ := ht r n _ h1
  exact va_lald hx hb hK hP r t0 (f := gJ μ r) (by rw [wS_at h1, eN_arr h1]; rfl) ht0 (ixb_in hi) hd (kk hx hb hml hown hts hlk hA H locs ls α cA ha hW hS hl)
theorem Wp.aald {r n c1 v : Nat} {i : Int32} (hr : rO T μ r n i c1 = some v) (hT : aLen T r 4 = some n) (hd : decode cc pc = .ok (.aaload, 1)) (kk : Wp X cc own nL T μ n1 n2 (pc + 1) lo (.ref v :: st)) : Wp X cc own nL T μ n1 n2 pc lo (.int i :: .ref r :: st) := by
  obtain ⟨p, l, e, R, s, m, args, below, meth, c, Q, A, D, n0, α0⟩ := X
  intro hx hb hml hown hts hlk hA H locs ls α cA ha hW hS hl
  unfold rO at hr
  split at hr
  · next hi =>
    obtain ⟨ty, h1, h2⟩ := aLen_T hT
    obtain ⟨C, rfl⟩ : ∃ C, ty = .object C := by cases ty <;> first | exact ⟨_, rfl⟩ | cases h2
    obtain ⟨tys, hK, hP, hD, ht, hn⟩ := id hW
    obtain ⟨t0, ht0⟩ := ht r n _ h1
    refine va_aldq hx hb hK hP r t0 (f := fun j => (gR μ r j).map α) (by rw [wS_at h1, eN_arr h1]; rfl) ht0 (ixb_in hi) hd ?_
    rw [gO_R hr]
    exact kk hx hb hml hown hts hlk hA H locs ls α cA ha hW hS hl
  · cases hr
theorem Wp.iast {r n : Nat} {i v : Int32} {μ' : Mem} (hr : wI μ r n i v = some μ') (hT : aLen T r 0 = some n) (hd : decode cc pc = .ok (.iastore, 1)) (kk : Wp X cc own nL T μ' n1 n2 (pc + 1) lo st) : Wp X cc own nL T μ n1 n2 pc lo (.int v :: .int i :: .ref r :: st) := by
  obtain ⟨p, l, e, R, s, m, args, below, meth, c, Q, A, D, n0, α0⟩ := X
  intro hx hb hml hown hts hlk hA H locs ls α cA ha hW hS hl
  obtain ⟨hi, rfl⟩ := of_if hr
  obtain ⟨ty, h1, h2⟩ := aLen_T hT
  have hty : ty = .int := by cases ty <;> first | rfl | cases h2
  subst hty
  obtain ⟨tys, hK, hP, hD, ht, hn⟩ := hW
  obtain ⟨t0, ht0⟩ := ht r n _ h1
  refine va_iast hx hb hK hP hD hS r t0 (f := gI μ r) (by rw [wS_at h1, eN_arr h1]; rfl) ht0 (ixb_in hi) hd (fun H1 locs1 hP1 hD1 hS1 => ?_)
  rw [wS_stI h1 rfl] at hP1 hD1
  exact kk hx hb hml hown hts hlk hA H1 locs1 ls α cA ha ⟨tys, hK, hP1, hD1, ht, hn⟩ hS1 hl
theorem Wp.bast {r n : Nat} {i v : Int32} {μ' : Mem} (hr : wB μ r n i v = some μ') (hT : aLen T r 2 = some n) (hd : decode cc pc = .ok (.bastore, 1)) (kk : Wp X cc own nL T μ' n1 n2 (pc + 1) lo st) : Wp X cc own nL T μ n1 n2 pc lo (.int v :: .int i :: .ref r :: st) := by
  obtain ⟨p, l, e, R, s, m, args, below, meth, c, Q, A, D, n0, α0⟩ := X
  intro hx hb hml hown hts hlk hA H locs ls α cA ha hW hS hl
  obtain ⟨hi, rfl⟩ := of_if hr
  obtain ⟨ty, h1, h2⟩ := aLen_T hT
  have hty : ty = .byte := by cases ty <;> first | rfl | cases h2
  subst hty
  obtain ⟨tys, hK, hP, hD, ht, hn⟩ := hW
  obtain ⟨t0, ht0⟩ := ht r n _ h1
  refine va_bast hx hb hK hP hD hS r t0 (f := gI μ r) (by rw [wS_at h1, eN_arr h1]; rfl) ht0 (ixb_in hi) hd (fun H1 locs1 hP1 hD1 hS1 => ?_)
  rw [vp_nar_byte, wS_stI h1 rfl] at hP1 hD1
  exact kk hx hb hml hown hts hlk hA H1 locs1 ls α cA ha ⟨tys, hK, hP1, hD1, ht, hn⟩ hS1 hl
theorem nar_z {v : Int32} (hz : v = 0 ∨ v = 1) : vp_nar .boolean v = v := by rcases hz with rfl | rfl <;> rfl
theorem Wp.zast {r n : Nat} {i v : Int32} {μ' : Mem} (hz : v = 0 ∨ v = 1) (hr : wI μ r n i v = some μ') (hT : aLen T r 3 = some n) (hd : decode cc pc = .ok (.bastore, 1)) (kk : Wp X cc own nL T μ' n1 n2 (pc + 1) lo st) : Wp X cc own nL T μ n1 n2 pc lo (.int v :: .int i :: .ref r :: st) := by
  obtain ⟨p, l, e, R, s, m, args, below, meth, c, Q, A, D, n0, α0⟩ := X
  intro hx hb hml hown hts hlk hA H locs ls α cA ha hW hS hl
  obtain ⟨hi, rfl⟩ := of_if hr
  obtain ⟨ty, h1, h2⟩ := aLen_T hT
  have hty : ty = .boolean := by cases ty <;> first | rfl | cases h2
  subst hty
  obtain ⟨tys, hK, hP, hD, ht, hn⟩ := hW
  obtain ⟨t0, ht0⟩ := ht r n _ h1
  refine va_zast hx hb hK hP hD hS r t0 (f := gI μ r) (by rw [wS_at h1, eN_arr h1]; rfl) ht0 (ixb_in hi) hd (fun H1 locs1 hP1 hD1 hS1 => ?_)
  rw [nar_z hz, wS_stI h1 rfl] at hP1 hD1
  exact kk hx hb hml hown hts hlk hA H1 locs1 ls α cA ha ⟨tys, hK, hP1, hD1, ht, hn⟩ hS1 hl
theorem Wp.last {r n : Nat} {i : Int32} {v : Int64} {μ' : Mem} (hr : wJ μ r n i v = some μ') (hT : aLen T r 1 = some n) (hd : decode cc pc = .ok (.lastore, 1)) (kk : Wp X cc own nL T μ' n1 n2 (pc + 1) lo st) : Wp X cc own nL T μ n1 n2 pc lo (.long v :: .int i :: .ref r :: st) := by
  obtain ⟨p, l, e, R, s, m, args, below, meth, c, Q, A, D, n0, α0⟩ := X
  intro hx hb hml hown hts hlk hA H locs ls α cA ha hW hS hl
  obtain ⟨hi, rfl⟩ := of_if hr
  obtain ⟨ty, h1, h2⟩ := aLen_T hT
  have hty : ty = .long := by cases ty <;> first | rfl | cases h2
  subst hty
  obtain ⟨tys, hK, hP, hD, ht, hn⟩ := hW
  obtain ⟨t0, ht0⟩ := ht r n _ h1
  refine va_last hx hb hK hP hD hS r t0 (f := gJ μ r) (by rw [wS_at h1, eN_arr h1]; rfl) ht0 (ixb_in hi) hd (fun H1 locs1 hP1 hD1 hS1 => ?_)
  rw [wS_stJ h1] at hP1 hD1
  exact kk hx hb hml hown hts hlk hA H1 locs1 ls α cA ha ⟨tys, hK, hP1, hD1, ht, hn⟩ hS1 hl
theorem Wp.alen {r n tc : Nat} (hT : aLen T r tc = some n) (hd : decode cc pc = .ok (.arraylength, 1)) (kk : Wp X cc own nL T μ n1 n2 (pc + 1) lo (.int (nI n) :: st)) : Wp X cc own nL T μ n1 n2 pc lo (.ref r :: st) := by
  obtain ⟨p, l, e, R, s, m, args, below, meth, c, Q, A, D, n0, α0⟩ := X
  intro hx hb hml hown hts hlk hA H locs ls α cA ha hW hS hl
  obtain ⟨ty, h1, h2⟩ := aLen_T hT
  obtain ⟨tys, hK, hP, hD, ht, hn⟩ := id hW
  obtain ⟨t0, ht0⟩ := ht r n _ h1
  exact va_alen hx hb hK hP r t0 (x := (n, aE μ α ty r)) (by rw [wS_at h1, eN_arr h1]) ht0 rfl hd (kk hx hb hml hown hts hlk hA H locs ls α cA ha hW hS hl)
end WPH
