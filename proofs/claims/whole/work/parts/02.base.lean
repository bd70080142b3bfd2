/-! ===== the abstract memory: cells by number; a cell's ints, longs, references ===== -/
def gw : List Cond := lw_tbl.filter goodWord
theorem gw_of {w : Cond} (h : w ∈ lw_tbl) (hg : goodWord w = true) : w ∈ gw := List.mem_filter.mpr ⟨h, hg⟩
theorem gw_tb {w : Cond} (i : Nat) (h : tables_1[i]? = some w) (hg : goodWord w = true) : w ∈ gw := gw_of (List.mem_append_right _ (List.mem_of_getElem? h)) hg
theorem gw_pr {q : MethodName × Nat} (i : Nat) (h : lw_privs[i]? = some q) (hg : goodWord (Cond.selects q.1.cls q.1 q.1) = true) : Cond.selects q.1.cls q.1 q.1 ∈ gw := gw_of (List.mem_append_left _ (List.mem_map.mpr ⟨q, List.mem_of_getElem? h, rfl⟩)) hg
theorem gw_good {ws big : List Cond} (hs : ∀ w ∈ ws, w ∈ gw) (hb : ∀ w ∈ gw, w ∈ big) : GoodIn big ws := fun w h => ⟨hb w (hs w h), good_of_word (List.mem_filter.mp (hs w h)).2⟩
theorem gw_in {ws : List Cond} (h : GoodIn lw_tbl ws) (hg : ws.all goodWord = true) : ∀ w ∈ ws, w ∈ gw := fun w hw => gw_of (h w hw).1 (List.all_eq_true.mp hg w hw)
abbrev Dsc : Type := Nat ⊕ (FieldType × Nat)
abbrev Mem : Type := (Nat → Nat → Int32) × (Nat → Nat → Int64) × (Nat → Nat → Option Nat)
def gI (μ : Mem) (k j : Nat) : Int32 := μ.1 k j
def gJ (μ : Mem) (k j : Nat) : Int64 := μ.2.1 k j
def gR (μ : Mem) (k j : Nat) : Option Nat := μ.2.2 k j
def u2 {β : Type} (f : Nat → Nat → β) (k j : Nat) (v : β) : Nat → Nat → β := fun a b => if a = k ∧ b = j then v else f a b
def sI (μ : Mem) (k j : Nat) (v : Int32) : Mem := (u2 μ.1 k j v, μ.2.1, μ.2.2)
def sJ (μ : Mem) (k j : Nat) (v : Int64) : Mem := (μ.1, u2 μ.2.1 k j v, μ.2.2)
def sR (μ : Mem) (k j : Nat) (v : Option Nat) : Mem := (μ.1, μ.2.1, u2 μ.2.2 k j v)
def gv (α : Nat → Nat) (v : Value) : Value := match v with
  | .ref k => .ref (α k)
  | w => w
theorem gv_cat (α : Nat → Nat) (v : Value) : (gv α v).category = v.category := by cases v <;> rfl
def fT (ci : Nat) : Nat → FieldType := match ci with
  | 0 => tyX0
  | 1 => tyX1
  | 2 => tyX3
  | 3 => tyX4
  | 4 => tyX5
  | 5 => tyX6
  | 6 => tyX7
  | 7 => tyX8
  | 8 => tyX9
  | 9 => tyX10
  | 10 => tyX11
  | _ => tyX12
def cN (ci : Nat) : Nat := match vwCl[ci]? with
  | some q => q.2.2
  | none => 0
def fV (μ : Mem) (α : Nat → Nat) (ty : FieldType) (k j : Nat) : Value := match ty with
  | .long => .long (gJ μ k j)
  | .object _ => va_rf ((gR μ k j).map α)
  | .array _ => va_rf ((gR μ k j).map α)
  | _ => .int (gI μ k j)
def aE (μ : Mem) (α : Nat → Nat) (ty : FieldType) (k : Nat) : (Nat → Int32) ⊕ (Nat → Int64) ⊕ (Nat → UInt32) ⊕ (Nat → UInt64) ⊕ (Nat → Option Nat) := match ty with
  | .long => .inr (.inl (gJ μ k))
  | .object _ => .inr (.inr (.inr (.inr (fun j => (gR μ k j).map α))))
  | _ => .inl (gI μ k)
def eN (T : List Dsc) (μ : Mem) (α : Nat → Nat) (cA : Nat → ClassId) (k : Nat) : va_E := match T[k]? with
  | some (.inl ci) => .inr (ci, (List.range (cN ci)).map (fun j => fV μ α (fT ci j) k j))
  | some (.inr (ty, n)) => .inl (cA k, n, aE μ α ty k)
  | none => .inr (0, [])
def wS (T : List Dsc) (μ : Mem) (α : Nat → Nat) (cA : Nat → ClassId) : va_W := (List.range T.length).map (fun k => (α k, eN T μ α cA k))
theorem wS_at {T : List Dsc} {μ : Mem} {α : Nat → Nat} {cA : Nat → ClassId} {k : Nat} {d : Dsc} (h : T[k]? = some d) : (wS T μ α cA)[k]? = some (α k, eN T μ α cA k) := by
  have hl : k < T.length := (List.getElem?_eq_some_iff.mp h).1
  simp [wS, hl]
theorem wS_set {T : List Dsc} {μ μ' : Mem} {α : Nat → Nat} {cA : Nat → ClassId} {k : Nat} {e : va_E} (he : eN T μ' α cA k = e) (ho : ∀ q, q ≠ k → eN T μ' α cA q = eN T μ α cA q) : (wS T μ α cA).set k (α k, e) = wS T μ' α cA := by
  apply List.ext_getElem?
  intro i
  by_cases hi : i < T.length
  · by_cases hk : i = k
    · subst hk
      rw [List.getElem?_set_self (by simp [wS, hi])]
      simp [wS, hi, he]
    · rw [List.getElem?_set_ne (Ne.symm hk)]
      simp [wS, hi, ho i hk]
  · rw [List.getElem?_eq_none (by simp [wS]; omega), List.getElem?_eq_none (by simp [wS]; omega)]
/-! what a store changes -/
theorem eN_off {T : List Dsc} {μ μ' : Mem} {α : Nat → Nat} {cA : Nat → ClassId} {k : Nat} (hI : ∀ j, gI μ' k j = gI μ k j) (hJ : ∀ j, gJ μ' k j = gJ μ k j) (hR : ∀ j, gR μ' k j = gR μ k j) : eN T μ' α cA k = eN T μ α cA k := by
  have h1 : gI μ' k = gI μ k := funext hI
  have h2 : gJ μ' k = gJ μ k := funext hJ
  unfold eN
  split
  · congr 2
    apply List.map_congr_left
    intro j _
    unfold fV
    split <;> simp [hI, hJ, hR]
  · congr 2
    unfold aE
    split <;> simp [h1, h2, hR]
  · rfl
theorem gI_sI (μ : Mem) (k j : Nat) (v : Int32) (a b : Nat) : gI (sI μ k j v) a b = if a = k ∧ b = j then v else gI μ a b := rfl
theorem gJ_sI (μ : Mem) (k j : Nat) (v : Int32) (a b : Nat) : gJ (sI μ k j v) a b = gJ μ a b := rfl
theorem gR_sI (μ : Mem) (k j : Nat) (v : Int32) (a b : Nat) : gR (sI μ k j v) a b = gR μ a b := rfl
theorem gI_sJ (μ : Mem) (k j : Nat) (v : Int64) (a b : Nat) : gI (sJ μ k j v) a b = gI μ a b := rfl
theorem gJ_sJ (μ : Mem) (k j : Nat) (v : Int64) (a b : Nat) : gJ (sJ μ k j v) a b = if a = k ∧ b = j then v else gJ μ a b := rfl
theorem gR_sJ (μ : Mem) (k j : Nat) (v : Int64) (a b : Nat) : gR (sJ μ k j v) a b = gR μ a b := rfl
theorem gI_sR (μ : Mem) (k j : Nat) (v : Option Nat) (a b : Nat) : gI (sR μ k j v) a b = gI μ a b := rfl
theorem gJ_sR (μ : Mem) (k j : Nat) (v : Option Nat) (a b : Nat) : gJ (sR μ k j v) a b = gJ μ a b := rfl
theorem gR_sR (μ : Mem) (k j : Nat) (v : Option Nat) (a b : Nat) : gR (sR μ k j v) a b = if a = k ∧ b = j then v else gR μ a b := rfl
theorem rg_set {β : Type} (N j : Nat) (g : Nat → β) (v : β) : ((List.range N).map g).set j v = (List.range N).map (fun i => if i = j then v else g i) := by
  apply List.ext_getElem?
  intro i
  by_cases hi : i < N
  · by_cases hk : i = j
    · subst hk
      rw [List.getElem?_set_self (by simp [hi])]
      simp [hi]
    · rw [List.getElem?_set_ne (Ne.symm hk)]
      simp [hi, hk]
  · rw [List.getElem?_eq_none (by simp; omega), List.getElem?_eq_none (by simp; omega)]
def isI (ty : FieldType) : Bool := match ty with
  | .int => true
  | .boolean => true
  | .byte => true
  | _ => false
def isP (ty : FieldType) : Bool := match ty with
  | .object _ => true
  | .array _ => true
  | _ => false
theorem fV_I {μ : Mem} {α : Nat → Nat} {ty : FieldType} {k j : Nat} (h : isI ty = true) : fV μ α ty k j = .int (gI μ k j) := by cases ty <;> first | rfl | cases h
theorem fV_P {μ : Mem} {α : Nat → Nat} {ty : FieldType} {k j : Nat} (h : isP ty = true) : fV μ α ty k j = va_rf ((gR μ k j).map α) := by cases ty <;> first | rfl | cases h
theorem eN_obj {T : List Dsc} {μ : Mem} {α : Nat → Nat} {cA : Nat → ClassId} {k ci : Nat} (h : T[k]? = some (.inl ci)) : eN T μ α cA k = .inr (ci, (List.range (cN ci)).map (fun j => fV μ α (fT ci j) k j)) := by simp [eN, h]
theorem eN_arr {T : List Dsc} {μ : Mem} {α : Nat → Nat} {cA : Nat → ClassId} {k n : Nat} {ty : FieldType} (h : T[k]? = some (.inr (ty, n))) : eN T μ α cA k = .inl (cA k, n, aE μ α ty k) := by simp [eN, h]
theorem wS_putI {T : List Dsc} {μ : Mem} {α : Nat → Nat} {cA : Nat → ClassId} {k ci j : Nat} {v : Int32} (h : T[k]? = some (.inl ci)) (hty : isI (fT ci j) = true) : (wS T μ α cA).set k (α k, .inr (ci, ((List.range (cN ci)).map (fun j => fV μ α (fT ci j) k j)).set j (.int v))) = wS T (sI μ k j v) α cA := by
  apply wS_set
  · rw [eN_obj h, rg_set]
    congr 2
    apply List.map_congr_left
    intro i _
    by_cases hi : i = j
    · subst hi
      rw [if_pos rfl, fV_I hty, gI_sI, if_pos ⟨rfl, rfl⟩]
    · rw [if_neg hi]
      unfold fV
      split <;> simp [gI_sI, gJ_sI, gR_sI, hi]
  · intro q hq
    exact eN_off (fun j => by simp [gI_sI, hq]) (fun _ => rfl) (fun _ => rfl)
theorem wS_putJ {T : List Dsc} {μ : Mem} {α : Nat → Nat} {cA : Nat → ClassId} {k ci j : Nat} {v : Int64} (h : T[k]? = some (.inl ci)) (hty : fT ci j = .long) : (wS T μ α cA).set k (α k, .inr (ci, ((List.range (cN ci)).map (fun j => fV μ α (fT ci j) k j)).set j (.long v))) = wS T (sJ μ k j v) α cA := by
  apply wS_set
  · rw [eN_obj h, rg_set]
    congr 2
    apply List.map_congr_left
    intro i _
    by_cases hi : i = j
    · subst hi
      rw [if_pos rfl, hty]
      simp [fV, gJ_sJ]
    · rw [if_neg hi]
      unfold fV
      split <;> simp [gI_sJ, gJ_sJ, gR_sJ, hi]
  · intro q hq
    exact eN_off (fun _ => rfl) (fun j => by simp [gJ_sJ, hq]) (fun _ => rfl)
theorem wS_putR {T : List Dsc} {μ : Mem} {α : Nat → Nat} {cA : Nat → ClassId} {k ci j : Nat} {v : Option Nat} (h : T[k]? = some (.inl ci)) (hty : isP (fT ci j) = true) : (wS T μ α cA).set k (α k, .inr (ci, ((List.range (cN ci)).map (fun j => fV μ α (fT ci j) k j)).set j (va_rf (v.map α)))) = wS T (sR μ k j v) α cA := by
  apply wS_set
  · rw [eN_obj h, rg_set]
    congr 2
    apply List.map_congr_left
    intro i _
    by_cases hi : i = j
    · subst hi
      rw [if_pos rfl, fV_P hty, gR_sR, if_pos ⟨rfl, rfl⟩]
    · rw [if_neg hi]
      unfold fV
      split <;> simp [gI_sR, gJ_sR, gR_sR, hi]
  · intro q hq
    exact eN_off (fun _ => rfl) (fun _ => rfl) (fun j => by simp [gR_sR, hq])
theorem wS_stI {T : List Dsc} {μ : Mem} {α : Nat → Nat} {cA : Nat → ClassId} {k n i : Nat} {ty : FieldType} {v : Int32} (h : T[k]? = some (.inr (ty, n))) (hty : isI ty = true) : (wS T μ α cA).set k (α k, .inl (cA k, n, .inl (upd (gI μ k) i v))) = wS T (sI μ k i v) α cA := by
  apply wS_set
  · rw [eN_arr h]
    have e : aE (sI μ k i v) α ty k = .inl (gI (sI μ k i v) k) := by cases ty <;> first | rfl | cases hty
    rw [e]
    congr 4
    funext j
    simp [gI_sI, upd]
  · intro q hq
    exact eN_off (fun j => by simp [gI_sI, hq]) (fun _ => rfl) (fun _ => rfl)
theorem wS_stJ {T : List Dsc} {μ : Mem} {α : Nat → Nat} {cA : Nat → ClassId} {k n i : Nat} {v : Int64} (h : T[k]? = some (.inr (.long, n))) : (wS T μ α cA).set k (α k, .inl (cA k, n, .inr (.inl (vp_updL (gJ μ k) i v)))) = wS T (sJ μ k i v) α cA := by
  apply wS_set
  · rw [eN_arr h]
    show Sum.inl (cA k, n, Sum.inr (Sum.inl (gJ (sJ μ k i v) k))) = _
    congr 5
    funext j
    simp [gJ_sJ, vp_updL]
  · intro q hq
    exact eN_off (fun _ => rfl) (fun j => by simp [gJ_sJ, hq]) (fun _ => rfl)
theorem aE_I {μ : Mem} {α : Nat → Nat} {ty : FieldType} {k : Nat} (h : isI ty = true) : aE μ α ty k = .inl (gI μ k) := by cases ty <;> first | rfl | cases h
