/-! ===== change, tell, hold, restore ===== -/
section K2
variable {m : M2} {c l : Nat} {s : SS}
def swp {α : Type} (f : Nat → α) (b o : Nat) : Nat → α := fun i => if i = o then f b else if i = b then f o else f i
def sChange (s : SS) (b o : Nat) : SS := sKU s (swp (cdT (ssK s)) b o, swp (cdM (ssK s)) b o, swp (cdL (ssK s)) b o, cdD (ssK s), cdS (ssK s)) (ssHU s)
theorem swI {m m1 : M2} {r n b o : Nat} {f : Nat → Int32} (hf : ∀ i, i < n → hI m r i = f i) (hb : b < n) (ho : o < n) {x y : Int32} (hx : x = f o) (hy : y = f b) (h1 : ∀ i, hI m1 r i = hI (tI (tI m r b x) r o y) r i) : ∀ i, i < n → hI m1 r i = swp f b o i := by
  intro i hi
  rw [h1, hI_tI, hI_tI]
  unfold swp
  by_cases e1 : i = o
  · rw [if_pos ⟨rfl, e1⟩, if_pos e1, hy]
  · rw [if_neg (fun z => e1 z.2), if_neg e1]
    by_cases e2 : i = b
    · rw [if_pos ⟨rfl, e2⟩, if_pos e2, hx]
    · rw [if_neg (fun z => e2 z.2), if_neg e2, hf i hi]
theorem k_change_x1 (hX : XS m c s) (hV : VS s) {b o : Nat} (hb : b < tdN (ssD s)) (ho : o < tdN (ssD s)) (hbo : b ≠ o) : OkX m c (F_X11_change c (nI b) (nI o) m) 1 (sChange s b o) := by
  have hp := hV.p
  have hn := hV.n
  have h32 := t32 hV.1 hV.2.1
  unfold F_X11_change
  rw [xB1 hX.n hn ⟨b, hb, rfl⟩, bind_s]
  dsimp only
  rw [if_neg (by decide), xB1 hX.n hn ⟨o, ho, rfl⟩, bind_s]
  dsimp only
  rw [if_neg (by decide), if_neg (fun z => hbo ((nI_eq (by omega) (by omega)).mp z))]
  obtain ⟨a1, a2, a3, a4⟩ := hX.2.1
  unfold F_X1_exchange
  rw [aI_n _ (28 + 1) (show b < 12 by omega) (by omega), bind_s, aI_n _ (28 + 1) (show o < 12 by omega) (by omega), bind_s, bI_n _ (28 + 1) _ (show b < 12 by omega) (by omega), bind_s, bI_n _ (28 + 1) _ (show o < 12 by omega) (by omega), bind_s]
  have g1 : ∀ i, i < tdN (ssD s) → hI (tI (tI m (28 + 1) b (hI m (28 + 1) o)) (28 + 1) o (hI m (28 + 1) b)) 29 i = swp (cdM (ssK s)) b o i := swI (fun i hi => (a2 i hi).1) hb ho (a2 o ho).1 (a2 b hb).1 (fun i => rfl)
  have f1 : Fr (fun k j => k = 28 ∨ k = 29 ∨ k = 30) m (tI (tI m (28 + 1) b (hI m (28 + 1) o)) (28 + 1) o (hI m (28 + 1) b)) := (Fr.rf.tI _ (by omega)).tI _ (by omega)
  have e1 : ∀ j, hI (tI (tI m (28 + 1) b (hI m (28 + 1) o)) (28 + 1) o (hI m (28 + 1) b)) 30 j = hI m 30 j := fun j => by rw [hI_tI, hI_tI, if_neg (by omega), if_neg (by omega)]
  have e2 : ∀ j, hI (tI (tI m (28 + 1) b (hI m (28 + 1) o)) (28 + 1) o (hI m (28 + 1) b)) 28 j = hI m 28 j := fun j => by rw [hI_tI, hI_tI, if_neg (by omega), if_neg (by omega)]
  have e3 : hJ (tI (tI m (28 + 1) b (hI m (28 + 1) o)) (28 + 1) o (hI m (28 + 1) b)) 28 0 = hJ m 28 0 := rfl
  generalize tI (tI m (28 + 1) b (hI m (28 + 1) o)) (28 + 1) o (hI m (28 + 1) b) = m1 at g1 f1 e1 e2 e3 ⊢
  rw [aI_n _ (28 + 2) (show b < 12 by omega) (by omega), bind_s, aI_n _ (28 + 2) (show o < 12 by omega) (by omega), bind_s, bI_n _ (28 + 2) _ (show b < 12 by omega) (by omega), bind_s, bI_n _ (28 + 2) _ (show o < 12 by omega) (by omega), bind_s]
  have g2 : ∀ i, i < tdN (ssD s) → hI (tI (tI m1 (28 + 2) b (hI m1 (28 + 2) o)) (28 + 2) o (hI m1 (28 + 2) b)) 30 i = swp (cdL (ssK s)) b o i := swI (fun i hi => (e1 i).trans (a2 i hi).2) hb ho ((e1 o).trans (a2 o ho).2) ((e1 b).trans (a2 b hb).2) (fun i => rfl)
  have f2 : Fr (fun k j => k = 28 ∨ k = 29 ∨ k = 30) m (tI (tI m1 (28 + 2) b (hI m1 (28 + 2) o)) (28 + 2) o (hI m1 (28 + 2) b)) := (f1.tI _ (by omega)).tI _ (by omega)
  have e4 : ∀ j, hI (tI (tI m1 (28 + 2) b (hI m1 (28 + 2) o)) (28 + 2) o (hI m1 (28 + 2) b)) 29 j = hI m1 29 j := fun j => by rw [hI_tI, hI_tI, if_neg (by omega), if_neg (by omega)]
  have e5 : ∀ j, hI (tI (tI m1 (28 + 2) b (hI m1 (28 + 2) o)) (28 + 2) o (hI m1 (28 + 2) b)) 28 j = hI m 28 j := fun j => by rw [hI_tI, hI_tI, if_neg (by omega), if_neg (by omega)]; exact e2 j
  have e6 : hJ (tI (tI m1 (28 + 2) b (hI m1 (28 + 2) o)) (28 + 2) o (hI m1 (28 + 2) b)) 28 0 = lN (pk (cdT (ssK s)) (tdN (ssD s))) := (show _ = hJ m1 28 0 from rfl).trans (e3.trans a1)
  generalize tI (tI m1 (28 + 2) b (hI m1 (28 + 2) o)) (28 + 2) o (hI m1 (28 + 2) b) = m2 at g2 f2 e4 e5 e6 ⊢
  have t1 : ∀ i, i < tdN (ssD s) → (if i = b then cdT (ssK s) o else cdT (ssK s) i) < 32 := fun i hi => by split; exact h32 o ho; exact h32 i hi
  rw [e6, x_timeAt (p60n hn h32) (by omega), bind_s]
  dsimp only
  rw [e6, x_timeAt (p60n hn h32) (by omega), bind_s, pk_dig h32 hb, pk_dig h32 ho]
  dsimp only
  rw [x_withTime (p60n hn h32) (by omega) (h32 o ho), bind_s, sd_pk h32 hb]
  dsimp only
  rw [qJ_e, bind_s, show hJ (tJ m2 28 0 (lN (pk (fun i => if i = b then cdT (ssK s) o else cdT (ssK s) i) (tdN (ssD s))))) 28 0 = lN (pk (fun i => if i = b then cdT (ssK s) o else cdT (ssK s) i) (tdN (ssD s))) from by rw [hJ_tJ, if_pos ⟨rfl, rfl⟩], x_withTime (p60n hn t1) (by omega) (h32 b hb), bind_s, sd_pk t1 ho]
  dsimp only
  rw [qJ_e, bind_s, bind_s]
  have hf := (f2.tJ (k := 28) (j := 0) (lN (pk (fun i => if i = b then cdT (ssK s) o else cdT (ssK s) i) (tdN (ssD s)))) (by omega)).tJ (k := 28) (j := 0) (lN (pk (fun i => if i = o then cdT (ssK s) b else if i = b then cdT (ssK s) o else cdT (ssK s) i) (tdN (ssD s)))) (by omega)
  refine ⟨_, rfl, hX.ku hf (fun k j z => by omega) ⟨?_, fun i hi => ⟨?_, ?_⟩, ?_, ?_⟩ (hX.2.2.1.fr hf (fun k j z1 z2 => by omega)), hf.mono (fun k j z => by show ¬ _; omega)⟩
  · rw [hJ_tJ, if_pos ⟨rfl, rfl⟩]; rfl
  · exact (e4 i).trans (g1 i hi)
  · exact g2 i hi
  · exact (e5 3).trans a3
  · exact (e5 4).trans a4
theorem k_change_x0 (hX : XS m c s) (hV : VS s) {x y : Int32} (h : ¬ (isB (tdN (ssD s)) x ∧ isB (tdN (ssD s)) y ∧ x ≠ y)) : OkX m c (F_X11_change c x y m) 0 s := by
  have hn := hV.n
  unfold F_X11_change
  by_cases hx : isB (tdN (ssD s)) x
  · rw [xB1 hX.n hn hx, bind_s]
    dsimp only
    rw [if_neg (by decide)]
    by_cases hy : isB (tdN (ssD s)) y
    · rw [xB1 hX.n hn hy, bind_s]
      dsimp only
      rw [if_neg (by decide)]
      by_cases e : x = y
      · rw [if_pos e]
        exact OkX.same hX
      · exact absurd ⟨hx, hy, e⟩ h
    · rw [xB0 hX.n hn hy, bind_s]
      exact OkX.same hX
  · rw [xB0 hX.n hn hx, bind_s]
    exact OkX.same hX
theorem k_change_m1 (hM : MS m l s) (hV : VS s) {b o : Nat} (hb : b < tdN (ssD s)) (ho : o < tdN (ssD s)) (hbo : b ≠ o) : OkM m l (F_X12_change (nI b) (nI o) m) 1 (sChange s b o) := by
  have hp := hV.p
  have hn := hV.n
  unfold F_X12_change
  rw [mB1 hM.lv hM.l2 hM.n hn ⟨b, hb, rfl⟩, bind_s]
  dsimp only
  rw [if_neg (by decide), mB1 hM.lv hM.l2 hM.n hn ⟨o, ho, rfl⟩, bind_s]
  dsimp only
  have b12 : b < 12 := by omega
  have o12 : o < 12 := by omega
  have q : 12 < 2 ^ 31 := by omega
  rw [if_neg (by decide), if_neg (fun z => hbo ((nI_eq (by omega) (by omega)).mp z)), aI_n _ 93 b12 q, bind_s, aI_n _ 94 b12 q, bind_s, aI_n _ 95 b12 q, bind_s, aI_n _ 93 o12 q, bind_s, bI_n _ 93 _ b12 q, bind_s, aI_n _ 94 o12 q, bind_s, bI_n _ 94 _ b12 q, bind_s, aI_n _ 95 o12 q, bind_s, bI_n _ 95 _ b12 q, bind_s, bI_n _ 93 _ o12 q, bind_s, bI_n _ 94 _ o12 q, bind_s, bI_n _ 95 _ o12 q, bind_s]
  obtain ⟨a1, a2, a3, a4⟩ := hM.2.1
  refine ⟨_, rfl, hM.ku (S := fun k j => 93 ≤ k ∧ k ≤ 95) ((((((Fr.rf.tI _ (by omega)).tI _ (by omega)).tI _ (by omega)).tI _ (by omega)).tI _ (by omega)).tI _ (by omega)) (fun k j z => by omega) ⟨fun i hi => ⟨?_, ?_, ?_⟩, ?_, ?_, ?_⟩ (hM.2.2.1.fr (S := fun k j => 93 ≤ k ∧ k ≤ 95) ((((((Fr.rf.tI _ (by omega)).tI _ (by omega)).tI _ (by omega)).tI _ (by omega)).tI _ (by omega)).tI _ (by omega)) (fun k j z1 z2 => by omega)), Fr.mono (S := fun k j => 93 ≤ k ∧ k ≤ 95) ((((((Fr.rf.tI _ (by omega)).tI _ (by omega)).tI _ (by omega)).tI _ (by omega)).tI _ (by omega)).tI _ (by omega)) (fun k j z => by omega)⟩
  · show _ = nI (swp (cdT (ssK s)) b o i)
    have := (swI (m := m) (r := 93) (f := fun i => nI (cdT (ssK s) i)) (fun i hi => (a1 i hi).1) hb ho (a1 o ho).1 (a1 b hb).1 (fun i => rfl)) i hi
    have e : swp (fun i => nI (cdT (ssK s) i)) b o i = nI (swp (cdT (ssK s)) b o i) := by unfold swp; split; rfl; split <;> rfl
    rw [← e, ← this]
    simp [hI_tI]
  · have := (swI (m := m) (r := 94) (f := cdM (ssK s)) (fun i hi => (a1 i hi).2.1) hb ho (a1 o ho).2.1 (a1 b hb).2.1 (fun i => rfl)) i hi
    show _ = swp (cdM (ssK s)) b o i
    rw [← this]
    simp [hI_tI]
  · have := (swI (m := m) (r := 95) (f := cdL (ssK s)) (fun i hi => (a1 i hi).2.2) hb ho (a1 o ho).2.2 (a1 b hb).2.2 (fun i => rfl)) i hi
    show _ = swp (cdL (ssK s)) b o i
    rw [← this]
    simp [hI_tI]
  · simp [hI_tI]; exact a2
  · simp [hI_tI]; exact a3
  · simp [hI_tI]; exact a4
theorem k_change_m0 (hM : MS m l s) (hV : VS s) {x y : Int32} (h : ¬ (isB (tdN (ssD s)) x ∧ isB (tdN (ssD s)) y ∧ x ≠ y)) : OkM m l (F_X12_change x y m) 0 s := by
  have hn := hV.n
  unfold F_X12_change
  by_cases hx : isB (tdN (ssD s)) x
  · rw [mB1 hM.lv hM.l2 hM.n hn hx, bind_s]
    dsimp only
    rw [if_neg (by decide)]
    by_cases hy : isB (tdN (ssD s)) y
    · rw [mB1 hM.lv hM.l2 hM.n hn hy, bind_s]
      dsimp only
      rw [if_neg (by decide)]
      by_cases e : x = y
      · rw [if_pos e]
        exact OkM.same hM
      · exact absurd ⟨hx, hy, e⟩ h
    · rw [mB0 hM.lv hM.l2 hM.n hn hy, bind_s]
      exact OkM.same hM
  · rw [mB0 hM.lv hM.l2 hM.n hn hx, bind_s]
    exact OkM.same hM
theorem v_change (hV : VS s) {b o : Nat} (hb : b < tdN (ssD s)) (ho : o < tdN (ssD s)) : VS (sChange s b o) := by
  obtain ⟨h1, ⟨a1, a2, a3, a4⟩, hr⟩ := hV
  refine ⟨h1, ⟨fun i hi => ?_, fun i hi => ?_, a3, a4⟩, hr⟩
  · show swp (cdT (ssK s)) b o i < tdP (ssD s)
    unfold swp
    split
    · exact a1 b hb
    · split
      · exact a1 o ho
      · exact a1 i hi
  · show swp (cdL (ssK s)) b o i = -1 ∨ ∃ q, q < tdL (ssD s) ∧ swp (cdL (ssK s)) b o i = nI q
    unfold swp
    split
    · exact a2 b hb
    · split
      · exact a2 o ho
      · exact a2 i hi
/-! tell -/
def up1 {α : Type} (f : Nat → α) (q : Nat) (x : α) : Nat → α := fun i => if i = q then x else f i
def sTell (s : SS) (x y z : Int32) : SS := sQ s (ssQ s + 1, up1 (ss1 s) (ssQ s) x, up1 (ss2 s) (ssQ s) y, up1 (ss3 s) (ssQ s) z)
def tellOk (s : SS) (x y : Int32) : Prop := ssQ s < 20 ∧ isR 0 99 x ∧ (∃ b, 0 < b ∧ b < tdN (ssD s) ∧ y = nI b)
theorem x_isStroke (x : Int32) : (isR 0 99 x → F_X10_isStroke x m = some (1, m)) ∧ (¬ isR 0 99 x → F_X10_isStroke x m = some (0, m)) := by
  rw [isRx (by omega) (by omega), show nI 0 = 0 from rfl, show nI 99 = 99 from rfl]
  unfold F_X10_isStroke
  refine ⟨fun h => by rw [if_neg h.1, if_neg h.2]; rfl, fun h => ?_⟩
  by_cases h1 : x < 0
  · rw [if_pos h1]; rfl
  · rw [if_neg h1]
    by_cases h2 : 99 < x
    · rw [if_pos h2]; rfl
    · exact absurd ⟨h1, h2⟩ h
theorem up_hI {m m1 : M2} {r q N : Nat} {f : Nat → Int32} {x : Int32} (hf : ∀ i, i < q → hI m r i = f i) (h1 : ∀ i, hI m1 r i = hI (tI m r q x) r i) : ∀ i, i < q + 1 → hI m1 r i = up1 f q x i := by
  intro i hi
  rw [h1, hI_tI]
  unfold up1
  by_cases e : i = q
  · rw [if_pos ⟨rfl, e⟩, if_pos e]
  · rw [if_neg (fun z => e z.2), if_neg e]
    exact hf i (by omega)
theorem k_tell_x1 (hX : XS m c s) (hV : VS s) {x y z : Int32} (h : tellOk s x y) (hz : z = 0 ∨ z = 1) : OkX m c (F_X11_tell c x y z m) (nI (ssQ s)) (sTell s x y z) := by
  have hn := hV.n
  obtain ⟨h1, h2, b, hb0, hbn, rfl⟩ := h
  obtain ⟨q1, q2⟩ := hX.2.2.2.2.1
  unfold F_X11_tell
  have e1 : ¬ nI b < 1 := by rw [lit_1]; exact nI_nlt (by omega) (by omega)
  rw [q1, lit_20, if_neg (nI_ge h1 (by omega)), (x_isStroke x).1 h2, bind_s]
  dsimp only
  rw [if_neg (by decide), if_neg e1, xB1 hX.n hn ⟨b, hbn, rfl⟩, bind_s]
  dsimp only
  rw [if_neg (by decide)]
  unfold F_X10_note
  rw [q1, lit_20, if_pos (nI_lt h1 (by omega)), bI_n _ 42 _ h1 (by omega), bind_s]
  rw [show hI (tI m 42 (ssQ s) x) 41 1 = nI (ssQ s) from by rw [hI_tI, if_neg (by omega)]; exact q1, bI_n _ 43 _ h1 (by omega), bind_s]
  have e2 : hI (tI (tI m 42 (ssQ s) x) 43 (ssQ s) (nI b)) 41 1 = nI (ssQ s) := by rw [hI_tI, hI_tI, if_neg (by omega), if_neg (by omega)]; exact q1
  rw [e2]
  have fin : (f_X10_note_48 c (nI (ssQ s)) z (tI (tI m 42 (ssQ s) x) 43 (ssQ s) (nI b))) = some (nI (ssQ s), tI (tI (tI (tI m 42 (ssQ s) x) 43 (ssQ s) (nI b)) 44 (ssQ s) z) 41 1 (nI (ssQ s + 1))) := by
    unfold f_X10_note_48
    rw [bI_n _ 44 _ h1 (by omega), bind_s, qI_e, bind_s]
    rw [show hI (tI (tI (tI m 42 (ssQ s) x) 43 (ssQ s) (nI b)) 44 (ssQ s) z) 41 1 = nI (ssQ s) from by rw [hI_tI, if_neg (by omega)]; exact e2, nI_1, hI_tI, if_pos ⟨rfl, rfl⟩, nI_pred]
  have st : (if z = 0 then f_X10_note_48 c (nI (ssQ s)) 0 (tI (tI m 42 (ssQ s) x) 43 (ssQ s) (nI b)) else f_X10_note_48 c (nI (ssQ s)) 1 (tI (tI m 42 (ssQ s) x) 43 (ssQ s) (nI b))) = f_X10_note_48 c (nI (ssQ s)) z (tI (tI m 42 (ssQ s) x) 43 (ssQ s) (nI b)) := by
    rcases hz with rfl | rfl
    · rw [if_pos rfl]
    · rw [if_neg (by decide)]
  rw [st, fin, bind_s]
  have hf : Fr (fun k j => 41 ≤ k ∧ k ≤ 44) m (tI (tI (tI (tI m 42 (ssQ s) x) 43 (ssQ s) (nI b)) 44 (ssQ s) z) 41 1 (nI (ssQ s + 1))) := (((Fr.rf.tI _ (by omega)).tI _ (by omega)).tI _ (by omega)).tI _ (by omega)
  refine ⟨_, rfl, hX.sq hf (fun k j z => by omega) ⟨?_, fun i hi => ⟨?_, ?_, ?_⟩⟩, hf.mono (fun k j z => by show ¬ _; omega)⟩
  · rw [hI_tI, if_pos ⟨rfl, rfl⟩]
  · exact up_hI (N := 0) (r := 42) (m := m) (x := x) (fun i hi => (q2 i hi).1) (fun i => by simp [hI_tI]) i hi
  · exact up_hI (N := 0) (r := 43) (m := m) (x := nI b) (fun i hi => (q2 i hi).2.1) (fun i => by simp [hI_tI]) i hi
  · exact up_hI (N := 0) (r := 44) (m := m) (x := z) (fun i hi => (q2 i hi).2.2) (fun i => by simp [hI_tI]) i hi
theorem k_tell_x0 (hX : XS m c s) (hV : VS s) {x y z : Int32} (h : ¬ tellOk s x y) : OkX m c (F_X11_tell c x y z m) (-1) s := by
  have hn := hV.n
  have hq := hV.2.2.2.2.1.1
  obtain ⟨q1, q2⟩ := hX.2.2.2.2.1
  unfold F_X11_tell
  rw [q1, lit_20]
  by_cases h1 : ssQ s < 20
  · rw [if_neg (nI_ge h1 (by omega))]
    by_cases h2 : isR 0 99 x
    · rw [(x_isStroke x).1 h2, bind_s]
      dsimp only
      rw [if_neg (by decide)]
      by_cases h3 : y < 1
      · rw [if_pos h3]
        exact OkX.same hX
      · rw [if_neg h3]
        by_cases h4 : isB (tdN (ssD s)) y
        · obtain ⟨b, hb, rfl⟩ := h4
          exfalso
          apply h
          refine ⟨h1, h2, b, ?_, hb, rfl⟩
          rw [lit_1] at h3
          have hb1 : ¬ b < 1 := fun z => h3 (nI_lt z (by omega))
          omega
        · rw [xB0 hX.n hn h4, bind_s]
          exact OkX.same hX
    · rw [(x_isStroke x).2 h2, bind_s]
      exact OkX.same hX
  · rw [if_pos (nI_le (by omega) (by omega))]
    exact OkX.same hX
theorem in1 {m : M2} {n : Nat} (hn : n ≤ 12) (y : Int32) : ((∃ b, 0 < b ∧ b < n ∧ y = nI b) → F_X12_in y 1 (nI n - 1) m = some (1, m)) ∧ (¬ (∃ b, 0 < b ∧ b < n ∧ y = nI b) → F_X12_in y 1 (nI n - 1) m = some (0, m)) := by
  have e : ((1 : Int32) ≤ y ∧ y ≤ nI n - 1) ↔ (∃ b, 0 < b ∧ b < n ∧ y = nI b) := by
    have hx : (nI n - 1).toInt = (n : Int) - 1 := by
      rw [lit_1, pk_sub_toInt (by omega) (by omega)]
      rfl
    rw [Int32.le_iff_toInt_le, Int32.le_iff_toInt_le, hx, show (1 : Int32).toInt = 1 from rfl]
    constructor
    · rintro ⟨z1, z2⟩
      refine ⟨y.toInt.toNat, by omega, by omega, ?_⟩
      apply Int32.toInt_inj.mp
      rw [nI_toInt (by omega)]
      omega
    · rintro ⟨b, z1, z2, rfl⟩
      rw [nI_toInt (by omega)]
      omega
  exact ⟨fun h => by rw [m_in, if_pos (e.mpr h)], fun h => by rw [m_in, if_neg (fun z => h (e.mp z))]⟩
theorem k_tell_m1 (hM : MS m l s) (hV : VS s) {x y z : Int32} (h : tellOk s x y) (hz : z = 0 ∨ z = 1) : OkM m l (F_X12_tell_ x y z m) (nI (ssQ s)) (sTell s x y z) := by
  have hn := hV.n
  obtain ⟨h1, h2, h3⟩ := h
  obtain ⟨q1, q2⟩ := hM.2.2.2.2.1
  unfold F_X12_tell_
  rw [q1, lit_20, if_neg (fun z => by have := (nI_eq (by omega) (by omega)).mp z; omega), lit_0, lit_99, (inR (by omega) (by omega) x).1 h2, bind_s]
  dsimp only
  rw [if_neg (by decide), m_menNow hM.lv hM.l2 hM.n, bind_s]
  dsimp only
  rw [(in1 hn y).1 h3, bind_s]
  dsimp only
  rw [if_neg (by decide), q1, bI_n _ 109 _ h1 (by omega), bind_s]
  rw [show hI (tI m 109 (ssQ s) x) 56 79 = nI (ssQ s) from by rw [hI_tI, if_neg (by omega)]; exact q1, bI_n _ 110 _ h1 (by omega), bind_s]
  have e2 : hI (tI (tI m 109 (ssQ s) x) 110 (ssQ s) y) 56 79 = nI (ssQ s) := by rw [hI_tI, hI_tI, if_neg (by omega), if_neg (by omega)]; exact q1
  have ez : zb z = some z := by rcases hz with rfl | rfl <;> rfl
  rw [ez, bind_s, e2, bI_n _ 111 _ h1 (by omega), bind_s, qI_e, bind_s]
  rw [show hI (tI (tI (tI m 109 (ssQ s) x) 110 (ssQ s) y) 111 (ssQ s) z) 56 79 = nI (ssQ s) from by rw [hI_tI, if_neg (by omega)]; exact e2, nI_1, hI_tI, if_pos ⟨rfl, rfl⟩, nI_pred]
  have hf : Fr (fun k j => (109 ≤ k ∧ k ≤ 111) ∨ (k = 56 ∧ j = 79)) m (tI (tI (tI (tI m 109 (ssQ s) x) 110 (ssQ s) y) 111 (ssQ s) z) 56 79 (nI (ssQ s + 1))) := (((Fr.rf.tI _ (by omega)).tI _ (by omega)).tI _ (by omega)).tI _ (by omega)
  refine ⟨_, rfl, hM.sq hf (fun k j z => by omega) ⟨?_, fun i hi => ⟨?_, ?_, ?_⟩⟩, hf.mono (fun k j z => by omega)⟩
  · rw [hI_tI, if_pos ⟨rfl, rfl⟩]
  · exact up_hI (N := 0) (r := 109) (m := m) (x := x) (fun i hi => (q2 i hi).1) (fun i => by simp [hI_tI]) i hi
  · exact up_hI (N := 0) (r := 110) (m := m) (x := y) (fun i hi => (q2 i hi).2.1) (fun i => by simp [hI_tI]) i hi
  · exact up_hI (N := 0) (r := 111) (m := m) (x := z) (fun i hi => (q2 i hi).2.2) (fun i => by simp [hI_tI]) i hi
theorem k_tell_m0 (hM : MS m l s) (hV : VS s) {x y z : Int32} (h : ¬ tellOk s x y) : OkM m l (F_X12_tell_ x y z m) (-1) s := by
  have hn := hV.n
  have hq := hV.2.2.2.2.1.1
  obtain ⟨q1, q2⟩ := hM.2.2.2.2.1
  unfold F_X12_tell_
  rw [q1, lit_20]
  by_cases h1 : ssQ s < 20
  · rw [if_neg (fun z => by have := (nI_eq (by omega) (by omega)).mp z; omega), lit_0, lit_99]
    by_cases h2 : isR 0 99 x
    · rw [(inR (by omega) (by omega) x).1 h2, bind_s]
      dsimp only
      rw [if_neg (by decide), m_menNow hM.lv hM.l2 hM.n, bind_s]
      dsimp only
      rw [(in1 hn y).2 (fun z => h ⟨h1, h2, z⟩), bind_s]
      exact OkM.same hM
    · rw [(inR (by omega) (by omega) x).2 h2, bind_s]
      exact OkM.same hM
  · rw [if_pos (by rw [show ssQ s = 20 by omega])]
    exact OkM.same hM
theorem v_tell (hV : VS s) {x y z : Int32} (h : tellOk s x y) (hz : z = 0 ∨ z = 1) : VS (sTell s x y z) := by
  obtain ⟨v1, v2, v3, v4, ⟨v5, v6⟩, v7⟩ := hV
  obtain ⟨h1, ⟨j, hj0, hj, rfl⟩, h3⟩ := h
  refine ⟨v1, v2, v3, v4, ⟨by show ssQ s + 1 ≤ 20; omega, fun i hi => ?_⟩, v7⟩
  show (∃ a, a < 100 ∧ up1 (ss1 s) (ssQ s) (nI j) i = nI a) ∧ (∃ b, 0 < b ∧ b < tdN (ssD s) ∧ up1 (ss2 s) (ssQ s) y i = nI b) ∧ (up1 (ss3 s) (ssQ s) z i = 0 ∨ up1 (ss3 s) (ssQ s) z i = 1)
  have hi' : i < ssQ s + 1 := hi
  unfold up1
  by_cases e : i = ssQ s
  · rw [if_pos e, if_pos e, if_pos e]
    exact ⟨⟨j, by omega, rfl⟩, h3, hz⟩
  · rw [if_neg e, if_neg e, if_neg e]
    exact v6 i (by omega)
end K2
