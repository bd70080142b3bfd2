/-! ===== calls that tell or set one thing ===== -/
section K1
variable {m : M2} {c l : Nat} {s : SS}
theorem VS.n (h : VS s) : tdN (ssD s) ≤ 12 := h.1.n
theorem VS.p (h : VS s) : 3 ≤ tdP (ssD s) ∧ tdP (ssD s) ≤ 24 := h.1.p
theorem XS.n (h : XS m c s) : hI m c 5 = nI (tdN (ssD s)) := h.1.1.1.2.1
theorem XS.p (h : XS m c s) : hI m c 0 = nI (tdP (ssD s)) := h.1.1.1.1
theorem XS.nl (h : XS m c s) : hI m c 1 = nI (tdL (ssD s)) := h.1.1.1.2.2.1
theorem MS.lv (h : MS m l s) : hI m 56 18 = nI l := h.1.1.1
theorem MS.l2 (h : MS m l s) : l < 2 := h.1.1.2.1
theorem MS.p (h : MS m l s) : hI m 66 l = nI (tdP (ssD s)) := h.1.1.2.2.1
theorem MS.n (h : MS m l s) : hI m 74 l = nI (tdN (ssD s)) := h.1.1.2.2.2.1
theorem MS.nl (h : MS m l s) : hI m 67 l = nI (tdL (ssD s)) := h.1.1.2.2.2.2.1
/-! beat -/
def sBeat (s : SS) (x : Int32) : SS := sKU s (cdT (ssK s), cdM (ssK s), cdL (ssK s), x, cdS (ssK s)) (ssHU s)
theorem k_beat_x1 (hX : XS m c s) (hV : VS s) {x : Int32} (h : isB (tdP (ssD s)) x) : OkX m c (F_X11_beat c x m) 1 (sBeat s x) := by
  have hp := hV.p
  have h' := (isBx (show tdP (ssD s) < 2 ^ 31 by omega) x).mp h
  unfold F_X11_beat
  rw [if_neg h'.1, hX.p, if_pos (by
    obtain ⟨b, hb, rfl⟩ := h
    exact nI_lt hb (by omega)), qI_e, bind_s]
  have hf : Fr (fun k j => k = 28 ∧ j = 3) m (tI m 28 3 x) := Fr.rf.tI _ ⟨rfl, rfl⟩
  obtain ⟨a1, a2, a3, a4⟩ := hX.2.1
  refine ⟨_, rfl, hX.ku hf (fun k j z => by omega) ⟨?_, fun b hb => ⟨?_, ?_⟩, ?_, ?_⟩ (hX.2.2.1.fr hf (fun k j z1 z2 => by omega)), hf.mono (fun k j z => by show ¬ _; omega)⟩
  · exact a1
  · rw [hf.I _ _ (by omega)]; exact (a2 b hb).1
  · rw [hf.I _ _ (by omega)]; exact (a2 b hb).2
  · rw [hI_tI, if_pos ⟨rfl, rfl⟩]; rfl
  · rw [hf.I _ _ (by omega)]; exact a4
theorem k_beat_x0 (hX : XS m c s) (hV : VS s) {x : Int32} (h : ¬ isB (tdP (ssD s)) x) : OkX m c (F_X11_beat c x m) 0 s := by
  have hp := hV.p
  rw [isBx (show tdP (ssD s) < 2 ^ 31 by omega)] at h
  unfold F_X11_beat
  by_cases h1 : x < 0
  · rw [if_pos h1]
    exact OkX.same hX
  · rw [if_neg h1, hX.p, if_neg (fun z => h ⟨h1, lt_nle z⟩)]
    exact OkX.same hX
theorem k_beat_m1 (hM : MS m l s) (hV : VS s) {x : Int32} (h : isB (tdP (ssD s)) x) : OkM m l (F_X12_beat x m) 1 (sBeat s x) := by
  have hp := hV.p
  unfold F_X12_beat
  rw [m_all hM.lv hM.l2 hM.p, bind_s]
  dsimp only
  rw [(inB (by omega) x).1 h, bind_s]
  dsimp only
  rw [if_neg (by decide)]
  have fin : ∀ m1 : M2, Fr (fun k j => k = 56 ∧ (j = 58 ∨ j = 59)) m m1 → hI m1 56 59 = nI (tdG (ssD s)) → OkM m l (f_X12_beat_29 x m1) 1 (sBeat s x) := by
    intro m1 f1 g1
    unfold f_X12_beat_29
    rw [qI_e, bind_s]
    have hf := f1.tI (k := 56) (j := 58) x (by omega)
    obtain ⟨a1, a2, a3, a4⟩ := hM.2.1
    refine ⟨_, rfl, hM.ku hf (fun k j z => by omega) ⟨fun b hb => ⟨?_, ?_, ?_⟩, ?_, ?_, ?_⟩ (hM.2.2.1.fr hf (fun k j z1 z2 => by omega)), hf.mono (fun k j z => by omega)⟩
    · rw [hf.I _ _ (by omega)]; exact (a1 b hb).1
    · rw [hf.I _ _ (by omega)]; exact (a1 b hb).2.1
    · rw [hf.I _ _ (by omega)]; exact (a1 b hb).2.2
    · rw [hI_tI, if_pos ⟨rfl, rfl⟩]; rfl
    · rw [hI_tI, if_neg (by omega)]; exact g1
    · rw [hf.I _ _ (by omega)]; exact a4
  rw [hM.2.1.2.1]
  by_cases hd : cdD (ssK s) = -1
  · rw [if_pos hd, qI_e, bind_s]
    refine fin _ (Fr.rf.tI _ (by omega)) ?_
    rw [hI_tI, if_pos ⟨rfl, rfl⟩, hV.2.1.2.2.2 hd]
    rfl
  · rw [if_neg hd]
    exact fin m Fr.rf hM.2.1.2.2.1
theorem k_beat_m0 (hM : MS m l s) (hV : VS s) {x : Int32} (h : ¬ isB (tdP (ssD s)) x) : OkM m l (F_X12_beat x m) 0 s := by
  have hp := hV.p
  unfold F_X12_beat
  rw [m_all hM.lv hM.l2 hM.p, bind_s]
  dsimp only
  rw [(inB (by omega) x).2 h, bind_s]
  exact OkM.same hM
theorem v_beat (hV : VS s) {x : Int32} (h : isB (tdP (ssD s)) x) : VS (sBeat s x) := by
  obtain ⟨h1, ⟨a1, a2, a3, a4⟩, hr⟩ := hV
  refine ⟨h1, ⟨a1, a2, Or.inr h, fun z => ?_⟩, hr⟩
  obtain ⟨b, hb, rfl⟩ := h
  have hp := h1.p
  have hb' : b < tdP (ssD s) := hb
  exact absurd z (nI_m1 (by omega))
/-! set -/
def sSet (s : SS) (b v : Nat) : SS := sKU s (fun i => if i = b then v else cdT (ssK s) i, cdM (ssK s), cdL (ssK s), cdD (ssK s), cdS (ssK s)) (ssHU s)
theorem k_set_x1 (hX : XS m c s) (hV : VS s) {b v : Nat} (hb : b < tdN (ssD s)) (hv : v < tdP (ssD s)) : OkX m c (F_X11_set c (nI b) (nI v) m) 1 (sSet s b v) := by
  have hp := hV.p
  have hn := hV.n
  unfold F_X11_set
  rw [xB1 hX.n hn ⟨b, hb, rfl⟩, bind_s]
  dsimp only
  obtain ⟨a1, a2, a3, a4⟩ := hX.2.1
  rw [if_neg (by decide), if_neg (nI_pos (by omega)), hX.p, if_pos (nI_lt hv (by omega)), a1, x_withTime (p60n hn (t32 hV.1 hV.2.1)) (by omega) (by omega), bind_s, sd_pk (t32 hV.1 hV.2.1) hb]
  dsimp only
  rw [qJ_e, bind_s]
  have hf : Fr (fun k j => k = 28 ∧ j = 0) m (tJ m 28 0 (lN (pk (fun i => if i = b then v else cdT (ssK s) i) (tdN (ssD s))))) := Fr.rf.tJ _ ⟨rfl, rfl⟩
  refine ⟨_, rfl, hX.ku hf (fun k j z => by omega) ⟨?_, fun b hb => ⟨?_, ?_⟩, ?_, ?_⟩ (hX.2.2.1.fr hf (fun k j z1 z2 => by omega)), hf.mono (fun k j z => by show ¬ _; omega)⟩
  · rw [hJ_tJ, if_pos ⟨rfl, rfl⟩]; rfl
  · rw [hf.I _ _ (by omega)]; exact (a2 b hb).1
  · rw [hf.I _ _ (by omega)]; exact (a2 b hb).2
  · rw [hf.I _ _ (by omega)]; exact a3
  · rw [hf.I _ _ (by omega)]; exact a4
theorem k_set_x0 (hX : XS m c s) (hV : VS s) {x y : Int32} (h : ¬ (isB (tdN (ssD s)) x ∧ isB (tdP (ssD s)) y)) : OkX m c (F_X11_set c x y m) 0 s := by
  have hp := hV.p
  have hn := hV.n
  unfold F_X11_set
  by_cases hx : isB (tdN (ssD s)) x
  · rw [xB1 hX.n hn hx, bind_s]
    dsimp only
    rw [if_neg (by decide)]
    have h2 : ¬ isB (tdP (ssD s)) y := fun z => h ⟨hx, z⟩
    rw [isBx (show tdP (ssD s) < 2 ^ 31 by omega)] at h2
    by_cases h1 : y < 0
    · rw [if_pos h1]
      exact OkX.same hX
    · rw [if_neg h1, hX.p, if_neg (fun z => h2 ⟨h1, lt_nle z⟩)]
      exact OkX.same hX
  · rw [xB0 hX.n hn hx, bind_s]
    exact OkX.same hX
theorem k_set_m1 (hM : MS m l s) (hV : VS s) {b v : Nat} (hb : b < tdN (ssD s)) (hv : v < tdP (ssD s)) : OkM m l (F_X12_set (nI b) (nI v) m) 1 (sSet s b v) := by
  have hp := hV.p
  have hn := hV.n
  unfold F_X12_set
  rw [mB1 hM.lv hM.l2 hM.n hn ⟨b, hb, rfl⟩, bind_s]
  dsimp only
  rw [if_neg (by decide), m_all hM.lv hM.l2 hM.p, bind_s]
  dsimp only
  rw [(inB (by omega) _).1 ⟨v, hv, rfl⟩, bind_s]
  dsimp only
  rw [if_neg (by decide), bI_n _ 93 _ (show b < 12 by omega) (by omega), bind_s]
  have hf : Fr (fun k j => k = 93) m (tI m 93 b (nI v)) := Fr.rf.tI _ rfl
  obtain ⟨a1, a2, a3, a4⟩ := hM.2.1
  refine ⟨_, rfl, hM.ku hf (fun k j z => by omega) ⟨fun i hi => ⟨?_, ?_, ?_⟩, ?_, ?_, ?_⟩ (hM.2.2.1.fr hf (fun k j z1 z2 => by omega)), hf.mono (fun k j z => by omega)⟩
  · rw [hI_tI]
    show _ = nI (if i = b then v else cdT (ssK s) i)
    by_cases e : i = b
    · rw [if_pos ⟨rfl, e⟩, if_pos e]
    · rw [if_neg (fun z => e z.2), if_neg e]; exact (a1 i hi).1
  · rw [hf.I _ _ (by omega)]; exact (a1 i hi).2.1
  · rw [hf.I _ _ (by omega)]; exact (a1 i hi).2.2
  · rw [hf.I _ _ (by omega)]; exact a2
  · rw [hf.I _ _ (by omega)]; exact a3
  · rw [hf.I _ _ (by omega)]; exact a4
theorem k_set_m0 (hM : MS m l s) (hV : VS s) {x y : Int32} (h : ¬ (isB (tdN (ssD s)) x ∧ isB (tdP (ssD s)) y)) : OkM m l (F_X12_set x y m) 0 s := by
  have hp := hV.p
  have hn := hV.n
  unfold F_X12_set
  by_cases hx : isB (tdN (ssD s)) x
  · rw [mB1 hM.lv hM.l2 hM.n hn hx, bind_s]
    dsimp only
    rw [if_neg (by decide), m_all hM.lv hM.l2 hM.p, bind_s]
    dsimp only
    rw [(inB (by omega) y).2 (fun z => h ⟨hx, z⟩), bind_s]
    exact OkM.same hM
  · rw [mB0 hM.lv hM.l2 hM.n hn hx, bind_s]
    exact OkM.same hM
theorem v_set (hV : VS s) {b v : Nat} (hv : v < tdP (ssD s)) : VS (sSet s b v) := by
  obtain ⟨h1, ⟨a1, a2, a3, a4⟩, hr⟩ := hV
  refine ⟨h1, ⟨fun i hi => ?_, a2, a3, a4⟩, hr⟩
  show (if i = b then v else cdT (ssK s) i) < tdP (ssD s)
  split
  · exact hv
  · exact a1 i hi
/-! teach -/
def sTeach (s : SS) (b q : Nat) : SS := sKU s (cdT (ssK s), cdM (ssK s), fun i => if i = b then nI q else cdL (ssK s) i, cdD (ssK s), cdS (ssK s)) (ssHU s)
theorem k_teach_x1 (hX : XS m c s) (hV : VS s) {b q : Nat} (hb : b < tdN (ssD s)) (hq : q < tdL (ssD s)) : OkX m c (F_X11_teach c (nI b) (nI q) m) 1 (sTeach s b q) := by
  have hl := hV.1.l
  have hn := hV.n
  unfold F_X11_teach
  rw [xB1 hX.n hn ⟨b, hb, rfl⟩, bind_s]
  dsimp only
  obtain ⟨a1, a2, a3, a4⟩ := hX.2.1
  rw [if_neg (by decide), if_neg (nI_pos (by omega)), hX.nl, if_pos (nI_lt hq (by omega)), bI_n _ (28 + 2) _ (show b < 12 by omega) (by omega), bind_s]
  have hf : Fr (fun k j => k = 30) m (tI m (28 + 2) b (nI q)) := Fr.rf.tI _ rfl
  refine ⟨_, rfl, hX.ku hf (fun k j z => by omega) ⟨?_, fun i hi => ⟨?_, ?_⟩, ?_, ?_⟩ (hX.2.2.1.fr hf (fun k j z1 z2 => by omega)), hf.mono (fun k j z => by show ¬ _; omega)⟩
  · exact a1
  · rw [hf.I _ _ (by omega)]; exact (a2 i hi).1
  · rw [hI_tI]
    show _ = (if i = b then nI q else cdL (ssK s) i)
    by_cases e : i = b
    · rw [if_pos ⟨rfl, e⟩, if_pos e]
    · rw [if_neg (fun z => e z.2), if_neg e]; exact (a2 i hi).2
  · rw [hf.I _ _ (by omega)]; exact a3
  · rw [hf.I _ _ (by omega)]; exact a4
theorem k_teach_x0 (hX : XS m c s) (hV : VS s) {x y : Int32} (h : ¬ (isB (tdN (ssD s)) x ∧ isB (tdL (ssD s)) y)) : OkX m c (F_X11_teach c x y m) 0 s := by
  have hl := hV.1.l
  have hn := hV.n
  unfold F_X11_teach
  by_cases hx : isB (tdN (ssD s)) x
  · rw [xB1 hX.n hn hx, bind_s]
    dsimp only
    rw [if_neg (by decide)]
    have h2 : ¬ isB (tdL (ssD s)) y := fun z => h ⟨hx, z⟩
    rw [isBx (show tdL (ssD s) < 2 ^ 31 by omega)] at h2
    by_cases h1 : y < 0
    · rw [if_pos h1]
      exact OkX.same hX
    · rw [if_neg h1, hX.nl, if_neg (fun z => h2 ⟨h1, lt_nle z⟩)]
      exact OkX.same hX
  · rw [xB0 hX.n hn hx, bind_s]
    exact OkX.same hX
theorem k_teach_m1 (hM : MS m l s) (hV : VS s) {b q : Nat} (hb : b < tdN (ssD s)) (hq : q < tdL (ssD s)) : OkM m l (F_X12_teach (nI b) (nI q) m) 1 (sTeach s b q) := by
  have hl := hV.1.l
  have hn := hV.n
  unfold F_X12_teach
  rw [mB1 hM.lv hM.l2 hM.n hn ⟨b, hb, rfl⟩, bind_s]
  dsimp only
  rw [if_neg (by decide), hM.lv, aI_n _ 67 hM.l2 (by omega), bind_s, hM.nl, (inB (by omega) _).1 ⟨q, hq, rfl⟩, bind_s]
  dsimp only
  rw [if_neg (by decide), bI_n _ 95 _ (show b < 12 by omega) (by omega), bind_s]
  have hf : Fr (fun k j => k = 95) m (tI m 95 b (nI q)) := Fr.rf.tI _ rfl
  obtain ⟨a1, a2, a3, a4⟩ := hM.2.1
  refine ⟨_, rfl, hM.ku hf (fun k j z => by omega) ⟨fun i hi => ⟨?_, ?_, ?_⟩, ?_, ?_, ?_⟩ (hM.2.2.1.fr hf (fun k j z1 z2 => by omega)), hf.mono (fun k j z => by omega)⟩
  · rw [hf.I _ _ (by omega)]; exact (a1 i hi).1
  · rw [hf.I _ _ (by omega)]; exact (a1 i hi).2.1
  · rw [hI_tI]
    show _ = (if i = b then nI q else cdL (ssK s) i)
    by_cases e : i = b
    · rw [if_pos ⟨rfl, e⟩, if_pos e]
    · rw [if_neg (fun z => e z.2), if_neg e]; exact (a1 i hi).2.2
  · rw [hf.I _ _ (by omega)]; exact a2
  · rw [hf.I _ _ (by omega)]; exact a3
  · rw [hf.I _ _ (by omega)]; exact a4
theorem k_teach_m0 (hM : MS m l s) (hV : VS s) {x y : Int32} (h : ¬ (isB (tdN (ssD s)) x ∧ isB (tdL (ssD s)) y)) : OkM m l (F_X12_teach x y m) 0 s := by
  have hl := hV.1.l
  have hn := hV.n
  unfold F_X12_teach
  by_cases hx : isB (tdN (ssD s)) x
  · rw [mB1 hM.lv hM.l2 hM.n hn hx, bind_s]
    dsimp only
    rw [if_neg (by decide), hM.lv, aI_n _ 67 hM.l2 (by omega), bind_s, hM.nl, (inB (by omega) y).2 (fun z => h ⟨hx, z⟩), bind_s]
    exact OkM.same hM
  · rw [mB0 hM.lv hM.l2 hM.n hn hx, bind_s]
    exact OkM.same hM
theorem v_teach (hV : VS s) {b q : Nat} (hq : q < tdL (ssD s)) : VS (sTeach s b q) := by
  obtain ⟨h1, ⟨a1, a2, a3, a4⟩, hr⟩ := hV
  refine ⟨h1, ⟨a1, fun i hi => ?_, a3, a4⟩, hr⟩
  show (if i = b then nI q else cdL (ssK s) i) = -1 ∨ ∃ q', q' < tdL (ssD s) ∧ (if i = b then nI q else cdL (ssK s) i) = nI q'
  split
  · exact Or.inr ⟨q, hq, rfl⟩
  · exact a2 i hi
/-! forget -/
def sForget (s : SS) : SS := sQ s (0, ss1 s, ss2 s, ss3 s)
theorem k_forget_x (hX : XS m c s) : OkX m c (F_X11_forget c m) (nI (ssQ s)) (sForget s) := by
  unfold F_X11_forget
  rw [nmI_e, bind_s, qI_e, bind_s, hX.2.2.2.2.1.1]
  have hf : Fr (fun k j => k = 41) m (tI m 41 1 0) := Fr.rf.tI _ rfl
  exact ⟨_, rfl, hX.sq hf (fun k j z => by omega) ⟨by rw [hI_tI, if_pos ⟨rfl, rfl⟩]; rfl, fun i hi => absurd hi (Nat.not_lt_zero i)⟩, hf.mono (fun k j z => by show ¬ _; omega)⟩
theorem k_forget_m (hM : MS m l s) : OkM m l (F_X12_forget m) (nI (ssQ s)) (sForget s) := by
  unfold F_X12_forget
  rw [nmI_e, bind_s, qI_e, bind_s, hM.2.2.2.2.1.1]
  have hf : Fr (fun k j => k = 56 ∧ j = 79) m (tI m 56 79 0) := Fr.rf.tI _ ⟨rfl, rfl⟩
  exact ⟨_, rfl, hM.sq hf (fun k j z => by omega) ⟨by rw [hI_tI, if_pos ⟨rfl, rfl⟩]; rfl, fun i hi => absurd hi (Nat.not_lt_zero i)⟩, hf.mono (fun k j z => by omega)⟩
theorem v_forget (hV : VS s) : VS (sForget s) := by
  obtain ⟨h1, h2, h3, h4, h5, h6⟩ := hV
  exact ⟨h1, h2, h3, h4, ⟨Nat.zero_le _, fun i hi => absurd hi (Nat.not_lt_zero i)⟩, h6⟩
/-! back -/
def sBack (s : SS) (n : Nat) : SS := sY s (ssT s - n, ssY s)
theorem k_back_x1 (hX : XS m c s) (hV : VS s) {n : Nat} (h : n ≤ ssT s) : OkX m c (F_X11_back c (nI n) m) (nI (ssT s - n)) (sBack s n) := by
  have ht := hV.2.2.2.2.2
  obtain ⟨y1, y2⟩ := hX.2.2.2.2.2.1
  unfold F_X11_back
  rw [if_neg (nI_pos (by omega)), y1, if_pos (nI_le h (by omega)), qI_e, bind_s, pk_sub h]
  have hf : Fr (fun k j => k = 0 ∧ j = 1) m (tI m 0 1 (nI (ssT s - n))) := Fr.rf.tI _ ⟨rfl, rfl⟩
  have e : hI (tI m 0 1 (nI (ssT s - n))) 0 1 = nI (ssT s - n) := by rw [hI_tI, if_pos ⟨rfl, rfl⟩]
  rw [e]
  exact ⟨_, rfl, hX.sy hf (fun k j z => by omega) ⟨e, fun i => by rw [hf.I _ _ (by omega)]; exact y2 i⟩, hf.mono (fun k j z => by show ¬ _; omega)⟩
theorem k_back_x0 (hX : XS m c s) (hV : VS s) {x : Int32} (h : ¬ isR 0 (ssT s) x) : OkX m c (F_X11_back c x m) (-1) s := by
  have ht := hV.2.2.2.2.2
  obtain ⟨y1, y2⟩ := hX.2.2.2.2.2.1
  rw [isRx (by omega) (by omega), show nI 0 = 0 from rfl] at h
  unfold F_X11_back
  by_cases h1 : x < 0
  · rw [if_pos h1]
    exact OkX.same hX
  · rw [if_neg h1, y1, if_neg (fun z => h ⟨h1, fun z2 => lt_nle z2 z⟩)]
    exact OkX.same hX
theorem k_back_m1 (hM : MS m l s) (hV : VS s) {n : Nat} (h : n ≤ ssT s) : OkM m l (F_X12_back (nI n) m) (nI (ssT s - n)) (sBack s n) := by
  have ht := hV.2.2.2.2.2
  obtain ⟨y1, y2⟩ := hM.2.2.2.2.2.1
  unfold F_X12_back
  rw [if_neg (nI_pos (by omega)), y1, if_pos (nI_le h (by omega)), qI_e, bind_s, pk_sub h]
  have hf : Fr (fun k j => k = 56 ∧ j = 2) m (tI m 56 2 (nI (ssT s - n))) := Fr.rf.tI _ ⟨rfl, rfl⟩
  have e : hI (tI m 56 2 (nI (ssT s - n))) 56 2 = nI (ssT s - n) := by rw [hI_tI, if_pos ⟨rfl, rfl⟩]
  rw [e]
  exact ⟨_, rfl, hM.sy hf (fun k j z => by omega) ⟨e, fun i => by rw [hf.I _ _ (by omega)]; exact y2 i⟩, hf.mono (fun k j z => by omega)⟩
theorem k_back_m0 (hM : MS m l s) (hV : VS s) {x : Int32} (h : ¬ isR 0 (ssT s) x) : OkM m l (F_X12_back x m) (-1) s := by
  have ht := hV.2.2.2.2.2
  obtain ⟨y1, y2⟩ := hM.2.2.2.2.2.1
  rw [isRx (by omega) (by omega), show nI 0 = 0 from rfl] at h
  unfold F_X12_back
  by_cases h1 : x < 0
  · rw [if_pos h1]
    exact OkM.same hM
  · rw [if_neg h1, y1, if_neg (fun z => h ⟨h1, fun z2 => lt_nle z2 z⟩)]
    exact OkM.same hM
theorem v_back (hV : VS s) (n : Nat) : VS (sBack s n) := by
  obtain ⟨h1, h2, h3, h4, h5, h6⟩ := hV
  exact ⟨h1, h2, h3, h4, h5, by show ssT s - n ≤ 2000; omega⟩
end K1
