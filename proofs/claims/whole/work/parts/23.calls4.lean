/-! ===== count, bench, feed, undo, row, still ===== -/
section K4
variable {m : M2} {c l : Nat} {s : SS}
def orN (x : Int32) : Int32 := if x = -1 then -2 else x
def hel (f : Nat → Bool) : Nat → Nat
  | 0 => 0
  | k + 1 => if f k = true then hel f k + 1 else hel f k
def cV (s : SS) (x : Int32) : Int32 :=
  if x = 0 then nI (tdP (ssD s)) else if x = 1 then nI (tdL (ssD s)) else if x = 2 then nI (tdN (ssD s)) else if x = 3 then cdS (ssK s) else if x = 4 then orN (cdD (ssK s)) else if x = 5 then nI (tdG (ssD s)) else if x = 6 then orN (tdS (ssD s)) else if x = 7 then nI (tdF (ssD s)) else if x = 8 then nI (ssT s) else if x = 9 then nI (ssU s) else if x = 10 then nI (ssQ s) else if x = 11 then nI (hel (ssB s) 3) else if x = 12 then fogd (ssD s) (cdS (ssK s)) else -1
theorem x_orN {x : Int32} {P : Nat} (h : x = -1 ∨ ∃ d, d < P ∧ x = nI d) (hP : P ≤ 24) : F_X11_orNotSo x m = some (orN x, m) := by
  unfold F_X11_orNotSo orN
  rcases h with rfl | ⟨d, hd, rfl⟩
  · rfl
  · rw [if_pos (nI_pos' (by omega)), if_neg (nI_m1 (by omega))]
    rfl
theorem x_held (hX : XS m c s) : F_X11_heldSlots c m = some (nI (hel (ssB s) 3), m) := by
  unfold F_X11_heldSlots
  have key : ∃ e, loop (g_X11_heldSlots_4 c) ((0 : Int32), (0 : Int32), m) = some e ∧ e = (nI (hel (ssB s) 3), m) := by
    refine loop_to 3 (fun k z => z = (nI (hel (ssB s) k), nI k, m)) _ (by omega) ?_ ?_ rfl
    · rintro k z hk rfl
      show ∃ s', f_X11_heldSlots_4 c (nI (hel (ssB s) k)) (nI k) m = some (Sum.inl s') ∧ _
      obtain ⟨b1, b2⟩ := hX.2.2.2.1 k hk
      unfold f_X11_heldSlots_4
      rw [lit_3, if_neg (nI_ge hk (by omega)), ixC_n hk (by omega), bind_s, b1]
      cases hb : ssB s k
      · rw [if_pos (show bI1 false = 0 from rfl)]
        refine ⟨_, rfl, ?_⟩
        rw [show hel (ssB s) (k + 1) = hel (ssB s) k from if_neg (by rw [hb]; decide), nI_1]
      · rw [if_neg (show ¬ bI1 true = 0 by decide), nmI_e, bind_s]
        refine ⟨_, rfl, ?_⟩
        rw [show hel (ssB s) (k + 1) = hel (ssB s) k + 1 from if_pos hb, nI_1, nI_1]
    · rintro z rfl
      show ∃ e, f_X11_heldSlots_4 c _ (nI 3) m = some (Sum.inr e) ∧ _
      unfold f_X11_heldSlots_4
      rw [lit_3, if_pos (nI_le (Nat.le_refl _) (by omega))]
      exact ⟨_, rfl, rfl⟩
  obtain ⟨e, e1, rfl⟩ := key
  rw [e1, bind_s]
theorem k_count_x (hX : XS m c s) (hV : VS s) (x : Int32) : OkX m c (F_X11_count c x m) (cV s x) s := by
  have hp := hV.p
  unfold F_X11_count cV
  by_cases h : x = 0
  · rw [if_pos h, if_pos h, hX.p]; exact OkX.same hX
  rw [if_neg h, if_neg h]; clear h
  by_cases h : x = 1
  · rw [if_pos h, if_pos h, hX.nl]; exact OkX.same hX
  rw [if_neg h, if_neg h]; clear h
  by_cases h : x = 2
  · rw [if_pos h, if_pos h, hX.n]; exact OkX.same hX
  rw [if_neg h, if_neg h]; clear h
  by_cases h : x = 3
  · rw [if_pos h, if_pos h, hX.2.1.2.2.2]; exact OkX.same hX
  rw [if_neg h, if_neg h]; clear h
  by_cases h : x = 4
  · rw [if_pos h, if_pos h, hX.2.1.2.2.1, x_orN hV.2.1.2.2.1 hp.2]; exact OkX.same hX
  rw [if_neg h, if_neg h]; clear h
  by_cases h : x = 5
  · rw [if_pos h, if_pos h, hX.1.1.1.2.2.2.1]; exact OkX.same hX
  rw [if_neg h, if_neg h]; clear h
  by_cases h : x = 6
  · rw [if_pos h, if_pos h, hX.1.1.1.2.2.2.2, x_orN hV.1.2.2.2.2.1 hp.2]; exact OkX.same hX
  rw [if_neg h, if_neg h]; clear h
  by_cases h : x = 7
  · rw [if_pos h, if_pos h, hX.1.2.2.1]; exact OkX.same hX
  rw [if_neg h, if_neg h]; clear h
  by_cases h : x = 8
  · rw [if_pos h, if_pos h, hX.2.2.2.2.2.1.1]; exact OkX.same hX
  rw [if_neg h, if_neg h]; clear h
  by_cases h : x = 9
  · rw [if_pos h, if_pos h]
    obtain ⟨y, y1, y2, y3⟩ := hX.2.2.1
    rw [y2]; exact OkX.same hX
  rw [if_neg h, if_neg h]; clear h
  by_cases h : x = 10
  · rw [if_pos h, if_pos h, hX.2.2.2.2.1.1]; exact OkX.same hX
  rw [if_neg h, if_neg h]; clear h
  by_cases h : x = 11
  · rw [if_pos h, if_pos h, x_held hX, bind_s]; exact OkX.same hX
  rw [if_neg h, if_neg h]; clear h
  by_cases h : x = 12
  · rw [if_pos h, if_pos h, hX.2.1.2.2.2, x_isFog hX.1 hV.1, bind_s]
    dsimp only
    rcases fgB_or (tdA (ssD s)) (tdB (ssD s)) (cdS (ssK s)) (tdF (ssD s)) with e | e
    · rw [show fogd (ssD s) (cdS (ssK s)) = 0 from e, if_pos rfl]; exact OkX.same hX
    · rw [show fogd (ssD s) (cdS (ssK s)) = 1 from e, if_neg (by decide)]; exact OkX.same hX
  rw [if_neg h, if_neg h]
  exact OkX.same hX
theorem k_count_m (hM : MS m l s) (hV : VS s) (x : Int32) : OkM m l (F_X12_count x m) (cV s x) s := by
  have hp := hV.p
  obtain ⟨t1, t2, t3, t4, t5, t6⟩ := hM.1.1
  unfold F_X12_count cV
  rw [t1]
  by_cases h : x = 0
  · rw [if_pos h, if_pos h, aI_n _ 66 t2 (by omega), bind_s, t3]; exact OkM.same hM
  rw [if_neg h, if_neg h]; clear h
  by_cases h : x = 1
  · rw [if_pos h, if_pos h, aI_n _ 67 t2 (by omega), bind_s, t5]; exact OkM.same hM
  rw [if_neg h, if_neg h]; clear h
  by_cases h : x = 2
  · rw [if_pos h, if_pos h, m_menNow t1 t2 t4, bind_s]; exact OkM.same hM
  rw [if_neg h, if_neg h]; clear h
  by_cases h : x = 3
  · rw [if_pos h, if_pos h, hM.2.1.2.2.2]; exact OkM.same hM
  rw [if_neg h, if_neg h]; clear h
  by_cases h : x = 4
  · rw [if_pos h, if_pos h, hM.2.1.2.1]
    unfold orN
    split
    · exact OkM.same hM
    · exact OkM.same hM
  rw [if_neg h, if_neg h]; clear h
  by_cases h : x = 5
  · rw [if_pos h, if_pos h, hM.2.1.2.2.1]; exact OkM.same hM
  rw [if_neg h, if_neg h]; clear h
  by_cases h : x = 6
  · rw [if_pos h, if_pos h, aI_n _ 79 t2 (by omega), bind_s, t6]
    unfold orN
    split
    · exact OkM.same hM
    · rw [bind_s]; exact OkM.same hM
  rw [if_neg h, if_neg h]; clear h
  by_cases h : x = 7
  · rw [if_pos h, if_pos h, aI_n _ 80 t2 (by omega), bind_s, hM.1.2.2.2.1]; exact OkM.same hM
  rw [if_neg h, if_neg h]; clear h
  by_cases h : x = 8
  · rw [if_pos h, if_pos h, hM.2.2.2.2.2.1.1]; exact OkM.same hM
  rw [if_neg h, if_neg h]; clear h
  by_cases h : x = 9
  · rw [if_pos h, if_pos h, hM.2.2.1.1]; exact OkM.same hM
  rw [if_neg h, if_neg h]; clear h
  by_cases h : x = 10
  · rw [if_pos h, if_pos h, hM.2.2.2.2.1.1]; exact OkM.same hM
  rw [if_neg h, if_neg h]; clear h
  by_cases h : x = 11
  · rw [if_pos h, if_pos h, aI_e m 113 (n := 3) (i := 0) (j := 0) rfl (by omega) (by omega), bind_s, (hM.2.2.2.1 0 (by omega)).1]
    unfold f_X12_count_188 f_X12_count_202 f_X12_count_217
    rw [aI_e m 113 (n := 3) (i := 1) (j := 1) rfl (by omega) (by omega), bind_s, (hM.2.2.2.1 1 (by omega)).1, bind_s, aI_e m 113 (n := 3) (i := 2) (j := 2) rfl (by omega) (by omega), bind_s, (hM.2.2.2.1 2 (by omega)).1]
    have key : ∀ a b c : Bool, ∀ f : Nat → Bool, f 0 = a → f 1 = b → f 2 = c → (if bI1 a = 0 then if bI1 b = 0 then (some (bI1 c)).bind fun v1 => if v1 = 0 then some (0 + 0 + 0, m) else some (0 + 0 + 1, m) else (some (bI1 c)).bind fun v1 => if v1 = 0 then some (0 + 1 + 0, m) else some (0 + 1 + 1, m) else if bI1 b = 0 then (some (bI1 c)).bind fun v1 => if v1 = 0 then some (1 + 0 + 0, m) else some (1 + 0 + 1, m) else (some (bI1 c)).bind fun v1 => if v1 = 0 then some (1 + 1 + 0, m) else some ((1 + 1 + 1 : Int32), m)) = some (nI (hel f 3), m) := by
      intro a b c f ha hb hc
      unfold hel hel hel hel
      rw [ha, hb, hc]
      cases a <;> cases b <;> cases c <;> rfl
    refine ⟨m, ?_, hM, Fr.rf⟩
    exact key _ _ _ (ssB s) rfl rfl rfl
  rw [if_neg h, if_neg h]; clear h
  by_cases h : x = 12
  · rw [if_pos h, if_pos h, hM.2.1.2.2.2, m_isFog hM.1 hV.1, bind_s]
    dsimp only
    rcases fgB_or (tdA (ssD s)) (tdB (ssD s)) (cdS (ssK s)) (tdF (ssD s)) with e | e
    · rw [show fogd (ssD s) (cdS (ssK s)) = 0 from e, if_pos rfl]; exact OkM.same hM
    · rw [show fogd (ssD s) (cdS (ssK s)) = 1 from e, if_neg (by decide)]; exact OkM.same hM
  rw [if_neg h, if_neg h]
  exact OkM.same hM
/-! bench -/
def bV (s : SS) (b : Nat) (x : Int32) : Int32 := if x = 0 then nI (cdT (ssK s) b) else if x = 1 then cdM (ssK s) b else if x = 2 then cdL (ssK s) b else if x = 3 then nI (hrd (tdP (ssD s)) (tdG (ssD s)) (cdD (ssK s)) (fogd (ssD s) (cdS (ssK s))) (cdT (ssK s)) b) else -1
theorem k_bench_x1 (hX : XS m c s) (hV : VS s) {b : Nat} (hb : b < tdN (ssD s)) (x : Int32) : OkX m c (F_X11_bench c (nI b) x m) (bV s b x) s := by
  have hn := hV.n
  have h32 := t32 hV.1 hV.2.1
  obtain ⟨a1, a2, a3, a4⟩ := hX.2.1
  unfold F_X11_bench bV
  rw [xB1 hX.n hn ⟨b, hb, rfl⟩, bind_s]
  dsimp only
  rw [if_neg (by decide), a1, x_timeAt (p60n hn h32) (by omega), bind_s, pk_dig h32 hb]
  dsimp only
  by_cases h : x = 0
  · rw [if_pos h, if_pos h]; exact OkX.same hX
  rw [if_neg h, if_neg h]; clear h
  by_cases h : x = 1
  · rw [if_pos h, if_pos h, aI_n _ (28 + 1) (show b < 12 by omega) (by omega), bind_s, (a2 b hb).1]; exact OkX.same hX
  rw [if_neg h, if_neg h]; clear h
  by_cases h : x = 2
  · rw [if_pos h, if_pos h, aI_n _ (28 + 2) (show b < 12 by omega) (by omega), bind_s, (a2 b hb).2]; exact OkX.same hX
  rw [if_neg h, if_neg h]; clear h
  by_cases h : x = 3
  · rw [if_pos h, if_pos h, a4, x_isFog hX.1 hV.1, bind_s]
    dsimp only
    rw [a3, x_heard hX.1.1 hV.2.1.2.2.1 (cdT (ssK s)) (by omega), bind_s]
    exact OkX.same hX
  rw [if_neg h, if_neg h]
  exact OkX.same hX
theorem k_bench_x0 (hX : XS m c s) (hV : VS s) {x y : Int32} (h : ¬ isB (tdN (ssD s)) x) : OkX m c (F_X11_bench c x y m) (-1) s := by
  unfold F_X11_bench
  rw [xB0 hX.n hV.n h, bind_s]
  exact OkX.same hX
theorem k_bench_m1 (hM : MS m l s) (hV : VS s) {b : Nat} (hb : b < tdN (ssD s)) (x : Int32) : OkM m l (F_X12_bench (nI b) x m) (bV s b x) s := by
  have hn := hV.n
  obtain ⟨a1, a2, a3, a4⟩ := hM.2.1
  unfold F_X12_bench bV
  rw [mB1 hM.lv hM.l2 hM.n hn ⟨b, hb, rfl⟩, bind_s]
  dsimp only
  rw [if_neg (by decide)]
  by_cases h : x = 0
  · rw [if_pos h, if_pos h, aI_n _ 93 (show b < 12 by omega) (by omega), bind_s, (a1 b hb).1]; exact OkM.same hM
  rw [if_neg h, if_neg h]; clear h
  by_cases h : x = 1
  · rw [if_pos h, if_pos h, aI_n _ 94 (show b < 12 by omega) (by omega), bind_s, (a1 b hb).2.1]; exact OkM.same hM
  rw [if_neg h, if_neg h]; clear h
  by_cases h : x = 2
  · rw [if_pos h, if_pos h, aI_n _ 95 (show b < 12 by omega) (by omega), bind_s, (a1 b hb).2.2]; exact OkM.same hM
  rw [if_neg h, if_neg h]; clear h
  by_cases h : x = 3
  · rw [if_pos h, if_pos h]
    obtain ⟨m1, e1, R1, f1⟩ := m_takes hM.lv hM.l2 hM.n hn hM.2.1
    have hM1 := hM.1.fr f1 (fun k j z1 z2 => by omega)
    rw [e1, bind_s, show hI m1 56 60 = cdS (ssK s) from by rw [f1.I _ _ (by omega)]; exact a4, m_isFog hM1 hV.1, bind_s]
    dsimp only
    rw [m_heard hM1.1 hV.p hV.1.g R1 hn hV.2.1.2.2.1 hb, bind_s]
    exact OkM.scr hM f1 (fun k j z => ⟨fun z2 => by unfold mk2 at z2; omega, by omega⟩)
  rw [if_neg h, if_neg h]
  exact OkM.same hM
theorem k_bench_m0 (hM : MS m l s) (hV : VS s) {x y : Int32} (h : ¬ isB (tdN (ssD s)) x) : OkM m l (F_X12_bench x y m) (-1) s := by
  unfold F_X12_bench
  rw [mB0 hM.lv hM.l2 hM.n hV.n h, bind_s]
  exact OkM.same hM
/-! feed -/
theorem by_eq (x : Int32) : ∀ k : Nat, k < 4 → (x.toUInt32 >>> ((iI (24 - 8 * k)).toUInt32 &&& Int32.toUInt32 31)).toInt32.toInt8 = (x >>> (iI (24 - 8 * k) &&& 31)).toInt8 := by
  have key : ∀ (n : Nat) (y : Int32), n ≤ 24 → y.toBitVec.toNat = n → (x.toUInt32 >>> y.toUInt32).toInt32.toInt8 = (x >>> y).toInt8 := by
    intro n y hn hy
    apply Int8.toBitVec_inj.mp
    apply BitVec.eq_of_getLsbD_eq
    intro i hi
    rw [Int32.toBitVec_toInt8, Int32.toBitVec_toInt8]
    show (BitVec.signExtend 8 (x.toUInt32 >>> y.toUInt32).toBitVec).getLsbD i = _
    rw [UInt32.toBitVec_shiftRight, Int32.toBitVec_shiftRight]
    rw [BitVec.getLsbD_signExtend, BitVec.getLsbD_signExtend]
    have e1 : (y.toUInt32.toBitVec % 32#32).toNat = n := by
      show (y.toBitVec % 32#32).toNat = n
      rw [BitVec.toNat_umod, hy]
      exact Nat.mod_eq_of_lt (by show n < 32; omega)
    have e2 : (y.toBitVec.smod 32#32).toNat = n := by
      rw [BitVec.smod_eq]
      have hm : y.toBitVec.msb = false := by
        rw [BitVec.msb_eq_decide, hy]
        simp
        omega
      rw [hm]
      show (y.toBitVec.umod 32#32).toNat = n
      exact e1
    simp [hi, show i < 32 by omega]
    rw [hy, Nat.mod_eq_of_lt (show n < 32 by omega), ← BitVec.getLsbD_eq_getElem, e2, BitVec.getLsbD_sshiftRight]
    simp [show n + i < 32 by omega, show i < 32 by omega]
  intro k hk
  match k, hk with
  | 0, _ => exact key 24 _ (by omega) rfl
  | 1, _ => exact key 16 _ (by omega) rfl
  | 2, _ => exact key 8 _ (by omega) rfl
  | 3, _ => exact key 0 _ (by omega) rfl
end K4
