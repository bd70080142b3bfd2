/-! ===== odds ===== -/
theorem sm32 : ∀ k : Nat, k < 32 → ((nI k &&& 31).toBitVec.smod 32).toNat = k := by decide
theorem shr_n {n k : Nat} (hn : n < 2 ^ 31) (hk : k < 32) : nI n >>> (nI k &&& 31) = nI (n / 2 ^ k) := pk_shrN hn _ k (sm32 k hk)
theorem one_shl {k : Nat} (hk : k < 32) : (1 : Int32) <<< (nI k &&& 31) = nI (2 ^ k) := by
  have h := pk_shlN (n := 1) (nI k &&& 31) k (sm32 k hk) (by
    rw [Nat.one_mul]
    exact Nat.pow_lt_pow_right (by omega) hk)
  rw [Nat.one_mul] at h
  exact h
theorem bitN_n {n k : Nat} (hn : n < 2 ^ 31) (hk : k < 32) : bitN (nI n) k = n / 2 ^ k % 2 := by
  unfold bitN
  rw [shr_n hn hk]
  show (BitVec.ofNat 32 (n / 2 ^ k)).toNat % 2 = _
  rw [BitVec.toNat_ofNat, Nat.mod_eq_of_lt (Nat.lt_of_le_of_lt (Nat.div_le_self _ _) (by omega))]
def OkXJ (m : M2) (c : Nat) (r : Option (Int64 × M2)) (v : Int64) (s' : SS) : Prop := ∃ m', r = some (v, m') ∧ XS m' c s' ∧ Fr SX m m'
def OkMJ (m : M2) (l : Nat) (r : Option (Int64 × M2)) (v : Int64) (s' : SS) : Prop := ∃ m', r = some (v, m') ∧ MS m' l s' ∧ Fr SM2 m m'
theorem OkXJ.same {m : M2} {c : Nat} {s : SS} {v : Int64} (h : XS m c s) : OkXJ m c (some (v, m)) v s := ⟨m, rfl, h, Fr.rf⟩
theorem OkMJ.same {m : M2} {l : Nat} {s : SS} {v : Int64} (h : MS m l s) : OkMJ m l (some (v, m)) v s := ⟨m, rfl, h, Fr.rf⟩
theorem OkXJ.scr {S : Nat → Nat → Prop} {m m' : M2} {c : Nat} {s : SS} {v : Int64} (h : XS m c s) (hf : Fr S m m') (hs : ∀ k j, S k j → ¬ xk k ∧ SX k j) : OkXJ m c (some (v, m')) v s := ⟨m', rfl, h.fr hf (fun k j hk z => (hs k j z).1 hk), hf.mono (fun k j z => (hs k j z).2)⟩
theorem OkMJ.scr {S : Nat → Nat → Prop} {m m' : M2} {l : Nat} {s : SS} {v : Int64} (h : MS m l s) (hf : Fr S m m') (hs : ∀ k j, S k j → ¬ mk2 k j ∧ SM2 k j) : OkMJ m l (some (v, m')) v s := ⟨m', rfl, h.fr hf (fun k j hk z => (hs k j z).1 hk), hf.mono (fun k j z => (hs k j z).2)⟩
theorem ner_congr {P x : Nat} {t u : Nat → Nat} : ∀ {n : Nat}, (∀ b, b < n → t b = u b) → ner P t x n = ner P u x n
  | 0, _ => rfl
  | n + 1, h => by
    unfold ner
    rw [h n (by omega), ner_congr (n := n) (fun b hb => h b (by omega))]
theorem wyn_congr {P n : Nat} {t u : Nat → Nat} (h : ∀ b, b < n → t b = u b) : wyn P t n = wyn P u n := by
  have e : (fun x => ner P t x n) = (fun x => ner P u x n) := funext fun x => ner_congr h
  have e2 : wyp P t n = wyp P u n := by unfold wyp; rw [e]
  unfold wyn
  rw [e2]
  exact ner_congr h
/-- the whole ways of n strokes, a of b of them in fog -/
def wV (d : TD) (L : Nat → Int32) (D : Int32) (a b : Nat) : Nat → (Nat → Nat) → Nat
  | 0, t => wyn (tdP d) t (tdN d)
  | n + 1, t => a * wV d L D a b n (sstp d L D 1 t) + (b - a) * wV d L D a b n (sstp d L D 0 t)
theorem wV_congr {d : TD} {L : Nat → Int32} {D : Int32} {a b : Nat} : ∀ (n : Nat) {t u : Nat → Nat}, (∀ b, b < tdN d → t b = u b) → wV d L D a b n t = wV d L D a b n u
  | 0, t, u, h => wyn_congr h
  | n + 1, t, u, h => by
    have h1 : ∀ b, b < tdN d → sstp d L D 1 t b = sstp d L D 1 u b := stp_congr h
    have h0 : ∀ b, b < tdN d → sstp d L D 0 t b = sstp d L D 0 u b := stp_congr h
    unfold wV
    rw [wV_congr n h1, wV_congr n h0]
theorem x_weighed {c : Nat} {d : TD} {L : Nat → Int32} {D : Int32} {a b : Nat} (hV : VT d) (hab : a ≤ b) (hb : b ≤ 9) (hc : c = 2 ∨ c = 8) : ∀ (n fu : Nat), n < fu → n ≤ 10 → ∀ (m : M2) (t : Nat → Nat), XT m c d → VR d L D t → (∀ i, i < tdN d → hI m 30 i = L i) → hI m 28 3 = D → ∃ m', F_X9_weighed fu c 28 (lN (pk t (tdN d))) (nI n) (nI a) (nI b) m = some (lN (wV d L D a b n t), m') ∧ Fr (fun k _ => 24 ≤ k ∧ k ≤ 26) m m' := by
  have hN := hV.n
  intro n
  induction n with
  | zero =>
    intro fu hfu _ m t hX hr hL hD
    obtain ⟨fu, rfl⟩ : ∃ f, fu = f + 1 := ⟨fu - 1, by omega⟩
    show ∃ m', B_X9_weighed (F_X9_weighed fu) c 28 _ _ _ _ m = _ ∧ _
    unfold B_X9_weighed
    obtain ⟨m1, e1, f1⟩ := x_wayOf hX.1 hr.1
    have hw := wyn_le (tdP d) t (tdN d)
    rw [if_neg (by decide), e1, bind_s, nI_l (by omega)]
    exact ⟨m1, rfl, f1.mono (fun k j z => by omega)⟩
  | succ n ih =>
    intro fu hfu hn m t hX hr hL hD
    obtain ⟨fu, rfl⟩ : ∃ f, fu = f + 1 := ⟨fu - 1, by omega⟩
    show ∃ m', B_X9_weighed (F_X9_weighed fu) c 28 _ _ _ _ m = _ ∧ _
    unfold B_X9_weighed
    obtain ⟨m1, e1, f1⟩ := x_st (a := 28 + 2) hX hV hr hL (by omega) 1
    have hX1 := hX.fr f1 (fun k j z1 z2 => by omega)
    obtain ⟨m2, e2, f2⟩ := x_st (a := 28 + 2) hX1 hV hr (fun i hi => by rw [f1.I _ _ (by omega)]; exact hL i hi) (by omega) 0
    have f12 : Fr (fun k _ => 24 ≤ k ∧ k ≤ 26) m m2 := (f1.mono (fun k j z => by omega)).tr (f2.mono (fun k j z => by omega))
    have get : ∀ m' : M2, Fr (fun k _ => 24 ≤ k ∧ k ≤ 26) m m' → ∀ fog, ∃ m'', F_X9_weighed fu c 28 (lN (pk (sstp d L D fog t) (tdN d))) (nI n) (nI a) (nI b) m' = some (lN (wV d L D a b n (sstp d L D fog t)), m'') ∧ Fr (fun k _ => 24 ≤ k ∧ k ≤ 26) m m'' := by
      intro m' f' fog
      obtain ⟨m3, e3, f3⟩ := ih fu (by omega) (by omega) m' (sstp d L D fog t) (hX.fr f' (fun k j z1 z2 => by omega)) (hr.st hV fog) (fun i hi => by rw [f'.I _ _ (by omega)]; exact hL i hi) (by rw [f'.I _ _ (by omega)]; exact hD)
      exact ⟨m3, e3, f'.tr f3⟩
    rw [if_pos (show (0 : Int32) < nI (n + 1) from nI_lt (a := 0) (by omega) (by omega)), hD, e1, bind_s]
    dsimp only
    rw [show hI m1 28 3 = D from by rw [f1.I _ _ (by omega)]; exact hD, e2, bind_s, show nI (n + 1) - 1 = nI n from nI_pred n]
    dsimp only
    by_cases hq : ∀ i, i < tdN d → sstp d L D 1 t i = sstp d L D 0 t i
    · rw [if_pos ((lg_cmp_eq _ _).mpr ((pkN_eq hN ((hr.st hV 1).t32 hV) ((hr.st hV 0).t32 hV)).mpr hq))]
      obtain ⟨m3, e3, f3⟩ := get m2 f12 0
      rw [e3, bind_s]
      refine ⟨m3, ?_, f3⟩
      dsimp only
      rw [nI_l (by omega), lN_mul]
      congr 3
      show _ = a * wV d L D a b n (sstp d L D 1 t) + (b - a) * wV d L D a b n (sstp d L D 0 t)
      rw [wV_congr n hq, ← Nat.add_mul, show a + (b - a) = b by omega]
    · rw [if_neg (fun z => hq ((pkN_eq hN ((hr.st hV 1).t32 hV) ((hr.st hV 0).t32 hV)).mp ((lg_cmp_eq _ _).mp z)))]
      have fin : ∀ m' : M2, Fr (fun k _ => 24 ≤ k ∧ k ≤ 26) m m' → ∀ x, x = lN (a * wV d L D a b n (sstp d L D 1 t)) → ∃ m'', f_X9_weighed_113 (F_X9_weighed fu) c 28 (nI (n + 1)) (nI a) (nI b) (lN (pk (sstp d L D 0 t) (tdN d))) x m' = some (lN (wV d L D a b (n + 1) t), m'') ∧ Fr (fun k _ => 24 ≤ k ∧ k ≤ 26) m m'' := by
        rintro m' f' x rfl
        unfold f_X9_weighed_113
        rw [show nI (n + 1) - 1 = nI n from nI_pred n]
        by_cases hz : b ≤ a
        · rw [if_pos (nI_le hz (by omega))]
          refine ⟨m', ?_, f'⟩
          have e : wV d L D a b (n + 1) t = a * wV d L D a b n (sstp d L D 1 t) := by
            show a * wV d L D a b n (sstp d L D 1 t) + (b - a) * wV d L D a b n (sstp d L D 0 t) = _
            rw [show b - a = 0 by omega, Nat.zero_mul, Nat.add_zero]
          rw [e]
          rfl
        · obtain ⟨m3, e3, f3⟩ := get m' f' 0
          rw [if_neg (nI_ge (by omega) (by omega)), e3, bind_s, nmJ_e, bind_s]
          refine ⟨m3, ?_, f3⟩
          dsimp only
          rw [pk_sub (by omega), nI_l (by omega), lN_mul, lN_add]
          rfl
      by_cases hz : a = 0
      · rw [if_pos (by rw [hz]; decide)]
        exact fin m2 f12 0 (by rw [hz, Nat.zero_mul]; rfl)
      · rw [if_neg (nI_nle (by omega) (by omega))]
        obtain ⟨m3, e3, f3⟩ := get m2 f12 1
        rw [e3, bind_s, nmJ_e, bind_s]
        dsimp only
        refine fin m3 f3 _ ?_
        rw [nI_l (by omega), lN_mul, show (0 : Int64) = lN 0 from rfl, lN_add, Nat.zero_add]
/-- one way of fogs: the bits of set, the lowest first -/
def Fo (d : TD) (L : Nat → Int32) (D : Int32) (a b : Nat) : Nat → (Nat → Nat) → Nat → Nat
  | 0, t, _ => wyn (tdP d) t (tdN d)
  | n + 1, t, z => (if z % 2 = 1 then a else b - a) * Fo d L D a b n (sstp d L D (if z % 2 = 1 then 1 else 0) t) (z / 2)
theorem Fo_s (d : TD) (L : Nat → Int32) (D : Int32) (a b n : Nat) (t : Nat → Nat) (z : Nat) : Fo d L D a b (n + 1) t z = (if z % 2 = 1 then a else b - a) * Fo d L D a b n (sstp d L D (if z % 2 = 1 then 1 else 0) t) (z / 2) := rfl
def sm (f : Nat → Nat) : Nat → Nat
  | 0 => 0
  | n + 1 => sm f n + f n
theorem sm_2 (f : Nat → Nat) : ∀ K, sm f (2 * K) = sm (fun j => f (2 * j) + f (2 * j + 1)) K
  | 0 => rfl
  | K + 1 => by
    show sm f (2 * K + 1 + 1) = sm _ K + _
    show sm f (2 * K) + f (2 * K) + f (2 * K + 1) = _
    rw [sm_2 f K]
    dsimp only
    omega
theorem sm_lin (f g : Nat → Nat) (p q : Nat) : ∀ K, sm (fun j => p * f j + q * g j) K = p * sm f K + q * sm g K
  | 0 => by simp [sm]
  | K + 1 => by
    show sm _ K + (p * f K + q * g K) = p * (sm f K + f K) + q * (sm g K + g K)
    rw [sm_lin f g p q K, Nat.mul_add, Nat.mul_add]
    omega
theorem sm_congr {f g : Nat → Nat} (h : ∀ j, f j = g j) : ∀ K, sm f K = sm g K
  | 0 => rfl
  | K + 1 => by
    show sm f K + f K = sm g K + g K
    rw [sm_congr h K, h]
theorem wV_sum (d : TD) (L : Nat → Int32) (D : Int32) (a b : Nat) : ∀ (n : Nat) (t : Nat → Nat), sm (Fo d L D a b n t) (2 ^ n) = wV d L D a b n t
  | 0, t => by
    show 0 + Fo d L D a b 0 t 0 = _
    rw [Nat.zero_add]
    rfl
  | n + 1, t => by
    rw [Nat.pow_succ, Nat.mul_comm, sm_2]
    have e : ∀ j, Fo d L D a b (n + 1) t (2 * j) + Fo d L D a b (n + 1) t (2 * j + 1) = a * Fo d L D a b n (sstp d L D 1 t) j + (b - a) * Fo d L D a b n (sstp d L D 0 t) j := by
      intro j
      rw [Fo_s, Fo_s, if_neg (by omega), if_neg (by omega), if_pos (by omega), if_pos (by omega), show 2 * j / 2 = j by omega, show (2 * j + 1) / 2 = j by omega]
      omega
    rw [sm_congr e, sm_lin, wV_sum d L D a b n, wV_sum d L D a b n]
    rfl
section KB
variable {m : M2} {c l : Nat} {s : SS}
def odOk (s : SS) (x y z : Int32) (n a b : Nat) : Prop := (x = nI n ∧ 1 ≤ n ∧ n ≤ 10) ∧ (z = nI b ∧ 1 ≤ b ∧ b ≤ 9) ∧ (y = nI a ∧ a ≤ b) ∧ 0 < tdN (ssD s)
theorem k_odds_x1 (hX : XS m c s) (hV : VS s) {x y z : Int32} {n a b : Nat} (h : odOk s x y z n a b) : OkXJ m c (F_X11_odds c x y z m) (lN (wV (ssD s) (cdL (ssK s)) (cdD (ssK s)) a b n (cdT (ssK s)))) s := by
  obtain ⟨⟨rfl, h1, h2⟩, ⟨rfl, h3, h4⟩, ⟨rfl, h5⟩, h6⟩ := h
  have hN := hV.n
  unfold F_X11_odds
  obtain ⟨a1, a2, a3, a4⟩ := hX.2.1
  obtain ⟨m1, e1, f1⟩ := x_weighed (L := cdL (ssK s)) (D := cdD (ssK s)) hV.1 h5 h4 hX.tx n 12 (by omega) h2 m (cdT (ssK s)) hX.1 hV.2.1.r (fun i hi => (a2 i hi).2) a3
  have q1 : ¬ nI n < 1 := nI_nlt h1 (by omega)
  have q2 : ¬ (10 : Int32) < nI n := nI_nlt (b := n) (a := 10) (by omega) (by omega)
  have q3 : ¬ nI b < 1 := nI_nlt h3 (by omega)
  have q4 : ¬ (9 : Int32) < nI b := nI_nlt (b := b) (a := 9) (by omega) (by omega)
  rw [if_neg q1, if_neg q2, if_neg q3, if_neg q4, if_neg (nI_pos (by omega)), if_neg (nI_nlt h5 (by omega)), hX.n, if_neg (nI_ne0 h6 (by omega)), a1, e1, bind_s]
  exact OkXJ.scr hX f1 (fun k j z => ⟨fun z2 => by unfold xk at z2; omega, fun z2 => by omega⟩)
theorem k_odds_x0 (hX : XS m c s) (hV : VS s) {x y z : Int32} (h : ¬ ∃ n a b, odOk s x y z n a b) : OkXJ m c (F_X11_odds c x y z m) (-1) s := by
  have hN := hV.n
  unfold F_X11_odds
  by_cases q1 : x < 1
  · rw [if_pos q1]; exact OkXJ.same hX
  by_cases q2 : 10 < x
  · rw [if_neg q1, if_pos q2]; exact OkXJ.same hX
  by_cases q3 : z < 1
  · rw [if_neg q1, if_neg q2, if_pos q3]; exact OkXJ.same hX
  by_cases q4 : 9 < z
  · rw [if_neg q1, if_neg q2, if_neg q3, if_pos q4]; exact OkXJ.same hX
  by_cases q5 : y < 0
  · rw [if_neg q1, if_neg q2, if_neg q3, if_neg q4, if_pos q5]; exact OkXJ.same hX
  by_cases q6 : z < y
  · rw [if_neg q1, if_neg q2, if_neg q3, if_neg q4, if_neg q5, if_pos q6]; exact OkXJ.same hX
  rw [if_neg q1, if_neg q2, if_neg q3, if_neg q4, if_neg q5, if_neg q6, hX.n]
  by_cases q7 : tdN (ssD s) = 0
  · rw [if_pos (by rw [q7]; rfl)]; exact OkXJ.same hX
  exfalso
  obtain ⟨n, n1, n2, rfl⟩ := (isRx (a := 1) (b := 10) (by omega) (by omega) x).mpr ⟨q1, q2⟩
  obtain ⟨b, b1, b2, rfl⟩ := (isRx (a := 1) (b := 9) (by omega) (by omega) z).mpr ⟨q3, q4⟩
  obtain ⟨a, a1, a2, rfl⟩ := (isRx (a := 0) (b := b) (by omega) (by omega) y).mpr ⟨q5, q6⟩
  exact h ⟨n, a, b, ⟨rfl, n1, n2⟩, ⟨rfl, b1, b2⟩, ⟨rfl, a2⟩, by omega⟩
theorem m_odds64 {d : TD} {L : Nat → Int32} {D : Int32} {t : Nat → Nat} {n a b z : Nat} {x4 : Int64} (hM : MT m l d) (hV : VT d) (hR : RwM m (tdN d) (tdG d) D L t) (hL : LwOk (tdL d) (tdN d) L) (hD : Dr (tdP d) D) (ht : ∀ b, b < tdN d → t b < tdP d) (hab : a ≤ b) (hb : b ≤ 9) (hn : n ≤ 10) (hz : z < 2 ^ 10) : ∃ m' w t', loop (g_X12_odds_64 (nI n) (nI a) (nI b) x4 (nI z)) ((1 : Int64), (0 : Int32), m) = some (lN w, m') ∧ w * wyn (tdP d) t' (tdN d) = Fo d L D a b n t z ∧ RwM m' (tdN d) (tdG d) D L t' ∧ Fr SrM m m' := by
  have hN := hV.n
  have key : ∃ e, loop (g_X12_odds_64 (nI n) (nI a) (nI b) x4 (nI z)) ((1 : Int64), (0 : Int32), m) = some e ∧ ∃ (w : Nat) (t' : Nat → Nat), e.1 = lN w ∧ w * wyn (tdP d) t' (tdN d) = Fo d L D a b n t z ∧ RwM e.2 (tdN d) (tdG d) D L t' ∧ Fr SrM m e.2 := by
    refine loop_to n (fun k y => ∃ (w : Nat) (t' : Nat → Nat), y.1 = lN w ∧ y.2.1 = nI k ∧ w * Fo d L D a b (n - k) t' (z / 2 ^ k) = Fo d L D a b n t z ∧ RwM y.2.2 (tdN d) (tdG d) D L t' ∧ (∀ b, b < tdN d → t' b < tdP d) ∧ Fr SrM m y.2.2) _ (by omega) ?_ ?_ ⟨1, t, rfl, rfl, by rw [Nat.one_mul, Nat.pow_zero, Nat.div_one]; rfl, hR, ht, Fr.rf⟩
    · rintro k ⟨y, x, m1⟩ hk ⟨w, t', i1, i2, i3, i4, i6, i5⟩
      dsimp only at i1 i2 i3 i4 i5 i6
      subst i1 i2
      show ∃ s', f_X12_odds_64 (nI n) (nI a) (nI b) x4 (nI z) (lN w) (nI k) m1 = some (Sum.inl s') ∧ _
      have hz2 := bitN_n (n := z) (k := k) (by omega) (by omega)
      unfold f_X12_odds_64
      rw [if_neg (nI_ge hk (by omega)), bit_n, hz2]
      have e3 : n - k = (n - (k + 1)) + 1 := by omega
      rw [e3] at i3
      have i3' : w * ((if z / 2 ^ k % 2 = 1 then a else b - a) * Fo d L D a b (n - (k + 1)) (sstp d L D (if z / 2 ^ k % 2 = 1 then 1 else 0) t') (z / 2 ^ (k + 1))) = Fo d L D a b n t z := by
        rw [Nat.pow_succ, ← Nat.div_div_eq_div_mul]
        exact i3
      have go : ∀ (fg : Int32) (v : Nat), v = (if z / 2 ^ k % 2 = 1 then a else b - a) → fg = (if z / 2 ^ k % 2 = 1 then 1 else 0) → ∃ s', f_X12_odds_104 (nI n) (nI a) (nI b) x4 (nI z) (nI k) fg (lN w) (lN v) m1 = some (Sum.inl s') ∧ ∃ (w : Nat) (t' : Nat → Nat), s'.1 = lN w ∧ s'.2.1 = nI (k + 1) ∧ w * Fo d L D a b (n - (k + 1)) t' (z / 2 ^ (k + 1)) = Fo d L D a b n t z ∧ RwM s'.2.2 (tdN d) (tdG d) D L t' ∧ (∀ b, b < tdN d → t' b < tdP d) ∧ Fr SrM m s'.2.2 := by
        rintro fg v rfl rfl
        unfold f_X12_odds_104
        obtain ⟨m2, e2, R2, f2⟩ := m_st (hM.fr i5 (fun k j h z => by omega)) hV i4 hN hL hD i6 (if z / 2 ^ k % 2 = 1 then 1 else 0)
        rw [nmJ_e, bind_s, e2, bind_s, nmI_e, bind_s, lN_mul]
        exact ⟨_, rfl, _, _, rfl, nI_1 k, by rw [Nat.mul_assoc]; exact i3', R2, stp_lt hV.e hL hV.l i6, i5.tr f2⟩
      by_cases hq : z / 2 ^ k % 2 = 1
      · rw [if_pos (by rw [hq]; rfl)]
        unfold f_X12_odds_86
        rw [if_neg (by decide), nI_l (by omega)]
        exact go 1 a (by rw [if_pos hq]) (by rw [if_pos hq])
      · have hq' : ¬ nI (z / 2 ^ k % 2) = 1 := fun y => hq ((nI_eq (by omega) (by omega)).mp (show nI _ = nI 1 from y))
        rw [if_neg hq']
        unfold f_X12_odds_86
        rw [if_pos rfl, pk_sub hab, nI_l (by omega)]
        exact go 0 (b - a) (by rw [if_neg hq]) (by rw [if_neg hq])
    · rintro ⟨y, x, m1⟩ ⟨w, t', i1, i2, i3, i4, i6, i5⟩
      dsimp only at i1 i2 i3 i4 i5
      subst i1 i2
      show ∃ e, f_X12_odds_64 (nI n) (nI a) (nI b) x4 (nI z) (lN w) (nI n) m1 = some (Sum.inr e) ∧ _
      unfold f_X12_odds_64
      rw [if_pos (nI_le (Nat.le_refl _) (by omega))]
      refine ⟨_, rfl, w, t', rfl, ?_, i4, i5⟩
      rw [Nat.sub_self] at i3
      exact i3
  obtain ⟨⟨y, m'⟩, e1, w, t', i1, i2, i3, i4⟩ := key
  dsimp only at i1 i2 i3 i4
  subst i1
  exact ⟨m', w, t', e1, i2, i3, i4⟩
theorem k_odds_m1 (hM : MS m l s) (hV : VS s) {x y z : Int32} {n a b : Nat} (h : odOk s x y z n a b) : OkMJ m l (F_X12_odds x y z m) (lN (wV (ssD s) (cdL (ssK s)) (cdD (ssK s)) a b n (cdT (ssK s)))) s := by
  obtain ⟨⟨rfl, h1, h2⟩, ⟨rfl, h3, h4⟩, ⟨rfl, h5⟩, h6⟩ := h
  have hN := hV.n
  unfold F_X12_odds
  rw [show F_X12_in (nI n) 1 10 m = some (1, m) from (inR (a := 1) (b := 10) (by omega) (by omega) _).1 ⟨n, h1, h2, rfl⟩, bind_s]
  dsimp only
  rw [if_neg (by decide), show F_X12_in (nI b) 1 9 m = some (1, m) from (inR (a := 1) (b := 9) (by omega) (by omega) _).1 ⟨b, h3, h4, rfl⟩, bind_s]
  dsimp only
  rw [if_neg (by decide), show F_X12_in (nI a) 0 (nI b) m = some (1, m) from (inR (a := 0) (b := b) (by omega) (by omega) _).1 ⟨a, by omega, h5, rfl⟩, bind_s]
  dsimp only
  rw [if_neg (by decide), m_menNow hM.lv hM.l2 hM.n, bind_s]
  dsimp only
  rw [if_neg (nI_ne0 h6 (by omega))]
  have p10 : 2 ^ n ≤ 2 ^ 10 := Nat.pow_le_pow_right (by omega) h2
  have key : ∃ e, loop (g_X12_odds_46 (nI n) (nI a) (nI b)) ((0 : Int64), (0 : Int32), m) = some e ∧ e.1 = lN (sm (Fo (ssD s) (cdL (ssK s)) (cdD (ssK s)) a b n (cdT (ssK s))) (2 ^ n)) ∧ Fr (fun k j => StM k j ∨ SrM k j) m e.2 := by
    refine loop_to (2 ^ n) (fun k y => y.1 = lN (sm (Fo (ssD s) (cdL (ssK s)) (cdD (ssK s)) a b n (cdT (ssK s))) k) ∧ y.2.1 = nI k ∧ Fr (fun k j => StM k j ∨ SrM k j) m y.2.2) _ (by omega) ?_ ?_ ⟨rfl, rfl, Fr.rf⟩
    · rintro k ⟨y, x, m1⟩ hk ⟨i1, i2, i3⟩
      dsimp only at i1 i2 i3
      subst i1 i2
      show ∃ s', f_X12_odds_46 (nI n) (nI a) (nI b) _ (nI k) m1 = some (Sum.inl s') ∧ _
      have hM1 := hM.fr i3 (fun k j h z => by unfold mk2 at h; omega)
      unfold f_X12_odds_46
      obtain ⟨m2, e2, R2, f2⟩ := m_takes hM1.lv hM1.l2 hM1.n hN hM1.2.1
      rw [one_shl (by omega), if_neg (nI_ge hk (by omega)), e2, bind_s]
      obtain ⟨m3, w, t', e3, w3, R3, f3⟩ := m_odds64 (x4 := lN (sm (Fo (ssD s) (cdL (ssK s)) (cdD (ssK s)) a b n (cdT (ssK s))) k)) (hM1.1.fr f2 (fun k j h z => by omega)) hV.1 R2 hV.2.1.2.1 hV.2.1.2.2.1 hV.2.1.1 h5 h4 h2 (show k < 2 ^ 10 by omega)
      have f13 : Fr (fun k j => StM k j ∨ SrM k j) m m3 := (i3.tr (f2.mono (fun k j z => Or.inl z))).tr (f3.mono (fun k j z => Or.inr z))
      have hw := wyn_le (tdP (ssD s)) t' (tdN (ssD s))
      rw [e3, bind_s]
      dsimp only
      rw [m_wayNow (hM.1.fr f13 (fun k j h z => by omega)).1 hV.p R3 hN, bind_s]
      dsimp only
      rw [nmJ_e, bind_s, nmI_e, bind_s, nI_l (by omega), lN_mul, lN_add, w3]
      exact ⟨_, rfl, rfl, nI_1 k, f13⟩
    · rintro ⟨y, x, m1⟩ ⟨i1, i2, i3⟩
      dsimp only at i1 i2 i3
      subst i1 i2
      show ∃ e, f_X12_odds_46 (nI n) (nI a) (nI b) _ (nI (2 ^ n)) m1 = some (Sum.inr e) ∧ _
      unfold f_X12_odds_46
      rw [one_shl (by omega), if_pos (nI_le (Nat.le_refl _) (by omega))]
      exact ⟨_, rfl, rfl, i3⟩
  obtain ⟨⟨y, m1⟩, e1, e2, e3⟩ := key
  dsimp only at e2 e3
  subst e2
  rw [e1, bind_s]
  dsimp only
  rw [wV_sum]
  exact OkMJ.scr hM e3 (fun k j z => ⟨fun z2 => by unfold mk2 at z2; omega, by omega⟩)
theorem k_odds_m0 (hM : MS m l s) (hV : VS s) {x y z : Int32} (h : ¬ ∃ n a b, odOk s x y z n a b) : OkMJ m l (F_X12_odds x y z m) (-1) s := by
  have hN := hV.n
  unfold F_X12_odds
  by_cases q1 : isR 1 10 x
  · rw [show F_X12_in x 1 10 m = some (1, m) from (inR (a := 1) (b := 10) (by omega) (by omega) _).1 q1, bind_s]
    dsimp only
    rw [if_neg (by decide)]
    by_cases q2 : isR 1 9 z
    · rw [show F_X12_in z 1 9 m = some (1, m) from (inR (a := 1) (b := 9) (by omega) (by omega) _).1 q2, bind_s]
      dsimp only
      rw [if_neg (by decide)]
      obtain ⟨b, b1, b2, rfl⟩ := q2
      by_cases q3 : isR 0 b y
      · rw [show F_X12_in y 0 (nI b) m = some (1, m) from (inR (a := 0) (b := b) (by omega) (by omega) _).1 q3, bind_s]
        dsimp only
        rw [if_neg (by decide), m_menNow hM.lv hM.l2 hM.n, bind_s]
        dsimp only
        obtain ⟨n, n1, n2, rfl⟩ := q1
        obtain ⟨a, a1, a2, rfl⟩ := q3
        by_cases q4 : tdN (ssD s) = 0
        · rw [if_pos (by rw [q4]; rfl)]; exact OkMJ.same hM
        · exact absurd ⟨n, a, b, ⟨rfl, n1, n2⟩, ⟨rfl, b1, b2⟩, ⟨rfl, a2⟩, by omega⟩ h
      · rw [show F_X12_in y 0 (nI b) m = some (0, m) from (inR (a := 0) (b := b) (by omega) (by omega) _).2 q3, bind_s]
        exact OkMJ.same hM
    · rw [show F_X12_in z 1 9 m = some (0, m) from (inR (a := 1) (b := 9) (by omega) (by omega) _).2 q2, bind_s]
      exact OkMJ.same hM
  · rw [show F_X12_in x 1 10 m = some (0, m) from (inR (a := 1) (b := 10) (by omega) (by omega) _).2 q1, bind_s]
    exact OkMJ.same hM
end KB
