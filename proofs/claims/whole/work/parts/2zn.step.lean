/-! ===== one call of both ===== -/
def BS (m : M2) (c l : Nat) (s : SS) : Prop := XS m c s ∧ MS m l s ∧ VS s ∧ (∀ w, w < 17 → hJ m 19 w = lN (W5 w)) ∧ ∀ w, w < 17 → hJ m 63 (mkd (17 + w) - 20) = lN (W27 w)
/-- both answer the same, and go on from one state -/
def St {α : Type} (m : M2) (c l : Nat) (fx fm : M2 → Option (α × M2)) : Prop := ∃ (v : α) (m1 m2 : M2) (s' : SS), fx m = some (v, m1) ∧ fm m1 = some (v, m2) ∧ BS m2 c l s'
def F_every (g : M2 → M2) (c : Nat) (x1 x2 x3 : Int32) (m : M2) : Option (Int32 × M2) := if x1 < 0 then f_every_34 c m else if hI m c 1 ≤ x1 then f_every_34 c m else if x2 < 1 then f_every_34 c m else if (4 : Int32) < x2 then f_every_34 c m else if x3 < 0 then f_every_34 c m else if x3 ≤ (2 : Int32) then (F_X0_howMany c x2 m).bind fun r => if (20736 : Int32) < r.1 then some ((-2 : Int32), r.2) else if x3 = (2 : Int32) then some (r.1, r.2) else (f_prove_32 c x1 x2 (hI (g r.2) 28 3) (g r.2)).bind fun m1 => f_every_81 c x3 m1 else f_every_34 c m
section KST
variable {m : M2} {c l : Nat} {s : SS}
theorem MS.x {m1 : M2} (h : MS m l s) (hf : Fr SX m m1) : MS m1 l s := h.fr hf (fun k j z => by unfold mk2 at z; show ¬ ¬ _; omega)
theorem XS.mm {m1 : M2} (h : XS m c s) (hf : Fr SM2 m m1) : XS m1 c s := h.fr hf (fun k j z => by unfold xk at z; omega)
theorem mk63 : ∀ w, w < 17 → mkd (17 + w) - 20 < 17 := by decide
theorem st_J {α : Type} {fx fm : M2 → Option (α × M2)} {v : α} {s' : SS} {c' l' : Nat} (hB : BS m c l s) (hx : ∃ m1, fx m = some (v, m1) ∧ XS m1 c' s' ∧ Fr SX m m1) (hm : ∀ m1, MS m1 l s → (∀ w, w < 17 → hJ m1 63 (mkd (17 + w) - 20) = lN (W27 w)) → ∃ m2, fm m1 = some (v, m2) ∧ MS m2 l' s' ∧ Fr SM2 m1 m2) (hV : VS s') : St m c' l' fx fm := by
  obtain ⟨h1, h2, h3, h4, h5⟩ := hB
  obtain ⟨m1, e1, x1, f1⟩ := hx
  have k1 : ∀ w, w < 17 → hJ m1 63 (mkd (17 + w) - 20) = lN (W27 w) := fun w hw => (f1.J _ _ (by show ¬ ¬ _; omega)).trans (h5 w hw)
  obtain ⟨m2, e2, x2, f2⟩ := hm m1 (h2.x f1) k1
  exact ⟨v, m1, m2, s', e1, e2, x1.mm f2, x2, hV, fun w hw => (f2.J _ _ (by omega)).trans ((f1.J _ _ (by show ¬ ¬ _; omega)).trans (h4 w hw)), fun w hw => (f2.J _ _ (by omega)).trans (k1 w hw)⟩
theorem st_of {fx fm : M2 → Option (Int32 × M2)} {v : Int32} {s' : SS} (hB : BS m c l s) (hx : OkX m c (fx m) v s') (hm : ∀ m1, MS m1 l s → OkM m1 l (fm m1) v s') (hV : VS s') : St m c l fx fm := st_J hB hx (fun m1 h _ => hm m1 h) hV
theorem tt_feed (hB : BS m c l s) (a b d e f : Int32) : St m c l (F_X11_feed c a b d e f) (F_X12_feed a b d e f) := by
  by_cases h : ssT s ≤ 1980
  · exact st_of hB (k_feed_x1 hB.1 h a b d e f) (fun m1 hM => k_feed_m1 hM h a b d e f) (v_feed hB.2.2.1 h a b d e f)
  · exact st_of hB (k_feed_x0 hB.1 hB.2.2.1 h a b d e f) (fun m1 hM => k_feed_m0 hM hB.2.2.1 h a b d e f) hB.2.2.1
theorem tt_back (hB : BS m c l s) (x : Int32) : St m c l (F_X11_back c x) (F_X12_back x) := by
  by_cases h : isR 0 (ssT s) x
  · obtain ⟨n, _, h2, rfl⟩ := h
    exact st_of hB (k_back_x1 hB.1 hB.2.2.1 h2) (fun m1 hM => k_back_m1 hM hB.2.2.1 h2) (v_back hB.2.2.1 n)
  · exact st_of hB (k_back_x0 hB.1 hB.2.2.1 h) (fun m1 hM => k_back_m0 hM hB.2.2.1 h) hB.2.2.1
theorem tt_read {e0 : Nat} (hB : BS m c l s) : ∃ c' l', (tx c' ∧ l' < 2) ∧ St m c' l' (F_read e0 c) F_X12_read ∧ (c' = c ∨ c' = 10 - c) ∧ ∀ v m1, F_read e0 c m = some (v, m1) → (v = 0 ↔ c' = 10 - c) := by
  have hc : tx c := hB.1.1.1.2.2.2.2.2.2
  have hl : l < 2 := hB.2.1.1.1.2.1
  obtain ⟨x1, x2⟩ := k_read_x (e0 := e0) hB.1 hB.2.2.1 hB.2.2.2.1
  cases hq : rdS s with
  | inl q =>
    obtain ⟨hV, hx⟩ := x1 q hq
    refine ⟨10 - c, 1 - l, ⟨by unfold tx at hc ⊢; omega, by omega⟩, st_J hB hx (fun m1 hM hK => (k_read_m hM hB.2.2.1 hK).1 q hq) hV, Or.inr rfl, fun v m1 h => ?_⟩
    obtain ⟨m2, e2, _⟩ := hx
    rw [e2] at h
    cases h
    exact ⟨fun _ => rfl, fun _ => rfl⟩
  | inr z =>
    obtain ⟨hf, hx⟩ := x2 z.1 z.2 hq
    refine ⟨c, l, ⟨hc, hl⟩, st_J hB hx (fun m1 hM hK => (k_read_m hM hB.2.2.1 hK).2 z.1 z.2 hq) (hB.2.2.1.fail _), Or.inl rfl, fun v m1 h => ?_⟩
    obtain ⟨m2, e2, _⟩ := hx
    rw [e2] at h
    cases h
    refine ⟨fun z => absurd z (nI_ne0 hf.1 (by omega)), fun z => ?_⟩
    unfold tx at hc
    omega
theorem tt_place (hB : BS m c l s) : St m c l (F_X11_place c) F_X12_place := st_of hB (k_place hB.1 hB.2.1).1 (fun m1 hM => by
  unfold F_X12_place
  rw [hM.2.2.2.2.2.2]
  exact OkM.same hM) hB.2.2.1
theorem tt_bench (hB : BS m c l s) (x y : Int32) : St m c l (F_X11_bench c x y) (F_X12_bench x y) := by
  by_cases h : isB (tdN (ssD s)) x
  · obtain ⟨b, hb, rfl⟩ := h
    exact st_of hB (k_bench_x1 hB.1 hB.2.2.1 hb y) (fun m1 hM => k_bench_m1 hM hB.2.2.1 hb y) hB.2.2.1
  · exact st_of hB (k_bench_x0 hB.1 hB.2.2.1 h) (fun m1 hM => k_bench_m0 hM hB.2.2.1 h) hB.2.2.1
theorem tt_row (hB : BS m c l s) (x : Int32) : St m c l (F_X11_row c x) (F_X12_row x) := by
  by_cases h : isR 0 100 x
  · obtain ⟨n, _, h2, rfl⟩ := h
    exact st_of hB (k_row_x1 hB.1 hB.2.2.1 h2) (fun m1 hM => k_row_m1 hM hB.2.2.1 h2) (v_row hB.2.2.1 n)
  · exact st_of hB (k_row_x0 hB.1 h) (fun m1 hM => k_row_m0 hM h) hB.2.2.1
theorem tt_undo (hB : BS m c l s) : St m c l (F_X11_undo c) F_X12_undo := by
  by_cases h : 0 < ssU s
  · exact st_of hB (k_undo_x1 hB.1 hB.2.2.1 h) (fun m1 hM => k_undo_m1 hM hB.2.2.1 h) (v_undo hB.2.2.1 h)
  · exact st_of hB (k_undo_x0 hB.1 (by omega)) (fun m1 hM => k_undo_m0 hM (by omega)) hB.2.2.1
theorem tt_clashes (hB : BS m c l s) : St m c l (F_X11_clashes c) F_X12_clashes := st_of hB (k_clashes_x hB.1 hB.2.2.1) (fun m1 hM => k_clashes_m hM hB.2.2.1) hB.2.2.1
theorem tt_way (hB : BS m c l s) (x : Int32) : St m c l (F_X11_way c x) (F_X12_way x) := st_of hB (k_way_x hB.1 hB.2.2.1 x) (fun m1 hM => k_way_m hM hB.2.2.1 x) hB.2.2.1
theorem tt_wave (hB : BS m c l s) (x : Int32) : St m c l (F_X11_wave c x) (F_X12_wave x) := by
  by_cases h : isR 0 2 x
  · obtain ⟨a, b, g, hw, hx⟩ := k_wave_x hB.1 hB.2.2.1 h
    refine st_of hB hx (fun m1 hM => ?_) hB.2.2.1
    obtain ⟨a', b', g', hw', hm⟩ := k_wave_m hM hB.2.2.1 h
    have e : wvV x a' b' g' = wvV x a b g := by
      rcases wst_unique hw hw' with ⟨h1, h2⟩ | ⟨h1, rfl, rfl, rfl⟩
      · unfold wvV
        rw [if_neg (by omega), if_neg (by omega)]
      · rfl
    rw [e] at hm
    exact hm
  · exact st_of hB (k_wave_x0 hB.1 h) (fun m1 hM => k_wave_m0 hM h) hB.2.2.1
theorem tt_soon (hB : BS m c l s) (x : Int32) : St m c l (F_X11_soon c x) (F_X12_soon x) := by
  by_cases h : isR 1 (tdN (ssD s)) x
  · obtain ⟨n, h1, h2, rfl⟩ := h
    exact st_of hB (k_soon_x1 hB.1 hB.2.2.1 h1 h2) (fun m1 hM => k_soon_m1 hM hB.2.2.1 h1 h2) hB.2.2.1
  · exact st_of hB (k_soon_x0 hB.1 hB.2.2.1 h) (fun m1 hM => k_soon_m0 hM hB.2.2.1 h) hB.2.2.1
theorem tt_rubs (hB : BS m c l s) (x : Int32) : St m c l (F_X11_rubs c x) (F_X12_rubs x) := by
  by_cases h : isR 1 100 x
  · obtain ⟨n, h1, h2, rfl⟩ := h
    exact st_of hB (k_rubs_x1 hB.1 hB.2.2.1 h1 h2) (fun m1 hM => k_rubs_m1 hM hB.2.2.1 h1 h2) hB.2.2.1
  · exact st_of hB (k_rubs_x0 hB.1 h) (fun m1 hM => k_rubs_m0 hM h) hB.2.2.1
theorem tt_still (hB : BS m c l s) : St m c l (F_X11_still c) F_X12_still := by
  by_cases h : sStl s
  · exact st_of hB ((k_still_x hB.1 hB.2.2.1).1 h) (fun m1 hM => (k_still_m hM hB.2.2.1).1 h) hB.2.2.1
  · exact st_of hB ((k_still_x hB.1 hB.2.2.1).2 h) (fun m1 hM => (k_still_m hM hB.2.2.1).2 h) hB.2.2.1
theorem tt_round (hB : BS m c l s) (x : Int32) : St m c l (F_X11_round c x) (F_X12_round x) := by
  by_cases h : isR 0 1 x
  · rcases k_round_x hB.1 hB.2.2.1 h with ⟨p, q, hp, hx⟩ | ⟨hp, hx⟩
    · refine st_of hB hx (fun m1 hM => ?_) hB.2.2.1
      rcases k_round_m hM hB.2.2.1 h with ⟨p', q', hp', hm⟩ | ⟨hp', hm⟩
      · obtain ⟨rfl, rfl⟩ := hp.u (eR_sh s) hp'
        exact hm
      · exact (hp.nn hp').elim
    · refine st_of hB hx (fun m1 hM => ?_) hB.2.2.1
      rcases k_round_m hM hB.2.2.1 h with ⟨p', q', hp', hm⟩ | ⟨hp', hm⟩
      · exact (hp'.nn hp).elim
      · exact hm
  · exact st_of hB (k_round_x0 hB.1 h) (fun m1 hM => k_round_m0 hM h) hB.2.2.1
theorem tt_change (hB : BS m c l s) (x y : Int32) : St m c l (F_X11_change c x y) (F_X12_change x y) := by
  by_cases h : isB (tdN (ssD s)) x ∧ isB (tdN (ssD s)) y ∧ x ≠ y
  · obtain ⟨⟨b, hb, rfl⟩, ⟨o, ho, rfl⟩, hn⟩ := h
    have hbo : b ≠ o := fun z => hn (by rw [z])
    exact st_of hB (k_change_x1 hB.1 hB.2.2.1 hb ho hbo) (fun m1 hM => k_change_m1 hM hB.2.2.1 hb ho hbo) (v_change hB.2.2.1 hb ho)
  · exact st_of hB (k_change_x0 hB.1 hB.2.2.1 h) (fun m1 hM => k_change_m0 hM hB.2.2.1 h) hB.2.2.1
theorem tt_teach (hB : BS m c l s) (x y : Int32) : St m c l (F_X11_teach c x y) (F_X12_teach x y) := by
  by_cases h : isB (tdN (ssD s)) x ∧ isB (tdL (ssD s)) y
  · obtain ⟨⟨b, hb, rfl⟩, ⟨o, ho, rfl⟩⟩ := h
    exact st_of hB (k_teach_x1 hB.1 hB.2.2.1 hb ho) (fun m1 hM => k_teach_m1 hM hB.2.2.1 hb ho) (v_teach hB.2.2.1 ho)
  · exact st_of hB (k_teach_x0 hB.1 hB.2.2.1 h) (fun m1 hM => k_teach_m0 hM hB.2.2.1 h) hB.2.2.1
theorem tt_set (hB : BS m c l s) (x y : Int32) : St m c l (F_X11_set c x y) (F_X12_set x y) := by
  by_cases h : isB (tdN (ssD s)) x ∧ isB (tdP (ssD s)) y
  · obtain ⟨⟨b, hb, rfl⟩, ⟨o, ho, rfl⟩⟩ := h
    exact st_of hB (k_set_x1 hB.1 hB.2.2.1 hb ho) (fun m1 hM => k_set_m1 hM hB.2.2.1 hb ho) (v_set hB.2.2.1 ho)
  · exact st_of hB (k_set_x0 hB.1 hB.2.2.1 h) (fun m1 hM => k_set_m0 hM hB.2.2.1 h) hB.2.2.1
theorem tt_beat (hB : BS m c l s) (x : Int32) : St m c l (F_X11_beat c x) (F_X12_beat x) := by
  by_cases h : isB (tdP (ssD s)) x
  · exact st_of hB (k_beat_x1 hB.1 hB.2.2.1 h) (fun m1 hM => k_beat_m1 hM hB.2.2.1 h) (v_beat hB.2.2.1 h)
  · exact st_of hB (k_beat_x0 hB.1 hB.2.2.1 h) (fun m1 hM => k_beat_m0 hM hB.2.2.1 h) hB.2.2.1
theorem tt_seating (hB : BS m c l s) (x y : Int32) : St m c l (F_X11_seating c x y) (F_X12_seating x y) := by
  by_cases h : aimOk x y ∧ 0 < tdN (ssD s)
  · obtain ⟨⟨⟨w, _, hw, rfl⟩, ⟨n, hn1, hn, rfl⟩⟩, h0⟩ := h
    exact st_of hB (k_seating_x hB.1 hB.2.2.1 hw hn1 hn h0) (fun m1 hM => k_seating_m hM hB.2.2.1 hw hn1 hn h0) hB.2.2.1
  · exact st_of hB (k_seating_x0 hB.1 hB.2.2.1 h) (fun m1 hM => k_seating_m0 hM hB.2.2.1 h) hB.2.2.1
theorem tt_seat (hB : BS m c l s) (x y z : Int32) : St m c l (F_X11_seat c x y z) (F_X12_seat x y z) := by
  by_cases h : aimOk x y ∧ isB (tdN (ssD s)) z
  · obtain ⟨⟨⟨w, _, hw, rfl⟩, ⟨n, hn1, hn, rfl⟩⟩, ⟨b, hb, rfl⟩⟩ := h
    exact st_of hB (k_seat_x hB.1 hB.2.2.1 hw hn1 hn hb) (fun m1 hM => k_seat_m hM hB.2.2.1 hw hn1 hn hb) hB.2.2.1
  · exact st_of hB (k_seat_x0 hB.1 hB.2.2.1 h) (fun m1 hM => k_seat_m0 hM hB.2.2.1 h) hB.2.2.1
theorem tt_better (hB : BS m c l s) (x y : Int32) : St m c l (F_X11_better c x y) (F_X12_better x y) := by
  by_cases h : aimOk x y ∧ 0 < tdN (ssD s)
  · obtain ⟨⟨⟨w, _, hw, rfl⟩, ⟨n, hn1, hn, rfl⟩⟩, h0⟩ := h
    exact st_of hB (k_better_x hB.1 hB.2.2.1 hw hn1 hn h0) (fun m1 hM => k_better_m hM hB.2.2.1 hw hn1 hn h0) hB.2.2.1
  · exact st_of hB (k_better_x0 hB.1 hB.2.2.1 h) (fun m1 hM => k_better_m0 hM hB.2.2.1 h) hB.2.2.1
theorem tt_every {g : M2 → M2} (hg : ∀ m, Fr (fun k _ => k = 120 ∨ k = 121) m (g m)) (hB : BS m c l s) (x y z : Int32) : St m c l (F_every g c x y z) (F_X12_every x y z) := by
  have hgo := evGo_ok hB.1 hB.2.2.1 x y z
  by_cases h : evOk s x y z
  · obtain ⟨a1, a2, a3, a4, a5, a6⟩ := hgo.mpr h
    obtain ⟨⟨q, hq, rfl⟩, ⟨k, hk1, hk, rfl⟩, ⟨w, _, hw, rfl⟩⟩ := h
    refine st_of (v := evV s q k w) (s' := s) hB ?_ (fun m1 hM => k_every_m hM hB.2.2.1 hq hk1 hk hw) hB.2.2.1
    obtain ⟨e1, e2, e3⟩ := k_every_x1 hB.1 hB.2.2.1 hq hk1 hk hw
    unfold F_every
    rw [if_neg a1, if_neg a2, if_neg a3, if_neg a4, if_neg a5, if_pos a6, x_howMany hB.1.1 hk, bind_s]
    dsimp only
    have hA : tdP (ssD s) ^ k ≤ 24 ^ 4 := Nat.le_trans (Nat.pow_le_pow_left hB.2.2.1.1.p.2 k) (Nat.pow_le_pow_right (by omega) hk)
    have hA' : (24 : Nat) ^ 4 = 331776 := by decide
    by_cases h1 : 20736 < evA s k
    · rw [if_pos (show (20736 : Int32) < nI (tdP (ssD s) ^ k) from nI_lt (a := 20736) h1 (by omega)), e1 h1]
      exact OkX.same hB.1
    · rw [if_neg (show ¬ (20736 : Int32) < nI (tdP (ssD s) ^ k) from nI_nlt (a := 20736) (by unfold evA at h1; omega) (by omega))]
      by_cases h2 : w = 2
      · rw [if_pos (by rw [h2]; rfl), e2 h1 h2]
        exact OkX.same hB.1
      · rw [if_neg (show ¬ nI w = 2 from eq_nI (d := 2) (by omega) (by omega) h2)]
        obtain ⟨m1, p1, p2⟩ := e3 h1 h2 (g m) (hg m)
        rw [p1, bind_s]
        exact p2
  · have hn : ¬ evGo c x y z m := fun y => h (hgo.mp y)
    refine st_of (v := -1) (s' := s) hB ?_ (fun m1 hM => k_every_m0 hM hB.2.2.1 h) hB.2.2.1
    have e : F_every g c x y z m = some (-1, m) := by
      unfold F_every f_every_34
      by_cases b1 : x < 0
      · rw [if_pos b1]
      rw [if_neg b1]
      by_cases b2 : hI m c 1 ≤ x
      · rw [if_pos b2]
      rw [if_neg b2]
      by_cases b3 : y < 1
      · rw [if_pos b3]
      rw [if_neg b3]
      by_cases b4 : (4 : Int32) < y
      · rw [if_pos b4]
      rw [if_neg b4]
      by_cases b5 : z < 0
      · rw [if_pos b5]
      rw [if_neg b5]
      by_cases b6 : z ≤ (2 : Int32)
      · exact absurd ⟨b1, b2, b3, b4, b5, b6⟩ hn
      · rw [if_neg b6]
    rw [e]
    exact OkX.same hB.1
theorem tt_ram (hB : BS m c l s) (x y : Int32) : St m c l (F_X11_ram c x y) (F_X12_ram x y) := by
  by_cases h : rmOk s x y
  · by_cases hd : cdD (ssK s) = -1
    · exact st_of hB (k_ram_xd hB.1 hB.2.2.1 h hd) (fun m1 hM => k_ram_md hM hB.2.2.1 h hd) hB.2.2.1
    · obtain ⟨n, h1, h2, rfl⟩ := h.1
      exact st_of hB (k_ram_x1 hB.1 hB.2.2.1 h ⟨h1, h2⟩ hd) (fun m1 hM => k_ram_m1 hM hB.2.2.1 h ⟨h1, h2⟩ hd) hB.2.2.1
  · exact st_of hB (k_ram_x0 hB.1 hB.2.2.1 h) (fun m1 hM => k_ram_m0 hM hB.2.2.1 h) hB.2.2.1
theorem tt_odds (hB : BS m c l s) (x y z : Int32) : St m c l (F_X11_odds c x y z) (F_X12_odds x y z) := by
  by_cases h : ∃ n a b, odOk s x y z n a b
  · obtain ⟨n, a, b, h⟩ := h
    exact st_J hB (k_odds_x1 hB.1 hB.2.2.1 h) (fun m1 hM _ => k_odds_m1 hM hB.2.2.1 h) hB.2.2.1
  · exact st_J hB (k_odds_x0 hB.1 hB.2.2.1 h) (fun m1 hM _ => k_odds_m0 hM hB.2.2.1 h) hB.2.2.1
theorem tt_tell (hB : BS m c l s) (x y z : Int32) (hz : z = 0 ∨ z = 1) : St m c l (F_X11_tell c x y z) (F_X12_tell_ x y z) := by
  by_cases h : tellOk s x y
  · exact st_of hB (k_tell_x1 hB.1 hB.2.2.1 h hz) (fun m1 hM => k_tell_m1 hM hB.2.2.1 h hz) (v_tell hB.2.2.1 h hz)
  · exact st_of hB (k_tell_x0 hB.1 hB.2.2.1 h) (fun m1 hM => k_tell_m0 hM hB.2.2.1 h) hB.2.2.1
theorem tt_forget (hB : BS m c l s) : St m c l (F_X11_forget c) F_X12_forget := st_of hB (k_forget_x hB.1) (fun m1 hM => k_forget_m hM) (v_forget hB.2.2.1)
theorem tt_suspects (hB : BS m c l s) (x y : Int32) : St m c l (F_X11_suspects c x y) (F_X12_suspects x y) := by
  by_cases h : suOk s x y
  · obtain ⟨⟨n, _, hn, rfl⟩, ⟨k, _, hk, rfl⟩⟩ := h
    exact st_of hB (k_suspects_x hB.1 hB.2.2.1 hn hk) (fun m1 hM => k_suspects_m hM hB.2.2.1 hn hk) hB.2.2.1
  · exact st_of hB (k_suspects_x0 hB.1 hB.2.2.1 h) (fun m1 hM => k_suspects_m0 hM hB.2.2.1 h) hB.2.2.1
theorem tt_suspect (hB : BS m c l s) (x y w : Int32) : St m c l (F_X11_suspect c x y w) (F_X12_suspect x y w) := by
  by_cases h : suOk s x y
  · by_cases hw : w < 0
    · refine st_of hB (k_suspect_x0 hB.1 hB.2.2.1 (fun z => z.2 hw)) (fun m1 hM => ?_) hB.2.2.1
      obtain ⟨⟨n, _, hn, rfl⟩, ⟨k, _, hk, rfl⟩⟩ := h
      exact (k_suspect_m hM hB.2.2.1 hn hk).2 hw
    · obtain ⟨⟨n, _, hn, rfl⟩, ⟨k, _, hk, rfl⟩⟩ := h
      obtain ⟨i, hi, rfl⟩ : ∃ i, i < 2 ^ 31 ∧ w = nI i := by
        refine ⟨w.toNatClampNeg, ?_, ?_⟩
        · have := Int32.toInt_lt w
          unfold Int32.toNatClampNeg
          omega
        · apply Int32.toInt_inj.mp
          have h1 := Int32.toInt_lt w
          have h2 : 0 ≤ w.toInt := by
            rw [Int32.lt_iff_toInt_lt, show (0 : Int32).toInt = 0 from rfl] at hw
            omega
          rw [nI_toInt (by unfold Int32.toNatClampNeg; omega)]
          unfold Int32.toNatClampNeg
          omega
      obtain ⟨v, hv, hx⟩ := k_suspect_x hB.1 hB.2.2.1 hn hk hi
      refine st_of hB hx (fun m1 hM => ?_) hB.2.2.1
      obtain ⟨v', hv', hm⟩ := (k_suspect_m hM hB.2.2.1 hn hk).1 i hi rfl
      rw [hv.u hv']
      exact hm
  · exact st_of hB (k_suspect_x0 hB.1 hB.2.2.1 (fun z => h z.1)) (fun m1 hM => k_suspect_m0 hM hB.2.2.1 h) hB.2.2.1
theorem tt_check (hB : BS m c l s) (x y w : Int32) : St m c l (F_X11_check c x y w) (F_X12_check x y w) := by
  by_cases h : suOk s x y ∧ isR 0 99 w
  · obtain ⟨⟨⟨n, _, hn, rfl⟩, ⟨k, _, hk, rfl⟩⟩, ⟨st, _, hst, rfl⟩⟩ := h
    exact st_of hB (k_check_x hB.1 hB.2.2.1 hn hk hst) (fun m1 hM => k_check_m hM hB.2.2.1 hn hk hst) hB.2.2.1
  · exact st_of hB (k_check_x0 hB.1 hB.2.2.1 h) (fun m1 hM => k_check_m0 hM hB.2.2.1 h) hB.2.2.1
theorem tt_hold (hB : BS m c l s) (x : Int32) : St m c l (F_X11_hold c x) (F_X12_hold x) := by
  by_cases h : isB 3 x
  · obtain ⟨i, hi, rfl⟩ := h
    exact st_of hB (k_hold_x1 hB.1 hB.2.2.1 hi) (fun m1 hM => k_hold_m1 hM hB.2.2.1 hi) (v_hold hB.2.2.1)
  · exact st_of hB (k_hold_x0 hB.1 h) (fun m1 hM => k_hold_m0 hM h) hB.2.2.1
theorem tt_restore (hB : BS m c l s) (x : Int32) : St m c l (F_X11_restore c x) (F_X12_restore x) := by
  by_cases h : ∃ i, i < 3 ∧ ssB s i = true ∧ x = nI i
  · obtain ⟨i, hi, hb, rfl⟩ := h
    exact st_of hB (k_restore_x1 hB.1 hB.2.2.1 hi hb) (fun m1 hM => k_restore_m1 hM hB.2.2.1 hi hb) (v_restore hB.2.2.1 hi hb)
  · exact st_of hB (k_restore_x0 hB.1 h) (fun m1 hM => k_restore_m0 hM h) hB.2.2.1
theorem tt_count (hB : BS m c l s) (x : Int32) : St m c l (F_X11_count c x) (F_X12_count x) := st_of hB (k_count_x hB.1 hB.2.2.1 x) (fun m1 hM => k_count_m hM hB.2.2.1 x) hB.2.2.1
end KST
