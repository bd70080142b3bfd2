/-! ===== the class reads fogs and men ===== -/
theorem lwN_app (N : Nat → Nat) (t x : Nat) : ∀ ns : List (Nat × Int32), lwN N t (ns ++ [(x, -1)]) = lwN N t ns
  | [] => by
    show (if N x = N t ∧ ¬ (-1 : Int32) = -1 then (-1 : Int32) else -1) = -1
    split <;> rfl
  | p :: ns => by
    show (if N p.1 = N t ∧ ¬ p.2 = -1 then p.2 else lwN N t (ns ++ [(x, -1)])) = (if N p.1 = N t ∧ ¬ p.2 = -1 then p.2 else lwN N t ns)
    rw [lwN_app N t x ns]
section KC
variable {m : M2} {e : Nat} {By : Nat → Nat} {n : Nat}
theorem xf_136 (he : tx e) {f t : Nat} (h : XFt m By n f t) : ∃ m', f_X4_readFog_136 e m = some m' ∧ XFt m' By n f t ∧ Fr (SRx e) m m' := by
  unfold f_X4_readFog_136
  rw [xf_take h.ne, bind_s]
  dsimp only
  rw [qI_e, bind_s]
  have f1 : Fr (fun k j => k = e ∧ j = 11) m (tI m e 11 (hI m e 11 + 1)) := Fr.rf.tI _ ⟨rfl, rfl⟩
  exact ⟨_, rfl, h.ee he f1, f1.mono (fun k j z => (SRy.ee he z).x)⟩
theorem x_fog136 {i : Nat} {C : List Op} {s : IS} {m4 : M2} (he : tx e) (hF : (ttF s).length < 4) (r4 : XRd m4 e By n (i + 1 + 1 + 1) C) (F4 : XF m4 e s) (w1 : hI m4 (e + 4) (ttF s).length = nI (vI By n (i + 1))) (w2 : hI m4 (e + 5) (ttF s).length = nI (vI By n (i + 1 + 1))) (N4 : XNm m4 By n (ttN s)) (W4 : XW m4 By n (ttW (iFog (vI By n) i s))) (U4 : XBy m4 By n (ttU s)) (ff4 : Fr (SRy e) m m4) : IX m e By n C (f_X4_readFog_136 e m4) (sqR (sqk (tk By n) [4] (i + 1 + 1 + 1)) (iFog (vI By n) i s)) := by
  have he' := he
  unfold tx at he'
  unfold f_X4_readFog_136
  rw [lit_4]
  rcases x_tk he r4 (w := 4) (by omega) (by omega) with ⟨m5, e5, r5, f5, k5, h5⟩ | ⟨m5, f, e5, r5, f5, q5⟩
  · rw [sqk_y k5 h5, e5, bind_s]
    dsimp only
    obtain ⟨⟨a0, a1, a5, a8, a9, a10, a11⟩, a7, b3, b4⟩ := F4.fr f5 (fun k j z => by omega)
    rw [a11, nI_1, qI_e, bind_s]
    have f6 : Fr (fun k j => k = e ∧ j = 11) m5 (tI m5 e 11 (nI ((ttF s).length + 1))) := Fr.rf.tI _ ⟨rfl, rfl⟩
    have ll : (ttF s ++ [(vI By n (i + 1), vI By n (i + 2))]).length = (ttF s).length + 1 := by rw [List.length_append, List.length_singleton]
    refine IX.ok rfl (r5.ee he (by omega) f6) ⟨⟨⟨(f6.I _ _ (by omega)).trans a0, (f6.I _ _ (by omega)).trans a1, (f6.I _ _ (by omega)).trans a5, (f6.I _ _ (by omega)).trans a8, (f6.I _ _ (by omega)).trans a9, (f6.I _ _ (by omega)).trans a10, ?_⟩, (f6.J _ _ (by omega)).trans a7, fun b p hp => (f6.I _ _ (by omega)).trans (b3 b p hp), fun q p hp => ?_⟩, (N4.fr f5 (fun k j z => by omega)).fr f6 (fun k j z => by omega), (W4.fr f5 (fun k j z => by omega)).fr f6 (fun k j z => by omega), (U4.fr f5 (fun j => by omega)).fr f6 (fun j => by omega)⟩ ((ff4.tr (f5.mono (fun k j z => SRy.s12 he z))).tr (f6.mono (fun k j z => SRy.ee he z)))
    · rw [hI_tI, if_pos ⟨rfl, rfl⟩]
      show _ = nI (ttF s ++ [(vI By n (i + 1), vI By n (i + 2))]).length
      rw [ll]
    · have hp' : (ttF s ++ [(vI By n (i + 1), vI By n (i + 2))])[q]? = some p := hp
      rw [f6.I _ _ (by omega), f6.I _ _ (by omega)]
      by_cases hq : q < (ttF s).length
      · rw [List.getElem?_append_left hq] at hp'
        exact b4 q p hp'
      · have hq2 := lt_of_get hp'
        rw [ll] at hq2
        have eq : q = (ttF s).length := by omega
        subst eq
        rw [List.getElem?_append_right (Nat.le_refl _), Nat.sub_self] at hp'
        cases hp'
        rw [f5.I _ _ (by omega), f5.I _ _ (by omega)]
        exact ⟨w1, w2⟩
  · rw [q5, e5, bind_s]
    dsimp only
    rw [qI_e, bind_s]
    have f6 : Fr (fun k j => k = e ∧ j = 11) m5 (tI m5 e 11 (hI m5 e 11 + 1)) := Fr.rf.tI _ ⟨rfl, rfl⟩
    exact IX.no rfl (r5.ee he f6) (((ff4.mono (fun k j z => z.x)).tr f5).tr (f6.mono (fun k j z => (SRy.ee he z).x)))
theorem x_fog {i : Nat} {C : List Op} {s : IS} (he : tx e) (hX : XRd m e By n i C) (hO : XO m e By n s) (hF : (ttF s).length < 4) : IX m e By n C (F_X4_readFog e m) (sqR (sqk (tk By n) [20, 3, 3, 4] i) (iFog (vI By n) i s)) := by
  have he' := he
  unfold tx at he'
  unfold F_X4_readFog
  rw [show hI m e 11 = nI (ttF s).length from hO.1.1.2.2.2.2.2.2, if_pos (show nI (ttF s).length < 4 from nI_lt (b := 4) hF (by omega)), show (20 : Int32) = nI 20 from rfl, lit_3, lit_5]
  rcases x_tk he hX (w := 20) (by omega) (by omega) with ⟨m1, e1, r1, f1, k1, h1⟩ | ⟨m1, f, e1, r1, f1, q1⟩
  · rw [sqk_y k1 h1, e1, bind_s]
    dsimp only
    have O1 := hO.s12 he f1
    rcases x_tk he r1 (w := 3) (by omega) (by omega) with ⟨m2, e2, r2, f2, k2, h2⟩ | ⟨m2, f, e2, r2, f2, q2⟩
    · rw [sqk_y k2 h2, e2, bind_s]
      dsimp only
      obtain ⟨F2, N2, W2, U2⟩ := O1.s12 he f2
      have hv := vI_lt k2
      rw [if_neg (by decide), x_taken r2 k2, bind_s]
      dsimp only
      rw [lN_i, show hI m2 e 11 = nI (ttF s).length from F2.1.2.2.2.2.2.2, bI_n _ (e + 4) _ hF (by omega), bind_s]
      have f3 : Fr (fun k j => k = e + 4 ∧ j = (ttF s).length) m2 (tI m2 (e + 4) (ttF s).length (nI (vI By n (i + 1)))) := Fr.rf.tI _ ⟨rfl, rfl⟩
      have w3 : hI (tI m2 (e + 4) (ttF s).length (nI (vI By n (i + 1)))) (e + 4) (ttF s).length = nI (vI By n (i + 1)) := by rw [hI_tI, if_pos ⟨rfl, rfl⟩]
      have X3 : XF (tI m2 (e + 4) (ttF s).length (nI (vI By n (i + 1)))) e s := by
        obtain ⟨⟨a0, a1, a5, a8, a9, a10, a11⟩, a7, b3, b4⟩ := F2
        refine ⟨⟨(f3.I _ _ (by omega)).trans a0, (f3.I _ _ (by omega)).trans a1, (f3.I _ _ (by omega)).trans a5, (f3.I _ _ (by omega)).trans a8, (f3.I _ _ (by omega)).trans a9, (f3.I _ _ (by omega)).trans a10, (f3.I _ _ (by omega)).trans a11⟩, (f3.J _ _ (by omega)).trans a7, fun b p hp => (f3.I _ _ (by omega)).trans (b3 b p hp), fun q p hp => ?_⟩
        have := lt_of_get hp
        exact ⟨(f3.I _ _ (by omega)).trans (b4 q p hp).1, (f3.I _ _ (by omega)).trans (b4 q p hp).2⟩
      generalize tI m2 (e + 4) (ttF s).length (nI (vI By n (i + 1))) = m3 at f3 w3 X3 ⊢
      have r3 := r2.fr f3 (fun k j z => by omega)
      have ff3 : Fr (SRy e) m m3 := ((f1.mono (fun k j z => SRy.s12 he z)).tr (f2.mono (fun k j z => SRy.s12 he z))).tr (f3.mono (fun k j z => by omega))
      have N3 := N2.fr f3 (fun k j z => by omega)
      have W3 := W2.fr f3 (fun k j z => by omega)
      have U3 := U2.fr f3 (fun j => by omega)
      rw [x_taken r3 k2, bind_s]
      dsimp only
      have next : ∀ m4 : M2, Fr (fun k j => k = 14 ∧ (j = 6 ∨ j = 7)) m3 m4 → XW m4 By n (slp (ttW s) (decide (999 < vI By n (i + 1))) 5 (i + 1)) → IX m e By n C (f_X4_readFog_68 e m4) (sqR (sqk (tk By n) [3, 4] (i + 1 + 1)) (iFog (vI By n) i s)) := by
        intro m4 f4 w4
        have r4 := r3.fr f4 (fun k j z => by omega)
        have ff4 : Fr (SRy e) m m4 := ff3.tr (f4.mono (fun k j z => by omega))
        unfold f_X4_readFog_68
        rw [lit_3]
        rcases x_tk he r4 (w := 3) (by omega) (by omega) with ⟨m5, e5, r5, f5, k5, h5⟩ | ⟨m5, f, e5, r5, f5, q5⟩
        · rw [sqk_y k5 h5, e5, bind_s]
          dsimp only
          have hv5 := vI_lt k5
          have f35 : Fr (fun k j => k = 14 ∧ (j = 1 ∨ j = 2 ∨ j = 6 ∨ j = 7)) m3 m5 := (f4.mono (fun k j z => by omega)).tr (f5.mono (fun k j z => by omega))
          have F5 := X3.fr f35 (fun k j z => by omega)
          rw [if_neg (by decide), x_taken r5 k5, bind_s]
          dsimp only
          rw [lN_i, show hI m5 e 11 = nI (ttF s).length from F5.1.2.2.2.2.2.2, bI_n _ (e + 5) _ hF (by omega), bind_s]
          have f6 : Fr (fun k j => k = e + 5 ∧ j = (ttF s).length) m5 (tI m5 (e + 5) (ttF s).length (nI (vI By n (i + 1 + 1)))) := Fr.rf.tI _ ⟨rfl, rfl⟩
          have w6 : hI (tI m5 (e + 5) (ttF s).length (nI (vI By n (i + 1 + 1)))) (e + 5) (ttF s).length = nI (vI By n (i + 1 + 1)) := by rw [hI_tI, if_pos ⟨rfl, rfl⟩]
          have X6 : XF (tI m5 (e + 5) (ttF s).length (nI (vI By n (i + 1 + 1)))) e s := by
            obtain ⟨⟨a0, a1, a5, a8, a9, a10, a11⟩, a7, b3, b4⟩ := F5
            refine ⟨⟨(f6.I _ _ (by omega)).trans a0, (f6.I _ _ (by omega)).trans a1, (f6.I _ _ (by omega)).trans a5, (f6.I _ _ (by omega)).trans a8, (f6.I _ _ (by omega)).trans a9, (f6.I _ _ (by omega)).trans a10, (f6.I _ _ (by omega)).trans a11⟩, (f6.J _ _ (by omega)).trans a7, fun b p hp => (f6.I _ _ (by omega)).trans (b3 b p hp), fun q p hp => ?_⟩
            have := lt_of_get hp
            exact ⟨(f6.I _ _ (by omega)).trans (b4 q p hp).1, (f6.I _ _ (by omega)).trans (b4 q p hp).2⟩
          generalize tI m5 (e + 5) (ttF s).length (nI (vI By n (i + 1 + 1))) = m6 at f6 w6 X6 ⊢
          have r6 := r5.fr f6 (fun k j z => by omega)
          have ff6 : Fr (SRy e) m m6 := (ff4.tr (f5.mono (fun k j z => SRy.s12 he z))).tr (f6.mono (fun k j z => by omega))
          have w36 : hI m6 (e + 4) (ttF s).length = nI (vI By n (i + 1)) := by rw [f6.I _ _ (by omega), f35.I _ _ (by omega)]; exact w3
          have W6 : XW m6 By n (slp (ttW s) (decide (999 < vI By n (i + 1))) 5 (i + 1)) := (w4.fr f5 (fun k j z => by omega)).fr f6 (fun k j z => by omega)
          have N6 := (N3.fr f35 (fun k j z => by omega)).fr f6 (fun k j z => by omega)
          have U6 := (U3.fr f35 (fun j => by omega)).fr f6 (fun j => by omega)
          rw [x_taken r6 k5, bind_s]
          dsimp only
          have bad : 999 < vI By n (i + 2) ∨ vI By n (i + 2) < vI By n (i + 1) → IX m e By n C (f_X4_readFog_131 e m6) (sqR (sqk (tk By n) [4] (i + 1 + 1 + 1)) (iFog (vI By n) i s)) := by
            intro hb
            unfold f_X4_readFog_131
            obtain ⟨m7, e7, w7, f7⟩ := xf_slip (k := 5) r6 W6 (by omega)
            rw [lit_5, e7, bind_s]
            refine x_fog136 he hF (r6.fr f7 (fun k j z => by omega)) (X6.fr f7 (fun k j z => by omega)) ((f7.I _ _ (by omega)).trans w36) ((f7.I _ _ (by omega)).trans w6) (N6.fr f7 (fun k j z => by omega)) ?_ (U6.fr f7 (fun j => by omega)) (ff6.tr (f7.mono (fun k j z => by omega)))
            show XW m7 By n (slp (slp (ttW s) (decide (999 < vI By n (i + 1))) 5 (i + 1)) (decide (999 < vI By n (i + 2) ∨ vI By n (i + 2) < vI By n (i + 1))) 5 (i + 2))
            rw [decide_eq_true hb]
            exact w7
          by_cases c1 : 999 < vI By n (i + 2)
          · rw [if_pos (show 0 < lg_cmp (lN (vI By n (i + 1 + 1))) 999 from (lg_cmp_gt _ _).mpr ((lN_lt (a := 999) (by omega) (by omega)).mpr c1))]
            exact bad (Or.inl c1)
          · rw [if_neg (show ¬ 0 < lg_cmp (lN (vI By n (i + 1 + 1))) 999 from fun z => c1 ((lN_lt (a := 999) (by omega) (by omega)).mp ((lg_cmp_gt _ _).mp z))), x_taken r6 k5, bind_s]
            dsimp only
            rw [show hI m6 e 11 = nI (ttF s).length from X6.1.2.2.2.2.2.2, aI_n _ (e + 4) hF (by omega), bind_s, w36, nI_l (by omega)]
            by_cases c2 : vI By n (i + 1) ≤ vI By n (i + 2)
            · rw [if_pos (show 0 ≤ lg_cmp (lN (vI By n (i + 1 + 1))) (lN (vI By n (i + 1))) from (lg_cmp_ge _ _).mpr ((lN_le (by omega) (by omega)).mpr c2))]
              refine x_fog136 he hF r6 X6 w36 w6 N6 ?_ U6 ff6
              show XW m6 By n (slp (slp (ttW s) (decide (999 < vI By n (i + 1))) 5 (i + 1)) (decide (999 < vI By n (i + 2) ∨ vI By n (i + 2) < vI By n (i + 1))) 5 (i + 2))
              rw [decide_eq_false (p := 999 < vI By n (i + 2) ∨ vI By n (i + 2) < vI By n (i + 1)) (by omega), slp_f]
              exact W6
            · rw [if_neg (show ¬ 0 ≤ lg_cmp (lN (vI By n (i + 1 + 1))) (lN (vI By n (i + 1))) from fun z => c2 ((lN_le (by omega) (by omega)).mp ((lg_cmp_ge _ _).mp z)))]
              exact bad (Or.inr (by omega))
        · rw [q5, e5, bind_s]
          dsimp only
          rw [if_pos rfl]
          obtain ⟨m6, e6, r6, f6⟩ := xf_136 he r5
          exact IX.no e6 r6 (((ff4.mono (fun k j z => z.x)).tr f5).tr f6)
      by_cases c1 : vI By n (i + 1) ≤ 999
      · rw [if_pos (show lg_cmp (lN (vI By n (i + 1))) 999 ≤ 0 from (lg_cmp_le _ _).mpr ((lN_le (b := 999) (by omega) (by omega)).mpr c1))]
        refine next m3 Fr.rf ?_
        rw [decide_eq_false (by omega), slp_f]
        exact W3
      · rw [if_neg (show ¬ lg_cmp (lN (vI By n (i + 1))) 999 ≤ 0 from fun z => c1 ((lN_le (b := 999) (by omega) (by omega)).mp ((lg_cmp_le _ _).mp z)))]
        obtain ⟨m4, e4, w4, f4⟩ := xf_slip (k := 5) r3 W3 (by omega)
        rw [e4, bind_s]
        refine next m4 f4 ?_
        rw [decide_eq_true (by omega)]
        exact w4
    · rw [q2, e2, bind_s]
      dsimp only
      rw [if_pos rfl]
      unfold f_X4_readFog_68
      rw [xf_take r2.ne, bind_s]
      dsimp only
      rw [if_pos rfl]
      obtain ⟨m6, e6, r6, f6⟩ := xf_136 he r2
      exact IX.no e6 r6 (((f1.mono (fun k j z => (SRy.s12 he z).x)).tr f2).tr f6)
  · rw [q1, e1, bind_s]
    dsimp only
    rw [xf_take r1.ne, bind_s]
    dsimp only
    rw [if_pos rfl]
    unfold f_X4_readFog_68
    rw [xf_take r1.ne, bind_s]
    dsimp only
    rw [if_pos rfl]
    obtain ⟨m6, e6, r6, f6⟩ := xf_136 he r1
    exact IX.no e6 r6 (f1.tr f6)
/-! men -/
theorem and31 {v : Nat} (h : v < 2 ^ 31) : nI v &&& (31 : Int32) = nI (v % 32) := by
  rw [pk_and _ 5 rfl]
  congr 1
  show (BitVec.ofNat 32 v).toNat % 2 ^ 5 = _
  rw [BitVec.toNat_ofNat]
  omega
theorem x_withTime2 {τ b v : Nat} (hτ : τ < 2 ^ 60) (hb : b < 12) (hv : v < 2 ^ 31) : F_X11_withTime (lN τ) (nI b) (nI v) m = some (lN (sd τ b (v % 32)), m) := by
  rw [← x_withTime hτ hb (Nat.mod_lt v (by omega))]
  unfold F_X11_withTime
  rw [and31 hv, and31 (show v % 32 < 2 ^ 31 by omega), Nat.mod_mod]
theorem xf_m134 (he : tx e) {f t : Nat} (h : XFt m By n f t) : ∃ m', f_X4_readMan_134 e m = some m' ∧ XFt m' By n f t ∧ Fr (SRx e) m m' := by
  unfold f_X4_readMan_134
  rw [xf_take h.ne, bind_s]
  dsimp only
  rw [qI_e, bind_s]
  have f1 : Fr (fun k j => k = e ∧ j = 5) m (tI m e 5 (hI m e 5 + 1)) := Fr.rf.tI _ ⟨rfl, rfl⟩
  exact ⟨_, rfl, h.ee he f1, f1.mono (fun k j z => (SRy.ee he z).x)⟩
theorem xf_m93 (he : tx e) {f t : Nat} (h : XFt m By n f t) : ∃ m', f_X4_readMan_93 e m = some m' ∧ XFt m' By n f t ∧ Fr (SRx e) m m' := by
  unfold f_X4_readMan_93
  rw [xf_take h.ne, bind_s]
  dsimp only
  rw [if_pos rfl]
  exact xf_m134 he h
theorem xf_m38 (he : tx e) {f t : Nat} (h : XFt m By n f t) : ∃ m', f_X4_readMan_38 e m = some m' ∧ XFt m' By n f t ∧ Fr (SRx e) m m' := by
  unfold f_X4_readMan_38
  rw [xf_take h.ne, bind_s]
  dsimp only
  rw [if_pos rfl]
  exact xf_m93 he h
theorem tmN_lt (M : List (Int32 × Nat)) (b : Nat) : tmN M b < 32 := Nat.mod_lt _ (by omega)
theorem pk_man {M : List (Int32 × Nat)} {p : Int32 × Nat} : pk (tmN (M ++ [p])) (M.length + 1) = sd (pk (tmN M) M.length) M.length (p.2 % 32) := by
  rw [sd_top (fun b _ => tmN_lt M b)]
  show pk (tmN (M ++ [p])) M.length + tmN (M ++ [p]) M.length * 32 ^ M.length = _
  have e1 : pk (tmN (M ++ [p])) M.length = pk (tmN M) M.length := pk_congr (fun b hb => by
    unfold tmN
    rw [List.getD_eq_getElem?_getD, List.getD_eq_getElem?_getD, List.getElem?_append_left hb])
  have e2 : tmN (M ++ [p]) M.length = p.2 % 32 := by
    unfold tmN
    rw [List.getD_eq_getElem?_getD, List.getElem?_append_right (Nat.le_refl _), Nat.sub_self]
    rfl
  rw [e1, e2]
theorem x_man {i : Nat} {C : List Op} {s : IS} (he : tx e) (hn : n ≤ 2000) (hX : XRd m e By n i C) (hO : XO m e By n s) (hM : (ttM s).length < 12) (hN : (ttN s).length < 18) : IX m e By n C (F_X4_readMan e m) (sqR (sqk (tk By n) [19, 2, 2, 3, 4] i) (iMan (vI By n) (v5 By n) i s)) := by
  have he' := he
  unfold tx at he'
  unfold F_X4_readMan
  rw [show hI m e 5 = nI (ttM s).length from hO.1.1.2.2.1, if_pos (show nI (ttM s).length < 12 from nI_lt (b := 12) hM (by omega)), show (19 : Int32) = nI 19 from rfl, lit_2]
  rcases x_tk he hX (w := 19) (by omega) (by omega) with ⟨m1, e1, r1, f1, k1, h1⟩ | ⟨m1, f, e1, r1, f1, q1⟩
  · rw [sqk_y k1 h1, e1, bind_s]
    dsimp only
    have O1 := hO.s12 he f1
    rcases x_tk he r1 (w := 2) (by omega) (by omega) with ⟨m2, e2, r2, f2, k2, h2⟩ | ⟨m2, f, e2, r2, f2, q2⟩
    · rw [sqk_y k2 h2, e2, bind_s]
      dsimp only
      obtain ⟨F2, N2, W2, U2⟩ := O1.s12 he f2
      rw [if_neg (by decide)]
      obtain ⟨m3, e3, N3, W3, f3⟩ := x_noteName (law := -1) he r2 k2 N2 W2 hN
      rw [e3, bind_s]
      have r3 := r2.fr f3 (fun k j z => by omega)
      have F3 := F2.fr f3 (fun k j z => by omega)
      have U3 := U2.fr f3 (fun j => by omega)
      have ff3 : Fr (SRy e) m m3 := ((f1.mono (fun k j z => SRy.s12 he z)).tr (f2.mono (fun k j z => SRy.s12 he z))).tr (f3.mono (fun k j z => by omega))
      unfold f_X4_readMan_38
      rw [lit_2]
      rcases x_tk he r3 (w := 2) (by omega) (by omega) with ⟨m4, e4, r4, f4, k4, h4⟩ | ⟨m4, f, e4, r4, f4, q4⟩
      · rw [sqk_y k4 h4, e4, bind_s]
        dsimp only
        have F4 := F3.fr f4 (fun k j z => by omega)
        have N4 := N3.fr f4 (fun k j z => by omega)
        have ln : (ttN s ++ [(i + 1, (-1 : Int32))]).length ≤ 18 := by rw [List.length_append, List.length_singleton]; omega
        rw [if_neg (by decide), x_takenN r4 k4, bind_s]
        dsimp only
        rw [x_lawNamed k4 N4 ln, bind_s]
        dsimp only
        rw [lwN_app, show hI m4 e 5 = nI (ttM s).length from F4.1.2.2.1, bI_n _ (e + 3) _ hM (by omega), bind_s]
        generalize hlw : lwN (v5 By n) (i + 1 + 1) (ttN s) = lw
        have f5 : Fr (fun k j => k = e + 3 ∧ j = (ttM s).length) m4 (tI m4 (e + 3) (ttM s).length lw) := Fr.rf.tI _ ⟨rfl, rfl⟩
        have w5 : hI (tI m4 (e + 3) (ttM s).length lw) (e + 3) (ttM s).length = lw := by rw [hI_tI, if_pos ⟨rfl, rfl⟩]
        have F5 : XF (tI m4 (e + 3) (ttM s).length lw) e s := by
          obtain ⟨⟨a0, a1, a5, a8, a9, a10, a11⟩, a7, b3, b4⟩ := F4
          refine ⟨⟨(f5.I _ _ (by omega)).trans a0, (f5.I _ _ (by omega)).trans a1, (f5.I _ _ (by omega)).trans a5, (f5.I _ _ (by omega)).trans a8, (f5.I _ _ (by omega)).trans a9, (f5.I _ _ (by omega)).trans a10, (f5.I _ _ (by omega)).trans a11⟩, (f5.J _ _ (by omega)).trans a7, fun q p hp => ?_, fun q p hp => ⟨(f5.I _ _ (by omega)).trans (b4 q p hp).1, (f5.I _ _ (by omega)).trans (b4 q p hp).2⟩⟩
          have := lt_of_get hp
          exact (f5.I _ _ (by omega)).trans (b3 q p hp)
        generalize tI m4 (e + 3) (ttM s).length lw = m5 at f5 w5 F5 ⊢
        have r5 := r4.fr f5 (fun k j z => by omega)
        have N5 := N4.fr f5 (fun k j z => by omega)
        have W5 := (W3.fr f4 (fun k j z => by omega)).fr f5 (fun k j z => by omega)
        have U5 := (U3.fr f4 (fun j => by omega)).fr f5 (fun j => by omega)
        have ff5 : Fr (SRy e) m m5 := (ff3.tr (f4.mono (fun k j z => SRy.s12 he z))).tr (f5.mono (fun k j z => by omega))
        rw [show hI m5 e 5 = nI (ttM s).length from F5.1.2.2.1, aI_n _ (e + 3) hM (by omega), bind_s, w5]
        have next : ∀ m6 : M2, Fr (fun k j => k = 14 ∧ (j = 6 ∨ j = 7)) m5 m6 → XW m6 By n (slp (slp (ttW s) (twc (v5 By n) (i + 1) (ttN s)) 3 (i + 1)) (decide (lw = -1)) 4 (i + 2)) → IX m e By n C (f_X4_readMan_93 e m6) (sqR (sqk (tk By n) [3, 4] (i + 1 + 1 + 1)) (iMan (vI By n) (v5 By n) i s)) := by
          intro m6 f6 w6
          have r6 := r5.fr f6 (fun k j z => by omega)
          have ff6 : Fr (SRy e) m m6 := ff5.tr (f6.mono (fun k j z => by omega))
          unfold f_X4_readMan_93
          rw [lit_3]
          rcases x_tk he r6 (w := 3) (by omega) (by omega) with ⟨m7, e7, r7, f7, k7, h7⟩ | ⟨m7, f, e7, r7, f7, q7⟩
          · rw [sqk_y k7 h7, e7, bind_s]
            dsimp only
            have hv := vI_lt k7
            have hv' : vI By n (i + 3) < 10000 := hv
            have f57 : Fr (fun k j => k = 14 ∧ (j = 1 ∨ j = 2 ∨ j = 6 ∨ j = 7)) m5 m7 := (f6.mono (fun k j z => by omega)).tr (f7.mono (fun k j z => by omega))
            obtain ⟨m8, e8, U8, f8⟩ := x_noteBeyond r7 k7 hn (U5.fr f57 (fun j => by omega))
            have r8 := r7.fr f8 (fun k j z => by omega)
            have f58 : Fr (fun k j => (k = 14 ∧ (j = 1 ∨ j = 2 ∨ j = 6 ∨ j = 7)) ∨ k = 15) m5 m8 := (f57.mono (fun k j z => Or.inl z)).tr (f8.mono (fun k j z => Or.inr z))
            have F8 := F5.fr f58 (fun k j z => by omega)
            rw [if_neg (by decide), e8, bind_s, x_taken r8 k7, bind_s]
            dsimp only
            rw [lN_i, F8.2.1, show hI m8 e 5 = nI (ttM s).length from F8.1.2.2.1, x_withTime2 (p60n (by omega) (fun b _ => tmN_lt _ b)) hM (by omega), bind_s]
            dsimp only
            rw [qJ_e, bind_s]
            have pm := pk_man (M := ttM s) (p := (lw, vI By n (i + 3)))
            rw [← pm]
            have f9 : Fr (fun k j => k = e ∧ j = 7) m8 (tJ m8 e 7 (lN (pk (tmN (ttM s ++ [(lw, vI By n (i + 3))])) ((ttM s).length + 1)))) := Fr.rf.tJ _ ⟨rfl, rfl⟩
            have w9 : hJ (tJ m8 e 7 (lN (pk (tmN (ttM s ++ [(lw, vI By n (i + 3))])) ((ttM s).length + 1)))) e 7 = lN (pk (tmN (ttM s ++ [(lw, vI By n (i + 3))])) ((ttM s).length + 1)) := by rw [hJ_tJ, if_pos ⟨rfl, rfl⟩]
            generalize tJ m8 e 7 (lN (pk (tmN (ttM s ++ [(lw, vI By n (i + 3))])) ((ttM s).length + 1))) = m9 at f9 w9 ⊢
            have r9 := r8.ee he (by omega) f9
            have ff9 : Fr (SRy e) m m9 := ((ff6.tr (f7.mono (fun k j z => SRy.s12 he z))).tr (f8.mono (fun k j z => by omega))).tr (f9.mono (fun k j z => SRy.ee he z))
            have w9l : hI m9 (e + 3) (ttM s).length = lw := by rw [f9.I _ _ (by omega), f58.I _ _ (by omega)]; exact w5
            unfold f_X4_readMan_134
            rw [lit_4]
            rcases x_tk he r9 (w := 4) (by omega) (by omega) with ⟨ma, ea, ra, fa, ka, ha⟩ | ⟨ma, f, ea, ra, fa, qa⟩
            · rw [sqk_y ka ha, ea, bind_s]
              dsimp only
              have f8a : Fr (fun k j => (k = e ∧ j = 7) ∨ S12 k j) m8 ma := (f9.mono (fun k j z => Or.inl z)).tr (fa.mono (fun k j z => Or.inr z))
              obtain ⟨⟨a0, a1, a5, a8, a9, a10, a11⟩, a7, b3, b4⟩ := F8
              rw [show hI ma e 5 = nI (ttM s).length from (f8a.I _ _ (by omega)).trans a5, nI_1, qI_e, bind_s]
              have fb : Fr (fun k j => k = e ∧ j = 5) ma (tI ma e 5 (nI ((ttM s).length + 1))) := Fr.rf.tI _ ⟨rfl, rfl⟩
              have wb : hI (tI ma e 5 (nI ((ttM s).length + 1))) e 5 = nI ((ttM s).length + 1) := by rw [hI_tI, if_pos ⟨rfl, rfl⟩]
              generalize tI ma e 5 (nI ((ttM s).length + 1)) = mb at fb wb ⊢
              have I : ∀ k j, ¬ (k = e ∧ (j = 5 ∨ j = 7)) → ¬ k = 14 → hI mb k j = hI m8 k j := fun k j z1 z2 => (fb.I _ _ (by omega)).trans (f8a.I _ _ (by omega))
              have ll : (ttM s ++ [(lw, vI By n (i + 3))]).length = (ttM s).length + 1 := by rw [List.length_append, List.length_singleton]
              have eM : ttM (iMan (vI By n) (v5 By n) i s) = ttM s ++ [(lw, vI By n (i + 3))] := by
                show ttM s ++ [(lwN (v5 By n) (i + 2) (ttN s), vI By n (i + 3))] = _
                rw [show lwN (v5 By n) (i + 2) (ttN s) = lw from hlw]
              have w6' : XW mb By n (ttW (iMan (vI By n) (v5 By n) i s)) := by
                show XW mb By n (slp (slp (ttW s) (twc (v5 By n) (i + 1) (ttN s)) 3 (i + 1)) (decide (lwN (v5 By n) (i + 2) (ttN s) = -1)) 4 (i + 2))
                rw [show lwN (v5 By n) (i + 2) (ttN s) = lw from hlw]
                exact (((w6.fr f7 (fun k j z => by omega)).fr f8 (fun k j z => by omega)).fr f8a (fun k j z => by omega)).fr fb (fun k j z => by omega)
              refine IX.ok rfl (ra.ee he (by omega) fb) ⟨⟨⟨(I _ _ (by omega) (by omega)).trans a0, (I _ _ (by omega) (by omega)).trans a1, by rw [eM, ll]; exact wb, (I _ _ (by omega) (by omega)).trans a8, (I _ _ (by omega) (by omega)).trans a9, (I _ _ (by omega) (by omega)).trans a10, (I _ _ (by omega) (by omega)).trans a11⟩, ?_, fun q p hp => ?_, fun q p hp => ⟨(I _ _ (by omega) (by omega)).trans (b4 q p hp).1, (I _ _ (by omega) (by omega)).trans (b4 q p hp).2⟩⟩, (((N5.fr f58 (fun k j z => by omega)).fr f8a (fun k j z => by omega)).fr fb (fun k j z => by omega)), w6', (U8.fr f8a (fun j => by omega)).fr fb (fun j => by omega)⟩ ((ff9.tr (fa.mono (fun k j z => SRy.s12 he z))).tr (fb.mono (fun k j z => SRy.ee he z)))
              · rw [fb.J _ _ (by omega), fa.J _ _ (by omega), w9, eM, ll]
              · rw [eM] at hp
                by_cases hq : q < (ttM s).length
                · rw [List.getElem?_append_left hq] at hp
                  exact (I _ _ (by omega) (by omega)).trans (b3 q p hp)
                · have hq2 := lt_of_get hp
                  rw [ll] at hq2
                  have eq : q = (ttM s).length := by omega
                  subst eq
                  rw [List.getElem?_append_right (Nat.le_refl _), Nat.sub_self] at hp
                  cases hp
                  rw [fb.I _ _ (by omega), fa.I _ _ (by omega)]
                  exact w9l
            · rw [qa, ea, bind_s]
              dsimp only
              rw [qI_e, bind_s]
              have fb : Fr (fun k j => k = e ∧ j = 5) ma (tI ma e 5 (hI ma e 5 + 1)) := Fr.rf.tI _ ⟨rfl, rfl⟩
              exact IX.no rfl (ra.ee he fb) (((ff9.mono (fun k j z => z.x)).tr fa).tr (fb.mono (fun k j z => (SRy.ee he z).x)))
          · rw [q7, e7, bind_s]
            dsimp only
            rw [if_pos rfl]
            obtain ⟨m8, e8, r8, f8⟩ := xf_m134 he r7
            exact IX.no e8 r8 (((ff6.mono (fun k j z => z.x)).tr f7).tr f8)
        by_cases hl1 : lw = -1
        · obtain ⟨m6, e6, w6, f6⟩ := xf_slip (k := 4) r5 W5 (by omega)
          rw [if_pos hl1, lit_4, e6, bind_s]
          refine next m6 f6 ?_
          rw [decide_eq_true hl1]
          exact w6
        · rw [if_neg hl1]
          refine next m5 Fr.rf ?_
          rw [decide_eq_false hl1, slp_f]
          exact W5
      · rw [q4, e4, bind_s]
        dsimp only
        rw [if_pos rfl]
        obtain ⟨m8, e8, r8, f8⟩ := xf_m93 he r4
        exact IX.no e8 r8 (((ff3.mono (fun k j z => z.x)).tr f4).tr f8)
    · rw [q2, e2, bind_s]
      dsimp only
      rw [if_pos rfl]
      obtain ⟨m8, e8, r8, f8⟩ := xf_m38 he r2
      exact IX.no e8 r8 (((f1.mono (fun k j z => (SRy.s12 he z).x)).tr f2).tr f8)
  · rw [q1, e1, bind_s]
    dsimp only
    rw [xf_take r1.ne, bind_s]
    dsimp only
    rw [if_pos rfl]
    obtain ⟨m8, e8, r8, f8⟩ := xf_m38 he r1
    exact IX.no e8 r8 (f1.tr f8)
end KC
