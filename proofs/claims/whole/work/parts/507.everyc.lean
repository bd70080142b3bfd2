/-! ===== every, its contract ===== -/
def PH (T : List Dsc) (R : RM) (a : Nat) : Prop := (a = 0 ∧ T = T0 ∧ R 38 1 = none ∧ R 38 2 = none ∧ RI R) ∨ (a = 1 ∧ T = TBB ∧ GeoB T R ∧ ∀ k j r, R k j = some r → r < 122)
def gE (a : Nat) (m : M2) : M2 := if a = 0 then zA m else m
theorem gE_fr (a : Nat) (m : M2) : Fr (fun k _ => k = 120 ∨ k = 121) m (gE a m) := by
  unfold gE
  split
  · exact zA_fr m
  · exact Fr.rf
def evC (c : Nat) (x1 x2 x3 : Int32) (m : M2) : Prop := ¬ x1 < 0 ∧ ¬ hI m c 1 ≤ x1 ∧ ¬ x2 < 1 ∧ ¬ (4 : Int32) < x2 ∧ ¬ x3 < 0 ∧ x3 ≤ (2 : Int32)
theorem F_every_no {g : M2 → M2} {c : Nat} {x1 x2 x3 : Int32} {m : M2} (h : ¬ evC c x1 x2 x3 m) : F_every g c x1 x2 x3 m = some (-1, m) := by
  unfold F_every f_every_34
  by_cases h1 : x1 < 0
  · rw [if_pos h1]
  · rw [if_neg h1]
    by_cases h2 : hI m c 1 ≤ x1
    · rw [if_pos h2]
    · rw [if_neg h2]
      by_cases h3 : x2 < 1
      · rw [if_pos h3]
      · rw [if_neg h3]
        by_cases h4 : (4 : Int32) < x2
        · rw [if_pos h4]
        · rw [if_neg h4]
          by_cases h5 : x3 < 0
          · rw [if_pos h5]
          · rw [if_neg h5]
            by_cases h6 : x3 ≤ (2 : Int32)
            · exact absurd ⟨h1, h2, h3, h4, h5, h6⟩ h
            · rw [if_neg h6]
theorem F_every_yes {g : M2 → M2} {c : Nat} {x1 x2 x3 : Int32} {m : M2} (h : evC c x1 x2 x3 m) : F_every g c x1 x2 x3 m = (F_X0_howMany c x2 m).bind fun r => if (20736 : Int32) < r.1 then some ((-2 : Int32), r.2) else if x3 = (2 : Int32) then some (r.1, r.2) else (f_prove_32 c x1 x2 (hI (g r.2) 28 3) (g r.2)).bind fun m1 => f_every_81 c x3 m1 := by
  obtain ⟨h1, h2, h3, h4, h5, h6⟩ := h
  unfold F_every
  rw [if_neg h1, if_neg h2, if_neg h3, if_neg h4, if_neg h5, if_pos h6]
section WPY
variable {X : CX} {T : List Dsc} {R : RM} {c e : Nat} {x1 x2 x3 : Int32} {m : M2} {n1 n2 : Nat}
theorem w_ev0 (hG : Geo T R c e) (k34 : ¬ evC c x1 x2 x3 m → Wp X cX11_every RX11 5 T (mk m R) n1 n2 34 [(0, .ref 0), (1, .int x1), (2, .int x2), (3, .int x3)] []) (k36 : evC c x1 x2 x3 m → Wp X cX11_every RX11 5 T (mk m R) n1 n2 36 [(0, .ref 0), (1, .int x1), (2, .int x2), (3, .int x3)] []) : Wp X cX11_every RX11 5 T (mk m R) n1 n2 0 [(0, .ref 0), (1, .int x1), (2, .int x2), (3, .int x3)] [] := by
  refine Wp.iload_n (pc := 0) 1 rfl rfl dX11_every_0 ?_
  refine Wp.if_lt (pc := 1) 34 dX11_every_1 (by decide) (fun h => k34 (fun z => z.1 h)) (fun h1 => ?_)
  refine Wp.iload_n (pc := 4) 1 rfl rfl dX11_every_4 ?_
  refine Wp.aload_n (pc := 5) 0 rfl rfl dX11_every_5 ?_
  refine Wp.getR2 (pc := 6) hG.r0 (hG.t 0 rfl) nk_RX11_16 rfl dX11_every_6 ?_
  refine Wp.getI2 (pc := 9) (hG.tt hG.hc) nk_RX11_204 rfl dX11_every_9 ?_
  refine Wp.icmp_ge (pc := 12) 34 dX11_every_12 (by decide) (fun h => k34 (fun z => z.2.1 h)) (fun h2 => ?_)
  refine Wp.iload_n (pc := 15) 2 rfl rfl dX11_every_15 ?_
  refine Wp.iconst (pc := 16) (1 : Int32) (by decide) dX11_every_16 ?_
  refine Wp.icmp_lt (pc := 17) 34 dX11_every_17 (by decide) (fun h => k34 (fun z => z.2.2.1 h)) (fun h3 => ?_)
  refine Wp.iload_n (pc := 20) 2 rfl rfl dX11_every_20 ?_
  refine Wp.iconst (pc := 21) (4 : Int32) (by decide) dX11_every_21 ?_
  refine Wp.icmp_gt (pc := 22) 34 dX11_every_22 (by decide) (fun h => k34 (fun z => z.2.2.2.1 h)) (fun h4 => ?_)
  refine Wp.iload_n (pc := 25) 3 rfl rfl dX11_every_25 ?_
  refine Wp.if_lt (pc := 26) 34 dX11_every_26 (by decide) (fun h => k34 (fun z => z.2.2.2.2.1 h)) (fun h5 => ?_)
  refine Wp.iload_n (pc := 29) 3 rfl rfl dX11_every_29 ?_
  refine Wp.iconst (pc := 30) (2 : Int32) (by decide) dX11_every_30 ?_
  refine Wp.icmp_le (pc := 31) 36 dX11_every_31 (by decide) (fun h6 => k36 ⟨h1, h2, h3, h4, h5, h6⟩) (fun h => k34 (fun z => h z.2.2.2.2.2))
theorem w_ev36 {r : Int32 × M2} (hX : XR X 2 n1 n2) (hG : Geo T R c e) (hf : F_X0_howMany c x2 m = some r) (k54 : (20736 : Int32) < r.1 → Wp X cX11_every RX11 5 T (mk r.2 R) n1 n2 54 [(0, .ref 0), (1, .int x1), (2, .int x2), (3, .int x3), (4, .int r.1)] []) (k62 : ¬ (20736 : Int32) < r.1 → x3 = 2 → Wp X cX11_every RX11 5 T (mk r.2 R) n1 n2 62 [(0, .ref 0), (1, .int x1), (2, .int x2), (3, .int x3), (4, .int r.1)] []) (k65 : ¬ (20736 : Int32) < r.1 → ¬ x3 = 2 → Wp X cX11_every RX11 5 T (mk r.2 R) n1 n2 65 [(0, .ref 0), (1, .int x1), (2, .int x2), (3, .int x3), (4, .int r.1)] []) : Wp X cX11_every RX11 5 T (mk m R) n1 n2 36 [(0, .ref 0), (1, .int x1), (2, .int x2), (3, .int x3)] [] := by
  refine Wp.aload_n (pc := 36) 0 rfl rfl dX11_every_36 ?_
  refine Wp.getR2 (pc := 37) (hG.r 0 10 rfl) (hG.t 0 rfl) nk_RX11_71 rfl dX11_every_37 ?_
  refine Wp.iload_n (pc := 40) 2 rfl rfl dX11_every_40 ?_
  refine Wp.callVi (pc := 41) (st := []) (as := [.int x2]) (c_X0_howMany hG hf) nml_RX11_227 nmv_X0_howMany nmb_X0_howMany hX (by decide) (by decide) rfl (hG.t 38 rfl) rfl (by decide) dX11_every_41 rfl ?_
  refine Wp.istore (pc := 44) (lo' := [(0, .ref 0), (1, .int x1), (2, .int x2), (3, .int x3), (4, .int r.1)]) [1, 2, 3, 4, 0] rfl (by decide) dX11_every_44 ?_
  refine Wp.iload (pc := 46) 4 rfl dX11_every_46 ?_
  refine Wp.sipush (pc := 48) (20736 : Int32) (by decide) dX11_every_48 ?_
  refine Wp.icmp_le (pc := 51) 57 dX11_every_51 (by decide) (fun h => ?_) (fun h => k54 (Int32.not_le.mp h))
  have h' : ¬ (20736 : Int32) < r.1 := Int32.not_lt.mpr h
  refine Wp.iload_n (pc := 57) 3 rfl rfl dX11_every_57 ?_
  refine Wp.iconst (pc := 58) (2 : Int32) (by decide) dX11_every_58 ?_
  exact Wp.icmp_ne (pc := 59) 65 dX11_every_59 (by decide) (fun h2 => k65 h' h2) (fun h2 => k62 h' h2)
theorem w_ev65 {y : Int32} (hG : Geo T R c e) (k78 : Wp X cX11_every RX11 5 T (mk m R) n1 n2 78 [(0, .ref 0), (3, .int x3)] [.int (hI m 28 3), .int x2, .int x1, .ref 38]) : Wp X cX11_every RX11 5 T (mk m R) n1 n2 65 [(0, .ref 0), (1, .int x1), (2, .int x2), (3, .int x3), (4, .int y)] [] := by
  refine Wp.aload_n (pc := 65) 0 rfl rfl dX11_every_65 ?_
  refine Wp.getR2 (pc := 66) (hG.r 0 10 rfl) (hG.t 0 rfl) nk_RX11_71 rfl dX11_every_66 ?_
  refine Wp.iload_n (pc := 69) 1 rfl rfl dX11_every_69 ?_
  refine Wp.iload_n (pc := 70) 2 rfl rfl dX11_every_70 ?_
  refine Wp.aload_n (pc := 71) 0 rfl rfl dX11_every_71 ?_
  refine Wp.getR2 (pc := 72) (hG.r 0 6 rfl) (hG.t 0 rfl) nk_RX11_44 rfl dX11_every_72 ?_
  refine Wp.getI2 (pc := 75) (hG.t 28 rfl) nk_RX11_140 rfl dX11_every_75 ?_
  exact Wp.lo' (lo' := [(0, .ref 0), (3, .int x3)]) [0, 3] rfl k78
theorem w_ev81 {r : Int32 × M2} (hG : Geo T R c e) (hf : f_every_81 c x3 m = some r) (hk : FnI X cX11_every RX11 5 T n1 n2 (r.1, mk r.2 R)) : Wp X cX11_every RX11 5 T (mk m R) n1 n2 81 [(0, .ref 0), (3, .int x3)] [] := by
  unfold f_every_81 f_every_102 at hf
  refine Wp.iload_n (pc := 81) 1 rfl rfl dX11_every_81 ?_
  refine Wp.if_ne (pc := 82) 95 dX11_every_82 (by decide) (fun h => ?_) (fun h => ?_)
  · rw [if_neg h] at hf
    refine Wp.aload_n (pc := 95) 0 rfl rfl dX11_every_95 ?_
    refine Wp.getR2 (pc := 96) (hG.r 0 10 rfl) (hG.t 0 rfl) nk_RX11_71 rfl dX11_every_96 ?_
    refine Wp.getI2 (pc := 99) (hG.t 38 rfl) nk_RX11_237 rfl dX11_every_99 ?_
    cases hf
    exact hk _ _ dX11_every_102
  · rw [if_pos h] at hf
    refine Wp.aload_n (pc := 85) 0 rfl rfl dX11_every_85 ?_
    refine Wp.getR2 (pc := 86) (hG.r 0 10 rfl) (hG.t 0 rfl) nk_RX11_71 rfl dX11_every_86 ?_
    refine Wp.getI2 (pc := 89) (hG.t 38 rfl) nk_RX11_234 rfl dX11_every_89 ?_
    refine Wp.goto (pc := 92) 102 dX11_every_92 (by decide) ?_
    cases hf
    exact hk _ _ dX11_every_102
end WPY
/-- a method that makes nothing, as one that makes cells -/
theorem CtA.same {T : List Dsc} {R : RM} {c e a : Nat} {x1 x2 x3 : Int32} {m : M2} {r : Int32 × M2} (hG : Geo T R c e) (hP : PH T R a) (hc : CtA 8 yX11_every cX11_every 5 (some .int) T (mk m R) [.ref 0, .int x1, .int x2, .int x3] (some (.int r.1)) T (mk r.2 R) 0 0) : ∃ (a' : Nat) (T' : List Dsc) (R' : RM), PH T' R' a' ∧ Geo T' R' c e ∧ a ≤ a' ∧ CtA 8 yX11_every cX11_every 5 (some .int) T (mk m R) [.ref 0, .int x1, .int x2, .int x3] (some (.int r.1)) T' (mk r.2 R') (2 * (a' - a)) (41472 * (a' - a)) := by
  refine ⟨a, T, R, hP, hG, Nat.le_refl _, ?_⟩
  rw [Nat.sub_self]
  exact hc
set_option maxRecDepth 100000 in
set_option maxHeartbeats 4000000 in
theorem ca_every {T : List Dsc} {R : RM} {c e a : Nat} {x1 x2 x3 : Int32} {m : M2} {r : Int32 × M2} (hG : Geo T R c e) (hP : PH T R a) (hf : F_every (gE a) c x1 x2 x3 m = some r) : ∃ (a' : Nat) (T' : List Dsc) (R' : RM), PH T' R' a' ∧ Geo T' R' c e ∧ a ≤ a' ∧ CtA 8 yX11_every cX11_every 5 (some .int) T (mk m R) [.ref 0, .int x1, .int x2, .int x3] (some (.int r.1)) T' (mk r.2 R') (2 * (a' - a)) (41472 * (a' - a)) := by
  by_cases hc : evC c x1 x2 x3 m
  · rw [F_every_yes hc] at hf
    obtain ⟨q, hq, hf⟩ := bnd hf
    by_cases h1 : (20736 : Int32) < q.1
    · rw [if_pos h1] at hf
      cases hf
      refine CtA.same (r := ((-2 : Int32), q.2)) hG hP (CtA.ofI (by decide +kernel) (Nat.le_of_ble_eq_true rfl) (fun X hX hN hO hQ => ?_))
      refine w_ev0 hG (fun z => absurd hc z) (fun _ => w_ev36 (hX.le (by decide) (Nat.le_refl _) (Nat.le_refl _)) hG hq (fun _ => ?_) (fun z => absurd h1 z) (fun z => absurd h1 z))
      refine Wp.bipush (pc := 54) (-2 : Int32) (by decide) dX11_every_54 ?_
      exact hQ _ _ dX11_every_56
    · rw [if_neg h1] at hf
      by_cases h2 : x3 = 2
      · rw [if_pos h2] at hf
        cases hf
        refine CtA.same (r := (q.1, q.2)) hG hP (CtA.ofI (by decide +kernel) (Nat.le_of_ble_eq_true rfl) (fun X hX hN hO hQ => ?_))
        refine w_ev0 hG (fun z => absurd hc z) (fun _ => w_ev36 (hX.le (by decide) (Nat.le_refl _) (Nat.le_refl _)) hG hq (fun z => absurd z h1) (fun _ _ => ?_) (fun _ z => absurd h2 z))
        refine Wp.iload (pc := 62) 4 rfl dX11_every_62 ?_
        exact hQ _ _ dX11_every_64
      · rw [if_neg h2] at hf
        obtain ⟨m1, hp, hf2⟩ := bnd hf
        rcases hP with ⟨rfl, rfl, p1, p2, p3⟩ | ⟨rfl, rfl, p1, p2⟩
        · refine ⟨1, TBB, RB R, Or.inr ⟨rfl, rfl, geoB_B, fun k j z hz => ?_⟩, geo_B hG, by decide, ?_⟩
          · unfold RB u2 at hz
            split at hz
            · cases hz
              decide
            · split at hz
              · cases hz
                decide
              · exact Nat.lt_of_lt_of_le (p3 k j z hz).1 (by decide)
          · refine CtA.ofI (by decide +kernel) (Nat.le_of_ble_eq_true rfl) (fun X hX hN hO hQ => ?_)
            rw [len_T0] at hO
            have hp' : f_prove_32 c x1 x2 (hI q.2 28 3) (zA q.2) = some m1 := hp
            refine w_ev0 hG (fun z => absurd hc z) (fun _ => w_ev36 (hX.le (by decide) (by decide) (by decide)) hG hq (fun z => absurd z h1) (fun _ z => absurd z h2) (fun _ _ => w_ev65 hG ?_))
            refine Wp.callVA (pc := 78) (b := 38) (st := []) (as := [.int x1, .int x2, .int (hI q.2 28 3)]) (ci := 0) (cp_A hG p1 p2 p3 hp') rfl nml_RX11_230 nmv_X0_prove nmb_X0_prove hX (by rw [len_T0]; exact hO) vbn (by rw [len_T0]; exact lbc (vbr (by decide)) (lbc trivial lbn)) (by decide) (by decide) rfl (hG.t 38 rfl) rfl (by decide) dX11_every_78 rfl ?_
            exact w_ev81 (geo_B hG) hf2 hQ
        · refine CtA.same hG (Or.inr ⟨rfl, rfl, p1, p2⟩) (CtA.ofI (by decide +kernel) (Nat.le_of_ble_eq_true rfl) (fun X hX hN hO hQ => ?_))
          have hp' : f_prove_32 c x1 x2 (hI q.2 28 3) q.2 = some m1 := hp
          refine w_ev0 hG (fun z => absurd hc z) (fun _ => w_ev36 (hX.le (by decide) (Nat.le_refl _) (Nat.le_refl _)) hG hq (fun z => absurd z h1) (fun _ z => absurd z h2) (fun _ _ => w_ev65 hG ?_))
          refine Wp.callVv (pc := 78) (b := 38) (st := []) (as := [.int x1, .int x2, .int (hI q.2 28 3)]) (ci := 0) (cp_B hG p1 hp') nml_RX11_230 nmv_X0_prove nmb_X0_prove (hX.le (Nat.le_refl _) (Nat.le_refl _) (Nat.le_refl _)) (by decide) (by decide) rfl (hG.t 38 rfl) rfl (by decide) dX11_every_78 rfl ?_
          exact w_ev81 hG hf2 hQ
  · rw [F_every_no hc] at hf
    cases hf
    refine CtA.same (r := ((-1 : Int32), m)) hG hP (CtA.ofI (by decide +kernel) (Nat.le_of_ble_eq_true rfl) (fun X hX hN hO hQ => ?_))
    refine w_ev0 hG (fun _ => ?_) (fun z => absurd z hc)
    refine Wp.iconst (pc := 34) (-1 : Int32) (by decide) dX11_every_34 ?_
    exact hQ _ _ dX11_every_35
