theorem fr0 : Frs mm0 120 := fr_X12_init (fr_X11_init.up (by decide))
set_option maxHeartbeats 4000000 in
set_option maxRecDepth 100000 in
theorem ph0 : PH T0 RR0 0 := by
  refine Or.inl ⟨rfl, rfl, rfl, rfl, fun k j r hr => ⟨fr0.2 k j r hr, ?_⟩⟩
  by_cases hk : k < 120
  · exact hk
  · have h0 : gR mm0 k j = none := (fr0.1 k j (by omega)).2.2
    have h1 : gR mm0 k j = some r := hr
    rw [h0] at h1
    cases h1
theorem len56 : TG56.length = 56 := rfl
theorem vxr {M r : Nat} (h : r ≠ M) : vbx M (.ref r) := h
theorem vya {a b r : Nat} (h : r < a) : vby a b (.ref r) := Or.inl h
theorem vyb {a b r : Nat} (h : b ≤ r) : vby a b (.ref r) := Or.inr h
def nB : Nat := 0 + cN 10 + 5062 + cN 11 + 58157
theorem nB_le : nB + 41472 ≤ 7302250 := by decide +kernel
theorem lenTM : (TM (TG56 ++ [.inl 11])).length = 120 := by rw [TM_T0, len_T0]
set_option maxHeartbeats 4000000 in
set_option maxRecDepth 100000 in
/-- the law's body over the walk's memory -/
theorem law_body {X : CX} {b L a v f : Nat} {xs : Nat → Int32} (hLw : XLw X b L xs) (hL : L ≤ 3072) (hXR : ∀ n1 n2, n1 ≤ 600000 → n2 ≤ 7302250 → XR X 80 n1 n2) (hS0 : XSt X a v f) (hAo : XAo X) (hE : ∀ (T : List Dsc) (μ : Mem) (n1 n2 : Nat) (lo : List (Nat × Value)), n1 ≤ 600000 → n2 ≤ 7302250 → Wp X code RL 4 T μ n1 n2 1115 lo []) : Wp X code RL 4 [] mem0 0 0 0 [(0, .ref 1000)] [] := by
  have hB := nB_le
  refine Wp.newOx (pc := 0) (M := 0) (ci := 10) rfl mem0_fr hLw (by decide) (hXR _ _ (by decide) (by decide +kernel)) vxn (lxc (vxr (by decide)) lxn) lnn_7 dL_0 ?_
  refine Wp.eqT (T' := TG1) rfl ?_
  refine Wp.dup (pc := 3) rfl dL_3 ?_
  refine Wp.callIQx (pc := 4) (b := 0) (st := [.ref 0]) (as := []) hS0 hAo ct_X11_init rfl lml_9 lmi_X11_init lmb_X11_init (hXR _ _ (by decide) (by decide +kernel)) hLw (fun k j r h => by rw [len56]; exact fr_X11_init.2 k j r h) (by decide) (vyc (vya (by decide)) vyn) (lyc (vyb (by decide)) lyn) (by decide) (by decide) rfl (by decide) dL_4 rfl ?_
  refine Wp.astore_n (pc := 7) (lo' := [(0, .ref 1000), (1, .ref 0)]) [1, 0] rfl (by decide) rfl dL_7 ?_
  refine Wp.newOx (pc := 8) (M := 56) (ci := 11) len56 fr_X11_init hLw (by decide) (hXR _ _ (by decide) (by decide +kernel)) vxn (lxc (vxr (by decide)) (lxc (vxr (by decide)) lxn)) lnn_10 dL_8 ?_
  refine Wp.dup (pc := 11) rfl dL_11 ?_
  refine Wp.callIx (pc := 12) (b := 56) (st := [.ref 56]) (as := []) (ct_X12_init (tlen1 len56) (tnew len56) (fr_X11_init.up (by decide))) rfl lml_12 lmi_X12_init lmb_X12_init (hXR _ _ (by decide) (by decide +kernel)) hLw (fun k j r h => by rw [lenTM]; exact fr0.2 k j r h) (by rw [lenTM]; decide) (vyc (vya (by rw [tlen1 len56]; decide)) vyn) (lyc (vyb (by rw [lenTM]; decide)) (lyc (vya (by rw [tlen1 len56]; decide)) lyn)) (by decide) (by decide) rfl (by decide) dL_12 rfl ?_
  refine Wp.eqT (T' := T0) TM_T0 ?_
  refine Wp.astore_n (pc := 15) (lo' := [(0, .ref 1000), (1, .ref 0), (2, .ref 56)]) [1, 2, 0] rfl (by decide) rfl dL_15 ?_
  refine Wp.iconst (pc := 16) (0 : Int32) (by decide) dL_16 ?_
  refine Wp.istore_n (pc := 17) (lo' := [(0, .ref 1000), (1, .ref 0), (2, .ref 56), (3, .int (0 : Int32))]) [1, 2, 3, 0] rfl (by decide) rfl dL_17 ?_
  have key := law_loop (n1 := 120) (n2 := nB) hLw hL (fun a ha => hXR _ _ (by omega) (by omega)) (fun T μ a lo ha => hE T μ _ _ lo (by omega) (by omega)) (L + 1) 0 (by omega) (by omega) T0 RR0 2 8 0 0 s00 m00 geo0 ph0 bs0
  rw [show muM mX29 = mk m00 RR0 from mm0_mk]
  exact key
set_option maxHeartbeats 4000000 in
/-- from the entry, for every script of at most 3072 ints, the law comes to its end with true -/
theorem whole_start {p : Program} {e : Env} {s : State} {m : MethodId} {below : List Frame} {meth : Method} {c : Code} (l : Launch) {b L : Nat} {xs : Nat → Int32} (hL : L ≤ 3072) (C0 : lw_At p s m meth c b L xs) : W p l e room_1 s m #[Value.ref b] below meth c s.heap [] 0 0 (lw_Z below #[Value.ref b] s) (entryFrame m ([Value.ref b] : List Value).toArray 4) := by
  obtain ⟨hx, hb, hr, hml, hown, hts, hX, hbl, hlocks, hgv⟩ := id C0
  have htg : ∀ w ∈ gw, w.before #[Value.ref b] s = true := fun w hw => hts w (List.mem_filter.mp hw).1
  obtain ⟨fK, hfK⟩ := Classical.axiomOfChoice (kn_all htg)
  obtain ⟨a, v, f, hSW⟩ := sw_start hts hgv
  have hAo : va_AO "GalleyStroke$Crew" s := va_AO.of (hts _ (tw 319 (by decide +kernel)))
  have hl := lv_entry ([.ref b]) (n := 4) (Nat.le_of_ble_eq_true rfl)
  rw [lg_entry_eq]
  generalize (lg_sl ([.ref b]) ++ List.replicate (4 - (lg_sl ([.ref b])).length) Slot.unset).toArray = ls at hl ⊢
  have hl : lv_has ls 4 [(0, .ref b)] := hl
  have key := law_body (X := (p, l, e, room_1, s, m, #[Value.ref b], below, meth, c, lw_Z below #[Value.ref b] s, (fun q : Nat => s.heap.size ≤ q), (fun k => (fK k).1, fun k => (fK k).2), (fun k => k = 1000), fun _ => b)) (b := b) (L := L) (xs := xs) (a := a) (v := v) (f := f) ⟨hX, hbl, Nat.not_le.mpr hbl, fun k => Iff.rfl, rfl⟩ hL (fun n1 n2 h1 h2 => ⟨by decide, by decide, h1, h2⟩) hSW hAo ?_
  · exact key hx hb hml hown htg hlocks (fun _ h => h) s.heap [] ls (fun _ => b) (fun k => (fK k).1) (fun _ _ => rfl) ⟨[], ⟨fun k q hq => hfK k q hq, fun k q h => by simp at h⟩, fun k q h => (by cases h), ⟨fun i j p q h => (by cases h), fun k q h => (by cases h)⟩, fun k n ty h => (by cases h), nw_all hts⟩ va_S.rf hl
  · intro T μ n1 n2 lo h1 h2
    refine Wp.iconst (pc := 1115) (1 : Int32) (by decide) dL_1115 ?_
    intro hx hb hml hown hts hlk hA H locs ls α cA ha hW hS hl
    refine W.widen h1 h2 ?_
    exact va_forget (fun q hq => hS.2.2 q hq) (lw_ret hx hb hr hlocks dL_1116)
set_option maxHeartbeats 4000000 in
theorem lw_walk (l : Launch) (b : Addr) (xs : List Int32) : MetFree l x (headSpec (Jvm.Cond.code x code maxLocals ret :: tables_1) room_1) (lw_P b xs) (fun _ _ _ _ _ => True) lw_Q := by
  refine MetFree.of_bodyS (code := code) (maxLocals := maxLocals) (ret := ret) (by decide) ?_ ?_
  · intro args s m h hn
    obtain ⟨meth, c, h1, h2, h3, h4, h5, h6, -, -⟩ := Cond.code_spec hn (atoms_spec (ws := Jvm.Cond.code x code maxLocals ret :: tables_1) h _ List.mem_cons_self)
    exact ⟨meth, c, h1, h2, h3, h4, h5, h6⟩
  · intro p e s m args below meth c s₁ B hml0 hP _
    obtain ⟨rfl, hx, hbd, hgv⟩ := hP
    obtain ⟨scr, harrAt, hlist, hof, hsmall⟩ := hx
    obtain ⟨hcb, hkn, -, -⟩ := State.arrayAt?_spec harrAt
    have hown : s.vm.findClass R_law = some m.cls := findClass_of_methodNamed B.named
    have hts0 : ∀ c ∈ (Jvm.Cond.code x code maxLocals ret :: tables_1), c.before #[Value.ref b] s = true := atoms_spec (ws := Jvm.Cond.code x code maxLocals ret :: tables_1) B.pre
    have hts : ∀ w ∈ lw_tbl, w.before #[Value.ref b] s = true := k2_hts_sels lw_privs (fun w hw => hts0 w (List.mem_cons_of_mem _ hw)) lw_privs_ok
    have hml : c.maxLocals = 4 := B.maxLocals_eq (hts0 _ List.mem_cons_self)
    have X₀ : Stand p l e room_1 s m #[Value.ref b] below meth c s₁ [] 0 0 := Stand.of_body B
    have hh0 : s₁.heap = s.heap := by rw [B.state]; rfl
    have hsz : scr.slots.size = xs.length := by rw [← Array.length_toList, hlist, List.length_map]
    have hval : ∀ j : Nat, j < xs.length → scr.slots[j]? = some (.int (xs.getD j 0)) := fun j hj => by
      rw [← Array.getElem?_toList, hlist]
      simp [hj]
    have hbl : b < s.heap.size := (Array.getElem?_eq_some_iff.mp hcb).1
    have hX : va_X b xs.length (fun j => xs.getD j 0) s s.heap := ⟨scr, hcb, hof, hkn, hsz, hval⟩
    have K : W p l e room_1 s m #[Value.ref b] below meth c s₁.heap [] 0 0 (lw_Z below #[Value.ref b] s) (entryFrame m ([Value.ref b] : List Value).toArray 4) := by
      rw [hh0]
      exact whole_start l hbd ⟨B.exec, B.bytes, B.returns, hml, hown, hts, hX, hbl, B.notSynchronized, hgv⟩
    obtain ⟨t, a1, o, b1, b2, b3⟩ := K s₁ rfl X₀
    exact ⟨t, o, a1, b1, b2, b3⟩
theorem lw_pre_spec {args : Array Value} {s : State} (h : (Jvm.Cond.and given_1 narrow_1).before args s = true) (hr : rest_1_c.before args s = true) : ∃ (b : Addr) (xs : List Int32), lw_P b xs args s := by
  have hs := flat_of_before _ h
  have hq := flat_of_before _ hr
  have hc : (Cond.count 1).before args s = true := hs _ (by decide +kernel)
  have harr : (Cond.arrayOf (.arg 0) .int).before args s = true := hs _ (by decide +kernel)
  have hle : (Cond.le (.length (.arg 0)) (.int 3072)).before args s = true := hs _ (by decide +kernel)
  have hlen : (Cond.isInt (.length (.arg 0))).before args s = true := hq _ (by decide +kernel)
  have hall : (Cond.all (.arg 0) (.isInt (.elem (.arg 0) (.index 0)))).before args s = true := hq _ (by decide +kernel)
  obtain ⟨b, xs, hb, hx⟩ := State.ints_of_pre rfl harr hlen hall
  have hsm : xs.length < 2 ^ 31 := hx.choose_spec.2.2.2
  have hev : (Term.length (.arg 0)).eval args s none [] s = some (.int xs.length.toInt32) := hx.length_eval hb
  have hv := Cond.le_ints hev (show (Term.int 3072).eval args s none [] s = some (.int 3072) from rfl)
  have hd : xs.length.toInt32 ≤ 3072 := by
    simpa [Cond.before, Cond.holds, hv] using hle
  have hN : xs.length ≤ 3072 := (Int32.ofNat_le_ofNat hsm (by decide)).mp (show Int32.ofNat xs.length ≤ Int32.ofNat 3072 from hd)
  exact ⟨b, xs, Cond.one_arg hc (show args[0]? = some (.ref b) from hb), hx, hN, h⟩
theorem lw_comes (l : Launch) : Comes l x (Jvm.Cond.code x code maxLocals ret :: tables_1) room_1 (fun tb e args s => Calls_1 tb e args s ∧ rest_1 tb e args s ∧ Pre_1 tb e args s)
    (fun _ _ args s o t => lw_Q args s o t) := by
  intro p e ha hc hk s m args below hf hfit hheap happ hpre
  obtain ⟨b, xs, hP⟩ := lw_pre_spec hpre.2.2 hpre.2.1
  obtain ⟨k, o, h1, h2, h3, hQ⟩ := lw_walk l b xs p e ha hc hk s m args below hf ((Spec.applies_iff_loose hf).mp happ).1 hP trivial
  exact ⟨k, o, h1, h2, h3, hQ⟩
theorem lw_frame {s t : State} {o : Outcome} {args : Array Value} (h : Framed s o t [] 600000 7302250) :
    Framed s o t (fieldLocs frame_1_writes args s ++ arrayLocs frame_1_arrays args s ++ staticLocs frame_1_statics s) 600000 7302250 := h
theorem lw_limb (L : Cond) (hL : ∀ (args : Array Value) (s t : State), L.after args s (.returned (some (.int 1))) t = true) :
    ArmFor flags0 classFile x code maxLocals ret World_1 tables_1 room_1 Calls_1 rest_1 Pre_1
      (fun tb e a s o t => postC L tb e a s o t ∧ Framed s o t (fieldLocs frame_1_writes a s ++ arrayLocs frame_1_arrays a s ++ staticLocs frame_1_statics s) 600000 7302250) := by
  intro l _ _ _ p e ha hc hk s m args below hf hfit hheap happ hpre
  obtain ⟨k, o, h1, h2, h3, rfl, hF⟩ := lw_comes l p e ha hc hk s m args below hf hfit hheap happ hpre
  exact ⟨k, _, h1, h2, h3, hL args s _, lw_frame hF⟩
theorem i_vc : Claimed_1_1 ∧ Claimed_1_2 := ⟨lw_limb limb_1_1 (fun args s t => by simp [limb_1_1, Cond.after, Cond.holds, Cond.value]), lw_limb limb_1_2 (fun args s t => Cond.after_iff.mpr (by
  first | (rw [show limb_1_2 = Cond.eq .result (.int 1) from rfl, Cond.eq_ints (x := 1) (y := 1) rfl rfl]; simp; done) | (simp [limb_1_2, Cond.value, Term.eval]; done)))⟩
