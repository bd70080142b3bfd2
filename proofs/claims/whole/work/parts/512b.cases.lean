/-! the law's cases -/
set_option maxHeartbeats 4000000 in
set_option maxRecDepth 100000 in
theorem lc_11 {X : CX} {T : List Dsc} {R : RM} {c e l a b L i n1 n2 : Nat} {s : SS} {m : M2} {xs : Nat → Int32} (hLw : XLw X b L xs) (hL : L ≤ 3072) (hi : i + 6 ≤ L) (hX : XR X 80 n1 n2) (hG : Geo T R c e) (hB : BS m c l s) (kk : ∀ (m' : M2) (s' : SS), BS m' c l s' → Wp X code RL 4 T (mk m' R) n1 n2 1109 [(0, .ref 1000), (1, .ref 0), (2, .ref 56), (3, .int (nI i))] []) : Wp X code RL 4 T (mk m R) n1 n2 439 [(0, .ref 1000), (1, .ref 0), (2, .ref 56), (3, .int (nI i))] [] := by
  obtain ⟨v, m1, m2, s', e1, e2, hB'⟩ := tt_rubs hB (xs (i + 1))
  refine Wp.aload_n (pc := 439) 1 rfl rfl dL_439 ?_
  refine Wp.aload_n (pc := 440) 0 rfl rfl dL_440 ?_
  refine Wp.iload_n (pc := 441) 3 rfl rfl dL_441 ?_
  refine Wp.iconst (pc := 442) (1 : Int32) (by decide) dL_442 ?_
  refine Wp.iadd (pc := 443) dL_443 ?_
  refine Wp.sarg (pc := 444) (k := 1) hLw rfl (by omega) hL dL_444 ?_
  refine Wp.callVi (pc := 445) (b := 0) (st := []) (as := [.int (xs (i + 1))]) (ci := 10) (c_X11_rubs hG e1) lml_62 lmv_X11_rubs lmb_X11_rubs hX (by decide) (by decide) rfl (hG.t 0 rfl) rfl (by decide) dL_445 rfl ?_
  refine Wp.aload_n (pc := 448) 2 rfl rfl dL_448 ?_
  refine Wp.aload_n (pc := 449) 0 rfl rfl dL_449 ?_
  refine Wp.iload_n (pc := 450) 3 rfl rfl dL_450 ?_
  refine Wp.iconst (pc := 451) (1 : Int32) (by decide) dL_451 ?_
  refine Wp.iadd (pc := 452) dL_452 ?_
  refine Wp.sarg (pc := 453) (k := 1) hLw rfl (by omega) hL dL_453 ?_
  refine Wp.callVi (pc := 454) (b := 56) (st := [.int v]) (as := [.int (xs (i + 1))]) (ci := 11) (c_X12_rubs hG e2) lml_65 lmv_X12_rubs lmb_X12_rubs hX (by decide) (by decide) rfl (hG.t 56 rfl) rfl (Nat.le_of_ble_eq_true rfl) dL_454 rfl ?_
  refine Wp.icmp_eq (pc := 457) 1109 dL_457 (by decide) (fun _ => ?_) (fun q => absurd rfl q)
  exact kk _ _ hB'
set_option maxHeartbeats 4000000 in
set_option maxRecDepth 100000 in
theorem lc_12 {X : CX} {T : List Dsc} {R : RM} {c e l a b L i n1 n2 : Nat} {s : SS} {m : M2} {xs : Nat → Int32} (hLw : XLw X b L xs) (hL : L ≤ 3072) (hi : i + 6 ≤ L) (hX : XR X 80 n1 n2) (hG : Geo T R c e) (hB : BS m c l s) (kk : ∀ (m' : M2) (s' : SS), BS m' c l s' → Wp X code RL 4 T (mk m' R) n1 n2 1109 [(0, .ref 1000), (1, .ref 0), (2, .ref 56), (3, .int (nI i))] []) : Wp X code RL 4 T (mk m R) n1 n2 462 [(0, .ref 1000), (1, .ref 0), (2, .ref 56), (3, .int (nI i))] [] := by
  obtain ⟨v, m1, m2, s', e1, e2, hB'⟩ := tt_still hB 
  refine Wp.aload_n (pc := 462) 1 rfl rfl dL_462 ?_
  refine Wp.callVi (pc := 463) (b := 0) (st := []) (as := []) (ci := 10) (c_X11_still hG e1) lml_66 lmv_X11_still lmb_X11_still hX (by decide) (by decide) rfl (hG.t 0 rfl) rfl (by decide) dL_463 rfl ?_
  refine Wp.aload_n (pc := 466) 2 rfl rfl dL_466 ?_
  refine Wp.callVi (pc := 467) (b := 56) (st := [.int v]) (as := []) (ci := 11) (c_X12_still hG e2) lml_69 lmv_X12_still lmb_X12_still hX (by decide) (by decide) rfl (hG.t 56 rfl) rfl (Nat.le_of_ble_eq_true rfl) dL_467 rfl ?_
  refine Wp.icmp_eq (pc := 470) 1109 dL_470 (by decide) (fun _ => ?_) (fun q => absurd rfl q)
  exact kk _ _ hB'
set_option maxHeartbeats 4000000 in
set_option maxRecDepth 100000 in
theorem lc_13 {X : CX} {T : List Dsc} {R : RM} {c e l a b L i n1 n2 : Nat} {s : SS} {m : M2} {xs : Nat → Int32} (hLw : XLw X b L xs) (hL : L ≤ 3072) (hi : i + 6 ≤ L) (hX : XR X 80 n1 n2) (hG : Geo T R c e) (hB : BS m c l s) (kk : ∀ (m' : M2) (s' : SS), BS m' c l s' → Wp X code RL 4 T (mk m' R) n1 n2 1109 [(0, .ref 1000), (1, .ref 0), (2, .ref 56), (3, .int (nI i))] []) : Wp X code RL 4 T (mk m R) n1 n2 475 [(0, .ref 1000), (1, .ref 0), (2, .ref 56), (3, .int (nI i))] [] := by
  obtain ⟨v, m1, m2, s', e1, e2, hB'⟩ := tt_round hB (xs (i + 1))
  refine Wp.aload_n (pc := 475) 1 rfl rfl dL_475 ?_
  refine Wp.aload_n (pc := 476) 0 rfl rfl dL_476 ?_
  refine Wp.iload_n (pc := 477) 3 rfl rfl dL_477 ?_
  refine Wp.iconst (pc := 478) (1 : Int32) (by decide) dL_478 ?_
  refine Wp.iadd (pc := 479) dL_479 ?_
  refine Wp.sarg (pc := 480) (k := 1) hLw rfl (by omega) hL dL_480 ?_
  refine Wp.callVi (pc := 481) (b := 0) (st := []) (as := [.int (xs (i + 1))]) (ci := 10) (c_X11_round hG e1) lml_70 lmv_X11_round lmb_X11_round hX (by decide) (by decide) rfl (hG.t 0 rfl) rfl (by decide) dL_481 rfl ?_
  refine Wp.aload_n (pc := 484) 2 rfl rfl dL_484 ?_
  refine Wp.aload_n (pc := 485) 0 rfl rfl dL_485 ?_
  refine Wp.iload_n (pc := 486) 3 rfl rfl dL_486 ?_
  refine Wp.iconst (pc := 487) (1 : Int32) (by decide) dL_487 ?_
  refine Wp.iadd (pc := 488) dL_488 ?_
  refine Wp.sarg (pc := 489) (k := 1) hLw rfl (by omega) hL dL_489 ?_
  refine Wp.callVi (pc := 490) (b := 56) (st := [.int v]) (as := [.int (xs (i + 1))]) (ci := 11) (c_X12_round hG e2) lml_73 lmv_X12_round lmb_X12_round hX (by decide) (by decide) rfl (hG.t 56 rfl) rfl (Nat.le_of_ble_eq_true rfl) dL_490 rfl ?_
  refine Wp.icmp_eq (pc := 493) 1109 dL_493 (by decide) (fun _ => ?_) (fun q => absurd rfl q)
  exact kk _ _ hB'
set_option maxHeartbeats 4000000 in
set_option maxRecDepth 100000 in
theorem lc_14 {X : CX} {T : List Dsc} {R : RM} {c e l a b L i n1 n2 : Nat} {s : SS} {m : M2} {xs : Nat → Int32} (hLw : XLw X b L xs) (hL : L ≤ 3072) (hi : i + 6 ≤ L) (hX : XR X 80 n1 n2) (hG : Geo T R c e) (hB : BS m c l s) (kk : ∀ (m' : M2) (s' : SS), BS m' c l s' → Wp X code RL 4 T (mk m' R) n1 n2 1109 [(0, .ref 1000), (1, .ref 0), (2, .ref 56), (3, .int (nI i))] []) : Wp X code RL 4 T (mk m R) n1 n2 498 [(0, .ref 1000), (1, .ref 0), (2, .ref 56), (3, .int (nI i))] [] := by
  obtain ⟨v, m1, m2, s', e1, e2, hB'⟩ := tt_change hB (xs (i + 1)) (xs (i + 2))
  refine Wp.aload_n (pc := 498) 1 rfl rfl dL_498 ?_
  refine Wp.aload_n (pc := 499) 0 rfl rfl dL_499 ?_
  refine Wp.iload_n (pc := 500) 3 rfl rfl dL_500 ?_
  refine Wp.iconst (pc := 501) (1 : Int32) (by decide) dL_501 ?_
  refine Wp.iadd (pc := 502) dL_502 ?_
  refine Wp.sarg (pc := 503) (k := 1) hLw rfl (by omega) hL dL_503 ?_
  refine Wp.aload_n (pc := 504) 0 rfl rfl dL_504 ?_
  refine Wp.iload_n (pc := 505) 3 rfl rfl dL_505 ?_
  refine Wp.iconst (pc := 506) (2 : Int32) (by decide) dL_506 ?_
  refine Wp.iadd (pc := 507) dL_507 ?_
  refine Wp.sarg (pc := 508) (k := 2) hLw rfl (by omega) hL dL_508 ?_
  refine Wp.callVi (pc := 509) (b := 0) (st := []) (as := [.int (xs (i + 1)), .int (xs (i + 2))]) (ci := 10) (c_X11_change hG e1) lml_74 lmv_X11_change lmb_X11_change hX (by decide) (by decide) rfl (hG.t 0 rfl) rfl (by decide) dL_509 rfl ?_
  refine Wp.aload_n (pc := 512) 2 rfl rfl dL_512 ?_
  refine Wp.aload_n (pc := 513) 0 rfl rfl dL_513 ?_
  refine Wp.iload_n (pc := 514) 3 rfl rfl dL_514 ?_
  refine Wp.iconst (pc := 515) (1 : Int32) (by decide) dL_515 ?_
  refine Wp.iadd (pc := 516) dL_516 ?_
  refine Wp.sarg (pc := 517) (k := 1) hLw rfl (by omega) hL dL_517 ?_
  refine Wp.aload_n (pc := 518) 0 rfl rfl dL_518 ?_
  refine Wp.iload_n (pc := 519) 3 rfl rfl dL_519 ?_
  refine Wp.iconst (pc := 520) (2 : Int32) (by decide) dL_520 ?_
  refine Wp.iadd (pc := 521) dL_521 ?_
  refine Wp.sarg (pc := 522) (k := 2) hLw rfl (by omega) hL dL_522 ?_
  refine Wp.callVi (pc := 523) (b := 56) (st := [.int v]) (as := [.int (xs (i + 1)), .int (xs (i + 2))]) (ci := 11) (c_X12_change hG e2) lml_78 lmv_X12_change lmb_X12_change hX (by decide) (by decide) rfl (hG.t 56 rfl) rfl (Nat.le_of_ble_eq_true rfl) dL_523 rfl ?_
  refine Wp.icmp_eq (pc := 526) 1109 dL_526 (by decide) (fun _ => ?_) (fun q => absurd rfl q)
  exact kk _ _ hB'
set_option maxHeartbeats 4000000 in
set_option maxRecDepth 100000 in
theorem lc_15 {X : CX} {T : List Dsc} {R : RM} {c e l a b L i n1 n2 : Nat} {s : SS} {m : M2} {xs : Nat → Int32} (hLw : XLw X b L xs) (hL : L ≤ 3072) (hi : i + 6 ≤ L) (hX : XR X 80 n1 n2) (hG : Geo T R c e) (hB : BS m c l s) (kk : ∀ (m' : M2) (s' : SS), BS m' c l s' → Wp X code RL 4 T (mk m' R) n1 n2 1109 [(0, .ref 1000), (1, .ref 0), (2, .ref 56), (3, .int (nI i))] []) : Wp X code RL 4 T (mk m R) n1 n2 531 [(0, .ref 1000), (1, .ref 0), (2, .ref 56), (3, .int (nI i))] [] := by
  obtain ⟨v, m1, m2, s', e1, e2, hB'⟩ := tt_teach hB (xs (i + 1)) (xs (i + 2))
  refine Wp.aload_n (pc := 531) 1 rfl rfl dL_531 ?_
  refine Wp.aload_n (pc := 532) 0 rfl rfl dL_532 ?_
  refine Wp.iload_n (pc := 533) 3 rfl rfl dL_533 ?_
  refine Wp.iconst (pc := 534) (1 : Int32) (by decide) dL_534 ?_
  refine Wp.iadd (pc := 535) dL_535 ?_
  refine Wp.sarg (pc := 536) (k := 1) hLw rfl (by omega) hL dL_536 ?_
  refine Wp.aload_n (pc := 537) 0 rfl rfl dL_537 ?_
  refine Wp.iload_n (pc := 538) 3 rfl rfl dL_538 ?_
  refine Wp.iconst (pc := 539) (2 : Int32) (by decide) dL_539 ?_
  refine Wp.iadd (pc := 540) dL_540 ?_
  refine Wp.sarg (pc := 541) (k := 2) hLw rfl (by omega) hL dL_541 ?_
  refine Wp.callVi (pc := 542) (b := 0) (st := []) (as := [.int (xs (i + 1)), .int (xs (i + 2))]) (ci := 10) (c_X11_teach hG e1) lml_79 lmv_X11_teach lmb_X11_teach hX (by decide) (by decide) rfl (hG.t 0 rfl) rfl (by decide) dL_542 rfl ?_
  refine Wp.aload_n (pc := 545) 2 rfl rfl dL_545 ?_
  refine Wp.aload_n (pc := 546) 0 rfl rfl dL_546 ?_
  refine Wp.iload_n (pc := 547) 3 rfl rfl dL_547 ?_
  refine Wp.iconst (pc := 548) (1 : Int32) (by decide) dL_548 ?_
  refine Wp.iadd (pc := 549) dL_549 ?_
  refine Wp.sarg (pc := 550) (k := 1) hLw rfl (by omega) hL dL_550 ?_
  refine Wp.aload_n (pc := 551) 0 rfl rfl dL_551 ?_
  refine Wp.iload_n (pc := 552) 3 rfl rfl dL_552 ?_
  refine Wp.iconst (pc := 553) (2 : Int32) (by decide) dL_553 ?_
  refine Wp.iadd (pc := 554) dL_554 ?_
  refine Wp.sarg (pc := 555) (k := 2) hLw rfl (by omega) hL dL_555 ?_
  refine Wp.callVi (pc := 556) (b := 56) (st := [.int v]) (as := [.int (xs (i + 1)), .int (xs (i + 2))]) (ci := 11) (c_X12_teach hG e2) lml_82 lmv_X12_teach lmb_X12_teach hX (by decide) (by decide) rfl (hG.t 56 rfl) rfl (Nat.le_of_ble_eq_true rfl) dL_556 rfl ?_
  refine Wp.icmp_eq (pc := 559) 1109 dL_559 (by decide) (fun _ => ?_) (fun q => absurd rfl q)
  exact kk _ _ hB'
set_option maxHeartbeats 4000000 in
set_option maxRecDepth 100000 in
theorem lc_16 {X : CX} {T : List Dsc} {R : RM} {c e l a b L i n1 n2 : Nat} {s : SS} {m : M2} {xs : Nat → Int32} (hLw : XLw X b L xs) (hL : L ≤ 3072) (hi : i + 6 ≤ L) (hX : XR X 80 n1 n2) (hG : Geo T R c e) (hB : BS m c l s) (kk : ∀ (m' : M2) (s' : SS), BS m' c l s' → Wp X code RL 4 T (mk m' R) n1 n2 1109 [(0, .ref 1000), (1, .ref 0), (2, .ref 56), (3, .int (nI i))] []) : Wp X code RL 4 T (mk m R) n1 n2 564 [(0, .ref 1000), (1, .ref 0), (2, .ref 56), (3, .int (nI i))] [] := by
  obtain ⟨v, m1, m2, s', e1, e2, hB'⟩ := tt_set hB (xs (i + 1)) (xs (i + 2))
  refine Wp.aload_n (pc := 564) 1 rfl rfl dL_564 ?_
  refine Wp.aload_n (pc := 565) 0 rfl rfl dL_565 ?_
  refine Wp.iload_n (pc := 566) 3 rfl rfl dL_566 ?_
  refine Wp.iconst (pc := 567) (1 : Int32) (by decide) dL_567 ?_
  refine Wp.iadd (pc := 568) dL_568 ?_
  refine Wp.sarg (pc := 569) (k := 1) hLw rfl (by omega) hL dL_569 ?_
  refine Wp.aload_n (pc := 570) 0 rfl rfl dL_570 ?_
  refine Wp.iload_n (pc := 571) 3 rfl rfl dL_571 ?_
  refine Wp.iconst (pc := 572) (2 : Int32) (by decide) dL_572 ?_
  refine Wp.iadd (pc := 573) dL_573 ?_
  refine Wp.sarg (pc := 574) (k := 2) hLw rfl (by omega) hL dL_574 ?_
  refine Wp.callVi (pc := 575) (b := 0) (st := []) (as := [.int (xs (i + 1)), .int (xs (i + 2))]) (ci := 10) (c_X11_set hG e1) lml_83 lmv_X11_set lmb_X11_set hX (by decide) (by decide) rfl (hG.t 0 rfl) rfl (by decide) dL_575 rfl ?_
  refine Wp.aload_n (pc := 578) 2 rfl rfl dL_578 ?_
  refine Wp.aload_n (pc := 579) 0 rfl rfl dL_579 ?_
  refine Wp.iload_n (pc := 580) 3 rfl rfl dL_580 ?_
  refine Wp.iconst (pc := 581) (1 : Int32) (by decide) dL_581 ?_
  refine Wp.iadd (pc := 582) dL_582 ?_
  refine Wp.sarg (pc := 583) (k := 1) hLw rfl (by omega) hL dL_583 ?_
  refine Wp.aload_n (pc := 584) 0 rfl rfl dL_584 ?_
  refine Wp.iload_n (pc := 585) 3 rfl rfl dL_585 ?_
  refine Wp.iconst (pc := 586) (2 : Int32) (by decide) dL_586 ?_
  refine Wp.iadd (pc := 587) dL_587 ?_
  refine Wp.sarg (pc := 588) (k := 2) hLw rfl (by omega) hL dL_588 ?_
  refine Wp.callVi (pc := 589) (b := 56) (st := [.int v]) (as := [.int (xs (i + 1)), .int (xs (i + 2))]) (ci := 11) (c_X12_set hG e2) lml_86 lmv_X12_set lmb_X12_set hX (by decide) (by decide) rfl (hG.t 56 rfl) rfl (Nat.le_of_ble_eq_true rfl) dL_589 rfl ?_
  refine Wp.icmp_eq (pc := 592) 1109 dL_592 (by decide) (fun _ => ?_) (fun q => absurd rfl q)
  exact kk _ _ hB'
set_option maxHeartbeats 4000000 in
set_option maxRecDepth 100000 in
theorem lc_17 {X : CX} {T : List Dsc} {R : RM} {c e l a b L i n1 n2 : Nat} {s : SS} {m : M2} {xs : Nat → Int32} (hLw : XLw X b L xs) (hL : L ≤ 3072) (hi : i + 6 ≤ L) (hX : XR X 80 n1 n2) (hG : Geo T R c e) (hB : BS m c l s) (kk : ∀ (m' : M2) (s' : SS), BS m' c l s' → Wp X code RL 4 T (mk m' R) n1 n2 1109 [(0, .ref 1000), (1, .ref 0), (2, .ref 56), (3, .int (nI i))] []) : Wp X code RL 4 T (mk m R) n1 n2 597 [(0, .ref 1000), (1, .ref 0), (2, .ref 56), (3, .int (nI i))] [] := by
  obtain ⟨v, m1, m2, s', e1, e2, hB'⟩ := tt_beat hB (xs (i + 1))
  refine Wp.aload_n (pc := 597) 1 rfl rfl dL_597 ?_
  refine Wp.aload_n (pc := 598) 0 rfl rfl dL_598 ?_
  refine Wp.iload_n (pc := 599) 3 rfl rfl dL_599 ?_
  refine Wp.iconst (pc := 600) (1 : Int32) (by decide) dL_600 ?_
  refine Wp.iadd (pc := 601) dL_601 ?_
  refine Wp.sarg (pc := 602) (k := 1) hLw rfl (by omega) hL dL_602 ?_
  refine Wp.callVi (pc := 603) (b := 0) (st := []) (as := [.int (xs (i + 1))]) (ci := 10) (c_X11_beat hG e1) lml_87 lmv_X11_beat lmb_X11_beat hX (by decide) (by decide) rfl (hG.t 0 rfl) rfl (by decide) dL_603 rfl ?_
  refine Wp.aload_n (pc := 606) 2 rfl rfl dL_606 ?_
  refine Wp.aload_n (pc := 607) 0 rfl rfl dL_607 ?_
  refine Wp.iload_n (pc := 608) 3 rfl rfl dL_608 ?_
  refine Wp.iconst (pc := 609) (1 : Int32) (by decide) dL_609 ?_
  refine Wp.iadd (pc := 610) dL_610 ?_
  refine Wp.sarg (pc := 611) (k := 1) hLw rfl (by omega) hL dL_611 ?_
  refine Wp.callVi (pc := 612) (b := 56) (st := [.int v]) (as := [.int (xs (i + 1))]) (ci := 11) (c_X12_beat hG e2) lml_91 lmv_X12_beat lmb_X12_beat hX (by decide) (by decide) rfl (hG.t 56 rfl) rfl (Nat.le_of_ble_eq_true rfl) dL_612 rfl ?_
  refine Wp.icmp_eq (pc := 615) 1109 dL_615 (by decide) (fun _ => ?_) (fun q => absurd rfl q)
  exact kk _ _ hB'
set_option maxHeartbeats 4000000 in
set_option maxRecDepth 100000 in
theorem lc_18 {X : CX} {T : List Dsc} {R : RM} {c e l a b L i n1 n2 : Nat} {s : SS} {m : M2} {xs : Nat → Int32} (hLw : XLw X b L xs) (hL : L ≤ 3072) (hi : i + 6 ≤ L) (hX : XR X 80 n1 n2) (hG : Geo T R c e) (hB : BS m c l s) (kk : ∀ (m' : M2) (s' : SS), BS m' c l s' → Wp X code RL 4 T (mk m' R) n1 n2 1109 [(0, .ref 1000), (1, .ref 0), (2, .ref 56), (3, .int (nI i))] []) : Wp X code RL 4 T (mk m R) n1 n2 620 [(0, .ref 1000), (1, .ref 0), (2, .ref 56), (3, .int (nI i))] [] := by
  obtain ⟨v, m1, m2, s', e1, e2, hB'⟩ := tt_seating hB (xs (i + 1)) (xs (i + 2))
  refine Wp.aload_n (pc := 620) 1 rfl rfl dL_620 ?_
  refine Wp.aload_n (pc := 621) 0 rfl rfl dL_621 ?_
  refine Wp.iload_n (pc := 622) 3 rfl rfl dL_622 ?_
  refine Wp.iconst (pc := 623) (1 : Int32) (by decide) dL_623 ?_
  refine Wp.iadd (pc := 624) dL_624 ?_
  refine Wp.sarg (pc := 625) (k := 1) hLw rfl (by omega) hL dL_625 ?_
  refine Wp.aload_n (pc := 626) 0 rfl rfl dL_626 ?_
  refine Wp.iload_n (pc := 627) 3 rfl rfl dL_627 ?_
  refine Wp.iconst (pc := 628) (2 : Int32) (by decide) dL_628 ?_
  refine Wp.iadd (pc := 629) dL_629 ?_
  refine Wp.sarg (pc := 630) (k := 2) hLw rfl (by omega) hL dL_630 ?_
  refine Wp.callVi (pc := 631) (b := 0) (st := []) (as := [.int (xs (i + 1)), .int (xs (i + 2))]) (ci := 10) (c_X11_seating hG e1) lml_92 lmv_X11_seating lmb_X11_seating hX (by decide) (by decide) rfl (hG.t 0 rfl) rfl (by decide) dL_631 rfl ?_
  refine Wp.aload_n (pc := 634) 2 rfl rfl dL_634 ?_
  refine Wp.aload_n (pc := 635) 0 rfl rfl dL_635 ?_
  refine Wp.iload_n (pc := 636) 3 rfl rfl dL_636 ?_
  refine Wp.iconst (pc := 637) (1 : Int32) (by decide) dL_637 ?_
  refine Wp.iadd (pc := 638) dL_638 ?_
  refine Wp.sarg (pc := 639) (k := 1) hLw rfl (by omega) hL dL_639 ?_
  refine Wp.aload_n (pc := 640) 0 rfl rfl dL_640 ?_
  refine Wp.iload_n (pc := 641) 3 rfl rfl dL_641 ?_
  refine Wp.iconst (pc := 642) (2 : Int32) (by decide) dL_642 ?_
  refine Wp.iadd (pc := 643) dL_643 ?_
  refine Wp.sarg (pc := 644) (k := 2) hLw rfl (by omega) hL dL_644 ?_
  refine Wp.callVi (pc := 645) (b := 56) (st := [.int v]) (as := [.int (xs (i + 1)), .int (xs (i + 2))]) (ci := 11) (c_X12_seating hG e2) lml_95 lmv_X12_seating lmb_X12_seating hX (by decide) (by decide) rfl (hG.t 56 rfl) rfl (Nat.le_of_ble_eq_true rfl) dL_645 rfl ?_
  refine Wp.icmp_eq (pc := 648) 1109 dL_648 (by decide) (fun _ => ?_) (fun q => absurd rfl q)
  exact kk _ _ hB'
set_option maxHeartbeats 4000000 in
set_option maxRecDepth 100000 in
theorem lc_19 {X : CX} {T : List Dsc} {R : RM} {c e l a b L i n1 n2 : Nat} {s : SS} {m : M2} {xs : Nat → Int32} (hLw : XLw X b L xs) (hL : L ≤ 3072) (hi : i + 6 ≤ L) (hX : XR X 80 n1 n2) (hG : Geo T R c e) (hB : BS m c l s) (kk : ∀ (m' : M2) (s' : SS), BS m' c l s' → Wp X code RL 4 T (mk m' R) n1 n2 1109 [(0, .ref 1000), (1, .ref 0), (2, .ref 56), (3, .int (nI i))] []) : Wp X code RL 4 T (mk m R) n1 n2 653 [(0, .ref 1000), (1, .ref 0), (2, .ref 56), (3, .int (nI i))] [] := by
  obtain ⟨v, m1, m2, s', e1, e2, hB'⟩ := tt_seat hB (xs (i + 1)) (xs (i + 2)) (xs (i + 3))
  refine Wp.aload_n (pc := 653) 1 rfl rfl dL_653 ?_
  refine Wp.aload_n (pc := 654) 0 rfl rfl dL_654 ?_
  refine Wp.iload_n (pc := 655) 3 rfl rfl dL_655 ?_
  refine Wp.iconst (pc := 656) (1 : Int32) (by decide) dL_656 ?_
  refine Wp.iadd (pc := 657) dL_657 ?_
  refine Wp.sarg (pc := 658) (k := 1) hLw rfl (by omega) hL dL_658 ?_
  refine Wp.aload_n (pc := 659) 0 rfl rfl dL_659 ?_
  refine Wp.iload_n (pc := 660) 3 rfl rfl dL_660 ?_
  refine Wp.iconst (pc := 661) (2 : Int32) (by decide) dL_661 ?_
  refine Wp.iadd (pc := 662) dL_662 ?_
  refine Wp.sarg (pc := 663) (k := 2) hLw rfl (by omega) hL dL_663 ?_
  refine Wp.aload_n (pc := 664) 0 rfl rfl dL_664 ?_
  refine Wp.iload_n (pc := 665) 3 rfl rfl dL_665 ?_
  refine Wp.iconst (pc := 666) (3 : Int32) (by decide) dL_666 ?_
  refine Wp.iadd (pc := 667) dL_667 ?_
  refine Wp.sarg (pc := 668) (k := 3) hLw rfl (by omega) hL dL_668 ?_
  refine Wp.callVi (pc := 669) (b := 0) (st := []) (as := [.int (xs (i + 1)), .int (xs (i + 2)), .int (xs (i + 3))]) (ci := 10) (c_X11_seat hG e1) lml_96 lmv_X11_seat lmb_X11_seat hX (by decide) (by decide) rfl (hG.t 0 rfl) rfl (by decide) dL_669 rfl ?_
  refine Wp.aload_n (pc := 672) 2 rfl rfl dL_672 ?_
  refine Wp.aload_n (pc := 673) 0 rfl rfl dL_673 ?_
  refine Wp.iload_n (pc := 674) 3 rfl rfl dL_674 ?_
  refine Wp.iconst (pc := 675) (1 : Int32) (by decide) dL_675 ?_
  refine Wp.iadd (pc := 676) dL_676 ?_
  refine Wp.sarg (pc := 677) (k := 1) hLw rfl (by omega) hL dL_677 ?_
  refine Wp.aload_n (pc := 678) 0 rfl rfl dL_678 ?_
  refine Wp.iload_n (pc := 679) 3 rfl rfl dL_679 ?_
  refine Wp.iconst (pc := 680) (2 : Int32) (by decide) dL_680 ?_
  refine Wp.iadd (pc := 681) dL_681 ?_
  refine Wp.sarg (pc := 682) (k := 2) hLw rfl (by omega) hL dL_682 ?_
  refine Wp.aload_n (pc := 683) 0 rfl rfl dL_683 ?_
  refine Wp.iload_n (pc := 684) 3 rfl rfl dL_684 ?_
  refine Wp.iconst (pc := 685) (3 : Int32) (by decide) dL_685 ?_
  refine Wp.iadd (pc := 686) dL_686 ?_
  refine Wp.sarg (pc := 687) (k := 3) hLw rfl (by omega) hL dL_687 ?_
  refine Wp.callVi (pc := 688) (b := 56) (st := [.int v]) (as := [.int (xs (i + 1)), .int (xs (i + 2)), .int (xs (i + 3))]) (ci := 11) (c_X12_seat hG e2) lml_100 lmv_X12_seat lmb_X12_seat hX (by decide) (by decide) rfl (hG.t 56 rfl) rfl (Nat.le_of_ble_eq_true rfl) dL_688 rfl ?_
  refine Wp.icmp_eq (pc := 691) 1109 dL_691 (by decide) (fun _ => ?_) (fun q => absurd rfl q)
  exact kk _ _ hB'
set_option maxHeartbeats 4000000 in
set_option maxRecDepth 100000 in
theorem lc_20 {X : CX} {T : List Dsc} {R : RM} {c e l a b L i n1 n2 : Nat} {s : SS} {m : M2} {xs : Nat → Int32} (hLw : XLw X b L xs) (hL : L ≤ 3072) (hi : i + 6 ≤ L) (hX : XR X 80 n1 n2) (hG : Geo T R c e) (hB : BS m c l s) (kk : ∀ (m' : M2) (s' : SS), BS m' c l s' → Wp X code RL 4 T (mk m' R) n1 n2 1109 [(0, .ref 1000), (1, .ref 0), (2, .ref 56), (3, .int (nI i))] []) : Wp X code RL 4 T (mk m R) n1 n2 696 [(0, .ref 1000), (1, .ref 0), (2, .ref 56), (3, .int (nI i))] [] := by
  obtain ⟨v, m1, m2, s', e1, e2, hB'⟩ := tt_better hB (xs (i + 1)) (xs (i + 2))
  refine Wp.aload_n (pc := 696) 1 rfl rfl dL_696 ?_
  refine Wp.aload_n (pc := 697) 0 rfl rfl dL_697 ?_
  refine Wp.iload_n (pc := 698) 3 rfl rfl dL_698 ?_
  refine Wp.iconst (pc := 699) (1 : Int32) (by decide) dL_699 ?_
  refine Wp.iadd (pc := 700) dL_700 ?_
  refine Wp.sarg (pc := 701) (k := 1) hLw rfl (by omega) hL dL_701 ?_
  refine Wp.aload_n (pc := 702) 0 rfl rfl dL_702 ?_
  refine Wp.iload_n (pc := 703) 3 rfl rfl dL_703 ?_
  refine Wp.iconst (pc := 704) (2 : Int32) (by decide) dL_704 ?_
  refine Wp.iadd (pc := 705) dL_705 ?_
  refine Wp.sarg (pc := 706) (k := 2) hLw rfl (by omega) hL dL_706 ?_
  refine Wp.callVi (pc := 707) (b := 0) (st := []) (as := [.int (xs (i + 1)), .int (xs (i + 2))]) (ci := 10) (c_X11_better hG e1) lml_101 lmv_X11_better lmb_X11_better hX (by decide) (by decide) rfl (hG.t 0 rfl) rfl (by decide) dL_707 rfl ?_
  refine Wp.aload_n (pc := 710) 2 rfl rfl dL_710 ?_
  refine Wp.aload_n (pc := 711) 0 rfl rfl dL_711 ?_
  refine Wp.iload_n (pc := 712) 3 rfl rfl dL_712 ?_
  refine Wp.iconst (pc := 713) (1 : Int32) (by decide) dL_713 ?_
  refine Wp.iadd (pc := 714) dL_714 ?_
  refine Wp.sarg (pc := 715) (k := 1) hLw rfl (by omega) hL dL_715 ?_
  refine Wp.aload_n (pc := 716) 0 rfl rfl dL_716 ?_
  refine Wp.iload_n (pc := 717) 3 rfl rfl dL_717 ?_
  refine Wp.iconst (pc := 718) (2 : Int32) (by decide) dL_718 ?_
  refine Wp.iadd (pc := 719) dL_719 ?_
  refine Wp.sarg (pc := 720) (k := 2) hLw rfl (by omega) hL dL_720 ?_
  refine Wp.callVi (pc := 721) (b := 56) (st := [.int v]) (as := [.int (xs (i + 1)), .int (xs (i + 2))]) (ci := 11) (c_X12_better hG e2) lml_104 lmv_X12_better lmb_X12_better hX (by decide) (by decide) rfl (hG.t 56 rfl) rfl (Nat.le_of_ble_eq_true rfl) dL_721 rfl ?_
  refine Wp.icmp_eq (pc := 724) 1109 dL_724 (by decide) (fun _ => ?_) (fun q => absurd rfl q)
  exact kk _ _ hB'
set_option maxHeartbeats 4000000 in
set_option maxRecDepth 100000 in
theorem lc_21 {X : CX} {T : List Dsc} {R : RM} {c e l a b L i n1 n2 : Nat} {s : SS} {m : M2} {xs : Nat → Int32} (hLw : XLw X b L xs) (hL : L ≤ 3072) (hi : i + 6 ≤ L) (hX : ∀ a', a' ≤ 1 → XR X 80 (n1 + 2 * (a' - a)) (n2 + 41472 * (a' - a))) (hG : Geo T R c e) (hP : PH T R a) (hB : BS m c l s) (kk : ∀ (T' : List Dsc) (R' : RM) (a' : Nat) (m' : M2) (s' : SS), a ≤ a' → Geo T' R' c e → PH T' R' a' → BS m' c l s' → Wp X code RL 4 T' (mk m' R') (n1 + 2 * (a' - a)) (n2 + 41472 * (a' - a)) 1109 [(0, .ref 1000), (1, .ref 0), (2, .ref 56), (3, .int (nI i))] []) : Wp X code RL 4 T (mk m R) n1 n2 729 [(0, .ref 1000), (1, .ref 0), (2, .ref 56), (3, .int (nI i))] [] := by
  obtain ⟨v, m1, m2, s', e1, e2, hB'⟩ := tt_every (gE_fr a) hB (xs (i + 1)) (xs (i + 2)) (xs (i + 3))
  obtain ⟨a', T', R', hP1, hG1, haa, hct⟩ := ca_every hG hP e1
  have hX1 := hX a' hP1.le
  have hFr := hP1.rl (m := m1)
  have hK1 := hP1.len
  have h0T := hP.gt (show 0 < 120 by decide)
  have h56T := hP.gt (show 56 < 120 by decide)
  refine Wp.aload_n (pc := 729) 1 rfl rfl dL_729 ?_
  refine Wp.aload_n (pc := 730) 0 rfl rfl dL_730 ?_
  refine Wp.iload_n (pc := 731) 3 rfl rfl dL_731 ?_
  refine Wp.iconst (pc := 732) (1 : Int32) (by decide) dL_732 ?_
  refine Wp.iadd (pc := 733) dL_733 ?_
  refine Wp.sarg (pc := 734) (k := 1) hLw rfl (by omega) hL dL_734 ?_
  refine Wp.aload_n (pc := 735) 0 rfl rfl dL_735 ?_
  refine Wp.iload_n (pc := 736) 3 rfl rfl dL_736 ?_
  refine Wp.iconst (pc := 737) (2 : Int32) (by decide) dL_737 ?_
  refine Wp.iadd (pc := 738) dL_738 ?_
  refine Wp.sarg (pc := 739) (k := 2) hLw rfl (by omega) hL dL_739 ?_
  refine Wp.aload_n (pc := 740) 0 rfl rfl dL_740 ?_
  refine Wp.iload_n (pc := 741) 3 rfl rfl dL_741 ?_
  refine Wp.iconst (pc := 742) (3 : Int32) (by decide) dL_742 ?_
  refine Wp.iadd (pc := 743) dL_743 ?_
  refine Wp.sarg (pc := 744) (k := 3) hLw rfl (by omega) hL dL_744 ?_
  refine Wp.callVAx (pc := 745) (b := 0) (st := []) (as := [.int (xs (i + 1)), .int (xs (i + 2)), .int (xs (i + 3))]) (ci := 10) hct rfl lml_105 lmv_X11_every lmb_X11_every hX1 hLw hFr hK1 vyn (lyc (Or.inr hK1) (lyc (Or.inl h0T) (lyc (Or.inl h56T) (lyc trivial lyn)))) (by decide) (by decide) rfl (hG.t 0 rfl) rfl (by decide) dL_745 rfl ?_
  refine Wp.aload_n (pc := 748) 2 rfl rfl dL_748 ?_
  refine Wp.aload_n (pc := 749) 0 rfl rfl dL_749 ?_
  refine Wp.iload_n (pc := 750) 3 rfl rfl dL_750 ?_
  refine Wp.iconst (pc := 751) (1 : Int32) (by decide) dL_751 ?_
  refine Wp.iadd (pc := 752) dL_752 ?_
  refine Wp.sarg (pc := 753) (k := 1) hLw rfl (by omega) hL dL_753 ?_
  refine Wp.aload_n (pc := 754) 0 rfl rfl dL_754 ?_
  refine Wp.iload_n (pc := 755) 3 rfl rfl dL_755 ?_
  refine Wp.iconst (pc := 756) (2 : Int32) (by decide) dL_756 ?_
  refine Wp.iadd (pc := 757) dL_757 ?_
  refine Wp.sarg (pc := 758) (k := 2) hLw rfl (by omega) hL dL_758 ?_
  refine Wp.aload_n (pc := 759) 0 rfl rfl dL_759 ?_
  refine Wp.iload_n (pc := 760) 3 rfl rfl dL_760 ?_
  refine Wp.iconst (pc := 761) (3 : Int32) (by decide) dL_761 ?_
  refine Wp.iadd (pc := 762) dL_762 ?_
  refine Wp.sarg (pc := 763) (k := 3) hLw rfl (by omega) hL dL_763 ?_
  refine Wp.callVi (pc := 764) (b := 56) (st := [.int v]) (as := [.int (xs (i + 1)), .int (xs (i + 2)), .int (xs (i + 3))]) (ci := 11) (c_X12_every hG1 e2) lml_108 lmv_X12_every lmb_X12_every hX1 (by decide) (by decide) rfl (hG1.t 56 rfl) rfl (Nat.le_of_ble_eq_true rfl) dL_764 rfl ?_
  refine Wp.icmp_eq (pc := 767) 1109 dL_767 (by decide) (fun _ => ?_) (fun q => absurd rfl q)
  exact kk _ _ _ _ _ haa hG1 hP1 hB'
