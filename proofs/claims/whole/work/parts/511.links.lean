/-! what the law links -/
theorem lg_self (v : Int64) : lg_cmp v v = 0 := by
  unfold lg_cmp
  rw [if_neg (by rw [gt_iff_lt, Int64.lt_iff_toInt_lt]; exact Int.lt_irrefl _), if_pos rfl]
theorem PH.le {T : List Dsc} {R : RM} {a : Nat} (h : PH T R a) : a ≤ 1 := by
  rcases h with ⟨rfl, -⟩ | ⟨rfl, -⟩
  · decide
  · decide
theorem PH.tl {T : List Dsc} {R : RM} {a : Nat} (h : PH T R a) : T.length = 120 + 2 * a := by
  rcases h with ⟨rfl, rfl, -⟩ | ⟨rfl, rfl, -⟩
  · exact len_T0
  · exact len_TBB
theorem PH.rl {T : List Dsc} {R : RM} {a : Nat} {m : M2} (h : PH T R a) : ∀ k j r, gR (mk m R) k j = some r → r < T.length := by
  rw [h.tl]
  rcases h with ⟨rfl, -, -, -, h5⟩ | ⟨rfl, -, -, h4⟩
  · exact fun k j r hr => (h5 k j r hr).1
  · exact h4
theorem PH.len {T : List Dsc} {R : RM} {a : Nat} (h : PH T R a) : T.length ≤ 1000 := by
  have := h.le
  rw [h.tl]
  omega
theorem PH.gt {T : List Dsc} {R : RM} {a k : Nat} (h : PH T R a) (hk : k < 120) : k < T.length := by
  rw [h.tl]
  omega
theorem lnn_7 : NwK RL 7 10 := ⟨_, _, _, rfl, gw_tb 21 (by decide +kernel) rfl, gw_tb 22 (by decide +kernel) rfl, gw_tb 1 (by decide +kernel) rfl, by decide⟩
theorem lnn_10 : NwK RL 10 11 := ⟨_, _, _, rfl, gw_tb 1029 (by decide +kernel) rfl, gw_tb 1030 (by decide +kernel) rfl, gw_tb 16 (by decide +kernel) rfl, by decide⟩
theorem lmb_X11_init : MB yX11_init cX11_init 2 none 0 := ⟨gw_tb 1 (by decide +kernel) rfl, gw_tb 25 (by decide +kernel) rfl, by decide +kernel, by decide +kernel, by decide +kernel⟩
theorem lmi_X11_init : Cond.instanceMethod yX11_init ∈ gw := gw_tb 24 (by decide +kernel) rfl
theorem lml_9 : ML RL 9 yX11_init := gw_tb 23 (by decide +kernel) rfl
set_option maxRecDepth 1000000 in
set_option maxHeartbeats 4000000 in
theorem lmc_X12_init : tables_1[1033]? = some (Cond.code yX12_init cX12_init 1 none) := rfl
theorem lmb_X12_init : MB yX12_init cX12_init 1 none 0 := ⟨gw_tb 16 (by decide +kernel) rfl, gw_tb 1033 lmc_X12_init rfl, by decide +kernel, by decide +kernel, by decide +kernel⟩
theorem lmi_X12_init : Cond.instanceMethod yX12_init ∈ gw := gw_tb 1032 (by decide +kernel) rfl
theorem lml_12 : ML RL 12 yX12_init := gw_tb 1031 (by decide +kernel) rfl
theorem lmb_X11_feed : MB yX11_feed cX11_feed 6 (some .int) 5 := ⟨gw_tb 1 (by decide +kernel) rfl, gw_tb 490 (by decide +kernel) rfl, by decide +kernel, by decide +kernel, by decide +kernel⟩
theorem lmv_X11_feed : MV yX11_feed := ⟨gw_tb 488 (by decide +kernel) rfl, gw_tb 489 (by decide +kernel) rfl⟩
theorem lml_13 : ML RL 13 yX11_feed := gw_tb 487 (by decide +kernel) rfl
theorem lmb_X12_feed : MB yX12_feed cX12_feed 6 (some .int) 5 := ⟨gw_tb 16 (by decide +kernel) rfl, gw_tb 1322 (by decide +kernel) rfl, by decide +kernel, by decide +kernel, by decide +kernel⟩
theorem lmv_X12_feed : MV yX12_feed := ⟨gw_tb 1320 (by decide +kernel) rfl, gw_tb 1321 (by decide +kernel) rfl⟩
theorem lml_17 : ML RL 17 yX12_feed := gw_tb 1319 (by decide +kernel) rfl
theorem lmb_X11_back : MB yX11_back cX11_back 2 (some .int) 1 := ⟨gw_tb 1 (by decide +kernel) rfl, gw_tb 498 (by decide +kernel) rfl, by decide +kernel, by decide +kernel, by decide +kernel⟩
theorem lmv_X11_back : MV yX11_back := ⟨gw_tb 496 (by decide +kernel) rfl, gw_tb 497 (by decide +kernel) rfl⟩
theorem lml_18 : ML RL 18 yX11_back := gw_tb 495 (by decide +kernel) rfl
theorem lmb_X12_back : MB yX12_back cX12_back 2 (some .int) 1 := ⟨gw_tb 16 (by decide +kernel) rfl, gw_tb 1330 (by decide +kernel) rfl, by decide +kernel, by decide +kernel, by decide +kernel⟩
theorem lmv_X12_back : MV yX12_back := ⟨gw_tb 1328 (by decide +kernel) rfl, gw_tb 1329 (by decide +kernel) rfl⟩
theorem lml_22 : ML RL 22 yX12_back := gw_tb 1327 (by decide +kernel) rfl
theorem lmb_X11_read : MB yX11_read cX11_read 2 (some .int) 0 := ⟨gw_tb 1 (by decide +kernel) rfl, gw_tb 502 (by decide +kernel) rfl, by decide +kernel, by decide +kernel, by decide +kernel⟩
theorem lmv_X11_read : MV yX11_read := ⟨gw_tb 500 (by decide +kernel) rfl, gw_tb 501 (by decide +kernel) rfl⟩
theorem lml_23 : ML RL 23 yX11_read := gw_tb 499 (by decide +kernel) rfl
theorem lmb_X12_read : MB yX12_read cX12_read 2 (some .int) 0 := ⟨gw_tb 16 (by decide +kernel) rfl, gw_tb 1334 (by decide +kernel) rfl, by decide +kernel, by decide +kernel, by decide +kernel⟩
theorem lmv_X12_read : MV yX12_read := ⟨gw_tb 1332 (by decide +kernel) rfl, gw_tb 1333 (by decide +kernel) rfl⟩
theorem lml_27 : ML RL 27 yX12_read := gw_tb 1331 (by decide +kernel) rfl
theorem lmb_X11_place : MB yX11_place cX11_place 1 (some .int) 0 := ⟨gw_tb 1 (by decide +kernel) rfl, gw_tb 666 (by decide +kernel) rfl, by decide +kernel, by decide +kernel, by decide +kernel⟩
theorem lmv_X11_place : MV yX11_place := ⟨gw_tb 664 (by decide +kernel) rfl, gw_tb 665 (by decide +kernel) rfl⟩
theorem lml_28 : ML RL 28 yX11_place := gw_tb 663 (by decide +kernel) rfl
theorem lmb_X12_place : MB yX12_place cX12_place 1 (some .int) 0 := ⟨gw_tb 16 (by decide +kernel) rfl, gw_tb 1470 (by decide +kernel) rfl, by decide +kernel, by decide +kernel, by decide +kernel⟩
theorem lmv_X12_place : MV yX12_place := ⟨gw_tb 1468 (by decide +kernel) rfl, gw_tb 1469 (by decide +kernel) rfl⟩
theorem lml_31 : ML RL 31 yX12_place := gw_tb 1467 (by decide +kernel) rfl
theorem lmb_X11_bench : MB yX11_bench cX11_bench 4 (some .int) 2 := ⟨gw_tb 1 (by decide +kernel) rfl, gw_tb 670 (by decide +kernel) rfl, by decide +kernel, by decide +kernel, by decide +kernel⟩
theorem lmv_X11_bench : MV yX11_bench := ⟨gw_tb 668 (by decide +kernel) rfl, gw_tb 669 (by decide +kernel) rfl⟩
theorem lml_32 : ML RL 32 yX11_bench := gw_tb 667 (by decide +kernel) rfl
theorem lmb_X12_bench : MB yX12_bench cX12_bench 3 (some .int) 2 := ⟨gw_tb 16 (by decide +kernel) rfl, gw_tb 1474 (by decide +kernel) rfl, by decide +kernel, by decide +kernel, by decide +kernel⟩
theorem lmv_X12_bench : MV yX12_bench := ⟨gw_tb 1472 (by decide +kernel) rfl, gw_tb 1473 (by decide +kernel) rfl⟩
theorem lml_36 : ML RL 36 yX12_bench := gw_tb 1471 (by decide +kernel) rfl
theorem lmb_X11_row : MB yX11_row cX11_row 3 (some .int) 1 := ⟨gw_tb 1 (by decide +kernel) rfl, gw_tb 689 (by decide +kernel) rfl, by decide +kernel, by decide +kernel, by decide +kernel⟩
theorem lmv_X11_row : MV yX11_row := ⟨gw_tb 687 (by decide +kernel) rfl, gw_tb 688 (by decide +kernel) rfl⟩
theorem lml_37 : ML RL 37 yX11_row := gw_tb 686 (by decide +kernel) rfl
theorem lmb_X12_row : MB yX12_row cX12_row 4 (some .int) 1 := ⟨gw_tb 16 (by decide +kernel) rfl, gw_tb 1505 (by decide +kernel) rfl, by decide +kernel, by decide +kernel, by decide +kernel⟩
theorem lmv_X12_row : MV yX12_row := ⟨gw_tb 1503 (by decide +kernel) rfl, gw_tb 1504 (by decide +kernel) rfl⟩
theorem lml_40 : ML RL 40 yX12_row := gw_tb 1502 (by decide +kernel) rfl
theorem lmb_X11_undo : MB yX11_undo cX11_undo 1 (some .boolean) 0 := ⟨gw_tb 1 (by decide +kernel) rfl, gw_tb 725 (by decide +kernel) rfl, by decide +kernel, by decide +kernel, by decide +kernel⟩
theorem lmv_X11_undo : MV yX11_undo := ⟨gw_tb 723 (by decide +kernel) rfl, gw_tb 724 (by decide +kernel) rfl⟩
theorem lml_41 : ML RL 41 yX11_undo := gw_tb 722 (by decide +kernel) rfl
theorem lmb_X12_undo : MB yX12_undo cX12_undo 2 (some .boolean) 0 := ⟨gw_tb 16 (by decide +kernel) rfl, gw_tb 1533 (by decide +kernel) rfl, by decide +kernel, by decide +kernel, by decide +kernel⟩
theorem lmv_X12_undo : MV yX12_undo := ⟨gw_tb 1531 (by decide +kernel) rfl, gw_tb 1532 (by decide +kernel) rfl⟩
theorem lml_45 : ML RL 45 yX12_undo := gw_tb 1530 (by decide +kernel) rfl
theorem lmb_X11_clashes : MB yX11_clashes cX11_clashes 1 (some .int) 0 := ⟨gw_tb 1 (by decide +kernel) rfl, gw_tb 736 (by decide +kernel) rfl, by decide +kernel, by decide +kernel, by decide +kernel⟩
theorem lmv_X11_clashes : MV yX11_clashes := ⟨gw_tb 734 (by decide +kernel) rfl, gw_tb 735 (by decide +kernel) rfl⟩
theorem lml_46 : ML RL 46 yX11_clashes := gw_tb 733 (by decide +kernel) rfl
theorem lmb_X12_clashes : MB yX12_clashes cX12_clashes 1 (some .int) 0 := ⟨gw_tb 16 (by decide +kernel) rfl, gw_tb 1537 (by decide +kernel) rfl, by decide +kernel, by decide +kernel, by decide +kernel⟩
theorem lmv_X12_clashes : MV yX12_clashes := ⟨gw_tb 1535 (by decide +kernel) rfl, gw_tb 1536 (by decide +kernel) rfl⟩
theorem lml_49 : ML RL 49 yX12_clashes := gw_tb 1534 (by decide +kernel) rfl
theorem lmb_X11_way : MB yX11_way cX11_way 3 (some .int) 1 := ⟨gw_tb 1 (by decide +kernel) rfl, gw_tb 751 (by decide +kernel) rfl, by decide +kernel, by decide +kernel, by decide +kernel⟩
theorem lmv_X11_way : MV yX11_way := ⟨gw_tb 749 (by decide +kernel) rfl, gw_tb 750 (by decide +kernel) rfl⟩
theorem lml_50 : ML RL 50 yX11_way := gw_tb 748 (by decide +kernel) rfl
theorem lmb_X12_way : MB yX12_way cX12_way 4 (some .int) 1 := ⟨gw_tb 16 (by decide +kernel) rfl, gw_tb 1545 (by decide +kernel) rfl, by decide +kernel, by decide +kernel, by decide +kernel⟩
theorem lmv_X12_way : MV yX12_way := ⟨gw_tb 1543 (by decide +kernel) rfl, gw_tb 1544 (by decide +kernel) rfl⟩
theorem lml_53 : ML RL 53 yX12_way := gw_tb 1542 (by decide +kernel) rfl
theorem lmb_X11_wave : MB yX11_wave cX11_wave 2 (some .int) 1 := ⟨gw_tb 1 (by decide +kernel) rfl, gw_tb 765 (by decide +kernel) rfl, by decide +kernel, by decide +kernel, by decide +kernel⟩
theorem lmv_X11_wave : MV yX11_wave := ⟨gw_tb 763 (by decide +kernel) rfl, gw_tb 764 (by decide +kernel) rfl⟩
theorem lml_54 : ML RL 54 yX11_wave := gw_tb 762 (by decide +kernel) rfl
theorem lmb_X12_wave : MB yX12_wave cX12_wave 8 (some .int) 1 := ⟨gw_tb 16 (by decide +kernel) rfl, gw_tb 1557 (by decide +kernel) rfl, by decide +kernel, by decide +kernel, by decide +kernel⟩
theorem lmv_X12_wave : MV yX12_wave := ⟨gw_tb 1555 (by decide +kernel) rfl, gw_tb 1556 (by decide +kernel) rfl⟩
theorem lml_57 : ML RL 57 yX12_wave := gw_tb 1554 (by decide +kernel) rfl
theorem lmb_X11_soon : MB yX11_soon cX11_soon 5 (some .int) 1 := ⟨gw_tb 1 (by decide +kernel) rfl, gw_tb 773 (by decide +kernel) rfl, by decide +kernel, by decide +kernel, by decide +kernel⟩
theorem lmv_X11_soon : MV yX11_soon := ⟨gw_tb 771 (by decide +kernel) rfl, gw_tb 772 (by decide +kernel) rfl⟩
theorem lml_58 : ML RL 58 yX11_soon := gw_tb 770 (by decide +kernel) rfl
theorem lmb_X12_soon : MB yX12_soon cX12_soon 3 (some .int) 1 := ⟨gw_tb 16 (by decide +kernel) rfl, gw_tb 1561 (by decide +kernel) rfl, by decide +kernel, by decide +kernel, by decide +kernel⟩
theorem lmv_X12_soon : MV yX12_soon := ⟨gw_tb 1559 (by decide +kernel) rfl, gw_tb 1560 (by decide +kernel) rfl⟩
theorem lml_61 : ML RL 61 yX12_soon := gw_tb 1558 (by decide +kernel) rfl
theorem lmb_X11_rubs : MB yX11_rubs cX11_rubs 2 (some .int) 1 := ⟨gw_tb 1 (by decide +kernel) rfl, gw_tb 782 (by decide +kernel) rfl, by decide +kernel, by decide +kernel, by decide +kernel⟩
theorem lmv_X11_rubs : MV yX11_rubs := ⟨gw_tb 780 (by decide +kernel) rfl, gw_tb 781 (by decide +kernel) rfl⟩
theorem lml_62 : ML RL 62 yX11_rubs := gw_tb 779 (by decide +kernel) rfl
theorem lmb_X12_rubs : MB yX12_rubs cX12_rubs 5 (some .int) 1 := ⟨gw_tb 16 (by decide +kernel) rfl, gw_tb 1565 (by decide +kernel) rfl, by decide +kernel, by decide +kernel, by decide +kernel⟩
theorem lmv_X12_rubs : MV yX12_rubs := ⟨gw_tb 1563 (by decide +kernel) rfl, gw_tb 1564 (by decide +kernel) rfl⟩
theorem lml_65 : ML RL 65 yX12_rubs := gw_tb 1562 (by decide +kernel) rfl
theorem lmb_X11_still : MB yX11_still cX11_still 1 (some .int) 0 := ⟨gw_tb 1 (by decide +kernel) rfl, gw_tb 793 (by decide +kernel) rfl, by decide +kernel, by decide +kernel, by decide +kernel⟩
theorem lmv_X11_still : MV yX11_still := ⟨gw_tb 791 (by decide +kernel) rfl, gw_tb 792 (by decide +kernel) rfl⟩
theorem lml_66 : ML RL 66 yX11_still := gw_tb 790 (by decide +kernel) rfl
theorem lmb_X12_still : MB yX12_still cX12_still 1 (some .int) 0 := ⟨gw_tb 16 (by decide +kernel) rfl, gw_tb 1569 (by decide +kernel) rfl, by decide +kernel, by decide +kernel, by decide +kernel⟩
theorem lmv_X12_still : MV yX12_still := ⟨gw_tb 1567 (by decide +kernel) rfl, gw_tb 1568 (by decide +kernel) rfl⟩
theorem lml_69 : ML RL 69 yX12_still := gw_tb 1566 (by decide +kernel) rfl
theorem lmb_X11_round : MB yX11_round cX11_round 2 (some .int) 1 := ⟨gw_tb 1 (by decide +kernel) rfl, gw_tb 797 (by decide +kernel) rfl, by decide +kernel, by decide +kernel, by decide +kernel⟩
theorem lmv_X11_round : MV yX11_round := ⟨gw_tb 795 (by decide +kernel) rfl, gw_tb 796 (by decide +kernel) rfl⟩
theorem lml_70 : ML RL 70 yX11_round := gw_tb 794 (by decide +kernel) rfl
theorem lmb_X12_round : MB yX12_round cX12_round 4 (some .int) 1 := ⟨gw_tb 16 (by decide +kernel) rfl, gw_tb 1577 (by decide +kernel) rfl, by decide +kernel, by decide +kernel, by decide +kernel⟩
theorem lmv_X12_round : MV yX12_round := ⟨gw_tb 1575 (by decide +kernel) rfl, gw_tb 1576 (by decide +kernel) rfl⟩
theorem lml_73 : ML RL 73 yX12_round := gw_tb 1574 (by decide +kernel) rfl
theorem lmb_X11_change : MB yX11_change cX11_change 3 (some .boolean) 2 := ⟨gw_tb 1 (by decide +kernel) rfl, gw_tb 806 (by decide +kernel) rfl, by decide +kernel, by decide +kernel, by decide +kernel⟩
theorem lmv_X11_change : MV yX11_change := ⟨gw_tb 804 (by decide +kernel) rfl, gw_tb 805 (by decide +kernel) rfl⟩
theorem lml_74 : ML RL 74 yX11_change := gw_tb 803 (by decide +kernel) rfl
theorem lmb_X12_change : MB yX12_change cX12_change 6 (some .boolean) 2 := ⟨gw_tb 16 (by decide +kernel) rfl, gw_tb 1585 (by decide +kernel) rfl, by decide +kernel, by decide +kernel, by decide +kernel⟩
theorem lmv_X12_change : MV yX12_change := ⟨gw_tb 1583 (by decide +kernel) rfl, gw_tb 1584 (by decide +kernel) rfl⟩
theorem lml_78 : ML RL 78 yX12_change := gw_tb 1582 (by decide +kernel) rfl
theorem lmb_X11_teach : MB yX11_teach cX11_teach 3 (some .boolean) 2 := ⟨gw_tb 1 (by decide +kernel) rfl, gw_tb 816 (by decide +kernel) rfl, by decide +kernel, by decide +kernel, by decide +kernel⟩
theorem lmv_X11_teach : MV yX11_teach := ⟨gw_tb 814 (by decide +kernel) rfl, gw_tb 815 (by decide +kernel) rfl⟩
theorem lml_79 : ML RL 79 yX11_teach := gw_tb 813 (by decide +kernel) rfl
theorem lmb_X12_teach : MB yX12_teach cX12_teach 3 (some .boolean) 2 := ⟨gw_tb 16 (by decide +kernel) rfl, gw_tb 1589 (by decide +kernel) rfl, by decide +kernel, by decide +kernel, by decide +kernel⟩
theorem lmv_X12_teach : MV yX12_teach := ⟨gw_tb 1587 (by decide +kernel) rfl, gw_tb 1588 (by decide +kernel) rfl⟩
theorem lml_82 : ML RL 82 yX12_teach := gw_tb 1586 (by decide +kernel) rfl
theorem lmb_X11_set : MB yX11_set cX11_set 3 (some .boolean) 2 := ⟨gw_tb 1 (by decide +kernel) rfl, gw_tb 820 (by decide +kernel) rfl, by decide +kernel, by decide +kernel, by decide +kernel⟩
theorem lmv_X11_set : MV yX11_set := ⟨gw_tb 818 (by decide +kernel) rfl, gw_tb 819 (by decide +kernel) rfl⟩
theorem lml_83 : ML RL 83 yX11_set := gw_tb 817 (by decide +kernel) rfl
theorem lmb_X12_set : MB yX12_set cX12_set 3 (some .boolean) 2 := ⟨gw_tb 16 (by decide +kernel) rfl, gw_tb 1593 (by decide +kernel) rfl, by decide +kernel, by decide +kernel, by decide +kernel⟩
theorem lmv_X12_set : MV yX12_set := ⟨gw_tb 1591 (by decide +kernel) rfl, gw_tb 1592 (by decide +kernel) rfl⟩
theorem lml_86 : ML RL 86 yX12_set := gw_tb 1590 (by decide +kernel) rfl
theorem lmb_X11_beat : MB yX11_beat cX11_beat 2 (some .boolean) 1 := ⟨gw_tb 1 (by decide +kernel) rfl, gw_tb 825 (by decide +kernel) rfl, by decide +kernel, by decide +kernel, by decide +kernel⟩
theorem lmv_X11_beat : MV yX11_beat := ⟨gw_tb 823 (by decide +kernel) rfl, gw_tb 824 (by decide +kernel) rfl⟩
theorem lml_87 : ML RL 87 yX11_beat := gw_tb 822 (by decide +kernel) rfl
theorem lmb_X12_beat : MB yX12_beat cX12_beat 2 (some .boolean) 1 := ⟨gw_tb 16 (by decide +kernel) rfl, gw_tb 1597 (by decide +kernel) rfl, by decide +kernel, by decide +kernel, by decide +kernel⟩
theorem lmv_X12_beat : MV yX12_beat := ⟨gw_tb 1595 (by decide +kernel) rfl, gw_tb 1596 (by decide +kernel) rfl⟩
theorem lml_91 : ML RL 91 yX12_beat := gw_tb 1594 (by decide +kernel) rfl
theorem lmb_X11_seating : MB yX11_seating cX11_seating 3 (some .int) 2 := ⟨gw_tb 1 (by decide +kernel) rfl, gw_tb 829 (by decide +kernel) rfl, by decide +kernel, by decide +kernel, by decide +kernel⟩
theorem lmv_X11_seating : MV yX11_seating := ⟨gw_tb 827 (by decide +kernel) rfl, gw_tb 828 (by decide +kernel) rfl⟩
theorem lml_92 : ML RL 92 yX11_seating := gw_tb 826 (by decide +kernel) rfl
theorem lmb_X12_seating : MB yX12_seating cX12_seating 3 (some .int) 2 := ⟨gw_tb 16 (by decide +kernel) rfl, gw_tb 1601 (by decide +kernel) rfl, by decide +kernel, by decide +kernel, by decide +kernel⟩
theorem lmv_X12_seating : MV yX12_seating := ⟨gw_tb 1599 (by decide +kernel) rfl, gw_tb 1600 (by decide +kernel) rfl⟩
theorem lml_95 : ML RL 95 yX12_seating := gw_tb 1598 (by decide +kernel) rfl
theorem lmb_X11_seat : MB yX11_seat cX11_seat 4 (some .int) 3 := ⟨gw_tb 1 (by decide +kernel) rfl, gw_tb 874 (by decide +kernel) rfl, by decide +kernel, by decide +kernel, by decide +kernel⟩
theorem lmv_X11_seat : MV yX11_seat := ⟨gw_tb 872 (by decide +kernel) rfl, gw_tb 873 (by decide +kernel) rfl⟩
theorem lml_96 : ML RL 96 yX11_seat := gw_tb 871 (by decide +kernel) rfl
theorem lmb_X12_seat : MB yX12_seat cX12_seat 4 (some .int) 3 := ⟨gw_tb 16 (by decide +kernel) rfl, gw_tb 1632 (by decide +kernel) rfl, by decide +kernel, by decide +kernel, by decide +kernel⟩
theorem lmv_X12_seat : MV yX12_seat := ⟨gw_tb 1630 (by decide +kernel) rfl, gw_tb 1631 (by decide +kernel) rfl⟩
theorem lml_100 : ML RL 100 yX12_seat := gw_tb 1629 (by decide +kernel) rfl
theorem lmb_X11_better : MB yX11_better cX11_better 3 (some .int) 2 := ⟨gw_tb 1 (by decide +kernel) rfl, gw_tb 878 (by decide +kernel) rfl, by decide +kernel, by decide +kernel, by decide +kernel⟩
theorem lmv_X11_better : MV yX11_better := ⟨gw_tb 876 (by decide +kernel) rfl, gw_tb 877 (by decide +kernel) rfl⟩
theorem lml_101 : ML RL 101 yX11_better := gw_tb 875 (by decide +kernel) rfl
theorem lmb_X12_better : MB yX12_better cX12_better 8 (some .int) 2 := ⟨gw_tb 16 (by decide +kernel) rfl, gw_tb 1636 (by decide +kernel) rfl, by decide +kernel, by decide +kernel, by decide +kernel⟩
theorem lmv_X12_better : MV yX12_better := ⟨gw_tb 1634 (by decide +kernel) rfl, gw_tb 1635 (by decide +kernel) rfl⟩
theorem lml_104 : ML RL 104 yX12_better := gw_tb 1633 (by decide +kernel) rfl
theorem lmb_X11_every : MB yX11_every cX11_every 5 (some .int) 3 := ⟨gw_tb 1 (by decide +kernel) rfl, gw_tb 886 (by decide +kernel) rfl, by decide +kernel, by decide +kernel, by decide +kernel⟩
theorem lmv_X11_every : MV yX11_every := ⟨gw_tb 884 (by decide +kernel) rfl, gw_tb 885 (by decide +kernel) rfl⟩
theorem lml_105 : ML RL 105 yX11_every := gw_tb 883 (by decide +kernel) rfl
theorem lmb_X12_every : MB yX12_every cX12_every 8 (some .int) 3 := ⟨gw_tb 16 (by decide +kernel) rfl, gw_tb 1640 (by decide +kernel) rfl, by decide +kernel, by decide +kernel, by decide +kernel⟩
theorem lmv_X12_every : MV yX12_every := ⟨gw_tb 1638 (by decide +kernel) rfl, gw_tb 1639 (by decide +kernel) rfl⟩
theorem lml_108 : ML RL 108 yX12_every := gw_tb 1637 (by decide +kernel) rfl
theorem lmb_X11_ram : MB yX11_ram cX11_ram 3 (some .int) 2 := ⟨gw_tb 1 (by decide +kernel) rfl, gw_tb 911 (by decide +kernel) rfl, by decide +kernel, by decide +kernel, by decide +kernel⟩
theorem lmv_X11_ram : MV yX11_ram := ⟨gw_tb 909 (by decide +kernel) rfl, gw_tb 910 (by decide +kernel) rfl⟩
theorem lml_109 : ML RL 109 yX11_ram := gw_tb 908 (by decide +kernel) rfl
theorem lmb_X12_ram : MB yX12_ram cX12_ram 9 (some .int) 2 := ⟨gw_tb 16 (by decide +kernel) rfl, gw_tb 1656 (by decide +kernel) rfl, by decide +kernel, by decide +kernel, by decide +kernel⟩
theorem lmv_X12_ram : MV yX12_ram := ⟨gw_tb 1654 (by decide +kernel) rfl, gw_tb 1655 (by decide +kernel) rfl⟩
theorem lml_112 : ML RL 112 yX12_ram := gw_tb 1653 (by decide +kernel) rfl
theorem lmb_X11_odds : MB yX11_odds cX11_odds 4 (some .long) 3 := ⟨gw_tb 1 (by decide +kernel) rfl, gw_tb 926 (by decide +kernel) rfl, by decide +kernel, by decide +kernel, by decide +kernel⟩
theorem lmv_X11_odds : MV yX11_odds := ⟨gw_tb 924 (by decide +kernel) rfl, gw_tb 925 (by decide +kernel) rfl⟩
theorem lml_113 : ML RL 113 yX11_odds := gw_tb 923 (by decide +kernel) rfl
theorem lmb_X12_odds : MB yX12_odds cX12_odds 11 (some .long) 3 := ⟨gw_tb 16 (by decide +kernel) rfl, gw_tb 1660 (by decide +kernel) rfl, by decide +kernel, by decide +kernel, by decide +kernel⟩
theorem lmv_X12_odds : MV yX12_odds := ⟨gw_tb 1658 (by decide +kernel) rfl, gw_tb 1659 (by decide +kernel) rfl⟩
theorem lml_117 : ML RL 117 yX12_odds := gw_tb 1657 (by decide +kernel) rfl
theorem lmb_X11_tell : MB yX11_tell cX11_tell 4 (some .int) 3 := ⟨gw_tb 1 (by decide +kernel) rfl, gw_tb 935 (by decide +kernel) rfl, by decide +kernel, by decide +kernel, by decide +kernel⟩
theorem lmv_X11_tell : MV yX11_tell := ⟨gw_tb 933 (by decide +kernel) rfl, gw_tb 934 (by decide +kernel) rfl⟩
theorem lml_118 : ML RL 118 yX11_tell := gw_tb 932 (by decide +kernel) rfl
theorem lmb_X12_tell_ : MB yX12_tell_ cX12_tell_ 4 (some .int) 3 := ⟨gw_tb 16 (by decide +kernel) rfl, gw_tb 1665 (by decide +kernel) rfl, by decide +kernel, by decide +kernel, by decide +kernel⟩
theorem lmv_X12_tell_ : MV yX12_tell_ := ⟨gw_tb 1663 (by decide +kernel) rfl, gw_tb 1664 (by decide +kernel) rfl⟩
theorem lml_122 : ML RL 122 yX12_tell_ := gw_tb 1662 (by decide +kernel) rfl
theorem lmb_X11_forget : MB yX11_forget cX11_forget 2 (some .int) 0 := ⟨gw_tb 1 (by decide +kernel) rfl, gw_tb 946 (by decide +kernel) rfl, by decide +kernel, by decide +kernel, by decide +kernel⟩
theorem lmv_X11_forget : MV yX11_forget := ⟨gw_tb 944 (by decide +kernel) rfl, gw_tb 945 (by decide +kernel) rfl⟩
theorem lml_123 : ML RL 123 yX11_forget := gw_tb 943 (by decide +kernel) rfl
theorem lmb_X12_forget : MB yX12_forget cX12_forget 2 (some .int) 0 := ⟨gw_tb 16 (by decide +kernel) rfl, gw_tb 1669 (by decide +kernel) rfl, by decide +kernel, by decide +kernel, by decide +kernel⟩
theorem lmv_X12_forget : MV yX12_forget := ⟨gw_tb 1667 (by decide +kernel) rfl, gw_tb 1668 (by decide +kernel) rfl⟩
theorem lml_126 : ML RL 126 yX12_forget := gw_tb 1666 (by decide +kernel) rfl
theorem lmb_X11_suspects : MB yX11_suspects cX11_suspects 3 (some .int) 2 := ⟨gw_tb 1 (by decide +kernel) rfl, gw_tb 950 (by decide +kernel) rfl, by decide +kernel, by decide +kernel, by decide +kernel⟩
theorem lmv_X11_suspects : MV yX11_suspects := ⟨gw_tb 948 (by decide +kernel) rfl, gw_tb 949 (by decide +kernel) rfl⟩
theorem lml_127 : ML RL 127 yX11_suspects := gw_tb 947 (by decide +kernel) rfl
theorem lmb_X12_suspects : MB yX12_suspects cX12_suspects 3 (some .int) 2 := ⟨gw_tb 16 (by decide +kernel) rfl, gw_tb 1673 (by decide +kernel) rfl, by decide +kernel, by decide +kernel, by decide +kernel⟩
theorem lmv_X12_suspects : MV yX12_suspects := ⟨gw_tb 1671 (by decide +kernel) rfl, gw_tb 1672 (by decide +kernel) rfl⟩
theorem lml_130 : ML RL 130 yX12_suspects := gw_tb 1670 (by decide +kernel) rfl
theorem lmb_X11_suspect : MB yX11_suspect cX11_suspect 4 (some .int) 3 := ⟨gw_tb 1 (by decide +kernel) rfl, gw_tb 983 (by decide +kernel) rfl, by decide +kernel, by decide +kernel, by decide +kernel⟩
theorem lmv_X11_suspect : MV yX11_suspect := ⟨gw_tb 981 (by decide +kernel) rfl, gw_tb 982 (by decide +kernel) rfl⟩
theorem lml_131 : ML RL 131 yX11_suspect := gw_tb 980 (by decide +kernel) rfl
theorem lmb_X12_suspect : MB yX12_suspect cX12_suspect 4 (some .int) 3 := ⟨gw_tb 16 (by decide +kernel) rfl, gw_tb 1693 (by decide +kernel) rfl, by decide +kernel, by decide +kernel, by decide +kernel⟩
theorem lmv_X12_suspect : MV yX12_suspect := ⟨gw_tb 1691 (by decide +kernel) rfl, gw_tb 1692 (by decide +kernel) rfl⟩
theorem lml_134 : ML RL 134 yX12_suspect := gw_tb 1690 (by decide +kernel) rfl
theorem lmb_X11_check : MB yX11_check cX11_check 4 (some .int) 3 := ⟨gw_tb 1 (by decide +kernel) rfl, gw_tb 991 (by decide +kernel) rfl, by decide +kernel, by decide +kernel, by decide +kernel⟩
theorem lmv_X11_check : MV yX11_check := ⟨gw_tb 989 (by decide +kernel) rfl, gw_tb 990 (by decide +kernel) rfl⟩
theorem lml_135 : ML RL 135 yX11_check := gw_tb 988 (by decide +kernel) rfl
theorem lmb_X12_check : MB yX12_check cX12_check 7 (some .int) 3 := ⟨gw_tb 16 (by decide +kernel) rfl, gw_tb 1697 (by decide +kernel) rfl, by decide +kernel, by decide +kernel, by decide +kernel⟩
theorem lmv_X12_check : MV yX12_check := ⟨gw_tb 1695 (by decide +kernel) rfl, gw_tb 1696 (by decide +kernel) rfl⟩
theorem lml_138 : ML RL 138 yX12_check := gw_tb 1694 (by decide +kernel) rfl
theorem lmb_X11_hold : MB yX11_hold cX11_hold 2 (some .boolean) 1 := ⟨gw_tb 1 (by decide +kernel) rfl, gw_tb 1008 (by decide +kernel) rfl, by decide +kernel, by decide +kernel, by decide +kernel⟩
theorem lmv_X11_hold : MV yX11_hold := ⟨gw_tb 1006 (by decide +kernel) rfl, gw_tb 1007 (by decide +kernel) rfl⟩
theorem lml_139 : ML RL 139 yX11_hold := gw_tb 1005 (by decide +kernel) rfl
theorem lmb_X12_hold : MB yX12_hold cX12_hold 3 (some .boolean) 1 := ⟨gw_tb 16 (by decide +kernel) rfl, gw_tb 1705 (by decide +kernel) rfl, by decide +kernel, by decide +kernel, by decide +kernel⟩
theorem lmv_X12_hold : MV yX12_hold := ⟨gw_tb 1703 (by decide +kernel) rfl, gw_tb 1704 (by decide +kernel) rfl⟩
theorem lml_142 : ML RL 142 yX12_hold := gw_tb 1702 (by decide +kernel) rfl
theorem lmb_X11_restore : MB yX11_restore cX11_restore 2 (some .boolean) 1 := ⟨gw_tb 1 (by decide +kernel) rfl, gw_tb 1017 (by decide +kernel) rfl, by decide +kernel, by decide +kernel, by decide +kernel⟩
theorem lmv_X11_restore : MV yX11_restore := ⟨gw_tb 1015 (by decide +kernel) rfl, gw_tb 1016 (by decide +kernel) rfl⟩
theorem lml_143 : ML RL 143 yX11_restore := gw_tb 1014 (by decide +kernel) rfl
theorem lmb_X12_restore : MB yX12_restore cX12_restore 3 (some .boolean) 1 := ⟨gw_tb 16 (by decide +kernel) rfl, gw_tb 1709 (by decide +kernel) rfl, by decide +kernel, by decide +kernel, by decide +kernel⟩
theorem lmv_X12_restore : MV yX12_restore := ⟨gw_tb 1707 (by decide +kernel) rfl, gw_tb 1708 (by decide +kernel) rfl⟩
theorem lml_146 : ML RL 146 yX12_restore := gw_tb 1706 (by decide +kernel) rfl
theorem lmb_X11_count : MB yX11_count cX11_count 2 (some .int) 1 := ⟨gw_tb 1 (by decide +kernel) rfl, gw_tb 1021 (by decide +kernel) rfl, by decide +kernel, by decide +kernel, by decide +kernel⟩
theorem lmv_X11_count : MV yX11_count := ⟨gw_tb 1019 (by decide +kernel) rfl, gw_tb 1020 (by decide +kernel) rfl⟩
theorem lml_147 : ML RL 147 yX11_count := gw_tb 1018 (by decide +kernel) rfl
theorem lmb_X12_count : MB yX12_count cX12_count 2 (some .int) 1 := ⟨gw_tb 16 (by decide +kernel) rfl, gw_tb 1713 (by decide +kernel) rfl, by decide +kernel, by decide +kernel, by decide +kernel⟩
theorem lmv_X12_count : MV yX12_count := ⟨gw_tb 1711 (by decide +kernel) rfl, gw_tb 1712 (by decide +kernel) rfl⟩
theorem lml_150 : ML RL 150 yX12_count := gw_tb 1710 (by decide +kernel) rfl
