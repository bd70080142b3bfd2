theorem dX0_prove_0 : decode cX0_prove 0 = .ok (.aload_n 0, 1) := by decide +kernel
theorem dX0_prove_1 : decode cX0_prove 1 = .ok (.getfield 25, 3) := by decide +kernel
theorem dX0_prove_4 : decode cX0_prove 4 = .ok (.ifnull 10, 3) := by decide +kernel
theorem dX0_prove_7 : decode cX0_prove 7 = .ok (.aload_n 0, 1) := by decide +kernel
theorem dX0_prove_8 : decode cX0_prove 8 = .ok (.getfield 29, 3) := by decide +kernel
theorem dX0_prove_11 : decode cX0_prove 11 = .ok (.ifnonnull 21, 3) := by decide +kernel
theorem dX0_prove_14 : decode cX0_prove 14 = .ok (.aload_n 0, 1) := by decide +kernel
theorem dX0_prove_15 : decode cX0_prove 15 = .ok (.sipush 20736, 3) := by decide +kernel
theorem dX0_prove_18 : decode cX0_prove 18 = .ok (.newarray .int, 2) := by decide +kernel
theorem dX0_prove_20 : decode cX0_prove 20 = .ok (.putfield 25, 3) := by decide +kernel
theorem dX0_prove_23 : decode cX0_prove 23 = .ok (.aload_n 0, 1) := by decide +kernel
theorem dX0_prove_24 : decode cX0_prove 24 = .ok (.sipush 20736, 3) := by decide +kernel
theorem dX0_prove_27 : decode cX0_prove 27 = .ok (.newarray .int, 2) := by decide +kernel
theorem dX0_prove_29 : decode cX0_prove 29 = .ok (.putfield 29, 3) := by decide +kernel
theorem dX11_every_0 : decode cX11_every 0 = .ok (.iload_n 1, 1) := by decide +kernel
theorem dX11_every_1 : decode cX11_every 1 = .ok (.ifCond .lt 33, 3) := by decide +kernel
theorem dX11_every_4 : decode cX11_every 4 = .ok (.iload_n 1, 1) := by decide +kernel
theorem dX11_every_5 : decode cX11_every 5 = .ok (.aload_n 0, 1) := by decide +kernel
theorem dX11_every_6 : decode cX11_every 6 = .ok (.getfield 16, 3) := by decide +kernel
theorem dX11_every_9 : decode cX11_every 9 = .ok (.getfield 204, 3) := by decide +kernel
theorem dX11_every_12 : decode cX11_every 12 = .ok (.if_icmp .ge 22, 3) := by decide +kernel
theorem dX11_every_15 : decode cX11_every 15 = .ok (.iload_n 2, 1) := by decide +kernel
theorem dX11_every_16 : decode cX11_every 16 = .ok (.iconst 1, 1) := by decide +kernel
theorem dX11_every_17 : decode cX11_every 17 = .ok (.if_icmp .lt 17, 3) := by decide +kernel
theorem dX11_every_20 : decode cX11_every 20 = .ok (.iload_n 2, 1) := by decide +kernel
theorem dX11_every_21 : decode cX11_every 21 = .ok (.iconst 4, 1) := by decide +kernel
theorem dX11_every_22 : decode cX11_every 22 = .ok (.if_icmp .gt 12, 3) := by decide +kernel
theorem dX11_every_25 : decode cX11_every 25 = .ok (.iload_n 3, 1) := by decide +kernel
theorem dX11_every_26 : decode cX11_every 26 = .ok (.ifCond .lt 8, 3) := by decide +kernel
theorem dX11_every_29 : decode cX11_every 29 = .ok (.iload_n 3, 1) := by decide +kernel
theorem dX11_every_30 : decode cX11_every 30 = .ok (.iconst 2, 1) := by decide +kernel
theorem dX11_every_31 : decode cX11_every 31 = .ok (.if_icmp .le 5, 3) := by decide +kernel
theorem dX11_every_34 : decode cX11_every 34 = .ok (.iconst (-1), 1) := by decide +kernel
theorem dX11_every_35 : decode cX11_every 35 = .ok (.ireturn, 1) := by decide +kernel
theorem dX11_every_36 : decode cX11_every 36 = .ok (.aload_n 0, 1) := by decide +kernel
theorem dX11_every_37 : decode cX11_every 37 = .ok (.getfield 71, 3) := by decide +kernel
theorem dX11_every_40 : decode cX11_every 40 = .ok (.iload_n 2, 1) := by decide +kernel
theorem dX11_every_41 : decode cX11_every 41 = .ok (.invokevirtual 227, 3) := by decide +kernel
theorem dX11_every_44 : decode cX11_every 44 = .ok (.istore 4, 2) := by decide +kernel
theorem dX11_every_46 : decode cX11_every 46 = .ok (.iload 4, 2) := by decide +kernel
theorem dX11_every_48 : decode cX11_every 48 = .ok (.sipush 20736, 3) := by decide +kernel
theorem dX11_every_51 : decode cX11_every 51 = .ok (.if_icmp .le 6, 3) := by decide +kernel
theorem dX11_every_54 : decode cX11_every 54 = .ok (.bipush (-2), 2) := by decide +kernel
theorem dX11_every_56 : decode cX11_every 56 = .ok (.ireturn, 1) := by decide +kernel
theorem dX11_every_57 : decode cX11_every 57 = .ok (.iload_n 3, 1) := by decide +kernel
theorem dX11_every_58 : decode cX11_every 58 = .ok (.iconst 2, 1) := by decide +kernel
theorem dX11_every_59 : decode cX11_every 59 = .ok (.if_icmp .ne 6, 3) := by decide +kernel
theorem dX11_every_62 : decode cX11_every 62 = .ok (.iload 4, 2) := by decide +kernel
theorem dX11_every_64 : decode cX11_every 64 = .ok (.ireturn, 1) := by decide +kernel
theorem dX11_every_65 : decode cX11_every 65 = .ok (.aload_n 0, 1) := by decide +kernel
theorem dX11_every_66 : decode cX11_every 66 = .ok (.getfield 71, 3) := by decide +kernel
theorem dX11_every_69 : decode cX11_every 69 = .ok (.iload_n 1, 1) := by decide +kernel
theorem dX11_every_70 : decode cX11_every 70 = .ok (.iload_n 2, 1) := by decide +kernel
theorem dX11_every_71 : decode cX11_every 71 = .ok (.aload_n 0, 1) := by decide +kernel
theorem dX11_every_72 : decode cX11_every 72 = .ok (.getfield 44, 3) := by decide +kernel
theorem dX11_every_75 : decode cX11_every 75 = .ok (.getfield 140, 3) := by decide +kernel
theorem dX11_every_78 : decode cX11_every 78 = .ok (.invokevirtual 230, 3) := by decide +kernel
theorem dX11_every_81 : decode cX11_every 81 = .ok (.iload_n 3, 1) := by decide +kernel
theorem dX11_every_82 : decode cX11_every 82 = .ok (.ifCond .ne 13, 3) := by decide +kernel
theorem dX11_every_85 : decode cX11_every 85 = .ok (.aload_n 0, 1) := by decide +kernel
theorem dX11_every_86 : decode cX11_every 86 = .ok (.getfield 71, 3) := by decide +kernel
theorem dX11_every_89 : decode cX11_every 89 = .ok (.getfield 234, 3) := by decide +kernel
theorem dX11_every_92 : decode cX11_every 92 = .ok (.goto 10, 3) := by decide +kernel
theorem dX11_every_95 : decode cX11_every 95 = .ok (.aload_n 0, 1) := by decide +kernel
theorem dX11_every_96 : decode cX11_every 96 = .ok (.getfield 71, 3) := by decide +kernel
theorem dX11_every_99 : decode cX11_every 99 = .ok (.getfield 237, 3) := by decide +kernel
theorem dX11_every_102 : decode cX11_every 102 = .ok (.ireturn, 1) := by decide +kernel
theorem dX11_read_0 : decode cX11_read 0 = .ok (.aload_n 0, 1) := by decide +kernel
theorem dX11_read_1 : decode cX11_read 1 = .ok (.getfield 28, 3) := by decide +kernel
theorem dX11_read_4 : decode cX11_read 4 = .ok (.aload_n 0, 1) := by decide +kernel
theorem dX11_read_5 : decode cX11_read 5 = .ok (.getfield 92, 3) := by decide +kernel
theorem dX11_read_8 : decode cX11_read 8 = .ok (.aload_n 0, 1) := by decide +kernel
theorem dX11_read_9 : decode cX11_read 9 = .ok (.getfield 20, 3) := by decide +kernel
theorem dX11_read_12 : decode cX11_read 12 = .ok (.invokevirtual 100, 3) := by decide +kernel
theorem dX11_read_15 : decode cX11_read 15 = .ok (.istore_n 1, 1) := by decide +kernel
theorem dX11_read_16 : decode cX11_read 16 = .ok (.aload_n 0, 1) := by decide +kernel
theorem dX11_read_17 : decode cX11_read 17 = .ok (.iconst 0, 1) := by decide +kernel
theorem dX11_read_18 : decode cX11_read 18 = .ok (.putfield 92, 3) := by decide +kernel
theorem dX11_read_21 : decode cX11_read 21 = .ok (.iload_n 1, 1) := by decide +kernel
theorem dX11_read_22 : decode cX11_read 22 = .ok (.ifCond .ne 7, 3) := by decide +kernel
theorem dX11_read_25 : decode cX11_read 25 = .ok (.aload_n 0, 1) := by decide +kernel
theorem dX11_read_26 : decode cX11_read 26 = .ok (.invokevirtual 104, 3) := by decide +kernel
theorem dX11_read_29 : decode cX11_read 29 = .ok (.iload_n 1, 1) := by decide +kernel
theorem dX11_read_30 : decode cX11_read 30 = .ok (.ireturn, 1) := by decide +kernel
theorem dX11_putSpareInPlace_0 : decode cX11_putSpareInPlace 0 = .ok (.aload_n 0, 1) := by decide +kernel
theorem dX11_putSpareInPlace_1 : decode cX11_putSpareInPlace 1 = .ok (.getfield 16, 3) := by decide +kernel
theorem dX11_putSpareInPlace_4 : decode cX11_putSpareInPlace 4 = .ok (.astore_n 1, 1) := by decide +kernel
theorem dX11_putSpareInPlace_5 : decode cX11_putSpareInPlace 5 = .ok (.aload_n 0, 1) := by decide +kernel
theorem dX11_putSpareInPlace_6 : decode cX11_putSpareInPlace 6 = .ok (.aload_n 0, 1) := by decide +kernel
theorem dX11_putSpareInPlace_7 : decode cX11_putSpareInPlace 7 = .ok (.getfield 20, 3) := by decide +kernel
theorem dX11_putSpareInPlace_10 : decode cX11_putSpareInPlace 10 = .ok (.putfield 16, 3) := by decide +kernel
theorem dX11_putSpareInPlace_13 : decode cX11_putSpareInPlace 13 = .ok (.aload_n 0, 1) := by decide +kernel
theorem dX11_putSpareInPlace_14 : decode cX11_putSpareInPlace 14 = .ok (.aload_n 1, 1) := by decide +kernel
theorem dX11_putSpareInPlace_15 : decode cX11_putSpareInPlace 15 = .ok (.putfield 20, 3) := by decide +kernel
theorem dX11_putSpareInPlace_18 : decode cX11_putSpareInPlace 18 = .ok (.aload_n 0, 1) := by decide +kernel
theorem dX11_putSpareInPlace_19 : decode cX11_putSpareInPlace 19 = .ok (.getfield 37, 3) := by decide +kernel
theorem dX11_putSpareInPlace_22 : decode cX11_putSpareInPlace 22 = .ok (.aload_n 0, 1) := by decide +kernel
theorem dX11_putSpareInPlace_23 : decode cX11_putSpareInPlace 23 = .ok (.getfield 16, 3) := by decide +kernel
theorem dX11_putSpareInPlace_26 : decode cX11_putSpareInPlace 26 = .ok (.putfield 107, 3) := by decide +kernel
theorem dX11_putSpareInPlace_29 : decode cX11_putSpareInPlace 29 = .ok (.aload_n 0, 1) := by decide +kernel
theorem dX11_putSpareInPlace_30 : decode cX11_putSpareInPlace 30 = .ok (.getfield 44, 3) := by decide +kernel
theorem dX11_putSpareInPlace_33 : decode cX11_putSpareInPlace 33 = .ok (.aload_n 0, 1) := by decide +kernel
theorem dX11_putSpareInPlace_34 : decode cX11_putSpareInPlace 34 = .ok (.getfield 16, 3) := by decide +kernel
theorem dX11_putSpareInPlace_37 : decode cX11_putSpareInPlace 37 = .ok (.invokevirtual 89, 3) := by decide +kernel
theorem dX11_putSpareInPlace_40 : decode cX11_putSpareInPlace 40 = .ok (.aload_n 0, 1) := by decide +kernel
theorem dX11_putSpareInPlace_41 : decode cX11_putSpareInPlace 41 = .ok (.getfield 55, 3) := by decide +kernel
theorem dX11_putSpareInPlace_44 : decode cX11_putSpareInPlace 44 = .ok (.invokevirtual 108, 3) := by decide +kernel
theorem dX11_putSpareInPlace_47 : decode cX11_putSpareInPlace 47 = .ok (.aload_n 0, 1) := by decide +kernel
theorem dX11_putSpareInPlace_48 : decode cX11_putSpareInPlace 48 = .ok (.getfield 85, 3) := by decide +kernel
theorem dX11_putSpareInPlace_51 : decode cX11_putSpareInPlace 51 = .ok (.iconst 0, 1) := by decide +kernel
theorem dX11_putSpareInPlace_52 : decode cX11_putSpareInPlace 52 = .ok (.putfield 111, 3) := by decide +kernel
theorem dX11_putSpareInPlace_55 : decode cX11_putSpareInPlace 55 = .ok (.iconst 0, 1) := by decide +kernel
theorem dX11_putSpareInPlace_56 : decode cX11_putSpareInPlace 56 = .ok (.istore_n 2, 1) := by decide +kernel
theorem dX11_putSpareInPlace_57 : decode cX11_putSpareInPlace 57 = .ok (.iload_n 2, 1) := by decide +kernel
theorem dX11_putSpareInPlace_58 : decode cX11_putSpareInPlace 58 = .ok (.iconst 3, 1) := by decide +kernel
theorem dX11_putSpareInPlace_59 : decode cX11_putSpareInPlace 59 = .ok (.if_icmp .ge 19, 3) := by decide +kernel
theorem dX11_putSpareInPlace_62 : decode cX11_putSpareInPlace 62 = .ok (.aload_n 0, 1) := by decide +kernel
theorem dX11_putSpareInPlace_63 : decode cX11_putSpareInPlace 63 = .ok (.getfield 48, 3) := by decide +kernel
theorem dX11_putSpareInPlace_66 : decode cX11_putSpareInPlace 66 = .ok (.iload_n 2, 1) := by decide +kernel
theorem dX11_putSpareInPlace_67 : decode cX11_putSpareInPlace 67 = .ok (.aaload, 1) := by decide +kernel
theorem dX11_putSpareInPlace_68 : decode cX11_putSpareInPlace 68 = .ok (.iconst 0, 1) := by decide +kernel
theorem dX11_putSpareInPlace_69 : decode cX11_putSpareInPlace 69 = .ok (.putfield 114, 3) := by decide +kernel
theorem dX11_putSpareInPlace_72 : decode cX11_putSpareInPlace 72 = .ok (.iinc 2 1, 3) := by decide +kernel
theorem dX11_putSpareInPlace_75 : decode cX11_putSpareInPlace 75 = .ok (.goto (-18), 3) := by decide +kernel
theorem dX11_putSpareInPlace_78 : decode cX11_putSpareInPlace 78 = .ok (.return_, 1) := by decide +kernel
theorem nf_RX0_0_1 : FKf RX0 0 1 false := by
  intro C TT N h
  cases h
  exact ⟨rfl, fun h => by cases h⟩
theorem nf_RX0_0_2 : FKf RX0 0 2 false := by
  intro C TT N h
  cases h
  exact ⟨rfl, fun h => by cases h⟩
theorem nk_RX11_204 : FK RX11 204 6 1 := ⟨_, _, _, rfl, by decide, gw_tb 44 (by decide +kernel) rfl⟩
theorem nf_RX11_6_1 : FKf RX11 6 1 false := by
  intro C TT N h
  cases h
  exact ⟨rfl, fun h => by cases h⟩
theorem nk_RX11_140 : FK RX11 140 1 3 := ⟨_, _, _, rfl, by decide, gw_tb 298 (by decide +kernel) rfl⟩
theorem nf_RX11_1_3 : FKf RX11 1 3 false := by
  intro C TT N h
  cases h
  exact ⟨rfl, fun h => by cases h⟩
theorem nk_RX11_234 : FK RX11 234 0 3 := ⟨_, _, _, rfl, by decide, gw_tb 367 (by decide +kernel) rfl⟩
theorem nf_RX11_0_3 : FKf RX11 0 3 false := by
  intro C TT N h
  cases h
  exact ⟨rfl, fun h => by cases h⟩
theorem nk_RX11_237 : FK RX11 237 0 4 := ⟨_, _, _, rfl, by decide, gw_tb 369 (by decide +kernel) rfl⟩
theorem nf_RX11_0_4 : FKf RX11 0 4 false := by
  intro C TT N h
  cases h
  exact ⟨rfl, fun h => by cases h⟩
theorem nk_RX11_92 : FK RX11 92 10 1 := ⟨_, _, _, rfl, by decide, gw_tb 448 (by decide +kernel) rfl⟩
theorem nf_RX11_10_1 : FKf RX11 10 1 false := by
  intro C TT N h
  cases h
  exact ⟨rfl, fun h => by cases h⟩
theorem nk_RX11_107 : FK RX11 107 4 0 := ⟨_, _, _, rfl, by decide, gw_tb 262 (by decide +kernel) rfl⟩
theorem nf_RX11_4_0 : FKf RX11 4 0 false := by
  intro C TT N h
  cases h
  exact ⟨rfl, fun h => by cases h⟩
theorem nk_RX11_111 : FK RX11 111 9 1 := ⟨_, _, _, rfl, by decide, gw_tb 422 (by decide +kernel) rfl⟩
theorem nf_RX11_9_1 : FKf RX11 9 1 false := by
  intro C TT N h
  cases h
  exact ⟨rfl, fun h => by cases h⟩
theorem nk_RX11_114 : FK RX11 114 1 5 := ⟨_, _, _, rfl, by decide, gw_tb 305 (by decide +kernel) rfl⟩
theorem nf_RX11_1_5 : FKf RX11 1 5 false := by
  intro C TT N h
  cases h
  exact ⟨rfl, fun h => by cases h⟩
theorem nmb_X0_howMany : MB yX0_howMany cX0_howMany 4 (some .int) 1 := ⟨gw_tb 13 (by decide +kernel) rfl, gw_tb 890 (by decide +kernel) rfl, by decide +kernel, by decide +kernel, by decide +kernel⟩
theorem nmv_X0_howMany : MV yX0_howMany := ⟨gw_tb 888 (by decide +kernel) rfl, gw_tb 889 (by decide +kernel) rfl⟩
theorem nml_RX11_227 : ML RX11 227 yX0_howMany := gw_tb 887 (by decide +kernel) rfl
theorem nmb_X0_prove : MB yX0_prove cX0_prove 6 none 3 := ⟨gw_tb 13 (by decide +kernel) rfl, gw_tb 894 (by decide +kernel) rfl, by decide +kernel, by decide +kernel, by decide +kernel⟩
theorem nmv_X0_prove : MV yX0_prove := ⟨gw_tb 892 (by decide +kernel) rfl, gw_tb 893 (by decide +kernel) rfl⟩
theorem nml_RX11_230 : ML RX11 230 yX0_prove := gw_tb 891 (by decide +kernel) rfl
theorem nmb_X4_readTape : MB yX4_readTape cX4_readTape 4 (some .int) 2 := ⟨gw_tb 3 (by decide +kernel) rfl, gw_tb 506 (by decide +kernel) rfl, by decide +kernel, by decide +kernel, by decide +kernel⟩
theorem nmv_X4_readTape : MV yX4_readTape := ⟨gw_tb 504 (by decide +kernel) rfl, gw_tb 505 (by decide +kernel) rfl⟩
theorem nml_RX11_100 : ML RX11 100 yX4_readTape := gw_tb 503 (by decide +kernel) rfl
theorem nmb_X11_putSpareInPlace : MB yX11_putSpareInPlace cX11_putSpareInPlace 3 none 0 := ⟨gw_tb 1 (by decide +kernel) rfl, gw_tb 658 (by decide +kernel) rfl, by decide +kernel, by decide +kernel, by decide +kernel⟩
theorem nml_RX11_104 : ML RX11 104 yX11_putSpareInPlace := gw_tb 655 (by decide +kernel) rfl
theorem nmv_X11_putSpareInPlace : MV yX11_putSpareInPlace := ⟨gw_tb 657 (by decide +kernel) rfl, gw_pr 29 (q := (yX11_putSpareInPlace, 13)) (by decide +kernel) rfl⟩
theorem nmb_X3_clear : MB yX3_clear cX3_clear 1 none 0 := ⟨gw_tb 11 (by decide +kernel) rfl, gw_tb 662 (by decide +kernel) rfl, by decide +kernel, by decide +kernel, by decide +kernel⟩
theorem nmv_X3_clear : MV yX3_clear := ⟨gw_tb 660 (by decide +kernel) rfl, gw_tb 661 (by decide +kernel) rfl⟩
theorem nml_RX11_108 : ML RX11 108 yX3_clear := gw_tb 659 (by decide +kernel) rfl
