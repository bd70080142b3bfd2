-- ===== PART A: goes FIRST, ahead of the names: the tables' words, and 'selects' of the private methods out of them =====
/-- a private method of a class that the tables say can be made, by its rows of tables_1 -/
def lw_okq (q : MethodName × Nat) : Prop := (q.1.cls ≠ "java/lang/invoke/MethodHandle" ∧ q.1.cls ≠ "java/lang/invoke/VarHandle") ∧ Cond.instantiable q.1.cls q.2 ∈ tables_1 ∧ Cond.privateMethod q.1 ∈ tables_1 ∧ Cond.instanceMethod q.1 ∈ tables_1
theorem lw_p0 : lw_okq (⟨"GalleyStroke", "tapeWord", "(I)V"⟩, 13) := ⟨⟨by decide +kernel, by decide +kernel⟩, List.mem_of_getElem? (i := 22) (by decide +kernel), List.mem_of_getElem? (i := 492) (by decide +kernel), List.mem_of_getElem? (i := 493) (by decide +kernel)⟩
theorem lw_p1 : lw_okq (⟨"GalleyStroke$Reader", "begin", "(ILGalleyStroke$Text;)V"⟩, 12) := ⟨⟨by decide +kernel, by decide +kernel⟩, List.mem_of_getElem? (i := 121) (by decide +kernel), List.mem_of_getElem? (i := 508) (by decide +kernel), List.mem_of_getElem? (i := 509) (by decide +kernel)⟩
theorem lw_p2 : lw_okq (⟨"GalleyStroke$Tokens", "skipBlanks", "()V"⟩, 8) := ⟨⟨by decide +kernel, by decide +kernel⟩, List.mem_of_getElem? (i := 127) (by decide +kernel), List.mem_of_getElem? (i := 523) (by decide +kernel), List.mem_of_getElem? (i := 524) (by decide +kernel)⟩
theorem lw_p3 : lw_okq (⟨"GalleyStroke$Tokens", "byteAt", "(I)I"⟩, 8) := ⟨⟨by decide +kernel, by decide +kernel⟩, List.mem_of_getElem? (i := 127) (by decide +kernel), List.mem_of_getElem? (i := 527) (by decide +kernel), List.mem_of_getElem? (i := 528) (by decide +kernel)⟩
theorem lw_p4 : lw_okq (⟨"GalleyStroke$Tokens", "nextKind", "()I"⟩, 8) := ⟨⟨by decide +kernel, by decide +kernel⟩, List.mem_of_getElem? (i := 127) (by decide +kernel), List.mem_of_getElem? (i := 534) (by decide +kernel), List.mem_of_getElem? (i := 535) (by decide +kernel)⟩
theorem lw_p5 : lw_okq (⟨"GalleyStroke$Tokens", "nextWord", "()I"⟩, 8) := ⟨⟨by decide +kernel, by decide +kernel⟩, List.mem_of_getElem? (i := 127) (by decide +kernel), List.mem_of_getElem? (i := 541) (by decide +kernel), List.mem_of_getElem? (i := 542) (by decide +kernel)⟩
theorem lw_p6 : lw_okq (⟨"GalleyStroke$Tokens", "nextInt", "()I"⟩, 8) := ⟨⟨by decide +kernel, by decide +kernel⟩, List.mem_of_getElem? (i := 127) (by decide +kernel), List.mem_of_getElem? (i := 548) (by decide +kernel), List.mem_of_getElem? (i := 549) (by decide +kernel)⟩
theorem lw_p7 : lw_okq (⟨"GalleyStroke$Tokens", "nextSign", "(I)I"⟩, 8) := ⟨⟨by decide +kernel, by decide +kernel⟩, List.mem_of_getElem? (i := 127) (by decide +kernel), List.mem_of_getElem? (i := 553) (by decide +kernel), List.mem_of_getElem? (i := 554) (by decide +kernel)⟩
theorem lw_p8 : lw_okq (⟨"GalleyStroke$Reader", "readParts", "()V"⟩, 12) := ⟨⟨by decide +kernel, by decide +kernel⟩, List.mem_of_getElem? (i := 121) (by decide +kernel), List.mem_of_getElem? (i := 560) (by decide +kernel), List.mem_of_getElem? (i := 561) (by decide +kernel)⟩
theorem lw_p9 : lw_okq (⟨"GalleyStroke$Reader", "take", "(I)Z"⟩, 12) := ⟨⟨by decide +kernel, by decide +kernel⟩, List.mem_of_getElem? (i := 121) (by decide +kernel), List.mem_of_getElem? (i := 564) (by decide +kernel), List.mem_of_getElem? (i := 565) (by decide +kernel)⟩
theorem lw_p10 : lw_okq (⟨"GalleyStroke$Reader", "taken", "()J"⟩, 12) := ⟨⟨by decide +kernel, by decide +kernel⟩, List.mem_of_getElem? (i := 121) (by decide +kernel), List.mem_of_getElem? (i := 568) (by decide +kernel), List.mem_of_getElem? (i := 569) (by decide +kernel)⟩
theorem lw_p11 : lw_okq (⟨"GalleyStroke$Reader", "slipAtTaken", "(I)V"⟩, 12) := ⟨⟨by decide +kernel, by decide +kernel⟩, List.mem_of_getElem? (i := 121) (by decide +kernel), List.mem_of_getElem? (i := 574) (by decide +kernel), List.mem_of_getElem? (i := 575) (by decide +kernel)⟩
theorem lw_p12 : lw_okq (⟨"GalleyStroke$Reader", "readLaw", "()V"⟩, 12) := ⟨⟨by decide +kernel, by decide +kernel⟩, List.mem_of_getElem? (i := 121) (by decide +kernel), List.mem_of_getElem? (i := 578) (by decide +kernel), List.mem_of_getElem? (i := 579) (by decide +kernel)⟩
theorem lw_p13 : lw_okq (⟨"GalleyStroke$Reader", "fail", "(I)V"⟩, 12) := ⟨⟨by decide +kernel, by decide +kernel⟩, List.mem_of_getElem? (i := 121) (by decide +kernel), List.mem_of_getElem? (i := 582) (by decide +kernel), List.mem_of_getElem? (i := 583) (by decide +kernel)⟩
theorem lw_p14 : lw_okq (⟨"GalleyStroke$Reader", "noteName", "(I)V"⟩, 12) := ⟨⟨by decide +kernel, by decide +kernel⟩, List.mem_of_getElem? (i := 121) (by decide +kernel), List.mem_of_getElem? (i := 586) (by decide +kernel), List.mem_of_getElem? (i := 587) (by decide +kernel)⟩
theorem lw_p15 : lw_okq (⟨"GalleyStroke$Reader", "readCondition", "()V"⟩, 12) := ⟨⟨by decide +kernel, by decide +kernel⟩, List.mem_of_getElem? (i := 121) (by decide +kernel), List.mem_of_getElem? (i := 590) (by decide +kernel), List.mem_of_getElem? (i := 591) (by decide +kernel)⟩
def lw_privs_1 : List (MethodName × Nat) := [(⟨"GalleyStroke", "tapeWord", "(I)V"⟩, 13), (⟨"GalleyStroke$Reader", "begin", "(ILGalleyStroke$Text;)V"⟩, 12), (⟨"GalleyStroke$Tokens", "skipBlanks", "()V"⟩, 8), (⟨"GalleyStroke$Tokens", "byteAt", "(I)I"⟩, 8), (⟨"GalleyStroke$Tokens", "nextKind", "()I"⟩, 8), (⟨"GalleyStroke$Tokens", "nextWord", "()I"⟩, 8), (⟨"GalleyStroke$Tokens", "nextInt", "()I"⟩, 8), (⟨"GalleyStroke$Tokens", "nextSign", "(I)I"⟩, 8), (⟨"GalleyStroke$Reader", "readParts", "()V"⟩, 12), (⟨"GalleyStroke$Reader", "take", "(I)Z"⟩, 12), (⟨"GalleyStroke$Reader", "taken", "()J"⟩, 12), (⟨"GalleyStroke$Reader", "slipAtTaken", "(I)V"⟩, 12), (⟨"GalleyStroke$Reader", "readLaw", "()V"⟩, 12), (⟨"GalleyStroke$Reader", "fail", "(I)V"⟩, 12), (⟨"GalleyStroke$Reader", "noteName", "(I)V"⟩, 12), (⟨"GalleyStroke$Reader", "readCondition", "()V"⟩, 12)]
theorem lw_r1 : ∀ q ∈ lw_privs_1, lw_okq q := List.forall_mem_cons.mpr ⟨lw_p0, List.forall_mem_cons.mpr ⟨lw_p1, List.forall_mem_cons.mpr ⟨lw_p2, List.forall_mem_cons.mpr ⟨lw_p3, List.forall_mem_cons.mpr ⟨lw_p4, List.forall_mem_cons.mpr ⟨lw_p5, List.forall_mem_cons.mpr ⟨lw_p6, List.forall_mem_cons.mpr ⟨lw_p7, List.forall_mem_cons.mpr ⟨lw_p8, List.forall_mem_cons.mpr ⟨lw_p9, List.forall_mem_cons.mpr ⟨lw_p10, List.forall_mem_cons.mpr ⟨lw_p11, List.forall_mem_cons.mpr ⟨lw_p12, List.forall_mem_cons.mpr ⟨lw_p13, List.forall_mem_cons.mpr ⟨lw_p14, List.forall_mem_cons.mpr ⟨lw_p15, fun _ h => absurd h List.not_mem_nil⟩⟩⟩⟩⟩⟩⟩⟩⟩⟩⟩⟩⟩⟩⟩⟩
theorem lw_p16 : lw_okq (⟨"GalleyStroke$Reader", "readRelation", "()V"⟩, 12) := ⟨⟨by decide +kernel, by decide +kernel⟩, List.mem_of_getElem? (i := 121) (by decide +kernel), List.mem_of_getElem? (i := 594) (by decide +kernel), List.mem_of_getElem? (i := 595) (by decide +kernel)⟩
theorem lw_p17 : lw_okq (⟨"GalleyStroke$Reader", "readExpression", "(II)V"⟩, 12) := ⟨⟨by decide +kernel, by decide +kernel⟩, List.mem_of_getElem? (i := 121) (by decide +kernel), List.mem_of_getElem? (i := 598) (by decide +kernel), List.mem_of_getElem? (i := 599) (by decide +kernel)⟩
theorem lw_p18 : lw_okq (⟨"GalleyStroke$Reader", "readUnit", "(I)V"⟩, 12) := ⟨⟨by decide +kernel, by decide +kernel⟩, List.mem_of_getElem? (i := 121) (by decide +kernel), List.mem_of_getElem? (i := 602) (by decide +kernel), List.mem_of_getElem? (i := 603) (by decide +kernel)⟩
theorem lw_p19 : lw_okq (⟨"GalleyStroke$Reader", "emit", "(II)I"⟩, 12) := ⟨⟨by decide +kernel, by decide +kernel⟩, List.mem_of_getElem? (i := 121) (by decide +kernel), List.mem_of_getElem? (i := 606) (by decide +kernel), List.mem_of_getElem? (i := 607) (by decide +kernel)⟩
theorem lw_p20 : lw_okq (⟨"GalleyStroke$Reader", "landChain", "(I)V"⟩, 12) := ⟨⟨by decide +kernel, by decide +kernel⟩, List.mem_of_getElem? (i := 121) (by decide +kernel), List.mem_of_getElem? (i := 613) (by decide +kernel), List.mem_of_getElem? (i := 614) (by decide +kernel)⟩
theorem lw_p21 : lw_okq (⟨"GalleyStroke$Reader", "land", "(I)V"⟩, 12) := ⟨⟨by decide +kernel, by decide +kernel⟩, List.mem_of_getElem? (i := 121) (by decide +kernel), List.mem_of_getElem? (i := 617) (by decide +kernel), List.mem_of_getElem? (i := 618) (by decide +kernel)⟩
theorem lw_p22 : lw_okq (⟨"GalleyStroke$Reader", "readMan", "()V"⟩, 12) := ⟨⟨by decide +kernel, by decide +kernel⟩, List.mem_of_getElem? (i := 121) (by decide +kernel), List.mem_of_getElem? (i := 621) (by decide +kernel), List.mem_of_getElem? (i := 622) (by decide +kernel)⟩
theorem lw_p23 : lw_okq (⟨"GalleyStroke$Reader", "lawNamed", "(J)I"⟩, 12) := ⟨⟨by decide +kernel, by decide +kernel⟩, List.mem_of_getElem? (i := 121) (by decide +kernel), List.mem_of_getElem? (i := 625) (by decide +kernel), List.mem_of_getElem? (i := 626) (by decide +kernel)⟩
theorem lw_p24 : lw_okq (⟨"GalleyStroke$Reader", "noteBeyond", "()V"⟩, 12) := ⟨⟨by decide +kernel, by decide +kernel⟩, List.mem_of_getElem? (i := 121) (by decide +kernel), List.mem_of_getElem? (i := 629) (by decide +kernel), List.mem_of_getElem? (i := 630) (by decide +kernel)⟩
theorem lw_p25 : lw_okq (⟨"GalleyStroke$Reader", "readDrum", "()V"⟩, 12) := ⟨⟨by decide +kernel, by decide +kernel⟩, List.mem_of_getElem? (i := 121) (by decide +kernel), List.mem_of_getElem? (i := 638) (by decide +kernel), List.mem_of_getElem? (i := 639) (by decide +kernel)⟩
theorem lw_p26 : lw_okq (⟨"GalleyStroke$Reader", "readSong", "()V"⟩, 12) := ⟨⟨by decide +kernel, by decide +kernel⟩, List.mem_of_getElem? (i := 121) (by decide +kernel), List.mem_of_getElem? (i := 643) (by decide +kernel), List.mem_of_getElem? (i := 644) (by decide +kernel)⟩
theorem lw_p27 : lw_okq (⟨"GalleyStroke$Reader", "readFog", "()V"⟩, 12) := ⟨⟨by decide +kernel, by decide +kernel⟩, List.mem_of_getElem? (i := 121) (by decide +kernel), List.mem_of_getElem? (i := 647) (by decide +kernel), List.mem_of_getElem? (i := 648) (by decide +kernel)⟩
theorem lw_p28 : lw_okq (⟨"GalleyStroke$Reader", "takeLaterFault", "()V"⟩, 12) := ⟨⟨by decide +kernel, by decide +kernel⟩, List.mem_of_getElem? (i := 121) (by decide +kernel), List.mem_of_getElem? (i := 652) (by decide +kernel), List.mem_of_getElem? (i := 653) (by decide +kernel)⟩
theorem lw_p29 : lw_okq (⟨"GalleyStroke", "putSpareInPlace", "()V"⟩, 13) := ⟨⟨by decide +kernel, by decide +kernel⟩, List.mem_of_getElem? (i := 22) (by decide +kernel), List.mem_of_getElem? (i := 656) (by decide +kernel), List.mem_of_getElem? (i := 657) (by decide +kernel)⟩
theorem lw_p30 : lw_okq (⟨"GalleyStroke", "isBench", "(I)Z"⟩, 13) := ⟨⟨by decide +kernel, by decide +kernel⟩, List.mem_of_getElem? (i := 22) (by decide +kernel), List.mem_of_getElem? (i := 672) (by decide +kernel), List.mem_of_getElem? (i := 673) (by decide +kernel)⟩
theorem lw_p31 : lw_okq (⟨"GalleyStroke$Rowing", "worked", "(II)I"⟩, 5) := ⟨⟨by decide +kernel, by decide +kernel⟩, List.mem_of_getElem? (i := 252) (by decide +kernel), List.mem_of_getElem? (i := 706) (by decide +kernel), List.mem_of_getElem? (i := 707) (by decide +kernel)⟩
def lw_privs_2 : List (MethodName × Nat) := [(⟨"GalleyStroke$Reader", "readRelation", "()V"⟩, 12), (⟨"GalleyStroke$Reader", "readExpression", "(II)V"⟩, 12), (⟨"GalleyStroke$Reader", "readUnit", "(I)V"⟩, 12), (⟨"GalleyStroke$Reader", "emit", "(II)I"⟩, 12), (⟨"GalleyStroke$Reader", "landChain", "(I)V"⟩, 12), (⟨"GalleyStroke$Reader", "land", "(I)V"⟩, 12), (⟨"GalleyStroke$Reader", "readMan", "()V"⟩, 12), (⟨"GalleyStroke$Reader", "lawNamed", "(J)I"⟩, 12), (⟨"GalleyStroke$Reader", "noteBeyond", "()V"⟩, 12), (⟨"GalleyStroke$Reader", "readDrum", "()V"⟩, 12), (⟨"GalleyStroke$Reader", "readSong", "()V"⟩, 12), (⟨"GalleyStroke$Reader", "readFog", "()V"⟩, 12), (⟨"GalleyStroke$Reader", "takeLaterFault", "()V"⟩, 12), (⟨"GalleyStroke", "putSpareInPlace", "()V"⟩, 13), (⟨"GalleyStroke", "isBench", "(I)Z"⟩, 13), (⟨"GalleyStroke$Rowing", "worked", "(II)I"⟩, 5)]
theorem lw_r2 : ∀ q ∈ lw_privs_2, lw_okq q := List.forall_mem_cons.mpr ⟨lw_p16, List.forall_mem_cons.mpr ⟨lw_p17, List.forall_mem_cons.mpr ⟨lw_p18, List.forall_mem_cons.mpr ⟨lw_p19, List.forall_mem_cons.mpr ⟨lw_p20, List.forall_mem_cons.mpr ⟨lw_p21, List.forall_mem_cons.mpr ⟨lw_p22, List.forall_mem_cons.mpr ⟨lw_p23, List.forall_mem_cons.mpr ⟨lw_p24, List.forall_mem_cons.mpr ⟨lw_p25, List.forall_mem_cons.mpr ⟨lw_p26, List.forall_mem_cons.mpr ⟨lw_p27, List.forall_mem_cons.mpr ⟨lw_p28, List.forall_mem_cons.mpr ⟨lw_p29, List.forall_mem_cons.mpr ⟨lw_p30, List.forall_mem_cons.mpr ⟨lw_p31, fun _ h => absurd h List.not_mem_nil⟩⟩⟩⟩⟩⟩⟩⟩⟩⟩⟩⟩⟩⟩⟩⟩
theorem lw_p32 : lw_okq (⟨"GalleyStroke$Rowing", "joined", "(III)I"⟩, 5) := ⟨⟨by decide +kernel, by decide +kernel⟩, List.mem_of_getElem? (i := 252) (by decide +kernel), List.mem_of_getElem? (i := 710) (by decide +kernel), List.mem_of_getElem? (i := 711) (by decide +kernel)⟩
theorem lw_p33 : lw_okq (⟨"GalleyStroke$Rowing", "rest", "(I)I"⟩, 5) := ⟨⟨by decide +kernel, by decide +kernel⟩, List.mem_of_getElem? (i := 252) (by decide +kernel), List.mem_of_getElem? (i := 718) (by decide +kernel), List.mem_of_getElem? (i := 719) (by decide +kernel)⟩
theorem lw_p34 : lw_okq (⟨"GalleyStroke$Rowing", "gapAhead", "(JI)I"⟩, 5) := ⟨⟨by decide +kernel, by decide +kernel⟩, List.mem_of_getElem? (i := 252) (by decide +kernel), List.mem_of_getElem? (i := 742) (by decide +kernel), List.mem_of_getElem? (i := 743) (by decide +kernel)⟩
theorem lw_p35 : lw_okq (⟨"GalleyStroke$Seats", "sitAsNow", "()V"⟩, 4) := ⟨⟨by decide +kernel, by decide +kernel⟩, List.mem_of_getElem? (i := 338) (by decide +kernel), List.mem_of_getElem? (i := 838) (by decide +kernel), List.mem_of_getElem? (i := 839) (by decide +kernel)⟩
theorem lw_p36 : lw_okq (⟨"GalleyStroke$Seats", "cost", "(LGalleyStroke$Crew;II)I"⟩, 4) := ⟨⟨by decide +kernel, by decide +kernel⟩, List.mem_of_getElem? (i := 338) (by decide +kernel), List.mem_of_getElem? (i := 845) (by decide +kernel), List.mem_of_getElem? (i := 846) (by decide +kernel)⟩
theorem lw_p37 : lw_okq (⟨"GalleyStroke$Seats", "costOf", "(IJ)I"⟩, 4) := ⟨⟨by decide +kernel, by decide +kernel⟩, List.mem_of_getElem? (i := 338) (by decide +kernel), List.mem_of_getElem? (i := 852) (by decide +kernel), List.mem_of_getElem? (i := 853) (by decide +kernel)⟩
theorem lw_p38 : lw_okq (⟨"GalleyStroke$Seats", "goToNextOrder", "(I)Z"⟩, 4) := ⟨⟨by decide +kernel, by decide +kernel⟩, List.mem_of_getElem? (i := 338) (by decide +kernel), List.mem_of_getElem? (i := 864) (by decide +kernel), List.mem_of_getElem? (i := 865) (by decide +kernel)⟩
theorem lw_p39 : lw_okq (⟨"GalleyStroke$Seats", "swap", "(II)V"⟩, 4) := ⟨⟨by decide +kernel, by decide +kernel⟩, List.mem_of_getElem? (i := 338) (by decide +kernel), List.mem_of_getElem? (i := 868) (by decide +kernel), List.mem_of_getElem? (i := 869) (by decide +kernel)⟩
theorem lw_p40 : lw_okq (⟨"GalleyStroke$Beginnings", "addBench", "(III)V"⟩, 5) := ⟨⟨by decide +kernel, by decide +kernel⟩, List.mem_of_getElem? (i := 358) (by decide +kernel), List.mem_of_getElem? (i := 896) (by decide +kernel), List.mem_of_getElem? (i := 897) (by decide +kernel)⟩
theorem lw_p41 : lw_okq (⟨"GalleyStroke$Beginnings", "follow", "(I)V"⟩, 5) := ⟨⟨by decide +kernel, by decide +kernel⟩, List.mem_of_getElem? (i := 358) (by decide +kernel), List.mem_of_getElem? (i := 904) (by decide +kernel), List.mem_of_getElem? (i := 905) (by decide +kernel)⟩
theorem lw_p42 : lw_okq (⟨"GalleyStroke$Voyage", "wayBehind", "(LGalleyStroke$Crew;III)I"⟩, 7) := ⟨⟨by decide +kernel, by decide +kernel⟩, List.mem_of_getElem? (i := 382) (by decide +kernel), List.mem_of_getElem? (i := 919) (by decide +kernel), List.mem_of_getElem? (i := 920) (by decide +kernel)⟩
theorem lw_p43 : lw_okq (⟨"GalleyStroke$Witness", "isSuspect", "(III)Z"⟩, 7) := ⟨⟨by decide +kernel, by decide +kernel⟩, List.mem_of_getElem? (i := 415) (by decide +kernel), List.mem_of_getElem? (i := 960) (by decide +kernel), List.mem_of_getElem? (i := 961) (by decide +kernel)⟩
theorem lw_p44 : lw_okq (⟨"GalleyStroke$Witness", "breakMen", "(I)V"⟩, 7) := ⟨⟨by decide +kernel, by decide +kernel⟩, List.mem_of_getElem? (i := 415) (by decide +kernel), List.mem_of_getElem? (i := 965) (by decide +kernel), List.mem_of_getElem? (i := 966) (by decide +kernel)⟩
theorem lw_p45 : lw_okq (⟨"GalleyStroke$Witness", "lastKnown", "(I)I"⟩, 7) := ⟨⟨by decide +kernel, by decide +kernel⟩, List.mem_of_getElem? (i := 415) (by decide +kernel), List.mem_of_getElem? (i := 969) (by decide +kernel), List.mem_of_getElem? (i := 970) (by decide +kernel)⟩
theorem lw_p46 : lw_okq (⟨"GalleyStroke$Witness", "agrees", "(III)Z"⟩, 7) := ⟨⟨by decide +kernel, by decide +kernel⟩, List.mem_of_getElem? (i := 415) (by decide +kernel), List.mem_of_getElem? (i := 975) (by decide +kernel), List.mem_of_getElem? (i := 976) (by decide +kernel)⟩
theorem lw_p47 : lw_okq (⟨"GalleyStroke$Witness", "clashesAt", "(II)I"⟩, 7) := ⟨⟨by decide +kernel, by decide +kernel⟩, List.mem_of_getElem? (i := 415) (by decide +kernel), List.mem_of_getElem? (i := 998) (by decide +kernel), List.mem_of_getElem? (i := 999) (by decide +kernel)⟩
def lw_privs_3 : List (MethodName × Nat) := [(⟨"GalleyStroke$Rowing", "joined", "(III)I"⟩, 5), (⟨"GalleyStroke$Rowing", "rest", "(I)I"⟩, 5), (⟨"GalleyStroke$Rowing", "gapAhead", "(JI)I"⟩, 5), (⟨"GalleyStroke$Seats", "sitAsNow", "()V"⟩, 4), (⟨"GalleyStroke$Seats", "cost", "(LGalleyStroke$Crew;II)I"⟩, 4), (⟨"GalleyStroke$Seats", "costOf", "(IJ)I"⟩, 4), (⟨"GalleyStroke$Seats", "goToNextOrder", "(I)Z"⟩, 4), (⟨"GalleyStroke$Seats", "swap", "(II)V"⟩, 4), (⟨"GalleyStroke$Beginnings", "addBench", "(III)V"⟩, 5), (⟨"GalleyStroke$Beginnings", "follow", "(I)V"⟩, 5), (⟨"GalleyStroke$Voyage", "wayBehind", "(LGalleyStroke$Crew;III)I"⟩, 7), (⟨"GalleyStroke$Witness", "isSuspect", "(III)Z"⟩, 7), (⟨"GalleyStroke$Witness", "breakMen", "(I)V"⟩, 7), (⟨"GalleyStroke$Witness", "lastKnown", "(I)I"⟩, 7), (⟨"GalleyStroke$Witness", "agrees", "(III)Z"⟩, 7), (⟨"GalleyStroke$Witness", "clashesAt", "(II)I"⟩, 7)]
theorem lw_r3 : ∀ q ∈ lw_privs_3, lw_okq q := List.forall_mem_cons.mpr ⟨lw_p32, List.forall_mem_cons.mpr ⟨lw_p33, List.forall_mem_cons.mpr ⟨lw_p34, List.forall_mem_cons.mpr ⟨lw_p35, List.forall_mem_cons.mpr ⟨lw_p36, List.forall_mem_cons.mpr ⟨lw_p37, List.forall_mem_cons.mpr ⟨lw_p38, List.forall_mem_cons.mpr ⟨lw_p39, List.forall_mem_cons.mpr ⟨lw_p40, List.forall_mem_cons.mpr ⟨lw_p41, List.forall_mem_cons.mpr ⟨lw_p42, List.forall_mem_cons.mpr ⟨lw_p43, List.forall_mem_cons.mpr ⟨lw_p44, List.forall_mem_cons.mpr ⟨lw_p45, List.forall_mem_cons.mpr ⟨lw_p46, List.forall_mem_cons.mpr ⟨lw_p47, fun _ h => absurd h List.not_mem_nil⟩⟩⟩⟩⟩⟩⟩⟩⟩⟩⟩⟩⟩⟩⟩⟩
theorem lw_p48 : lw_okq (⟨"GalleyStroke$Witness", "greaterPart", "(II)I"⟩, 7) := ⟨⟨by decide +kernel, by decide +kernel⟩, List.mem_of_getElem? (i := 415) (by decide +kernel), List.mem_of_getElem? (i := 1002) (by decide +kernel), List.mem_of_getElem? (i := 1003) (by decide +kernel)⟩
theorem lw_p49 : lw_okq (⟨"GalleyStroke", "heldSlots", "()I"⟩, 13) := ⟨⟨by decide +kernel, by decide +kernel⟩, List.mem_of_getElem? (i := 22) (by decide +kernel), List.mem_of_getElem? (i := 1026) (by decide +kernel), List.mem_of_getElem? (i := 1027) (by decide +kernel)⟩
theorem lw_p50 : lw_okq (⟨"GalleyStrokeModel", "put", "(I)V"⟩, 92) := ⟨⟨by decide +kernel, by decide +kernel⟩, List.mem_of_getElem? (i := 1030) (by decide +kernel), List.mem_of_getElem? (i := 1324) (by decide +kernel), List.mem_of_getElem? (i := 1325) (by decide +kernel)⟩
theorem lw_p51 : lw_okq (⟨"GalleyStrokeModel", "cut", "()V"⟩, 92) := ⟨⟨by decide +kernel, by decide +kernel⟩, List.mem_of_getElem? (i := 1030) (by decide +kernel), List.mem_of_getElem? (i := 1336) (by decide +kernel), List.mem_of_getElem? (i := 1337) (by decide +kernel)⟩
theorem lw_p52 : lw_okq (⟨"GalleyStrokeModel", "byteAt", "(I)I"⟩, 92) := ⟨⟨by decide +kernel, by decide +kernel⟩, List.mem_of_getElem? (i := 1030) (by decide +kernel), List.mem_of_getElem? (i := 1340) (by decide +kernel), List.mem_of_getElem? (i := 1341) (by decide +kernel)⟩
theorem lw_p53 : lw_okq (⟨"GalleyStrokeModel", "token", "(IIIJ)V"⟩, 92) := ⟨⟨by decide +kernel, by decide +kernel⟩, List.mem_of_getElem? (i := 1030) (by decide +kernel), List.mem_of_getElem? (i := 1344) (by decide +kernel), List.mem_of_getElem? (i := 1345) (by decide +kernel)⟩
theorem lw_p54 : lw_okq (⟨"GalleyStrokeModel", "sign", "(III)I"⟩, 92) := ⟨⟨by decide +kernel, by decide +kernel⟩, List.mem_of_getElem? (i := 1030) (by decide +kernel), List.mem_of_getElem? (i := 1354) (by decide +kernel), List.mem_of_getElem? (i := 1355) (by decide +kernel)⟩
theorem lw_p55 : lw_okq (⟨"GalleyStrokeModel", "is", "(I)Z"⟩, 92) := ⟨⟨by decide +kernel, by decide +kernel⟩, List.mem_of_getElem? (i := 1030) (by decide +kernel), List.mem_of_getElem? (i := 1358) (by decide +kernel), List.mem_of_getElem? (i := 1359) (by decide +kernel)⟩
theorem lw_p56 : lw_okq (⟨"GalleyStrokeModel", "tell", "()V"⟩, 92) := ⟨⟨by decide +kernel, by decide +kernel⟩, List.mem_of_getElem? (i := 1030) (by decide +kernel), List.mem_of_getElem? (i := 1362) (by decide +kernel), List.mem_of_getElem? (i := 1363) (by decide +kernel)⟩
theorem lw_p57 : lw_okq (⟨"GalleyStrokeModel", "goesOn", "()V"⟩, 92) := ⟨⟨by decide +kernel, by decide +kernel⟩, List.mem_of_getElem? (i := 1030) (by decide +kernel), List.mem_of_getElem? (i := 1366) (by decide +kernel), List.mem_of_getElem? (i := 1367) (by decide +kernel)⟩
theorem lw_p58 : lw_okq (⟨"GalleyStrokeModel", "fail", "(I)V"⟩, 92) := ⟨⟨by decide +kernel, by decide +kernel⟩, List.mem_of_getElem? (i := 1030) (by decide +kernel), List.mem_of_getElem? (i := 1370) (by decide +kernel), List.mem_of_getElem? (i := 1371) (by decide +kernel)⟩
theorem lw_p59 : lw_okq (⟨"GalleyStrokeModel", "bounded", "(II)I"⟩, 92) := ⟨⟨by decide +kernel, by decide +kernel⟩, List.mem_of_getElem? (i := 1030) (by decide +kernel), List.mem_of_getElem? (i := 1374) (by decide +kernel), List.mem_of_getElem? (i := 1375) (by decide +kernel)⟩
theorem lw_p60 : lw_okq (⟨"GalleyStrokeModel", "wrong", "(II)V"⟩, 92) := ⟨⟨by decide +kernel, by decide +kernel⟩, List.mem_of_getElem? (i := 1030) (by decide +kernel), List.mem_of_getElem? (i := 1378) (by decide +kernel), List.mem_of_getElem? (i := 1379) (by decide +kernel)⟩
theorem lw_p61 : lw_okq (⟨"GalleyStrokeModel", "must", "(I)V"⟩, 92) := ⟨⟨by decide +kernel, by decide +kernel⟩, List.mem_of_getElem? (i := 1030) (by decide +kernel), List.mem_of_getElem? (i := 1382) (by decide +kernel), List.mem_of_getElem? (i := 1383) (by decide +kernel)⟩
theorem lw_p62 : lw_okq (⟨"GalleyStrokeModel", "roomFor", "(II)V"⟩, 92) := ⟨⟨by decide +kernel, by decide +kernel⟩, List.mem_of_getElem? (i := 1030) (by decide +kernel), List.mem_of_getElem? (i := 1386) (by decide +kernel), List.mem_of_getElem? (i := 1387) (by decide +kernel)⟩
theorem lw_p63 : lw_okq (⟨"GalleyStrokeModel", "tellLaw", "()V"⟩, 92) := ⟨⟨by decide +kernel, by decide +kernel⟩, List.mem_of_getElem? (i := 1030) (by decide +kernel), List.mem_of_getElem? (i := 1390) (by decide +kernel), List.mem_of_getElem? (i := 1391) (by decide +kernel)⟩
def lw_privs_4 : List (MethodName × Nat) := [(⟨"GalleyStroke$Witness", "greaterPart", "(II)I"⟩, 7), (⟨"GalleyStroke", "heldSlots", "()I"⟩, 13), (⟨"GalleyStrokeModel", "put", "(I)V"⟩, 92), (⟨"GalleyStrokeModel", "cut", "()V"⟩, 92), (⟨"GalleyStrokeModel", "byteAt", "(I)I"⟩, 92), (⟨"GalleyStrokeModel", "token", "(IIIJ)V"⟩, 92), (⟨"GalleyStrokeModel", "sign", "(III)I"⟩, 92), (⟨"GalleyStrokeModel", "is", "(I)Z"⟩, 92), (⟨"GalleyStrokeModel", "tell", "()V"⟩, 92), (⟨"GalleyStrokeModel", "goesOn", "()V"⟩, 92), (⟨"GalleyStrokeModel", "fail", "(I)V"⟩, 92), (⟨"GalleyStrokeModel", "bounded", "(II)I"⟩, 92), (⟨"GalleyStrokeModel", "wrong", "(II)V"⟩, 92), (⟨"GalleyStrokeModel", "must", "(I)V"⟩, 92), (⟨"GalleyStrokeModel", "roomFor", "(II)V"⟩, 92), (⟨"GalleyStrokeModel", "tellLaw", "()V"⟩, 92)]
theorem lw_r4 : ∀ q ∈ lw_privs_4, lw_okq q := List.forall_mem_cons.mpr ⟨lw_p48, List.forall_mem_cons.mpr ⟨lw_p49, List.forall_mem_cons.mpr ⟨lw_p50, List.forall_mem_cons.mpr ⟨lw_p51, List.forall_mem_cons.mpr ⟨lw_p52, List.forall_mem_cons.mpr ⟨lw_p53, List.forall_mem_cons.mpr ⟨lw_p54, List.forall_mem_cons.mpr ⟨lw_p55, List.forall_mem_cons.mpr ⟨lw_p56, List.forall_mem_cons.mpr ⟨lw_p57, List.forall_mem_cons.mpr ⟨lw_p58, List.forall_mem_cons.mpr ⟨lw_p59, List.forall_mem_cons.mpr ⟨lw_p60, List.forall_mem_cons.mpr ⟨lw_p61, List.forall_mem_cons.mpr ⟨lw_p62, List.forall_mem_cons.mpr ⟨lw_p63, fun _ h => absurd h List.not_mem_nil⟩⟩⟩⟩⟩⟩⟩⟩⟩⟩⟩⟩⟩⟩⟩⟩
theorem lw_p64 : lw_okq (⟨"GalleyStrokeModel", "named", "()I"⟩, 92) := ⟨⟨by decide +kernel, by decide +kernel⟩, List.mem_of_getElem? (i := 1030) (by decide +kernel), List.mem_of_getElem? (i := 1394) (by decide +kernel), List.mem_of_getElem? (i := 1395) (by decide +kernel)⟩
theorem lw_p65 : lw_okq (⟨"GalleyStrokeModel", "condition", "()V"⟩, 92) := ⟨⟨by decide +kernel, by decide +kernel⟩, List.mem_of_getElem? (i := 1030) (by decide +kernel), List.mem_of_getElem? (i := 1398) (by decide +kernel), List.mem_of_getElem? (i := 1399) (by decide +kernel)⟩
theorem lw_p66 : lw_okq (⟨"GalleyStrokeModel", "literal", "(Z)V"⟩, 92) := ⟨⟨by decide +kernel, by decide +kernel⟩, List.mem_of_getElem? (i := 1030) (by decide +kernel), List.mem_of_getElem? (i := 1402) (by decide +kernel), List.mem_of_getElem? (i := 1403) (by decide +kernel)⟩
theorem lw_p67 : lw_okq (⟨"GalleyStrokeModel", "expression", "()V"⟩, 92) := ⟨⟨by decide +kernel, by decide +kernel⟩, List.mem_of_getElem? (i := 1030) (by decide +kernel), List.mem_of_getElem? (i := 1406) (by decide +kernel), List.mem_of_getElem? (i := 1407) (by decide +kernel)⟩
theorem lw_p68 : lw_okq (⟨"GalleyStrokeModel", "opensMany", "()V"⟩, 92) := ⟨⟨by decide +kernel, by decide +kernel⟩, List.mem_of_getElem? (i := 1030) (by decide +kernel), List.mem_of_getElem? (i := 1410) (by decide +kernel), List.mem_of_getElem? (i := 1411) (by decide +kernel)⟩
theorem lw_p69 : lw_okq (⟨"GalleyStrokeModel", "pushes", "(I)V"⟩, 92) := ⟨⟨by decide +kernel, by decide +kernel⟩, List.mem_of_getElem? (i := 1030) (by decide +kernel), List.mem_of_getElem? (i := 1414) (by decide +kernel), List.mem_of_getElem? (i := 1415) (by decide +kernel)⟩
theorem lw_p70 : lw_okq (⟨"GalleyStrokeModel", "unit", "()V"⟩, 92) := ⟨⟨by decide +kernel, by decide +kernel⟩, List.mem_of_getElem? (i := 1030) (by decide +kernel), List.mem_of_getElem? (i := 1418) (by decide +kernel), List.mem_of_getElem? (i := 1419) (by decide +kernel)⟩
theorem lw_p71 : lw_okq (⟨"GalleyStrokeModel", "emit", "(II)V"⟩, 92) := ⟨⟨by decide +kernel, by decide +kernel⟩, List.mem_of_getElem? (i := 1030) (by decide +kernel), List.mem_of_getElem? (i := 1422) (by decide +kernel), List.mem_of_getElem? (i := 1423) (by decide +kernel)⟩
theorem lw_p72 : lw_okq (⟨"GalleyStrokeModel", "closesMany", "(I)Z"⟩, 92) := ⟨⟨by decide +kernel, by decide +kernel⟩, List.mem_of_getElem? (i := 1030) (by decide +kernel), List.mem_of_getElem? (i := 1429) (by decide +kernel), List.mem_of_getElem? (i := 1430) (by decide +kernel)⟩
theorem lw_p73 : lw_okq (⟨"GalleyStrokeModel", "comesOut", "(Z)V"⟩, 92) := ⟨⟨by decide +kernel, by decide +kernel⟩, List.mem_of_getElem? (i := 1030) (by decide +kernel), List.mem_of_getElem? (i := 1433) (by decide +kernel), List.mem_of_getElem? (i := 1434) (by decide +kernel)⟩
theorem lw_p74 : lw_okq (⟨"GalleyStrokeModel", "term", "()V"⟩, 92) := ⟨⟨by decide +kernel, by decide +kernel⟩, List.mem_of_getElem? (i := 1030) (by decide +kernel), List.mem_of_getElem? (i := 1440) (by decide +kernel), List.mem_of_getElem? (i := 1441) (by decide +kernel)⟩
theorem lw_p75 : lw_okq (⟨"GalleyStrokeModel", "notes", "(II)V"⟩, 92) := ⟨⟨by decide +kernel, by decide +kernel⟩, List.mem_of_getElem? (i := 1030) (by decide +kernel), List.mem_of_getElem? (i := 1444) (by decide +kernel), List.mem_of_getElem? (i := 1445) (by decide +kernel)⟩
theorem lw_p76 : lw_okq (⟨"GalleyStrokeModel", "tellMan", "()V"⟩, 92) := ⟨⟨by decide +kernel, by decide +kernel⟩, List.mem_of_getElem? (i := 1030) (by decide +kernel), List.mem_of_getElem? (i := 1448) (by decide +kernel), List.mem_of_getElem? (i := 1449) (by decide +kernel)⟩
theorem lw_p77 : lw_okq (⟨"GalleyStrokeModel", "part", "()I"⟩, 92) := ⟨⟨by decide +kernel, by decide +kernel⟩, List.mem_of_getElem? (i := 1030) (by decide +kernel), List.mem_of_getElem? (i := 1452) (by decide +kernel), List.mem_of_getElem? (i := 1453) (by decide +kernel)⟩
theorem lw_p78 : lw_okq (⟨"GalleyStrokeModel", "tellFog", "()V"⟩, 92) := ⟨⟨by decide +kernel, by decide +kernel⟩, List.mem_of_getElem? (i := 1030) (by decide +kernel), List.mem_of_getElem? (i := 1456) (by decide +kernel), List.mem_of_getElem? (i := 1457) (by decide +kernel)⟩
theorem lw_p79 : lw_okq (⟨"GalleyStrokeModel", "begins", "()V"⟩, 92) := ⟨⟨by decide +kernel, by decide +kernel⟩, List.mem_of_getElem? (i := 1030) (by decide +kernel), List.mem_of_getElem? (i := 1460) (by decide +kernel), List.mem_of_getElem? (i := 1461) (by decide +kernel)⟩
def lw_privs_5 : List (MethodName × Nat) := [(⟨"GalleyStrokeModel", "named", "()I"⟩, 92), (⟨"GalleyStrokeModel", "condition", "()V"⟩, 92), (⟨"GalleyStrokeModel", "literal", "(Z)V"⟩, 92), (⟨"GalleyStrokeModel", "expression", "()V"⟩, 92), (⟨"GalleyStrokeModel", "opensMany", "()V"⟩, 92), (⟨"GalleyStrokeModel", "pushes", "(I)V"⟩, 92), (⟨"GalleyStrokeModel", "unit", "()V"⟩, 92), (⟨"GalleyStrokeModel", "emit", "(II)V"⟩, 92), (⟨"GalleyStrokeModel", "closesMany", "(I)Z"⟩, 92), (⟨"GalleyStrokeModel", "comesOut", "(Z)V"⟩, 92), (⟨"GalleyStrokeModel", "term", "()V"⟩, 92), (⟨"GalleyStrokeModel", "notes", "(II)V"⟩, 92), (⟨"GalleyStrokeModel", "tellMan", "()V"⟩, 92), (⟨"GalleyStrokeModel", "part", "()I"⟩, 92), (⟨"GalleyStrokeModel", "tellFog", "()V"⟩, 92), (⟨"GalleyStrokeModel", "begins", "()V"⟩, 92)]
theorem lw_r5 : ∀ q ∈ lw_privs_5, lw_okq q := List.forall_mem_cons.mpr ⟨lw_p64, List.forall_mem_cons.mpr ⟨lw_p65, List.forall_mem_cons.mpr ⟨lw_p66, List.forall_mem_cons.mpr ⟨lw_p67, List.forall_mem_cons.mpr ⟨lw_p68, List.forall_mem_cons.mpr ⟨lw_p69, List.forall_mem_cons.mpr ⟨lw_p70, List.forall_mem_cons.mpr ⟨lw_p71, List.forall_mem_cons.mpr ⟨lw_p72, List.forall_mem_cons.mpr ⟨lw_p73, List.forall_mem_cons.mpr ⟨lw_p74, List.forall_mem_cons.mpr ⟨lw_p75, List.forall_mem_cons.mpr ⟨lw_p76, List.forall_mem_cons.mpr ⟨lw_p77, List.forall_mem_cons.mpr ⟨lw_p78, List.forall_mem_cons.mpr ⟨lw_p79, fun _ h => absurd h List.not_mem_nil⟩⟩⟩⟩⟩⟩⟩⟩⟩⟩⟩⟩⟩⟩⟩⟩
theorem lw_p80 : lw_okq (⟨"GalleyStrokeModel", "menNow", "()I"⟩, 92) := ⟨⟨by decide +kernel, by decide +kernel⟩, List.mem_of_getElem? (i := 1030) (by decide +kernel), List.mem_of_getElem? (i := 1464) (by decide +kernel), List.mem_of_getElem? (i := 1465) (by decide +kernel)⟩
theorem lw_p81 : lw_okq (⟨"GalleyStrokeModel", "isBench", "(I)Z"⟩, 92) := ⟨⟨by decide +kernel, by decide +kernel⟩, List.mem_of_getElem? (i := 1030) (by decide +kernel), List.mem_of_getElem? (i := 1476) (by decide +kernel), List.mem_of_getElem? (i := 1477) (by decide +kernel)⟩
theorem lw_p82 : lw_okq (⟨"GalleyStrokeModel", "takes", "()V"⟩, 92) := ⟨⟨by decide +kernel, by decide +kernel⟩, List.mem_of_getElem? (i := 1030) (by decide +kernel), List.mem_of_getElem? (i := 1483) (by decide +kernel), List.mem_of_getElem? (i := 1484) (by decide +kernel)⟩
theorem lw_p83 : lw_okq (⟨"GalleyStrokeModel", "isFog", "(I)Z"⟩, 92) := ⟨⟨by decide +kernel, by decide +kernel⟩, List.mem_of_getElem? (i := 1030) (by decide +kernel), List.mem_of_getElem? (i := 1487) (by decide +kernel), List.mem_of_getElem? (i := 1488) (by decide +kernel)⟩
theorem lw_p84 : lw_okq (⟨"GalleyStrokeModel", "heard", "(IZ)I"⟩, 92) := ⟨⟨by decide +kernel, by decide +kernel⟩, List.mem_of_getElem? (i := 1030) (by decide +kernel), List.mem_of_getElem? (i := 1491) (by decide +kernel), List.mem_of_getElem? (i := 1492) (by decide +kernel)⟩
theorem lw_p85 : lw_okq (⟨"GalleyStrokeModel", "rest", "(I)I"⟩, 92) := ⟨⟨by decide +kernel, by decide +kernel⟩, List.mem_of_getElem? (i := 1030) (by decide +kernel), List.mem_of_getElem? (i := 1495) (by decide +kernel), List.mem_of_getElem? (i := 1496) (by decide +kernel)⟩
theorem lw_p86 : lw_okq (⟨"GalleyStrokeModel", "all", "()I"⟩, 92) := ⟨⟨by decide +kernel, by decide +kernel⟩, List.mem_of_getElem? (i := 1030) (by decide +kernel), List.mem_of_getElem? (i := 1499) (by decide +kernel), List.mem_of_getElem? (i := 1500) (by decide +kernel)⟩
theorem lw_p87 : lw_okq (⟨"GalleyStrokeModel", "strikes", "(Z)V"⟩, 92) := ⟨⟨by decide +kernel, by decide +kernel⟩, List.mem_of_getElem? (i := 1030) (by decide +kernel), List.mem_of_getElem? (i := 1507) (by decide +kernel), List.mem_of_getElem? (i := 1508) (by decide +kernel)⟩
theorem lw_p88 : lw_okq (⟨"GalleyStrokeModel", "rowsBy", "(II)I"⟩, 92) := ⟨⟨by decide +kernel, by decide +kernel⟩, List.mem_of_getElem? (i := 1030) (by decide +kernel), List.mem_of_getElem? (i := 1511) (by decide +kernel), List.mem_of_getElem? (i := 1512) (by decide +kernel)⟩
theorem lw_p89 : lw_okq (⟨"GalleyStrokeModel", "holds", "(I)Z"⟩, 92) := ⟨⟨by decide +kernel, by decide +kernel⟩, List.mem_of_getElem? (i := 1030) (by decide +kernel), List.mem_of_getElem? (i := 1515) (by decide +kernel), List.mem_of_getElem? (i := 1516) (by decide +kernel)⟩
theorem lw_p90 : lw_okq (⟨"GalleyStrokeModel", "isTrue", "(I)Z"⟩, 92) := ⟨⟨by decide +kernel, by decide +kernel⟩, List.mem_of_getElem? (i := 1030) (by decide +kernel), List.mem_of_getElem? (i := 1519) (by decide +kernel), List.mem_of_getElem? (i := 1520) (by decide +kernel)⟩
theorem lw_p91 : lw_okq (⟨"GalleyStrokeModel", "termOf", "(II)I"⟩, 92) := ⟨⟨by decide +kernel, by decide +kernel⟩, List.mem_of_getElem? (i := 1030) (by decide +kernel), List.mem_of_getElem? (i := 1523) (by decide +kernel), List.mem_of_getElem? (i := 1524) (by decide +kernel)⟩
theorem lw_p92 : lw_okq (⟨"GalleyStrokeModel", "gap", "(II)I"⟩, 92) := ⟨⟨by decide +kernel, by decide +kernel⟩, List.mem_of_getElem? (i := 1030) (by decide +kernel), List.mem_of_getElem? (i := 1527) (by decide +kernel), List.mem_of_getElem? (i := 1528) (by decide +kernel)⟩
theorem lw_p93 : lw_okq (⟨"GalleyStrokeModel", "clashesNow", "()I"⟩, 92) := ⟨⟨by decide +kernel, by decide +kernel⟩, List.mem_of_getElem? (i := 1030) (by decide +kernel), List.mem_of_getElem? (i := 1539) (by decide +kernel), List.mem_of_getElem? (i := 1540) (by decide +kernel)⟩
theorem lw_p94 : lw_okq (⟨"GalleyStrokeModel", "wayNow", "()I"⟩, 92) := ⟨⟨by decide +kernel, by decide +kernel⟩, List.mem_of_getElem? (i := 1030) (by decide +kernel), List.mem_of_getElem? (i := 1547) (by decide +kernel), List.mem_of_getElem? (i := 1548) (by decide +kernel)⟩
theorem lw_p95 : lw_okq (⟨"GalleyStrokeModel", "nearTo", "(I)I"⟩, 92) := ⟨⟨by decide +kernel, by decide +kernel⟩, List.mem_of_getElem? (i := 1030) (by decide +kernel), List.mem_of_getElem? (i := 1551) (by decide +kernel), List.mem_of_getElem? (i := 1552) (by decide +kernel)⟩
def lw_privs_6 : List (MethodName × Nat) := [(⟨"GalleyStrokeModel", "menNow", "()I"⟩, 92), (⟨"GalleyStrokeModel", "isBench", "(I)Z"⟩, 92), (⟨"GalleyStrokeModel", "takes", "()V"⟩, 92), (⟨"GalleyStrokeModel", "isFog", "(I)Z"⟩, 92), (⟨"GalleyStrokeModel", "heard", "(IZ)I"⟩, 92), (⟨"GalleyStrokeModel", "rest", "(I)I"⟩, 92), (⟨"GalleyStrokeModel", "all", "()I"⟩, 92), (⟨"GalleyStrokeModel", "strikes", "(Z)V"⟩, 92), (⟨"GalleyStrokeModel", "rowsBy", "(II)I"⟩, 92), (⟨"GalleyStrokeModel", "holds", "(I)Z"⟩, 92), (⟨"GalleyStrokeModel", "isTrue", "(I)Z"⟩, 92), (⟨"GalleyStrokeModel", "termOf", "(II)I"⟩, 92), (⟨"GalleyStrokeModel", "gap", "(II)I"⟩, 92), (⟨"GalleyStrokeModel", "clashesNow", "()I"⟩, 92), (⟨"GalleyStrokeModel", "wayNow", "()I"⟩, 92), (⟨"GalleyStrokeModel", "nearTo", "(I)I"⟩, 92)]
theorem lw_r6 : ∀ q ∈ lw_privs_6, lw_okq q := List.forall_mem_cons.mpr ⟨lw_p80, List.forall_mem_cons.mpr ⟨lw_p81, List.forall_mem_cons.mpr ⟨lw_p82, List.forall_mem_cons.mpr ⟨lw_p83, List.forall_mem_cons.mpr ⟨lw_p84, List.forall_mem_cons.mpr ⟨lw_p85, List.forall_mem_cons.mpr ⟨lw_p86, List.forall_mem_cons.mpr ⟨lw_p87, List.forall_mem_cons.mpr ⟨lw_p88, List.forall_mem_cons.mpr ⟨lw_p89, List.forall_mem_cons.mpr ⟨lw_p90, List.forall_mem_cons.mpr ⟨lw_p91, List.forall_mem_cons.mpr ⟨lw_p92, List.forall_mem_cons.mpr ⟨lw_p93, List.forall_mem_cons.mpr ⟨lw_p94, List.forall_mem_cons.mpr ⟨lw_p95, fun _ h => absurd h List.not_mem_nil⟩⟩⟩⟩⟩⟩⟩⟩⟩⟩⟩⟩⟩⟩⟩⟩
theorem lw_p96 : lw_okq (⟨"GalleyStrokeModel", "isStill", "()Z"⟩, 92) := ⟨⟨by decide +kernel, by decide +kernel⟩, List.mem_of_getElem? (i := 1030) (by decide +kernel), List.mem_of_getElem? (i := 1571) (by decide +kernel), List.mem_of_getElem? (i := 1572) (by decide +kernel)⟩
theorem lw_p97 : lw_okq (⟨"GalleyStrokeModel", "isAt", "(I)Z"⟩, 92) := ⟨⟨by decide +kernel, by decide +kernel⟩, List.mem_of_getElem? (i := 1030) (by decide +kernel), List.mem_of_getElem? (i := 1579) (by decide +kernel), List.mem_of_getElem? (i := 1580) (by decide +kernel)⟩
theorem lw_p98 : lw_okq (⟨"GalleyStrokeModel", "canSeat", "(II)Z"⟩, 92) := ⟨⟨by decide +kernel, by decide +kernel⟩, List.mem_of_getElem? (i := 1030) (by decide +kernel), List.mem_of_getElem? (i := 1603) (by decide +kernel), List.mem_of_getElem? (i := 1604) (by decide +kernel)⟩
theorem lw_p99 : lw_okq (⟨"GalleyStrokeModel", "seats", "(II)I"⟩, 92) := ⟨⟨by decide +kernel, by decide +kernel⟩, List.mem_of_getElem? (i := 1030) (by decide +kernel), List.mem_of_getElem? (i := 1607) (by decide +kernel), List.mem_of_getElem? (i := 1608) (by decide +kernel)⟩
theorem lw_p100 : lw_okq (⟨"GalleyStrokeModel", "comesTo", "(II)I"⟩, 92) := ⟨⟨by decide +kernel, by decide +kernel⟩, List.mem_of_getElem? (i := 1030) (by decide +kernel), List.mem_of_getElem? (i := 1611) (by decide +kernel), List.mem_of_getElem? (i := 1612) (by decide +kernel)⟩
theorem lw_p101 : lw_okq (⟨"GalleyStrokeModel", "sits", "()V"⟩, 92) := ⟨⟨by decide +kernel, by decide +kernel⟩, List.mem_of_getElem? (i := 1030) (by decide +kernel), List.mem_of_getElem? (i := 1615) (by decide +kernel), List.mem_of_getElem? (i := 1616) (by decide +kernel)⟩
theorem lw_p102 : lw_okq (⟨"GalleyStrokeModel", "bits", "(II)I"⟩, 92) := ⟨⟨by decide +kernel, by decide +kernel⟩, List.mem_of_getElem? (i := 1030) (by decide +kernel), List.mem_of_getElem? (i := 1619) (by decide +kernel), List.mem_of_getElem? (i := 1620) (by decide +kernel)⟩
theorem lw_p103 : lw_okq (⟨"GalleyStrokeModel", "nextOrder", "()Z"⟩, 92) := ⟨⟨by decide +kernel, by decide +kernel⟩, List.mem_of_getElem? (i := 1030) (by decide +kernel), List.mem_of_getElem? (i := 1626) (by decide +kernel), List.mem_of_getElem? (i := 1627) (by decide +kernel)⟩
theorem lw_p104 : lw_okq (⟨"GalleyStrokeModel", "fillEvery", "(III)V"⟩, 92) := ⟨⟨by decide +kernel, by decide +kernel⟩, List.mem_of_getElem? (i := 1030) (by decide +kernel), List.mem_of_getElem? (i := 1642) (by decide +kernel), List.mem_of_getElem? (i := 1643) (by decide +kernel)⟩
theorem lw_p105 : lw_okq (⟨"GalleyStrokeModel", "numberOf", "(I)I"⟩, 92) := ⟨⟨by decide +kernel, by decide +kernel⟩, List.mem_of_getElem? (i := 1030) (by decide +kernel), List.mem_of_getElem? (i := 1646) (by decide +kernel), List.mem_of_getElem? (i := 1647) (by decide +kernel)⟩
theorem lw_p106 : lw_okq (⟨"GalleyStrokeModel", "follows", "(I)V"⟩, 92) := ⟨⟨by decide +kernel, by decide +kernel⟩, List.mem_of_getElem? (i := 1030) (by decide +kernel), List.mem_of_getElem? (i := 1650) (by decide +kernel), List.mem_of_getElem? (i := 1651) (by decide +kernel)⟩
theorem lw_p107 : lw_okq (⟨"GalleyStrokeModel", "canSuspect", "(II)Z"⟩, 92) := ⟨⟨by decide +kernel, by decide +kernel⟩, List.mem_of_getElem? (i := 1030) (by decide +kernel), List.mem_of_getElem? (i := 1675) (by decide +kernel), List.mem_of_getElem? (i := 1676) (by decide +kernel)⟩
theorem lw_p108 : lw_okq (⟨"GalleyStrokeModel", "fillSuspects", "(II)V"⟩, 92) := ⟨⟨by decide +kernel, by decide +kernel⟩, List.mem_of_getElem? (i := 1030) (by decide +kernel), List.mem_of_getElem? (i := 1679) (by decide +kernel), List.mem_of_getElem? (i := 1680) (by decide +kernel)⟩
theorem lw_p109 : lw_okq (⟨"GalleyStrokeModel", "fits", "(II)Z"⟩, 92) := ⟨⟨by decide +kernel, by decide +kernel⟩, List.mem_of_getElem? (i := 1030) (by decide +kernel), List.mem_of_getElem? (i := 1683) (by decide +kernel), List.mem_of_getElem? (i := 1684) (by decide +kernel)⟩
theorem lw_p110 : lw_okq (⟨"GalleyStrokeModel", "breaks", "(I)V"⟩, 92) := ⟨⟨by decide +kernel, by decide +kernel⟩, List.mem_of_getElem? (i := 1030) (by decide +kernel), List.mem_of_getElem? (i := 1687) (by decide +kernel), List.mem_of_getElem? (i := 1688) (by decide +kernel)⟩
theorem lw_p111 : lw_okq (⟨"GalleyStrokeModel", "greater", "(I)I"⟩, 92) := ⟨⟨by decide +kernel, by decide +kernel⟩, List.mem_of_getElem? (i := 1030) (by decide +kernel), List.mem_of_getElem? (i := 1699) (by decide +kernel), List.mem_of_getElem? (i := 1700) (by decide +kernel)⟩
def lw_privs_7 : List (MethodName × Nat) := [(⟨"GalleyStrokeModel", "isStill", "()Z"⟩, 92), (⟨"GalleyStrokeModel", "isAt", "(I)Z"⟩, 92), (⟨"GalleyStrokeModel", "canSeat", "(II)Z"⟩, 92), (⟨"GalleyStrokeModel", "seats", "(II)I"⟩, 92), (⟨"GalleyStrokeModel", "comesTo", "(II)I"⟩, 92), (⟨"GalleyStrokeModel", "sits", "()V"⟩, 92), (⟨"GalleyStrokeModel", "bits", "(II)I"⟩, 92), (⟨"GalleyStrokeModel", "nextOrder", "()Z"⟩, 92), (⟨"GalleyStrokeModel", "fillEvery", "(III)V"⟩, 92), (⟨"GalleyStrokeModel", "numberOf", "(I)I"⟩, 92), (⟨"GalleyStrokeModel", "follows", "(I)V"⟩, 92), (⟨"GalleyStrokeModel", "canSuspect", "(II)Z"⟩, 92), (⟨"GalleyStrokeModel", "fillSuspects", "(II)V"⟩, 92), (⟨"GalleyStrokeModel", "fits", "(II)Z"⟩, 92), (⟨"GalleyStrokeModel", "breaks", "(I)V"⟩, 92), (⟨"GalleyStrokeModel", "greater", "(I)I"⟩, 92)]
theorem lw_r7 : ∀ q ∈ lw_privs_7, lw_okq q := List.forall_mem_cons.mpr ⟨lw_p96, List.forall_mem_cons.mpr ⟨lw_p97, List.forall_mem_cons.mpr ⟨lw_p98, List.forall_mem_cons.mpr ⟨lw_p99, List.forall_mem_cons.mpr ⟨lw_p100, List.forall_mem_cons.mpr ⟨lw_p101, List.forall_mem_cons.mpr ⟨lw_p102, List.forall_mem_cons.mpr ⟨lw_p103, List.forall_mem_cons.mpr ⟨lw_p104, List.forall_mem_cons.mpr ⟨lw_p105, List.forall_mem_cons.mpr ⟨lw_p106, List.forall_mem_cons.mpr ⟨lw_p107, List.forall_mem_cons.mpr ⟨lw_p108, List.forall_mem_cons.mpr ⟨lw_p109, List.forall_mem_cons.mpr ⟨lw_p110, List.forall_mem_cons.mpr ⟨lw_p111, fun _ h => absurd h List.not_mem_nil⟩⟩⟩⟩⟩⟩⟩⟩⟩⟩⟩⟩⟩⟩⟩⟩
def lw_privs : List (MethodName × Nat) := lw_privs_1 ++ (lw_privs_2 ++ (lw_privs_3 ++ (lw_privs_4 ++ (lw_privs_5 ++ (lw_privs_6 ++ (lw_privs_7))))))
def lw_tbl : List Cond := k2_sels lw_privs ++ tables_1
theorem lw_privs_ok : ∀ q ∈ lw_privs, lw_okq q := by
  show ∀ q ∈ lw_privs_1 ++ (lw_privs_2 ++ (lw_privs_3 ++ (lw_privs_4 ++ (lw_privs_5 ++ (lw_privs_6 ++ (lw_privs_7)))))), lw_okq q
  exact List.forall_mem_append.mpr ⟨lw_r1, List.forall_mem_append.mpr ⟨lw_r2, List.forall_mem_append.mpr ⟨lw_r3, List.forall_mem_append.mpr ⟨lw_r4, List.forall_mem_append.mpr ⟨lw_r5, List.forall_mem_append.mpr ⟨lw_r6, lw_r7⟩⟩⟩⟩⟩⟩
-- ===== end of PART A; then your names; then what follows =====
/-! ===== BEGIN words of one list among another's, by their places ===== -/
theorem goodIn_r {big : List Cond} (ws : List Cond) (ps : List Nat) (hp : ws = ps.filterMap (fun i => big[i]?)) (h : ws.all goodWord = true) : GoodIn big ws := by
  intro w hw
  have h1 := List.all_eq_true.mp h w hw
  rw [hp] at hw
  obtain ⟨i, -, hi⟩ := List.mem_filterMap.mp hw
  have hm : w ∈ big := by first | exact List.mem_of_getElem? hi | exact List.getElem?_mem hi
  exact ⟨hm, good_of_word h1⟩
theorem goodIn_app {big a b : List Cond} (ha : GoodIn big a) (hb : GoodIn big b) : GoodIn big (a ++ b) := fun w h => (List.mem_append.mp h).elim (ha w) (hb w)
theorem goodIn_ca {big a b : List Cond} {c : Cond} (ha : GoodIn big (c :: a)) (hb : GoodIn big b) : GoodIn big (c :: (a ++ b)) := fun w h => (List.mem_cons.mp h).elim (fun e => ha w (List.mem_cons.mpr (Or.inl e))) (fun h => (List.mem_append.mp h).elim (fun h => ha w (List.mem_cons.mpr (Or.inr h))) (hb w))
theorem goodIn_sub {big ws : List Cond} (hm : ∀ w ∈ ws, w ∈ big) (h : ws.all goodWord = true) : GoodIn big ws := fun w hw => ⟨hm w hw, good_of_word (List.all_eq_true.mp h w hw)⟩
/-! ===== END ===== -/

/-! ===== BEGIN printed: names, fields, word lists, decode rows ===== -/
def RX0 : String := "GalleyStroke$Beginnings"
def TX0 : u_T := fun k => match k with
  | 0 => ("GalleyStroke$Beginnings", "rowing", "LGalleyStroke$Rowing;", true)
  | 1 => ("GalleyStroke$Beginnings", "nexts", "[I", false)
  | 2 => ("GalleyStroke$Beginnings", "tills", "[I", false)
  | 3 => ("GalleyStroke$Beginnings", "settling", "I", false)
  | _ => ("GalleyStroke$Beginnings", "longest", "I", false)
def tyX0 : Nat → FieldType := fun k => match k with
  | 0 => .object "GalleyStroke$Rowing"
  | 1 => .array .int
  | 2 => .array .int
  | 3 => .int
  | _ => .int
abbrev wsX00 : List Cond := u_ws RX0 TX0 5
theorem nmX0 : ∀ a, a < 5 → ∀ b, b < 5 → a ≠ b → (TX0 a).2.1 ≠ (TX0 b).2.1 := by decide +kernel
theorem tyX0_ok : ∀ k, k < 5 → parseFieldDescriptor (TX0 k).2.2.1 = some (tyX0 k) := by decide +kernel
abbrev cX0_init : ByteArray := prog_2_method_1_code
def yX0_init : MethodName := ⟨RX0, "<init>", "(LGalleyStroke$Rowing;)V"⟩
abbrev cX0_howMany : ByteArray := prog_2_method_2_code
def yX0_howMany : MethodName := ⟨RX0, "howMany", "(I)I"⟩
abbrev cX0_prove : ByteArray := prog_2_method_3_code
def yX0_prove : MethodName := ⟨RX0, "prove", "(III)V"⟩
abbrev cX0_addBench : ByteArray := prog_2_method_4_code
def yX0_addBench : MethodName := ⟨RX0, "addBench", "(III)V"⟩
abbrev cX0_follow : ByteArray := prog_2_method_5_code
def yX0_follow : MethodName := ⟨RX0, "follow", "(I)V"⟩
def RX1 : String := "GalleyStroke$Crew"
def TX1 : u_T := fun k => match k with
  | 0 => ("GalleyStroke$Crew", "times", "J", false)
  | 1 => ("GalleyStroke$Crew", "men", "[I", true)
  | 2 => ("GalleyStroke$Crew", "laws", "[I", true)
  | 3 => ("GalleyStroke$Crew", "drum", "I", false)
  | 4 => ("GalleyStroke$Crew", "stroke", "I", false)
  | _ => ("GalleyStroke$Crew", "held", "Z", false)
def tyX1 : Nat → FieldType := fun k => match k with
  | 0 => .long
  | 1 => .array .int
  | 2 => .array .int
  | 3 => .int
  | 4 => .int
  | _ => .boolean
abbrev wsX10 : List Cond := u_ws RX1 TX1 6
theorem nmX1 : ∀ a, a < 6 → ∀ b, b < 6 → a ≠ b → (TX1 a).2.1 ≠ (TX1 b).2.1 := by decide +kernel
theorem tyX1_ok : ∀ k, k < 6 → parseFieldDescriptor (TX1 k).2.2.1 = some (tyX1 k) := by decide +kernel
abbrev cX1_init : ByteArray := prog_3_method_1_code
def yX1_init : MethodName := ⟨RX1, "<init>", "()V"⟩
abbrev cX1_begin : ByteArray := prog_3_method_2_code
def yX1_begin : MethodName := ⟨RX1, "begin", "(LGalleyStroke$Text;)V"⟩
abbrev cX1_take : ByteArray := prog_3_method_3_code
def yX1_take : MethodName := ⟨RX1, "take", "(LGalleyStroke$Crew;)V"⟩
abbrev cX1_exchange : ByteArray := prog_3_method_4_code
def yX1_exchange : MethodName := ⟨RX1, "exchange", "(II)V"⟩
def RX2 : String := "GalleyStroke$Kind"
def TX2 : u_T := fun k => match k with
  | _ => ("", "", "", false)
def tyX2 : Nat → FieldType := fun k => match k with
  | _ => .int
abbrev wsX20 : List Cond := u_ws RX2 TX2 0
theorem nmX2 : ∀ a, a < 0 → ∀ b, b < 0 → a ≠ b → (TX2 a).2.1 ≠ (TX2 b).2.1 := by decide +kernel
theorem tyX2_ok : ∀ k, k < 0 → parseFieldDescriptor (TX2 k).2.2.1 = some (tyX2 k) := by decide +kernel
def RX3 : String := "GalleyStroke$Past"
def TX3 : u_T := fun k => match k with
  | 0 => ("GalleyStroke$Past", "rows", "[J", true)
  | 1 => ("GalleyStroke$Past", "kept", "I", false)
  | _ => ("GalleyStroke$Past", "next", "I", false)
def tyX3 : Nat → FieldType := fun k => match k with
  | 0 => .array .long
  | 1 => .int
  | _ => .int
abbrev wsX30 : List Cond := u_ws RX3 TX3 3
theorem nmX3 : ∀ a, a < 3 → ∀ b, b < 3 → a ≠ b → (TX3 a).2.1 ≠ (TX3 b).2.1 := by decide +kernel
theorem tyX3_ok : ∀ k, k < 3 → parseFieldDescriptor (TX3 k).2.2.1 = some (tyX3 k) := by decide +kernel
abbrev cX3_init : ByteArray := prog_5_method_1_code
def yX3_init : MethodName := ⟨RX3, "<init>", "()V"⟩
abbrev cX3_clear : ByteArray := prog_5_method_2_code
def yX3_clear : MethodName := ⟨RX3, "clear", "()V"⟩
abbrev cX3_keep : ByteArray := prog_5_method_3_code
def yX3_keep : MethodName := ⟨RX3, "keep", "(J)V"⟩
abbrev cX3_takeLast : ByteArray := prog_5_method_4_code
def yX3_takeLast : MethodName := ⟨RX3, "takeLast", "()J"⟩
def RX4 : String := "GalleyStroke$Reader"
def TX4 : u_T := fun k => match k with
  | 0 => ("GalleyStroke$Reader", "tokens", "LGalleyStroke$Tokens;", true)
  | 1 => ("GalleyStroke$Reader", "at", "I", false)
  | 2 => ("GalleyStroke$Reader", "kind", "I", false)
  | 3 => ("GalleyStroke$Reader", "text", "LGalleyStroke$Text;", false)
  | 4 => ("GalleyStroke$Reader", "fault", "I", false)
  | 5 => ("GalleyStroke$Reader", "place", "I", false)
  | 6 => ("GalleyStroke$Reader", "slip", "I", false)
  | 7 => ("GalleyStroke$Reader", "slipPlace", "I", false)
  | 8 => ("GalleyStroke$Reader", "beyond", "[I", true)
  | 9 => ("GalleyStroke$Reader", "names", "[J", true)
  | 10 => ("GalleyStroke$Reader", "nameLaws", "[I", true)
  | _ => ("GalleyStroke$Reader", "named", "I", false)
def tyX4 : Nat → FieldType := fun k => match k with
  | 0 => .object "GalleyStroke$Tokens"
  | 1 => .int
  | 2 => .int
  | 3 => .object "GalleyStroke$Text"
  | 4 => .int
  | 5 => .int
  | 6 => .int
  | 7 => .int
  | 8 => .array .int
  | 9 => .array .long
  | 10 => .array .int
  | _ => .int
abbrev wsX40 : List Cond := u_ws RX4 TX4 12
theorem nmX4 : ∀ a, a < 12 → ∀ b, b < 12 → a ≠ b → (TX4 a).2.1 ≠ (TX4 b).2.1 := by decide +kernel
theorem tyX4_ok : ∀ k, k < 12 → parseFieldDescriptor (TX4 k).2.2.1 = some (tyX4 k) := by decide +kernel
abbrev cX4_init : ByteArray := prog_6_method_1_code
def yX4_init : MethodName := ⟨RX4, "<init>", "([BLGalleyStroke$Text;)V"⟩
abbrev cX4_readTape : ByteArray := prog_6_method_2_code
def yX4_readTape : MethodName := ⟨RX4, "readTape", "(ILGalleyStroke$Text;)I"⟩
abbrev cX4_begin : ByteArray := prog_6_method_3_code
def yX4_begin : MethodName := ⟨RX4, "begin", "(ILGalleyStroke$Text;)V"⟩
abbrev cX4_takeLaterFault : ByteArray := prog_6_method_4_code
def yX4_takeLaterFault : MethodName := ⟨RX4, "takeLaterFault", "()V"⟩
abbrev cX4_fail : ByteArray := prog_6_method_5_code
def yX4_fail : MethodName := ⟨RX4, "fail", "(I)V"⟩
abbrev cX4_take : ByteArray := prog_6_method_6_code
def yX4_take : MethodName := ⟨RX4, "take", "(I)Z"⟩
abbrev cX4_taken : ByteArray := prog_6_method_7_code
def yX4_taken : MethodName := ⟨RX4, "taken", "()J"⟩
abbrev cX4_slipAtTaken : ByteArray := prog_6_method_8_code
def yX4_slipAtTaken : MethodName := ⟨RX4, "slipAtTaken", "(I)V"⟩
abbrev cX4_readParts : ByteArray := prog_6_method_9_code
def yX4_readParts : MethodName := ⟨RX4, "readParts", "()V"⟩
abbrev cX4_readLaw : ByteArray := prog_6_method_10_code
def yX4_readLaw : MethodName := ⟨RX4, "readLaw", "()V"⟩
abbrev cX4_noteName : ByteArray := prog_6_method_11_code
def yX4_noteName : MethodName := ⟨RX4, "noteName", "(I)V"⟩
abbrev cX4_readMan : ByteArray := prog_6_method_12_code
def yX4_readMan : MethodName := ⟨RX4, "readMan", "()V"⟩
abbrev cX4_lawNamed : ByteArray := prog_6_method_13_code
def yX4_lawNamed : MethodName := ⟨RX4, "lawNamed", "(J)I"⟩
abbrev cX4_noteBeyond : ByteArray := prog_6_method_14_code
def yX4_noteBeyond : MethodName := ⟨RX4, "noteBeyond", "()V"⟩
abbrev cX4_readDrum : ByteArray := prog_6_method_15_code
def yX4_readDrum : MethodName := ⟨RX4, "readDrum", "()V"⟩
abbrev cX4_readSong : ByteArray := prog_6_method_16_code
def yX4_readSong : MethodName := ⟨RX4, "readSong", "()V"⟩
abbrev cX4_readFog : ByteArray := prog_6_method_17_code
def yX4_readFog : MethodName := ⟨RX4, "readFog", "()V"⟩
abbrev cX4_readCondition : ByteArray := prog_6_method_18_code
def yX4_readCondition : MethodName := ⟨RX4, "readCondition", "()V"⟩
abbrev cX4_readRelation : ByteArray := prog_6_method_19_code
def yX4_readRelation : MethodName := ⟨RX4, "readRelation", "()V"⟩
abbrev cX4_readExpression : ByteArray := prog_6_method_20_code
def yX4_readExpression : MethodName := ⟨RX4, "readExpression", "(II)V"⟩
abbrev cX4_joinsAt : ByteArray := prog_6_method_21_code
def yX4_joinsAt : MethodName := ⟨RX4, "joinsAt", "(II)Z"⟩
abbrev cX4_readUnit : ByteArray := prog_6_method_22_code
def yX4_readUnit : MethodName := ⟨RX4, "readUnit", "(I)V"⟩
abbrev cX4_emit : ByteArray := prog_6_method_23_code
def yX4_emit : MethodName := ⟨RX4, "emit", "(II)I"⟩
abbrev cX4_land : ByteArray := prog_6_method_24_code
def yX4_land : MethodName := ⟨RX4, "land", "(I)V"⟩
abbrev cX4_landChain : ByteArray := prog_6_method_25_code
def yX4_landChain : MethodName := ⟨RX4, "landChain", "(I)V"⟩
def RX5 : String := "GalleyStroke$Rowing"
def TX5 : u_T := fun k => match k with
  | 0 => ("GalleyStroke$Rowing", "text", "LGalleyStroke$Text;", false)
  | 1 => ("GalleyStroke$Rowing", "stack", "[I", true)
  | 2 => ("GalleyStroke$Rowing", "looks", "[I", true)
  | 3 => ("GalleyStroke$Rowing", "crowd", "[I", true)
  | _ => ("GalleyStroke$Rowing", "rubbed", "[I", true)
def tyX5 : Nat → FieldType := fun k => match k with
  | 0 => .object "GalleyStroke$Text"
  | 1 => .array .int
  | 2 => .array .int
  | 3 => .array .int
  | _ => .array .int
abbrev wsX50 : List Cond := u_ws RX5 TX5 5
theorem nmX5 : ∀ a, a < 5 → ∀ b, b < 5 → a ≠ b → (TX5 a).2.1 ≠ (TX5 b).2.1 := by decide +kernel
theorem tyX5_ok : ∀ k, k < 5 → parseFieldDescriptor (TX5 k).2.2.1 = some (tyX5 k) := by decide +kernel
abbrev cX5_init : ByteArray := prog_7_method_1_code
def yX5_init : MethodName := ⟨RX5, "<init>", "(LGalleyStroke$Text;)V"⟩
abbrev cX5_heard : ByteArray := prog_7_method_2_code
def yX5_heard : MethodName := ⟨RX5, "heard", "(IIIZ)I"⟩
abbrev cX5_stroke : ByteArray := prog_7_method_3_code
def yX5_stroke : MethodName := ⟨RX5, "stroke", "(J[IIZ)J"⟩
abbrev cX5_turned : ByteArray := prog_7_method_4_code
def yX5_turned : MethodName := ⟨RX5, "turned", "(IIIIIIZ)I"⟩
abbrev cX5_rest : ByteArray := prog_7_method_5_code
def yX5_rest : MethodName := ⟨RX5, "rest", "(I)I"⟩
abbrev cX5_worked : ByteArray := prog_7_method_6_code
def yX5_worked : MethodName := ⟨RX5, "worked", "(II)I"⟩
abbrev cX5_joined : ByteArray := prog_7_method_7_code
def yX5_joined : MethodName := ⟨RX5, "joined", "(III)I"⟩
abbrev cX5_gap : ByteArray := prog_7_method_8_code
def yX5_gap : MethodName := ⟨RX5, "gap", "(II)I"⟩
abbrev cX5_gapAhead : ByteArray := prog_7_method_9_code
def yX5_gapAhead : MethodName := ⟨RX5, "gapAhead", "(JI)I"⟩
abbrev cX5_clashBits : ByteArray := prog_7_method_10_code
def yX5_clashBits : MethodName := ⟨RX5, "clashBits", "(J)I"⟩
abbrev cX5_wayOf : ByteArray := prog_7_method_11_code
def yX5_wayOf : MethodName := ⟨RX5, "wayOf", "(J)I"⟩
abbrev cX5_wayPart : ByteArray := prog_7_method_12_code
def yX5_wayPart : MethodName := ⟨RX5, "wayPart", "(J)I"⟩
abbrev cX5_menNear : ByteArray := prog_7_method_13_code
def yX5_menNear : MethodName := ⟨RX5, "menNear", "(I)I"⟩
abbrev cX5_waveOf : ByteArray := prog_7_method_14_code
def yX5_waveOf : MethodName := ⟨RX5, "waveOf", "(JI)I"⟩
abbrev cX5_mostClashing : ByteArray := prog_7_method_15_code
def yX5_mostClashing : MethodName := ⟨RX5, "mostClashing", "(LGalleyStroke$Crew;I)I"⟩
def RX6 : String := "GalleyStroke$Seats"
def TX6 : u_T := fun k => match k with
  | 0 => ("GalleyStroke$Seats", "rowing", "LGalleyStroke$Rowing;", true)
  | 1 => ("GalleyStroke$Seats", "order", "[I", true)
  | 2 => ("GalleyStroke$Seats", "best", "[I", true)
  | _ => ("GalleyStroke$Seats", "laws", "[I", true)
def tyX6 : Nat → FieldType := fun k => match k with
  | 0 => .object "GalleyStroke$Rowing"
  | 1 => .array .int
  | 2 => .array .int
  | _ => .array .int
abbrev wsX60 : List Cond := u_ws RX6 TX6 4
theorem nmX6 : ∀ a, a < 4 → ∀ b, b < 4 → a ≠ b → (TX6 a).2.1 ≠ (TX6 b).2.1 := by decide +kernel
theorem tyX6_ok : ∀ k, k < 4 → parseFieldDescriptor (TX6 k).2.2.1 = some (tyX6 k) := by decide +kernel
abbrev cX6_init : ByteArray := prog_8_method_1_code
def yX6_init : MethodName := ⟨RX6, "<init>", "(LGalleyStroke$Rowing;)V"⟩
abbrev cX6_isAim : ByteArray := prog_8_method_2_code
def yX6_isAim : MethodName := ⟨RX6, "isAim", "(II)Z"⟩
abbrev cX6_bestOrder : ByteArray := prog_8_method_3_code
def yX6_bestOrder : MethodName := ⟨RX6, "bestOrder", "(LGalleyStroke$Crew;II)I"⟩
abbrev cX6_bestExchange : ByteArray := prog_8_method_4_code
def yX6_bestExchange : MethodName := ⟨RX6, "bestExchange", "(LGalleyStroke$Crew;II)I"⟩
abbrev cX6_sitAsNow : ByteArray := prog_8_method_5_code
def yX6_sitAsNow : MethodName := ⟨RX6, "sitAsNow", "()V"⟩
abbrev cX6_swap : ByteArray := prog_8_method_6_code
def yX6_swap : MethodName := ⟨RX6, "swap", "(II)V"⟩
abbrev cX6_goToNextOrder : ByteArray := prog_8_method_7_code
def yX6_goToNextOrder : MethodName := ⟨RX6, "goToNextOrder", "(I)Z"⟩
abbrev cX6_cost : ByteArray := prog_8_method_8_code
def yX6_cost : MethodName := ⟨RX6, "cost", "(LGalleyStroke$Crew;II)I"⟩
abbrev cX6_costOf : ByteArray := prog_8_method_9_code
def yX6_costOf : MethodName := ⟨RX6, "costOf", "(IJ)I"⟩
def RX7 : String := "GalleyStroke$Text"
def TX7 : u_T := fun k => match k with
  | 0 => ("GalleyStroke$Text", "parts", "I", false)
  | 1 => ("GalleyStroke$Text", "laws", "I", false)
  | 2 => ("GalleyStroke$Text", "lawStarts", "[I", true)
  | 3 => ("GalleyStroke$Text", "code", "[I", true)
  | 4 => ("GalleyStroke$Text", "codeLength", "I", false)
  | 5 => ("GalleyStroke$Text", "men", "I", false)
  | 6 => ("GalleyStroke$Text", "lawOf", "[I", true)
  | 7 => ("GalleyStroke$Text", "begins", "J", false)
  | 8 => ("GalleyStroke$Text", "drum", "I", false)
  | 9 => ("GalleyStroke$Text", "lag", "I", false)
  | 10 => ("GalleyStroke$Text", "song", "I", false)
  | 11 => ("GalleyStroke$Text", "fogs", "I", false)
  | 12 => ("GalleyStroke$Text", "fogFrom", "[I", true)
  | _ => ("GalleyStroke$Text", "fogTo", "[I", true)
def tyX7 : Nat → FieldType := fun k => match k with
  | 0 => .int
  | 1 => .int
  | 2 => .array .int
  | 3 => .array .int
  | 4 => .int
  | 5 => .int
  | 6 => .array .int
  | 7 => .long
  | 8 => .int
  | 9 => .int
  | 10 => .int
  | 11 => .int
  | 12 => .array .int
  | _ => .array .int
abbrev wsX70 : List Cond := u_ws RX7 TX7 14
theorem nmX7 : ∀ a, a < 14 → ∀ b, b < 14 → a ≠ b → (TX7 a).2.1 ≠ (TX7 b).2.1 := by decide +kernel
theorem tyX7_ok : ∀ k, k < 14 → parseFieldDescriptor (TX7 k).2.2.1 = some (tyX7 k) := by decide +kernel
abbrev cX7_init : ByteArray := prog_9_method_1_code
def yX7_init : MethodName := ⟨RX7, "<init>", "()V"⟩
abbrev cX7_clear : ByteArray := prog_9_method_2_code
def yX7_clear : MethodName := ⟨RX7, "clear", "()V"⟩
abbrev cX7_isFog : ByteArray := prog_9_method_3_code
def yX7_isFog : MethodName := ⟨RX7, "isFog", "(I)Z"⟩
def RX8 : String := "GalleyStroke$Tokens"
def TX8 : u_T := fun k => match k with
  | 0 => ("GalleyStroke$Tokens", "words", "[J", true)
  | 1 => ("GalleyStroke$Tokens", "kinds", "[I", true)
  | 2 => ("GalleyStroke$Tokens", "values", "[J", true)
  | 3 => ("GalleyStroke$Tokens", "places", "[I", true)
  | 4 => ("GalleyStroke$Tokens", "tape", "[B", true)
  | 5 => ("GalleyStroke$Tokens", "length", "I", false)
  | 6 => ("GalleyStroke$Tokens", "at", "I", false)
  | _ => ("GalleyStroke$Tokens", "value", "J", false)
def tyX8 : Nat → FieldType := fun k => match k with
  | 0 => .array .long
  | 1 => .array .int
  | 2 => .array .long
  | 3 => .array .int
  | 4 => .array .byte
  | 5 => .int
  | 6 => .int
  | _ => .long
abbrev wsX80 : List Cond := u_ws RX8 TX8 8
theorem nmX8 : ∀ a, a < 8 → ∀ b, b < 8 → a ≠ b → (TX8 a).2.1 ≠ (TX8 b).2.1 := by decide +kernel
theorem tyX8_ok : ∀ k, k < 8 → parseFieldDescriptor (TX8 k).2.2.1 = some (tyX8 k) := by decide +kernel
abbrev cX8_init : ByteArray := prog_10_method_1_code
def yX8_init : MethodName := ⟨RX8, "<init>", "([B)V"⟩
abbrev cX8_withLetter : ByteArray := prog_10_method_2_code
def yX8_withLetter : MethodName := ⟨RX8, "withLetter", "(JI)J"⟩
abbrev cX8_cut : ByteArray := prog_10_method_3_code
def yX8_cut : MethodName := ⟨RX8, "cut", "(I)V"⟩
abbrev cX8_byteAt : ByteArray := prog_10_method_4_code
def yX8_byteAt : MethodName := ⟨RX8, "byteAt", "(I)I"⟩
abbrev cX8_skipBlanks : ByteArray := prog_10_method_5_code
def yX8_skipBlanks : MethodName := ⟨RX8, "skipBlanks", "()V"⟩
abbrev cX8_isBlank : ByteArray := prog_10_method_6_code
def yX8_isBlank : MethodName := ⟨RX8, "isBlank", "(I)Z"⟩
abbrev cX8_isLetter : ByteArray := prog_10_method_7_code
def yX8_isLetter : MethodName := ⟨RX8, "isLetter", "(I)Z"⟩
abbrev cX8_isDigit : ByteArray := prog_10_method_8_code
def yX8_isDigit : MethodName := ⟨RX8, "isDigit", "(I)Z"⟩
abbrev cX8_nextKind : ByteArray := prog_10_method_9_code
def yX8_nextKind : MethodName := ⟨RX8, "nextKind", "()I"⟩
abbrev cX8_nextWord : ByteArray := prog_10_method_10_code
def yX8_nextWord : MethodName := ⟨RX8, "nextWord", "()I"⟩
abbrev cX8_nextInt : ByteArray := prog_10_method_11_code
def yX8_nextInt : MethodName := ⟨RX8, "nextInt", "()I"⟩
abbrev cX8_nextSign : ByteArray := prog_10_method_12_code
def yX8_nextSign : MethodName := ⟨RX8, "nextSign", "(I)I"⟩
def RX9 : String := "GalleyStroke$Voyage"
def TX9 : u_T := fun k => match k with
  | 0 => ("GalleyStroke$Voyage", "rowing", "LGalleyStroke$Rowing;", true)
  | 1 => ("GalleyStroke$Voyage", "rows", "[J", true)
  | 2 => ("GalleyStroke$Voyage", "period", "I", false)
  | 3 => ("GalleyStroke$Voyage", "lead", "I", false)
  | 4 => ("GalleyStroke$Voyage", "ramWay", "I", false)
  | 5 => ("GalleyStroke$Voyage", "ramFrom", "I", false)
  | _ => ("GalleyStroke$Voyage", "ramBeat", "I", false)
def tyX9 : Nat → FieldType := fun k => match k with
  | 0 => .object "GalleyStroke$Rowing"
  | 1 => .array .long
  | 2 => .int
  | 3 => .int
  | 4 => .int
  | 5 => .int
  | _ => .int
abbrev wsX90 : List Cond := u_ws RX9 TX9 7
theorem nmX9 : ∀ a, a < 7 → ∀ b, b < 7 → a ≠ b → (TX9 a).2.1 ≠ (TX9 b).2.1 := by decide +kernel
theorem tyX9_ok : ∀ k, k < 7 → parseFieldDescriptor (TX9 k).2.2.1 = some (tyX9 k) := by decide +kernel
abbrev cX9_init : ByteArray := prog_11_method_1_code
def yX9_init : MethodName := ⟨RX9, "<init>", "(LGalleyStroke$Rowing;)V"⟩
abbrev cX9_findRound : ByteArray := prog_11_method_2_code
def yX9_findRound : MethodName := ⟨RX9, "findRound", "(LGalleyStroke$Crew;)Z"⟩
abbrev cX9_planRam : ByteArray := prog_11_method_3_code
def yX9_planRam : MethodName := ⟨RX9, "planRam", "(LGalleyStroke$Crew;I)V"⟩
abbrev cX9_wayBehind : ByteArray := prog_11_method_4_code
def yX9_wayBehind : MethodName := ⟨RX9, "wayBehind", "(LGalleyStroke$Crew;III)I"⟩
abbrev cX9_weighed : ByteArray := prog_11_method_5_code
def yX9_weighed : MethodName := ⟨RX9, "weighed", "(LGalleyStroke$Crew;JIII)J"⟩
def RX10 : String := "GalleyStroke$Witness"
def TX10 : u_T := fun k => match k with
  | 0 => ("GalleyStroke$Witness", "rowing", "LGalleyStroke$Rowing;", true)
  | 1 => ("GalleyStroke$Witness", "told", "I", false)
  | 2 => ("GalleyStroke$Witness", "strokes", "[I", true)
  | 3 => ("GalleyStroke$Witness", "benches", "[I", true)
  | 4 => ("GalleyStroke$Witness", "clashed", "[I", true)
  | 5 => ("GalleyStroke$Witness", "laws", "[I", true)
  | _ => ("GalleyStroke$Witness", "clashing", "[I", true)
def tyX10 : Nat → FieldType := fun k => match k with
  | 0 => .object "GalleyStroke$Rowing"
  | 1 => .int
  | 2 => .array .int
  | 3 => .array .int
  | 4 => .array .int
  | 5 => .array .int
  | _ => .array .int
abbrev wsX100 : List Cond := u_ws RX10 TX10 7
theorem nmX10 : ∀ a, a < 7 → ∀ b, b < 7 → a ≠ b → (TX10 a).2.1 ≠ (TX10 b).2.1 := by decide +kernel
theorem tyX10_ok : ∀ k, k < 7 → parseFieldDescriptor (TX10 k).2.2.1 = some (tyX10 k) := by decide +kernel
abbrev cX10_init : ByteArray := prog_12_method_1_code
def yX10_init : MethodName := ⟨RX10, "<init>", "(LGalleyStroke$Rowing;)V"⟩
abbrev cX10_isStroke : ByteArray := prog_12_method_2_code
def yX10_isStroke : MethodName := ⟨RX10, "isStroke", "(I)Z"⟩
abbrev cX10_isQuestion : ByteArray := prog_12_method_3_code
def yX10_isQuestion : MethodName := ⟨RX10, "isQuestion", "(II)Z"⟩
abbrev cX10_note : ByteArray := prog_12_method_4_code
def yX10_note : MethodName := ⟨RX10, "note", "(IIZ)I"⟩
abbrev cX10_countSets : ByteArray := prog_12_method_5_code
def yX10_countSets : MethodName := ⟨RX10, "countSets", "(II)I"⟩
abbrev cX10_setNumber : ByteArray := prog_12_method_6_code
def yX10_setNumber : MethodName := ⟨RX10, "setNumber", "(III)I"⟩
abbrev cX10_evenestBench : ByteArray := prog_12_method_7_code
def yX10_evenestBench : MethodName := ⟨RX10, "evenestBench", "(III)I"⟩
abbrev cX10_greaterPart : ByteArray := prog_12_method_8_code
def yX10_greaterPart : MethodName := ⟨RX10, "greaterPart", "(II)I"⟩
abbrev cX10_isSuspect : ByteArray := prog_12_method_9_code
def yX10_isSuspect : MethodName := ⟨RX10, "isSuspect", "(III)Z"⟩
abbrev cX10_breakMen : ByteArray := prog_12_method_10_code
def yX10_breakMen : MethodName := ⟨RX10, "breakMen", "(I)V"⟩
abbrev cX10_lastKnown : ByteArray := prog_12_method_11_code
def yX10_lastKnown : MethodName := ⟨RX10, "lastKnown", "(I)I"⟩
abbrev cX10_agrees : ByteArray := prog_12_method_12_code
def yX10_agrees : MethodName := ⟨RX10, "agrees", "(III)Z"⟩
abbrev cX10_clashesAt : ByteArray := prog_12_method_13_code
def yX10_clashesAt : MethodName := ⟨RX10, "clashesAt", "(II)I"⟩
def RX11 : String := "GalleyStroke"
def TX11 : u_T := fun k => match k with
  | 0 => ("GalleyStroke", "tape", "[B", true)
  | 1 => ("GalleyStroke", "taped", "I", false)
  | 2 => ("GalleyStroke", "text", "LGalleyStroke$Text;", false)
  | 3 => ("GalleyStroke", "spare", "LGalleyStroke$Text;", false)
  | 4 => ("GalleyStroke", "reader", "LGalleyStroke$Reader;", true)
  | 5 => ("GalleyStroke", "rowing", "LGalleyStroke$Rowing;", true)
  | 6 => ("GalleyStroke", "crew", "LGalleyStroke$Crew;", true)
  | 7 => ("GalleyStroke", "slots", "[LGalleyStroke$Crew;", true)
  | 8 => ("GalleyStroke", "past", "LGalleyStroke$Past;", true)
  | 9 => ("GalleyStroke", "seats", "LGalleyStroke$Seats;", true)
  | 10 => ("GalleyStroke", "beginnings", "LGalleyStroke$Beginnings;", true)
  | 11 => ("GalleyStroke", "voyage", "LGalleyStroke$Voyage;", true)
  | _ => ("GalleyStroke", "witness", "LGalleyStroke$Witness;", true)
def tyX11 : Nat → FieldType := fun k => match k with
  | 0 => .array .byte
  | 1 => .int
  | 2 => .object "GalleyStroke$Text"
  | 3 => .object "GalleyStroke$Text"
  | 4 => .object "GalleyStroke$Reader"
  | 5 => .object "GalleyStroke$Rowing"
  | 6 => .object "GalleyStroke$Crew"
  | 7 => .array (.object "GalleyStroke$Crew")
  | 8 => .object "GalleyStroke$Past"
  | 9 => .object "GalleyStroke$Seats"
  | 10 => .object "GalleyStroke$Beginnings"
  | 11 => .object "GalleyStroke$Voyage"
  | _ => .object "GalleyStroke$Witness"
abbrev wsX110 : List Cond := u_ws RX11 TX11 13
theorem nmX11 : ∀ a, a < 13 → ∀ b, b < 13 → a ≠ b → (TX11 a).2.1 ≠ (TX11 b).2.1 := by decide +kernel
theorem tyX11_ok : ∀ k, k < 13 → parseFieldDescriptor (TX11 k).2.2.1 = some (tyX11 k) := by decide +kernel
abbrev cX11_init : ByteArray := prog_1_method_1_code
def yX11_init : MethodName := ⟨RX11, "<init>", "()V"⟩
abbrev cX11_feed : ByteArray := prog_1_method_2_code
def yX11_feed : MethodName := ⟨RX11, "feed", "(IIIII)I"⟩
abbrev cX11_tapeWord : ByteArray := prog_1_method_3_code
def yX11_tapeWord : MethodName := ⟨RX11, "tapeWord", "(I)V"⟩
abbrev cX11_back : ByteArray := prog_1_method_4_code
def yX11_back : MethodName := ⟨RX11, "back", "(I)I"⟩
abbrev cX11_read : ByteArray := prog_1_method_5_code
def yX11_read : MethodName := ⟨RX11, "read", "()I"⟩
abbrev cX11_putSpareInPlace : ByteArray := prog_1_method_6_code
def yX11_putSpareInPlace : MethodName := ⟨RX11, "putSpareInPlace", "()V"⟩
abbrev cX11_place : ByteArray := prog_1_method_7_code
def yX11_place : MethodName := ⟨RX11, "place", "()I"⟩
abbrev cX11_bench : ByteArray := prog_1_method_8_code
def yX11_bench : MethodName := ⟨RX11, "bench", "(II)I"⟩
abbrev cX11_isBench : ByteArray := prog_1_method_9_code
def yX11_isBench : MethodName := ⟨RX11, "isBench", "(I)Z"⟩
abbrev cX11_row : ByteArray := prog_1_method_10_code
def yX11_row : MethodName := ⟨RX11, "row", "(I)I"⟩
abbrev cX11_undo : ByteArray := prog_1_method_11_code
def yX11_undo : MethodName := ⟨RX11, "undo", "()Z"⟩
abbrev cX11_clashes : ByteArray := prog_1_method_12_code
def yX11_clashes : MethodName := ⟨RX11, "clashes", "()I"⟩
abbrev cX11_way : ByteArray := prog_1_method_13_code
def yX11_way : MethodName := ⟨RX11, "way", "(I)I"⟩
abbrev cX11_wave : ByteArray := prog_1_method_14_code
def yX11_wave : MethodName := ⟨RX11, "wave", "(I)I"⟩
abbrev cX11_soon : ByteArray := prog_1_method_15_code
def yX11_soon : MethodName := ⟨RX11, "soon", "(I)I"⟩
abbrev cX11_rubs : ByteArray := prog_1_method_16_code
def yX11_rubs : MethodName := ⟨RX11, "rubs", "(I)I"⟩
abbrev cX11_still : ByteArray := prog_1_method_17_code
def yX11_still : MethodName := ⟨RX11, "still", "()I"⟩
abbrev cX11_round : ByteArray := prog_1_method_18_code
def yX11_round : MethodName := ⟨RX11, "round", "(I)I"⟩
abbrev cX11_change : ByteArray := prog_1_method_19_code
def yX11_change : MethodName := ⟨RX11, "change", "(II)Z"⟩
abbrev cX11_teach : ByteArray := prog_1_method_20_code
def yX11_teach : MethodName := ⟨RX11, "teach", "(II)Z"⟩
abbrev cX11_set : ByteArray := prog_1_method_21_code
def yX11_set : MethodName := ⟨RX11, "set", "(II)Z"⟩
abbrev cX11_beat : ByteArray := prog_1_method_22_code
def yX11_beat : MethodName := ⟨RX11, "beat", "(I)Z"⟩
abbrev cX11_seating : ByteArray := prog_1_method_23_code
def yX11_seating : MethodName := ⟨RX11, "seating", "(II)I"⟩
abbrev cX11_seat : ByteArray := prog_1_method_24_code
def yX11_seat : MethodName := ⟨RX11, "seat", "(III)I"⟩
abbrev cX11_better : ByteArray := prog_1_method_25_code
def yX11_better : MethodName := ⟨RX11, "better", "(II)I"⟩
abbrev cX11_every : ByteArray := prog_1_method_26_code
def yX11_every : MethodName := ⟨RX11, "every", "(III)I"⟩
abbrev cX11_ram : ByteArray := prog_1_method_27_code
def yX11_ram : MethodName := ⟨RX11, "ram", "(II)I"⟩
abbrev cX11_odds : ByteArray := prog_1_method_28_code
def yX11_odds : MethodName := ⟨RX11, "odds", "(III)J"⟩
abbrev cX11_tell : ByteArray := prog_1_method_29_code
def yX11_tell : MethodName := ⟨RX11, "tell", "(IIZ)I"⟩
abbrev cX11_forget : ByteArray := prog_1_method_30_code
def yX11_forget : MethodName := ⟨RX11, "forget", "()I"⟩
abbrev cX11_suspects : ByteArray := prog_1_method_31_code
def yX11_suspects : MethodName := ⟨RX11, "suspects", "(II)I"⟩
abbrev cX11_suspect : ByteArray := prog_1_method_32_code
def yX11_suspect : MethodName := ⟨RX11, "suspect", "(III)I"⟩
abbrev cX11_check : ByteArray := prog_1_method_33_code
def yX11_check : MethodName := ⟨RX11, "check", "(III)I"⟩
abbrev cX11_hold : ByteArray := prog_1_method_34_code
def yX11_hold : MethodName := ⟨RX11, "hold", "(I)Z"⟩
abbrev cX11_restore : ByteArray := prog_1_method_35_code
def yX11_restore : MethodName := ⟨RX11, "restore", "(I)Z"⟩
abbrev cX11_count : ByteArray := prog_1_method_36_code
def yX11_count : MethodName := ⟨RX11, "count", "(I)I"⟩
abbrev cX11_orNotSo : ByteArray := prog_1_method_37_code
def yX11_orNotSo : MethodName := ⟨RX11, "orNotSo", "(I)I"⟩
abbrev cX11_heldSlots : ByteArray := prog_1_method_38_code
def yX11_heldSlots : MethodName := ⟨RX11, "heldSlots", "()I"⟩
abbrev cX11_timeAt : ByteArray := prog_1_method_39_code
def yX11_timeAt : MethodName := ⟨RX11, "timeAt", "(JI)I"⟩
abbrev cX11_withTime : ByteArray := prog_1_method_40_code
def yX11_withTime : MethodName := ⟨RX11, "withTime", "(JII)J"⟩
def RX12 : String := "GalleyStrokeModel"
def TX12 : u_T := fun k => match k with
  | 0 => ("GalleyStrokeModel", "thrown", "I", false)
  | 1 => ("GalleyStrokeModel", "tape", "[B", true)
  | 2 => ("GalleyStrokeModel", "taped", "I", false)
  | 3 => ("GalleyStrokeModel", "text", "[B", true)
  | 4 => ("GalleyStrokeModel", "size", "I", false)
  | 5 => ("GalleyStrokeModel", "tKind", "[I", true)
  | 6 => ("GalleyStrokeModel", "tPlace", "[I", true)
  | 7 => ("GalleyStrokeModel", "tValue", "[I", true)
  | 8 => ("GalleyStrokeModel", "tName", "[J", true)
  | 9 => ("GalleyStrokeModel", "keys", "[J", true)
  | 10 => ("GalleyStrokeModel", "tokens", "I", false)
  | 11 => ("GalleyStrokeModel", "t", "I", false)
  | 12 => ("GalleyStrokeModel", "open", "I", false)
  | 13 => ("GalleyStrokeModel", "fault", "I", false)
  | 14 => ("GalleyStrokeModel", "faultPlace", "I", false)
  | 15 => ("GalleyStrokeModel", "worst", "I", false)
  | 16 => ("GalleyStrokeModel", "worstPlace", "I", false)
  | 17 => ("GalleyStrokeModel", "place", "I", false)
  | 18 => ("GalleyStrokeModel", "live", "I", false)
  | 19 => ("GalleyStrokeModel", "side", "I", false)
  | 20 => ("GalleyStrokeModel", "names", "I", false)
  | 21 => ("GalleyStrokeModel", "nameOf", "[J", true)
  | 22 => ("GalleyStrokeModel", "nameAt", "[I", true)
  | 23 => ("GalleyStrokeModel", "parts", "[I", true)
  | 24 => ("GalleyStrokeModel", "laws", "[I", true)
  | 25 => ("GalleyStrokeModel", "branchFirst", "[I", true)
  | 26 => ("GalleyStrokeModel", "branchLast", "[I", true)
  | 27 => ("GalleyStrokeModel", "branches", "I", false)
  | 28 => ("GalleyStrokeModel", "litFirst", "[I", true)
  | 29 => ("GalleyStrokeModel", "litLast", "[I", true)
  | 30 => ("GalleyStrokeModel", "termFrom", "[I", true)
  | 31 => ("GalleyStrokeModel", "termTo", "[I", true)
  | 32 => ("GalleyStrokeModel", "men", "[I", true)
  | 33 => ("GalleyStrokeModel", "manLaw", "[I", true)
  | 34 => ("GalleyStrokeModel", "manTime", "[I", true)
  | 35 => ("GalleyStrokeModel", "beats", "[I", true)
  | 36 => ("GalleyStrokeModel", "lags", "[I", true)
  | 37 => ("GalleyStrokeModel", "songs", "[I", true)
  | 38 => ("GalleyStrokeModel", "fogs", "[I", true)
  | 39 => ("GalleyStrokeModel", "fogFrom", "[I", true)
  | 40 => ("GalleyStrokeModel", "fogTo", "[I", true)
  | 41 => ("GalleyStrokeModel", "lits", "I", false)
  | 42 => ("GalleyStrokeModel", "litSort", "[I", true)
  | 43 => ("GalleyStrokeModel", "litNot", "[Z", true)
  | 44 => ("GalleyStrokeModel", "litOr", "[Z", true)
  | 45 => ("GalleyStrokeModel", "litLeft", "[I", true)
  | 46 => ("GalleyStrokeModel", "litRight", "[I", true)
  | 47 => ("GalleyStrokeModel", "litEnd", "[I", true)
  | 48 => ("GalleyStrokeModel", "codes", "I", false)
  | 49 => ("GalleyStrokeModel", "code", "[I", true)
  | 50 => ("GalleyStrokeModel", "codeInt", "[I", true)
  | 51 => ("GalleyStrokeModel", "belows", "I", false)
  | 52 => ("GalleyStrokeModel", "below", "[I", true)
  | 53 => ("GalleyStrokeModel", "waits", "[I", true)
  | 54 => ("GalleyStrokeModel", "waiting", "I", false)
  | 55 => ("GalleyStrokeModel", "time", "[I", true)
  | 56 => ("GalleyStrokeModel", "man", "[I", true)
  | 57 => ("GalleyStrokeModel", "law", "[I", true)
  | 58 => ("GalleyStrokeModel", "drum", "I", false)
  | 59 => ("GalleyStrokeModel", "lag", "I", false)
  | 60 => ("GalleyStrokeModel", "stroke", "I", false)
  | 61 => ("GalleyStrokeModel", "undos", "I", false)
  | 62 => ("GalleyStrokeModel", "history", "[I", true)
  | 63 => ("GalleyStrokeModel", "rowTime", "[I", true)
  | 64 => ("GalleyStrokeModel", "rowLaw", "[I", true)
  | 65 => ("GalleyStrokeModel", "rowMen", "I", false)
  | 66 => ("GalleyStrokeModel", "rowDrum", "I", false)
  | 67 => ("GalleyStrokeModel", "rowLag", "I", false)
  | 68 => ("GalleyStrokeModel", "next", "[I", true)
  | 69 => ("GalleyStrokeModel", "variables", "[I", true)
  | 70 => ("GalleyStrokeModel", "pile", "[I", true)
  | 71 => ("GalleyStrokeModel", "isBroken", "Z", false)
  | 72 => ("GalleyStrokeModel", "counts", "[I", true)
  | 73 => ("GalleyStrokeModel", "kept", "[I", true)
  | 74 => ("GalleyStrokeModel", "trail", "[I", true)
  | 75 => ("GalleyStrokeModel", "order", "[I", true)
  | 76 => ("GalleyStrokeModel", "bestOrder", "[I", true)
  | 77 => ("GalleyStrokeModel", "comes", "[I", true)
  | 78 => ("GalleyStrokeModel", "far", "[I", true)
  | 79 => ("GalleyStrokeModel", "told", "I", false)
  | 80 => ("GalleyStrokeModel", "toldStroke", "[I", true)
  | 81 => ("GalleyStrokeModel", "toldBench", "[I", true)
  | 82 => ("GalleyStrokeModel", "toldClash", "[Z", true)
  | 83 => ("GalleyStrokeModel", "suspect", "[I", true)
  | 84 => ("GalleyStrokeModel", "suspects", "I", false)
  | 85 => ("GalleyStrokeModel", "isHeld", "[Z", true)
  | 86 => ("GalleyStrokeModel", "heldTime", "[I", true)
  | 87 => ("GalleyStrokeModel", "heldMan", "[I", true)
  | 88 => ("GalleyStrokeModel", "heldLaw", "[I", true)
  | 89 => ("GalleyStrokeModel", "heldDrum", "[I", true)
  | 90 => ("GalleyStrokeModel", "heldLag", "[I", true)
  | _ => ("GalleyStrokeModel", "heldStroke", "[I", true)
def tyX12 : Nat → FieldType := fun k => match k with
  | 0 => .int
  | 1 => .array .byte
  | 2 => .int
  | 3 => .array .byte
  | 4 => .int
  | 5 => .array .int
  | 6 => .array .int
  | 7 => .array .int
  | 8 => .array .long
  | 9 => .array .long
  | 10 => .int
  | 11 => .int
  | 12 => .int
  | 13 => .int
  | 14 => .int
  | 15 => .int
  | 16 => .int
  | 17 => .int
  | 18 => .int
  | 19 => .int
  | 20 => .int
  | 21 => .array .long
  | 22 => .array .int
  | 23 => .array .int
  | 24 => .array .int
  | 25 => .array .int
  | 26 => .array .int
  | 27 => .int
  | 28 => .array .int
  | 29 => .array .int
  | 30 => .array .int
  | 31 => .array .int
  | 32 => .array .int
  | 33 => .array .int
  | 34 => .array .int
  | 35 => .array .int
  | 36 => .array .int
  | 37 => .array .int
  | 38 => .array .int
  | 39 => .array .int
  | 40 => .array .int
  | 41 => .int
  | 42 => .array .int
  | 43 => .array .boolean
  | 44 => .array .boolean
  | 45 => .array .int
  | 46 => .array .int
  | 47 => .array .int
  | 48 => .int
  | 49 => .array .int
  | 50 => .array .int
  | 51 => .int
  | 52 => .array .int
  | 53 => .array .int
  | 54 => .int
  | 55 => .array .int
  | 56 => .array .int
  | 57 => .array .int
  | 58 => .int
  | 59 => .int
  | 60 => .int
  | 61 => .int
  | 62 => .array .int
  | 63 => .array .int
  | 64 => .array .int
  | 65 => .int
  | 66 => .int
  | 67 => .int
  | 68 => .array .int
  | 69 => .array .int
  | 70 => .array .int
  | 71 => .boolean
  | 72 => .array .int
  | 73 => .array .int
  | 74 => .array .int
  | 75 => .array .int
  | 76 => .array .int
  | 77 => .array .int
  | 78 => .array .int
  | 79 => .int
  | 80 => .array .int
  | 81 => .array .int
  | 82 => .array .boolean
  | 83 => .array .int
  | 84 => .int
  | 85 => .array .boolean
  | 86 => .array .int
  | 87 => .array .int
  | 88 => .array .int
  | 89 => .array .int
  | 90 => .array .int
  | _ => .array .int
abbrev wsX120 : List Cond := u_ws RX12 TX12 92
theorem nmX12 : ∀ a, a < 92 → ∀ b, b < 92 → a ≠ b → (TX12 a).2.1 ≠ (TX12 b).2.1 := by decide +kernel
theorem tyX12_ok : ∀ k, k < 92 → parseFieldDescriptor (TX12 k).2.2.1 = some (tyX12 k) := by decide +kernel
abbrev cX12_init : ByteArray := prog_14_method_2_code
def yX12_init : MethodName := ⟨RX12, "<init>", "()V"⟩
abbrev cX12_feed : ByteArray := prog_14_method_3_code
def yX12_feed : MethodName := ⟨RX12, "feed", "(IIIII)I"⟩
abbrev cX12_put : ByteArray := prog_14_method_4_code
def yX12_put : MethodName := ⟨RX12, "put", "(I)V"⟩
abbrev cX12_back : ByteArray := prog_14_method_5_code
def yX12_back : MethodName := ⟨RX12, "back", "(I)I"⟩
abbrev cX12_byteAt : ByteArray := prog_14_method_6_code
def yX12_byteAt : MethodName := ⟨RX12, "byteAt", "(I)I"⟩
abbrev cX12_isDigit : ByteArray := prog_14_method_7_code
def yX12_isDigit : MethodName := ⟨RX12, "isDigit", "(I)Z"⟩
abbrev cX12_isLetter : ByteArray := prog_14_method_8_code
def yX12_isLetter : MethodName := ⟨RX12, "isLetter", "(I)Z"⟩
abbrev cX12_appends : ByteArray := prog_14_method_9_code
def yX12_appends : MethodName := ⟨RX12, "appends", "(JI)J"⟩
abbrev cX12_word : ByteArray := prog_14_method_10_code
def yX12_word : MethodName := ⟨RX12, "word", "(IIIIIII)J"⟩
abbrev cX12_token : ByteArray := prog_14_method_11_code
def yX12_token : MethodName := ⟨RX12, "token", "(IIIJ)V"⟩
abbrev cX12_cut : ByteArray := prog_14_method_12_code
def yX12_cut : MethodName := ⟨RX12, "cut", "()V"⟩
abbrev cX12_sign : ByteArray := prog_14_method_13_code
def yX12_sign : MethodName := ⟨RX12, "sign", "(III)I"⟩
abbrev cX12_is : ByteArray := prog_14_method_14_code
def yX12_is : MethodName := ⟨RX12, "is", "(I)Z"⟩
abbrev cX12_fail : ByteArray := prog_14_method_15_code
def yX12_fail : MethodName := ⟨RX12, "fail", "(I)V"⟩
abbrev cX12_wrong : ByteArray := prog_14_method_16_code
def yX12_wrong : MethodName := ⟨RX12, "wrong", "(II)V"⟩
abbrev cX12_goesOn : ByteArray := prog_14_method_17_code
def yX12_goesOn : MethodName := ⟨RX12, "goesOn", "()V"⟩
abbrev cX12_must : ByteArray := prog_14_method_18_code
def yX12_must : MethodName := ⟨RX12, "must", "(I)V"⟩
abbrev cX12_read : ByteArray := prog_14_method_19_code
def yX12_read : MethodName := ⟨RX12, "read", "()I"⟩
abbrev cX12_place : ByteArray := prog_14_method_20_code
def yX12_place : MethodName := ⟨RX12, "place", "()I"⟩
abbrev cX12_roomFor : ByteArray := prog_14_method_21_code
def yX12_roomFor : MethodName := ⟨RX12, "roomFor", "(II)V"⟩
abbrev cX12_tell : ByteArray := prog_14_method_22_code
def yX12_tell : MethodName := ⟨RX12, "tell", "()V"⟩
abbrev cX12_named : ByteArray := prog_14_method_23_code
def yX12_named : MethodName := ⟨RX12, "named", "()I"⟩
abbrev cX12_notes : ByteArray := prog_14_method_24_code
def yX12_notes : MethodName := ⟨RX12, "notes", "(II)V"⟩
abbrev cX12_bounded : ByteArray := prog_14_method_25_code
def yX12_bounded : MethodName := ⟨RX12, "bounded", "(II)I"⟩
abbrev cX12_part : ByteArray := prog_14_method_26_code
def yX12_part : MethodName := ⟨RX12, "part", "()I"⟩
abbrev cX12_tellMan : ByteArray := prog_14_method_27_code
def yX12_tellMan : MethodName := ⟨RX12, "tellMan", "()V"⟩
abbrev cX12_tellFog : ByteArray := prog_14_method_28_code
def yX12_tellFog : MethodName := ⟨RX12, "tellFog", "()V"⟩
abbrev cX12_tellLaw : ByteArray := prog_14_method_29_code
def yX12_tellLaw : MethodName := ⟨RX12, "tellLaw", "()V"⟩
abbrev cX12_term : ByteArray := prog_14_method_30_code
def yX12_term : MethodName := ⟨RX12, "term", "()V"⟩
abbrev cX12_condition : ByteArray := prog_14_method_31_code
def yX12_condition : MethodName := ⟨RX12, "condition", "()V"⟩
abbrev cX12_literal : ByteArray := prog_14_method_32_code
def yX12_literal : MethodName := ⟨RX12, "literal", "(Z)V"⟩
abbrev cX12_emit : ByteArray := prog_14_method_33_code
def yX12_emit : MethodName := ⟨RX12, "emit", "(II)V"⟩
abbrev cX12_isWall : ByteArray := prog_14_method_34_code
def yX12_isWall : MethodName := ⟨RX12, "isWall", "(I)Z"⟩
abbrev cX12_comesOut : ByteArray := prog_14_method_35_code
def yX12_comesOut : MethodName := ⟨RX12, "comesOut", "(Z)V"⟩
abbrev cX12_pushes : ByteArray := prog_14_method_36_code
def yX12_pushes : MethodName := ⟨RX12, "pushes", "(I)V"⟩
abbrev cX12_opensMany : ByteArray := prog_14_method_37_code
def yX12_opensMany : MethodName := ⟨RX12, "opensMany", "()V"⟩
abbrev cX12_expression : ByteArray := prog_14_method_38_code
def yX12_expression : MethodName := ⟨RX12, "expression", "()V"⟩
abbrev cX12_closesMany : ByteArray := prog_14_method_39_code
def yX12_closesMany : MethodName := ⟨RX12, "closesMany", "(I)Z"⟩
abbrev cX12_unit : ByteArray := prog_14_method_40_code
def yX12_unit : MethodName := ⟨RX12, "unit", "()V"⟩
abbrev cX12_variableOf : ByteArray := prog_14_method_41_code
def yX12_variableOf : MethodName := ⟨RX12, "variableOf", "(I)I"⟩
abbrev cX12_in : ByteArray := prog_14_method_42_code
def yX12_in : MethodName := ⟨RX12, "in", "(III)Z"⟩
abbrev cX12_menNow : ByteArray := prog_14_method_43_code
def yX12_menNow : MethodName := ⟨RX12, "menNow", "()I"⟩
abbrev cX12_all : ByteArray := prog_14_method_44_code
def yX12_all : MethodName := ⟨RX12, "all", "()I"⟩
abbrev cX12_begins : ByteArray := prog_14_method_45_code
def yX12_begins : MethodName := ⟨RX12, "begins", "()V"⟩
abbrev cX12_takes : ByteArray := prog_14_method_46_code
def yX12_takes : MethodName := ⟨RX12, "takes", "()V"⟩
abbrev cX12_rest : ByteArray := prog_14_method_47_code
def yX12_rest : MethodName := ⟨RX12, "rest", "(I)I"⟩
abbrev cX12_gap : ByteArray := prog_14_method_48_code
def yX12_gap : MethodName := ⟨RX12, "gap", "(II)I"⟩
abbrev cX12_isFog : ByteArray := prog_14_method_49_code
def yX12_isFog : MethodName := ⟨RX12, "isFog", "(I)Z"⟩
abbrev cX12_heard : ByteArray := prog_14_method_50_code
def yX12_heard : MethodName := ⟨RX12, "heard", "(IZ)I"⟩
abbrev cX12_termOf : ByteArray := prog_14_method_51_code
def yX12_termOf : MethodName := ⟨RX12, "termOf", "(II)I"⟩
abbrev cX12_isTrue : ByteArray := prog_14_method_52_code
def yX12_isTrue : MethodName := ⟨RX12, "isTrue", "(I)Z"⟩
abbrev cX12_holds : ByteArray := prog_14_method_53_code
def yX12_holds : MethodName := ⟨RX12, "holds", "(I)Z"⟩
abbrev cX12_rowsBy : ByteArray := prog_14_method_54_code
def yX12_rowsBy : MethodName := ⟨RX12, "rowsBy", "(II)I"⟩
abbrev cX12_strikes : ByteArray := prog_14_method_55_code
def yX12_strikes : MethodName := ⟨RX12, "strikes", "(Z)V"⟩
abbrev cX12_isBench : ByteArray := prog_14_method_56_code
def yX12_isBench : MethodName := ⟨RX12, "isBench", "(I)Z"⟩
abbrev cX12_bench : ByteArray := prog_14_method_57_code
def yX12_bench : MethodName := ⟨RX12, "bench", "(II)I"⟩
abbrev cX12_row : ByteArray := prog_14_method_58_code
def yX12_row : MethodName := ⟨RX12, "row", "(I)I"⟩
abbrev cX12_undo : ByteArray := prog_14_method_59_code
def yX12_undo : MethodName := ⟨RX12, "undo", "()Z"⟩
abbrev cX12_clashesNow : ByteArray := prog_14_method_60_code
def yX12_clashesNow : MethodName := ⟨RX12, "clashesNow", "()I"⟩
abbrev cX12_clashes : ByteArray := prog_14_method_61_code
def yX12_clashes : MethodName := ⟨RX12, "clashes", "()I"⟩
abbrev cX12_nearTo : ByteArray := prog_14_method_62_code
def yX12_nearTo : MethodName := ⟨RX12, "nearTo", "(I)I"⟩
abbrev cX12_wayNow : ByteArray := prog_14_method_63_code
def yX12_wayNow : MethodName := ⟨RX12, "wayNow", "()I"⟩
abbrev cX12_way : ByteArray := prog_14_method_64_code
def yX12_way : MethodName := ⟨RX12, "way", "(I)I"⟩
abbrev cX12_wave : ByteArray := prog_14_method_65_code
def yX12_wave : MethodName := ⟨RX12, "wave", "(I)I"⟩
abbrev cX12_soon : ByteArray := prog_14_method_66_code
def yX12_soon : MethodName := ⟨RX12, "soon", "(I)I"⟩
abbrev cX12_rubs : ByteArray := prog_14_method_67_code
def yX12_rubs : MethodName := ⟨RX12, "rubs", "(I)I"⟩
abbrev cX12_isStill : ByteArray := prog_14_method_68_code
def yX12_isStill : MethodName := ⟨RX12, "isStill", "()Z"⟩
abbrev cX12_still : ByteArray := prog_14_method_69_code
def yX12_still : MethodName := ⟨RX12, "still", "()I"⟩
abbrev cX12_isAt : ByteArray := prog_14_method_70_code
def yX12_isAt : MethodName := ⟨RX12, "isAt", "(I)Z"⟩
abbrev cX12_round : ByteArray := prog_14_method_71_code
def yX12_round : MethodName := ⟨RX12, "round", "(I)I"⟩
abbrev cX12_change : ByteArray := prog_14_method_72_code
def yX12_change : MethodName := ⟨RX12, "change", "(II)Z"⟩
abbrev cX12_teach : ByteArray := prog_14_method_73_code
def yX12_teach : MethodName := ⟨RX12, "teach", "(II)Z"⟩
abbrev cX12_set : ByteArray := prog_14_method_74_code
def yX12_set : MethodName := ⟨RX12, "set", "(II)Z"⟩
abbrev cX12_beat : ByteArray := prog_14_method_75_code
def yX12_beat : MethodName := ⟨RX12, "beat", "(I)Z"⟩
abbrev cX12_sits : ByteArray := prog_14_method_76_code
def yX12_sits : MethodName := ⟨RX12, "sits", "()V"⟩
abbrev cX12_bits : ByteArray := prog_14_method_77_code
def yX12_bits : MethodName := ⟨RX12, "bits", "(II)I"⟩
abbrev cX12_comesTo : ByteArray := prog_14_method_78_code
def yX12_comesTo : MethodName := ⟨RX12, "comesTo", "(II)I"⟩
abbrev cX12_isBetter : ByteArray := prog_14_method_79_code
def yX12_isBetter : MethodName := ⟨RX12, "isBetter", "(III)Z"⟩
abbrev cX12_nextOrder : ByteArray := prog_14_method_80_code
def yX12_nextOrder : MethodName := ⟨RX12, "nextOrder", "()Z"⟩
abbrev cX12_seats : ByteArray := prog_14_method_81_code
def yX12_seats : MethodName := ⟨RX12, "seats", "(II)I"⟩
abbrev cX12_canSeat : ByteArray := prog_14_method_82_code
def yX12_canSeat : MethodName := ⟨RX12, "canSeat", "(II)Z"⟩
abbrev cX12_seating : ByteArray := prog_14_method_83_code
def yX12_seating : MethodName := ⟨RX12, "seating", "(II)I"⟩
abbrev cX12_seat : ByteArray := prog_14_method_84_code
def yX12_seat : MethodName := ⟨RX12, "seat", "(III)I"⟩
abbrev cX12_better : ByteArray := prog_14_method_85_code
def yX12_better : MethodName := ⟨RX12, "better", "(II)I"⟩
abbrev cX12_numberOf : ByteArray := prog_14_method_86_code
def yX12_numberOf : MethodName := ⟨RX12, "numberOf", "(I)I"⟩
abbrev cX12_fillEvery : ByteArray := prog_14_method_87_code
def yX12_fillEvery : MethodName := ⟨RX12, "fillEvery", "(III)V"⟩
abbrev cX12_follows : ByteArray := prog_14_method_88_code
def yX12_follows : MethodName := ⟨RX12, "follows", "(I)V"⟩
abbrev cX12_every : ByteArray := prog_14_method_89_code
def yX12_every : MethodName := ⟨RX12, "every", "(III)I"⟩
abbrev cX12_ram : ByteArray := prog_14_method_90_code
def yX12_ram : MethodName := ⟨RX12, "ram", "(II)I"⟩
abbrev cX12_odds : ByteArray := prog_14_method_91_code
def yX12_odds : MethodName := ⟨RX12, "odds", "(III)J"⟩
abbrev cX12_tell_ : ByteArray := prog_14_method_92_code
def yX12_tell_ : MethodName := ⟨RX12, "tell", "(IIZ)I"⟩
abbrev cX12_forget : ByteArray := prog_14_method_93_code
def yX12_forget : MethodName := ⟨RX12, "forget", "()I"⟩
abbrev cX12_breaks : ByteArray := prog_14_method_94_code
def yX12_breaks : MethodName := ⟨RX12, "breaks", "(I)V"⟩
abbrev cX12_fits : ByteArray := prog_14_method_95_code
def yX12_fits : MethodName := ⟨RX12, "fits", "(II)Z"⟩
abbrev cX12_canSuspect : ByteArray := prog_14_method_96_code
def yX12_canSuspect : MethodName := ⟨RX12, "canSuspect", "(II)Z"⟩
abbrev cX12_fillSuspects : ByteArray := prog_14_method_97_code
def yX12_fillSuspects : MethodName := ⟨RX12, "fillSuspects", "(II)V"⟩
abbrev cX12_suspects : ByteArray := prog_14_method_98_code
def yX12_suspects : MethodName := ⟨RX12, "suspects", "(II)I"⟩
abbrev cX12_suspect : ByteArray := prog_14_method_99_code
def yX12_suspect : MethodName := ⟨RX12, "suspect", "(III)I"⟩
abbrev cX12_check : ByteArray := prog_14_method_100_code
def yX12_check : MethodName := ⟨RX12, "check", "(III)I"⟩
abbrev cX12_greater : ByteArray := prog_14_method_101_code
def yX12_greater : MethodName := ⟨RX12, "greater", "(I)I"⟩
abbrev cX12_hold : ByteArray := prog_14_method_102_code
def yX12_hold : MethodName := ⟨RX12, "hold", "(I)Z"⟩
abbrev cX12_restore : ByteArray := prog_14_method_103_code
def yX12_restore : MethodName := ⟨RX12, "restore", "(I)Z"⟩
abbrev cX12_count : ByteArray := prog_14_method_104_code
def yX12_count : MethodName := ⟨RX12, "count", "(I)I"⟩
def RJx145de : String := "java/io/Serializable"
def TJx145de : u_T := fun k => match k with
  | _ => ("", "", "", false)
def tyJx145de : Nat → FieldType := fun k => match k with
  | _ => .int
abbrev wsJx145de0 : List Cond := u_ws RJx145de TJx145de 0
theorem nmJx145de : ∀ a, a < 0 → ∀ b, b < 0 → a ≠ b → (TJx145de a).2.1 ≠ (TJx145de b).2.1 := by decide +kernel
theorem tyJx145de_ok : ∀ k, k < 0 → parseFieldDescriptor (TJx145de k).2.2.1 = some (tyJx145de k) := by decide +kernel
def RJx9f9b0 : String := "java/lang/CharSequence"
def TJx9f9b0 : u_T := fun k => match k with
  | _ => ("", "", "", false)
def tyJx9f9b0 : Nat → FieldType := fun k => match k with
  | _ => .int
abbrev wsJx9f9b00 : List Cond := u_ws RJx9f9b0 TJx9f9b0 0
theorem nmJx9f9b0 : ∀ a, a < 0 → ∀ b, b < 0 → a ≠ b → (TJx9f9b0 a).2.1 ≠ (TJx9f9b0 b).2.1 := by decide +kernel
theorem tyJx9f9b0_ok : ∀ k, k < 0 → parseFieldDescriptor (TJx9f9b0 k).2.2.1 = some (tyJx9f9b0 k) := by decide +kernel
def RJxb160c : String := "java/lang/Comparable"
def TJxb160c : u_T := fun k => match k with
  | _ => ("", "", "", false)
def tyJxb160c : Nat → FieldType := fun k => match k with
  | _ => .int
abbrev wsJxb160c0 : List Cond := u_ws RJxb160c TJxb160c 0
theorem nmJxb160c : ∀ a, a < 0 → ∀ b, b < 0 → a ≠ b → (TJxb160c a).2.1 ≠ (TJxb160c b).2.1 := by decide +kernel
theorem tyJxb160c_ok : ∀ k, k < 0 → parseFieldDescriptor (TJxb160c k).2.2.1 = some (tyJxb160c k) := by decide +kernel
def RJ6 : String := "java/lang/Integer"
def TJ6 : u_T := fun k => match k with
  | _ => ("", "", "", false)
def tyJ6 : Nat → FieldType := fun k => match k with
  | _ => .int
abbrev wsJ60 : List Cond := u_ws RJ6 TJ6 0
theorem nmJ6 : ∀ a, a < 0 → ∀ b, b < 0 → a ≠ b → (TJ6 a).2.1 ≠ (TJ6 b).2.1 := by decide +kernel
theorem tyJ6_ok : ∀ k, k < 0 → parseFieldDescriptor (TJ6 k).2.2.1 = some (tyJ6 k) := by decide +kernel
abbrev cJ6_bitCount_0f7a4 : ByteArray := prog_15_method_49_code
def yJ6_bitCount_0f7a4 : MethodName := ⟨RJ6, "bitCount", "(I)I"⟩
def RJ9 : String := "java/lang/Math"
def TJ9 : u_T := fun k => match k with
  | _ => ("", "", "", false)
def tyJ9 : Nat → FieldType := fun k => match k with
  | _ => .int
abbrev wsJ90 : List Cond := u_ws RJ9 TJ9 0
theorem nmJ9 : ∀ a, a < 0 → ∀ b, b < 0 → a ≠ b → (TJ9 a).2.1 ≠ (TJ9 b).2.1 := by decide +kernel
theorem tyJ9_ok : ∀ k, k < 0 → parseFieldDescriptor (TJ9 k).2.2.1 = some (tyJ9 k) := by decide +kernel
abbrev cJ9_abs_0f7a4 : ByteArray := prog_16_method_59_code
def yJ9_abs_0f7a4 : MethodName := ⟨RJ9, "abs", "(I)I"⟩
abbrev cJ9_max_7cf53 : ByteArray := prog_16_method_65_code
def yJ9_max_7cf53 : MethodName := ⟨RJ9, "max", "(II)I"⟩
abbrev cJ9_min_7cf53 : ByteArray := prog_16_method_69_code
def yJ9_min_7cf53 : MethodName := ⟨RJ9, "min", "(II)I"⟩
def RJ0 : String := "java/lang/String"
def TJ0 : u_T := fun k => match k with
  | _ => ("", "", "", false)
def tyJ0 : Nat → FieldType := fun k => match k with
  | _ => .int
abbrev wsJ00 : List Cond := u_ws RJ0 TJ0 0
theorem nmJ0 : ∀ a, a < 0 → ∀ b, b < 0 → a ≠ b → (TJ0 a).2.1 ≠ (TJ0 b).2.1 := by decide +kernel
theorem tyJ0_ok : ∀ k, k < 0 → parseFieldDescriptor (TJ0 k).2.2.1 = some (tyJ0 k) := by decide +kernel
abbrev cJ0_length_8abf5 : ByteArray := prog_17_method_54_code
def yJ0_length_8abf5 : MethodName := ⟨RJ0, "length", "()I"⟩
abbrev cJ0_charAt_5068e : ByteArray := prog_17_method_56_code
def yJ0_charAt_5068e : MethodName := ⟨RJ0, "charAt", "(I)C"⟩
abbrev cJ0_coder_7d493 : ByteArray := prog_17_method_152_code
def yJ0_coder_7d493 : MethodName := ⟨RJ0, "coder", "()B"⟩
abbrev cJ0_isLatin1_aae02 : ByteArray := prog_17_method_154_code
def yJ0_isLatin1_aae02 : MethodName := ⟨RJ0, "isLatin1", "()Z"⟩
abbrev cJ0_checkIndex_df160 : ByteArray := prog_17_method_155_code
def yJ0_checkIndex_df160 : MethodName := ⟨RJ0, "checkIndex", "(II)V"⟩
def RJ1 : String := "java/lang/StringLatin1"
def TJ1 : u_T := fun k => match k with
  | _ => ("", "", "", false)
def tyJ1 : Nat → FieldType := fun k => match k with
  | _ => .int
abbrev wsJ10 : List Cond := u_ws RJ1 TJ1 0
theorem nmJ1 : ∀ a, a < 0 → ∀ b, b < 0 → a ≠ b → (TJ1 a).2.1 ≠ (TJ1 b).2.1 := by decide +kernel
theorem tyJ1_ok : ∀ k, k < 0 → parseFieldDescriptor (TJ1 k).2.2.1 = some (tyJ1 k) := by decide +kernel
abbrev cJ1_charAt_3b067 : ByteArray := prog_18_method_2_code
def yJ1_charAt_3b067 : MethodName := ⟨RJ1, "charAt", "([BI)C"⟩
def RJ2 : String := "java/lang/StringUTF16"
def TJ2 : u_T := fun k => match k with
  | _ => ("", "", "", false)
def tyJ2 : Nat → FieldType := fun k => match k with
  | _ => .int
abbrev wsJ20 : List Cond := u_ws RJ2 TJ2 0
theorem nmJ2 : ∀ a, a < 0 → ∀ b, b < 0 → a ≠ b → (TJ2 a).2.1 ≠ (TJ2 b).2.1 := by decide +kernel
theorem tyJ2_ok : ∀ k, k < 0 → parseFieldDescriptor (TJ2 k).2.2.1 = some (tyJ2 k) := by decide +kernel
abbrev cJ2_getChar_3b067 : ByteArray := prog_19_method_5_code
def yJ2_getChar_3b067 : MethodName := ⟨RJ2, "getChar", "([BI)C"⟩
abbrev cJ2_length_9d52b : ByteArray := prog_19_method_6_code
def yJ2_length_9d52b : MethodName := ⟨RJ2, "length", "([B)I"⟩
abbrev cJ2_charAt_3b067 : ByteArray := prog_19_method_83_code
def yJ2_charAt_3b067 : MethodName := ⟨RJ2, "charAt", "([BI)C"⟩
abbrev cJ2_checkIndex_2214a : ByteArray := prog_19_method_91_code
def yJ2_checkIndex_2214a : MethodName := ⟨RJ2, "checkIndex", "(I[B)V"⟩
def RJ10 : String := "java/lang/System"
def TJ10 : u_T := fun k => match k with
  | _ => ("", "", "", false)
def tyJ10 : Nat → FieldType := fun k => match k with
  | _ => .int
abbrev wsJ100 : List Cond := u_ws RJ10 TJ10 0
theorem nmJ10 : ∀ a, a < 0 → ∀ b, b < 0 → a ≠ b → (TJ10 a).2.1 ≠ (TJ10 b).2.1 := by decide +kernel
theorem tyJ10_ok : ∀ k, k < 0 → parseFieldDescriptor (TJ10 k).2.2.1 = some (tyJ10 k) := by decide +kernel
def RJxfd54e : String := "java/lang/constant/Constable"
def TJxfd54e : u_T := fun k => match k with
  | _ => ("", "", "", false)
def tyJxfd54e : Nat → FieldType := fun k => match k with
  | _ => .int
abbrev wsJxfd54e0 : List Cond := u_ws RJxfd54e TJxfd54e 0
theorem nmJxfd54e : ∀ a, a < 0 → ∀ b, b < 0 → a ≠ b → (TJxfd54e a).2.1 ≠ (TJxfd54e b).2.1 := by decide +kernel
theorem tyJxfd54e_ok : ∀ k, k < 0 → parseFieldDescriptor (TJxfd54e k).2.2.1 = some (tyJxfd54e k) := by decide +kernel
def RJx3cf43 : String := "java/lang/constant/ConstantDesc"
def TJx3cf43 : u_T := fun k => match k with
  | _ => ("", "", "", false)
def tyJx3cf43 : Nat → FieldType := fun k => match k with
  | _ => .int
abbrev wsJx3cf430 : List Cond := u_ws RJx3cf43 TJx3cf43 0
theorem nmJx3cf43 : ∀ a, a < 0 → ∀ b, b < 0 → a ≠ b → (TJx3cf43 a).2.1 ≠ (TJx3cf43 b).2.1 := by decide +kernel
theorem tyJx3cf43_ok : ∀ k, k < 0 → parseFieldDescriptor (TJx3cf43 k).2.2.1 = some (tyJx3cf43 k) := by decide +kernel
def RJ7 : String := "java/util/Arrays"
def TJ7 : u_T := fun k => match k with
  | _ => ("", "", "", false)
def tyJ7 : Nat → FieldType := fun k => match k with
  | _ => .int
abbrev wsJ70 : List Cond := u_ws RJ7 TJ7 0
theorem nmJ7 : ∀ a, a < 0 → ∀ b, b < 0 → a ≠ b → (TJ7 a).2.1 ≠ (TJ7 b).2.1 := by decide +kernel
theorem tyJ7_ok : ∀ k, k < 0 → parseFieldDescriptor (TJ7 k).2.2.1 = some (tyJ7 k) := by decide +kernel
abbrev cJ7_fill_53178 : ByteArray := prog_21_method_103_code
def yJ7_fill_53178 : MethodName := ⟨RJ7, "fill", "([II)V"⟩
def RJ3 : String := "jdk/internal/util/Preconditions"
def TJ3 : u_T := fun k => match k with
  | _ => ("", "", "", false)
def tyJ3 : Nat → FieldType := fun k => match k with
  | _ => .int
abbrev wsJ30 : List Cond := u_ws RJ3 TJ3 0
theorem nmJ3 : ∀ a, a < 0 → ∀ b, b < 0 → a ≠ b → (TJ3 a).2.1 ≠ (TJ3 b).2.1 := by decide +kernel
theorem tyJ3_ok : ∀ k, k < 0 → parseFieldDescriptor (TJ3 k).2.2.1 = some (tyJ3 k) := by decide +kernel
abbrev cJ3_checkIndex_8e157 : ByteArray := prog_22_method_11_code
def yJ3_checkIndex_8e157 : MethodName := ⟨RJ3, "checkIndex", "(IILjava/util/function/BiFunction;)I"⟩
def RL : String := "GalleyStrokeLaw"
abbrev cL_law : ByteArray := code
def yL_law : MethodName := ⟨RL, "law", "([I)Z"⟩
abbrev vwCl : List vw_C := [(RX0, TX0, 5), (RX1, TX1, 6), (RX3, TX3, 3), (RX4, TX4, 12), (RX5, TX5, 5), (RX6, TX6, 4), (RX7, TX7, 14), (RX8, TX8, 8), (RX9, TX9, 7), (RX10, TX10, 7), (RX11, TX11, 13), (RX12, TX12, 92)]
