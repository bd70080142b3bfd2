/-! the law's cases -/
set_option maxHeartbeats 4000000 in
set_option maxRecDepth 100000 in
theorem lc_22 {X : CX} {T : List Dsc} {R : RM} {c e l a b L i n1 n2 : Nat} {s : SS} {m : M2} {xs : Nat → Int32} (hLw : XLw X b L xs) (hL : L ≤ 3072) (hi : i + 6 ≤ L) (hX : XR X 80 n1 n2) (hG : Geo T R c e) (hB : BS m c l s) (kk : ∀ (m' : M2) (s' : SS), BS m' c l s' → Wp X code RL 4 T (mk m' R) n1 n2 1109 [(0, .ref 1000), (1, .ref 0), (2, .ref 56), (3, .int (nI i))] []) : Wp X code RL 4 T (mk m R) n1 n2 772 [(0, .ref 1000), (1, .ref 0), (2, .ref 56), (3, .int (nI i))] [] := by
  obtain ⟨v, m1, m2, s', e1, e2, hB'⟩ := tt_ram hB (xs (i + 1)) (xs (i + 2))
  refine Wp.aload_n (pc := 772) 1 rfl rfl dL_772 ?_
  refine Wp.aload_n (pc := 773) 0 rfl rfl dL_773 ?_
  refine Wp.iload_n (pc := 774) 3 rfl rfl dL_774 ?_
  refine Wp.iconst (pc := 775) (1 : Int32) (by decide) dL_775 ?_
  refine Wp.iadd (pc := 776) dL_776 ?_
  refine Wp.sarg (pc := 777) (k := 1) hLw rfl (by omega) hL dL_777 ?_
  refine Wp.aload_n (pc := 778) 0 rfl rfl dL_778 ?_
  refine Wp.iload_n (pc := 779) 3 rfl rfl dL_779 ?_
  refine Wp.iconst (pc := 780) (2 : Int32) (by decide) dL_780 ?_
  refine Wp.iadd (pc := 781) dL_781 ?_
  refine Wp.sarg (pc := 782) (k := 2) hLw rfl (by omega) hL dL_782 ?_
  refine Wp.callVi (pc := 783) (b := 0) (st := []) (as := [.int (xs (i + 1)), .int (xs (i + 2))]) (ci := 10) (c_X11_ram hG e1) lml_109 lmv_X11_ram lmb_X11_ram hX (by decide) (by decide) rfl (hG.t 0 rfl) rfl (by decide) dL_783 rfl ?_
  refine Wp.aload_n (pc := 786) 2 rfl rfl dL_786 ?_
  refine Wp.aload_n (pc := 787) 0 rfl rfl dL_787 ?_
  refine Wp.iload_n (pc := 788) 3 rfl rfl dL_788 ?_
  refine Wp.iconst (pc := 789) (1 : Int32) (by decide) dL_789 ?_
  refine Wp.iadd (pc := 790) dL_790 ?_
  refine Wp.sarg (pc := 791) (k := 1) hLw rfl (by omega) hL dL_791 ?_
  refine Wp.aload_n (pc := 792) 0 rfl rfl dL_792 ?_
  refine Wp.iload_n (pc := 793) 3 rfl rfl dL_793 ?_
  refine Wp.iconst (pc := 794) (2 : Int32) (by decide) dL_794 ?_
  refine Wp.iadd (pc := 795) dL_795 ?_
  refine Wp.sarg (pc := 796) (k := 2) hLw rfl (by omega) hL dL_796 ?_
  refine Wp.callVi (pc := 797) (b := 56) (st := [.int v]) (as := [.int (xs (i + 1)), .int (xs (i + 2))]) (ci := 11) (c_X12_ram hG e2) lml_112 lmv_X12_ram lmb_X12_ram hX (by decide) (by decide) rfl (hG.t 56 rfl) rfl (Nat.le_of_ble_eq_true rfl) dL_797 rfl ?_
  refine Wp.icmp_eq (pc := 800) 1109 dL_800 (by decide) (fun _ => ?_) (fun q => absurd rfl q)
  exact kk _ _ hB'
set_option maxHeartbeats 4000000 in
set_option maxRecDepth 100000 in
theorem lc_23 {X : CX} {T : List Dsc} {R : RM} {c e l a b L i n1 n2 : Nat} {s : SS} {m : M2} {xs : Nat → Int32} (hLw : XLw X b L xs) (hL : L ≤ 3072) (hi : i + 6 ≤ L) (hX : XR X 80 n1 n2) (hG : Geo T R c e) (hB : BS m c l s) (kk : ∀ (m' : M2) (s' : SS), BS m' c l s' → Wp X code RL 4 T (mk m' R) n1 n2 1109 [(0, .ref 1000), (1, .ref 0), (2, .ref 56), (3, .int (nI i))] []) : Wp X code RL 4 T (mk m R) n1 n2 805 [(0, .ref 1000), (1, .ref 0), (2, .ref 56), (3, .int (nI i))] [] := by
  obtain ⟨v, m1, m2, s', e1, e2, hB'⟩ := tt_odds hB (xs (i + 1)) (xs (i + 2)) (xs (i + 3))
  refine Wp.aload_n (pc := 805) 1 rfl rfl dL_805 ?_
  refine Wp.aload_n (pc := 806) 0 rfl rfl dL_806 ?_
  refine Wp.iload_n (pc := 807) 3 rfl rfl dL_807 ?_
  refine Wp.iconst (pc := 808) (1 : Int32) (by decide) dL_808 ?_
  refine Wp.iadd (pc := 809) dL_809 ?_
  refine Wp.sarg (pc := 810) (k := 1) hLw rfl (by omega) hL dL_810 ?_
  refine Wp.aload_n (pc := 811) 0 rfl rfl dL_811 ?_
  refine Wp.iload_n (pc := 812) 3 rfl rfl dL_812 ?_
  refine Wp.iconst (pc := 813) (2 : Int32) (by decide) dL_813 ?_
  refine Wp.iadd (pc := 814) dL_814 ?_
  refine Wp.sarg (pc := 815) (k := 2) hLw rfl (by omega) hL dL_815 ?_
  refine Wp.aload_n (pc := 816) 0 rfl rfl dL_816 ?_
  refine Wp.iload_n (pc := 817) 3 rfl rfl dL_817 ?_
  refine Wp.iconst (pc := 818) (3 : Int32) (by decide) dL_818 ?_
  refine Wp.iadd (pc := 819) dL_819 ?_
  refine Wp.sarg (pc := 820) (k := 3) hLw rfl (by omega) hL dL_820 ?_
  refine Wp.callVl (pc := 821) (b := 0) (st := []) (as := [.int (xs (i + 1)), .int (xs (i + 2)), .int (xs (i + 3))]) (ci := 10) (c_X11_odds hG e1) lml_113 lmv_X11_odds lmb_X11_odds hX (by decide) (by decide) rfl (hG.t 0 rfl) rfl (by decide) dL_821 rfl ?_
  refine Wp.aload_n (pc := 824) 2 rfl rfl dL_824 ?_
  refine Wp.aload_n (pc := 825) 0 rfl rfl dL_825 ?_
  refine Wp.iload_n (pc := 826) 3 rfl rfl dL_826 ?_
  refine Wp.iconst (pc := 827) (1 : Int32) (by decide) dL_827 ?_
  refine Wp.iadd (pc := 828) dL_828 ?_
  refine Wp.sarg (pc := 829) (k := 1) hLw rfl (by omega) hL dL_829 ?_
  refine Wp.aload_n (pc := 830) 0 rfl rfl dL_830 ?_
  refine Wp.iload_n (pc := 831) 3 rfl rfl dL_831 ?_
  refine Wp.iconst (pc := 832) (2 : Int32) (by decide) dL_832 ?_
  refine Wp.iadd (pc := 833) dL_833 ?_
  refine Wp.sarg (pc := 834) (k := 2) hLw rfl (by omega) hL dL_834 ?_
  refine Wp.aload_n (pc := 835) 0 rfl rfl dL_835 ?_
  refine Wp.iload_n (pc := 836) 3 rfl rfl dL_836 ?_
  refine Wp.iconst (pc := 837) (3 : Int32) (by decide) dL_837 ?_
  refine Wp.iadd (pc := 838) dL_838 ?_
  refine Wp.sarg (pc := 839) (k := 3) hLw rfl (by omega) hL dL_839 ?_
  refine Wp.callVl (pc := 840) (b := 56) (st := [.long v]) (as := [.int (xs (i + 1)), .int (xs (i + 2)), .int (xs (i + 3))]) (ci := 11) (c_X12_odds hG e2) lml_117 lmv_X12_odds lmb_X12_odds hX (by decide) (by decide) rfl (hG.t 56 rfl) rfl (Nat.le_of_ble_eq_true rfl) dL_840 rfl ?_
  refine Wp.lcmp (pc := 843) dL_843 ?_
  refine Wp.if_eq (pc := 844) 1109 dL_844 (by decide) (fun _ => ?_) (fun q => absurd (lg_self v) q)
  exact kk _ _ hB'
set_option maxHeartbeats 4000000 in
set_option maxRecDepth 100000 in
theorem lc_24a {X : CX} {T : List Dsc} {R : RM} {c e l a b L i n1 n2 : Nat} {s : SS} {m : M2} {xs : Nat → Int32} (hLw : XLw X b L xs) (hL : L ≤ 3072) (hi : i + 6 ≤ L) (hz : xs (i + 3) = 0) (hX : XR X 80 n1 n2) (hG : Geo T R c e) (hB : BS m c l s) (kk : ∀ (m' : M2) (s' : SS), BS m' c l s' → Wp X code RL 4 T (mk m' R) n1 n2 1109 [(0, .ref 1000), (1, .ref 0), (2, .ref 56), (3, .int (nI i))] []) : Wp X code RL 4 T (mk m R) n1 n2 849 [(0, .ref 1000), (1, .ref 0), (2, .ref 56), (3, .int (nI i))] [] := by
  obtain ⟨v, m1, m2, s', e1, e2, hB'⟩ := tt_tell hB (xs (i + 1)) (xs (i + 2)) (0 : Int32) (Or.inl rfl)
  refine Wp.aload_n (pc := 849) 1 rfl rfl dL_849 ?_
  refine Wp.aload_n (pc := 850) 0 rfl rfl dL_850 ?_
  refine Wp.iload_n (pc := 851) 3 rfl rfl dL_851 ?_
  refine Wp.iconst (pc := 852) (1 : Int32) (by decide) dL_852 ?_
  refine Wp.iadd (pc := 853) dL_853 ?_
  refine Wp.sarg (pc := 854) (k := 1) hLw rfl (by omega) hL dL_854 ?_
  refine Wp.aload_n (pc := 855) 0 rfl rfl dL_855 ?_
  refine Wp.iload_n (pc := 856) 3 rfl rfl dL_856 ?_
  refine Wp.iconst (pc := 857) (2 : Int32) (by decide) dL_857 ?_
  refine Wp.iadd (pc := 858) dL_858 ?_
  refine Wp.sarg (pc := 859) (k := 2) hLw rfl (by omega) hL dL_859 ?_
  refine Wp.aload_n (pc := 860) 0 rfl rfl dL_860 ?_
  refine Wp.iload_n (pc := 861) 3 rfl rfl dL_861 ?_
  refine Wp.iconst (pc := 862) (3 : Int32) (by decide) dL_862 ?_
  refine Wp.iadd (pc := 863) dL_863 ?_
  refine Wp.sarg (pc := 864) (k := 3) hLw rfl (by omega) hL dL_864 ?_
  refine Wp.if_eq (pc := 865) 872 dL_865 (by decide) (fun _ => ?_) (fun q => absurd hz q)
  refine Wp.iconst (pc := 872) (0 : Int32) (by decide) dL_872 ?_
  refine Wp.callVi (pc := 873) (b := 0) (st := []) (as := [.int (xs (i + 1)), .int (xs (i + 2)), .int (0 : Int32)]) (ci := 10) (c_X11_tell hG e1) lml_118 lmv_X11_tell lmb_X11_tell hX (by decide) (by decide) rfl (hG.t 0 rfl) rfl (by decide) dL_873 rfl ?_
  refine Wp.aload_n (pc := 876) 2 rfl rfl dL_876 ?_
  refine Wp.aload_n (pc := 877) 0 rfl rfl dL_877 ?_
  refine Wp.iload_n (pc := 878) 3 rfl rfl dL_878 ?_
  refine Wp.iconst (pc := 879) (1 : Int32) (by decide) dL_879 ?_
  refine Wp.iadd (pc := 880) dL_880 ?_
  refine Wp.sarg (pc := 881) (k := 1) hLw rfl (by omega) hL dL_881 ?_
  refine Wp.aload_n (pc := 882) 0 rfl rfl dL_882 ?_
  refine Wp.iload_n (pc := 883) 3 rfl rfl dL_883 ?_
  refine Wp.iconst (pc := 884) (2 : Int32) (by decide) dL_884 ?_
  refine Wp.iadd (pc := 885) dL_885 ?_
  refine Wp.sarg (pc := 886) (k := 2) hLw rfl (by omega) hL dL_886 ?_
  refine Wp.aload_n (pc := 887) 0 rfl rfl dL_887 ?_
  refine Wp.iload_n (pc := 888) 3 rfl rfl dL_888 ?_
  refine Wp.iconst (pc := 889) (3 : Int32) (by decide) dL_889 ?_
  refine Wp.iadd (pc := 890) dL_890 ?_
  refine Wp.sarg (pc := 891) (k := 3) hLw rfl (by omega) hL dL_891 ?_
  refine Wp.if_eq (pc := 892) 899 dL_892 (by decide) (fun _ => ?_) (fun q => absurd hz q)
  refine Wp.iconst (pc := 899) (0 : Int32) (by decide) dL_899 ?_
  refine Wp.callVi (pc := 900) (b := 56) (st := [.int v]) (as := [.int (xs (i + 1)), .int (xs (i + 2)), .int (0 : Int32)]) (ci := 11) (c_X12_tell_ hG e2) lml_122 lmv_X12_tell_ lmb_X12_tell_ hX (by decide) (by decide) rfl (hG.t 56 rfl) rfl (Nat.le_of_ble_eq_true rfl) dL_900 rfl ?_
  refine Wp.icmp_eq (pc := 903) 1109 dL_903 (by decide) (fun _ => ?_) (fun q => absurd rfl q)
  exact kk _ _ hB'
set_option maxHeartbeats 4000000 in
set_option maxRecDepth 100000 in
theorem lc_24b {X : CX} {T : List Dsc} {R : RM} {c e l a b L i n1 n2 : Nat} {s : SS} {m : M2} {xs : Nat → Int32} (hLw : XLw X b L xs) (hL : L ≤ 3072) (hi : i + 6 ≤ L) (hz : ¬ xs (i + 3) = 0) (hX : XR X 80 n1 n2) (hG : Geo T R c e) (hB : BS m c l s) (kk : ∀ (m' : M2) (s' : SS), BS m' c l s' → Wp X code RL 4 T (mk m' R) n1 n2 1109 [(0, .ref 1000), (1, .ref 0), (2, .ref 56), (3, .int (nI i))] []) : Wp X code RL 4 T (mk m R) n1 n2 849 [(0, .ref 1000), (1, .ref 0), (2, .ref 56), (3, .int (nI i))] [] := by
  obtain ⟨v, m1, m2, s', e1, e2, hB'⟩ := tt_tell hB (xs (i + 1)) (xs (i + 2)) (1 : Int32) (Or.inr rfl)
  refine Wp.aload_n (pc := 849) 1 rfl rfl dL_849 ?_
  refine Wp.aload_n (pc := 850) 0 rfl rfl dL_850 ?_
  refine Wp.iload_n (pc := 851) 3 rfl rfl dL_851 ?_
  refine Wp.iconst (pc := 852) (1 : Int32) (by decide) dL_852 ?_
  refine Wp.iadd (pc := 853) dL_853 ?_
  refine Wp.sarg (pc := 854) (k := 1) hLw rfl (by omega) hL dL_854 ?_
  refine Wp.aload_n (pc := 855) 0 rfl rfl dL_855 ?_
  refine Wp.iload_n (pc := 856) 3 rfl rfl dL_856 ?_
  refine Wp.iconst (pc := 857) (2 : Int32) (by decide) dL_857 ?_
  refine Wp.iadd (pc := 858) dL_858 ?_
  refine Wp.sarg (pc := 859) (k := 2) hLw rfl (by omega) hL dL_859 ?_
  refine Wp.aload_n (pc := 860) 0 rfl rfl dL_860 ?_
  refine Wp.iload_n (pc := 861) 3 rfl rfl dL_861 ?_
  refine Wp.iconst (pc := 862) (3 : Int32) (by decide) dL_862 ?_
  refine Wp.iadd (pc := 863) dL_863 ?_
  refine Wp.sarg (pc := 864) (k := 3) hLw rfl (by omega) hL dL_864 ?_
  refine Wp.if_eq (pc := 865) 872 dL_865 (by decide) (fun q => absurd q hz) (fun _ => ?_)
  refine Wp.iconst (pc := 868) (1 : Int32) (by decide) dL_868 ?_
  refine Wp.goto (pc := 869) 873 dL_869 (by decide) ?_
  refine Wp.callVi (pc := 873) (b := 0) (st := []) (as := [.int (xs (i + 1)), .int (xs (i + 2)), .int (1 : Int32)]) (ci := 10) (c_X11_tell hG e1) lml_118 lmv_X11_tell lmb_X11_tell hX (by decide) (by decide) rfl (hG.t 0 rfl) rfl (by decide) dL_873 rfl ?_
  refine Wp.aload_n (pc := 876) 2 rfl rfl dL_876 ?_
  refine Wp.aload_n (pc := 877) 0 rfl rfl dL_877 ?_
  refine Wp.iload_n (pc := 878) 3 rfl rfl dL_878 ?_
  refine Wp.iconst (pc := 879) (1 : Int32) (by decide) dL_879 ?_
  refine Wp.iadd (pc := 880) dL_880 ?_
  refine Wp.sarg (pc := 881) (k := 1) hLw rfl (by omega) hL dL_881 ?_
  refine Wp.aload_n (pc := 882) 0 rfl rfl dL_882 ?_
  refine Wp.iload_n (pc := 883) 3 rfl rfl dL_883 ?_
  refine Wp.iconst (pc := 884) (2 : Int32) (by decide) dL_884 ?_
  refine Wp.iadd (pc := 885) dL_885 ?_
  refine Wp.sarg (pc := 886) (k := 2) hLw rfl (by omega) hL dL_886 ?_
  refine Wp.aload_n (pc := 887) 0 rfl rfl dL_887 ?_
  refine Wp.iload_n (pc := 888) 3 rfl rfl dL_888 ?_
  refine Wp.iconst (pc := 889) (3 : Int32) (by decide) dL_889 ?_
  refine Wp.iadd (pc := 890) dL_890 ?_
  refine Wp.sarg (pc := 891) (k := 3) hLw rfl (by omega) hL dL_891 ?_
  refine Wp.if_eq (pc := 892) 899 dL_892 (by decide) (fun q => absurd q hz) (fun _ => ?_)
  refine Wp.iconst (pc := 895) (1 : Int32) (by decide) dL_895 ?_
  refine Wp.goto (pc := 896) 900 dL_896 (by decide) ?_
  refine Wp.callVi (pc := 900) (b := 56) (st := [.int v]) (as := [.int (xs (i + 1)), .int (xs (i + 2)), .int (1 : Int32)]) (ci := 11) (c_X12_tell_ hG e2) lml_122 lmv_X12_tell_ lmb_X12_tell_ hX (by decide) (by decide) rfl (hG.t 56 rfl) rfl (Nat.le_of_ble_eq_true rfl) dL_900 rfl ?_
  refine Wp.icmp_eq (pc := 903) 1109 dL_903 (by decide) (fun _ => ?_) (fun q => absurd rfl q)
  exact kk _ _ hB'
set_option maxHeartbeats 4000000 in
set_option maxRecDepth 100000 in
theorem lc_25 {X : CX} {T : List Dsc} {R : RM} {c e l a b L i n1 n2 : Nat} {s : SS} {m : M2} {xs : Nat → Int32} (hLw : XLw X b L xs) (hL : L ≤ 3072) (hi : i + 6 ≤ L) (hX : XR X 80 n1 n2) (hG : Geo T R c e) (hB : BS m c l s) (kk : ∀ (m' : M2) (s' : SS), BS m' c l s' → Wp X code RL 4 T (mk m' R) n1 n2 1109 [(0, .ref 1000), (1, .ref 0), (2, .ref 56), (3, .int (nI i))] []) : Wp X code RL 4 T (mk m R) n1 n2 908 [(0, .ref 1000), (1, .ref 0), (2, .ref 56), (3, .int (nI i))] [] := by
  obtain ⟨v, m1, m2, s', e1, e2, hB'⟩ := tt_forget hB 
  refine Wp.aload_n (pc := 908) 1 rfl rfl dL_908 ?_
  refine Wp.callVi (pc := 909) (b := 0) (st := []) (as := []) (ci := 10) (c_X11_forget hG e1) lml_123 lmv_X11_forget lmb_X11_forget hX (by decide) (by decide) rfl (hG.t 0 rfl) rfl (by decide) dL_909 rfl ?_
  refine Wp.aload_n (pc := 912) 2 rfl rfl dL_912 ?_
  refine Wp.callVi (pc := 913) (b := 56) (st := [.int v]) (as := []) (ci := 11) (c_X12_forget hG e2) lml_126 lmv_X12_forget lmb_X12_forget hX (by decide) (by decide) rfl (hG.t 56 rfl) rfl (Nat.le_of_ble_eq_true rfl) dL_913 rfl ?_
  refine Wp.icmp_eq (pc := 916) 1109 dL_916 (by decide) (fun _ => ?_) (fun q => absurd rfl q)
  exact kk _ _ hB'
set_option maxHeartbeats 4000000 in
set_option maxRecDepth 100000 in
theorem lc_26 {X : CX} {T : List Dsc} {R : RM} {c e l a b L i n1 n2 : Nat} {s : SS} {m : M2} {xs : Nat → Int32} (hLw : XLw X b L xs) (hL : L ≤ 3072) (hi : i + 6 ≤ L) (hX : XR X 80 n1 n2) (hG : Geo T R c e) (hB : BS m c l s) (kk : ∀ (m' : M2) (s' : SS), BS m' c l s' → Wp X code RL 4 T (mk m' R) n1 n2 1109 [(0, .ref 1000), (1, .ref 0), (2, .ref 56), (3, .int (nI i))] []) : Wp X code RL 4 T (mk m R) n1 n2 921 [(0, .ref 1000), (1, .ref 0), (2, .ref 56), (3, .int (nI i))] [] := by
  obtain ⟨v, m1, m2, s', e1, e2, hB'⟩ := tt_suspects hB (xs (i + 1)) (xs (i + 2))
  refine Wp.aload_n (pc := 921) 1 rfl rfl dL_921 ?_
  refine Wp.aload_n (pc := 922) 0 rfl rfl dL_922 ?_
  refine Wp.iload_n (pc := 923) 3 rfl rfl dL_923 ?_
  refine Wp.iconst (pc := 924) (1 : Int32) (by decide) dL_924 ?_
  refine Wp.iadd (pc := 925) dL_925 ?_
  refine Wp.sarg (pc := 926) (k := 1) hLw rfl (by omega) hL dL_926 ?_
  refine Wp.aload_n (pc := 927) 0 rfl rfl dL_927 ?_
  refine Wp.iload_n (pc := 928) 3 rfl rfl dL_928 ?_
  refine Wp.iconst (pc := 929) (2 : Int32) (by decide) dL_929 ?_
  refine Wp.iadd (pc := 930) dL_930 ?_
  refine Wp.sarg (pc := 931) (k := 2) hLw rfl (by omega) hL dL_931 ?_
  refine Wp.callVi (pc := 932) (b := 0) (st := []) (as := [.int (xs (i + 1)), .int (xs (i + 2))]) (ci := 10) (c_X11_suspects hG e1) lml_127 lmv_X11_suspects lmb_X11_suspects hX (by decide) (by decide) rfl (hG.t 0 rfl) rfl (by decide) dL_932 rfl ?_
  refine Wp.aload_n (pc := 935) 2 rfl rfl dL_935 ?_
  refine Wp.aload_n (pc := 936) 0 rfl rfl dL_936 ?_
  refine Wp.iload_n (pc := 937) 3 rfl rfl dL_937 ?_
  refine Wp.iconst (pc := 938) (1 : Int32) (by decide) dL_938 ?_
  refine Wp.iadd (pc := 939) dL_939 ?_
  refine Wp.sarg (pc := 940) (k := 1) hLw rfl (by omega) hL dL_940 ?_
  refine Wp.aload_n (pc := 941) 0 rfl rfl dL_941 ?_
  refine Wp.iload_n (pc := 942) 3 rfl rfl dL_942 ?_
  refine Wp.iconst (pc := 943) (2 : Int32) (by decide) dL_943 ?_
  refine Wp.iadd (pc := 944) dL_944 ?_
  refine Wp.sarg (pc := 945) (k := 2) hLw rfl (by omega) hL dL_945 ?_
  refine Wp.callVi (pc := 946) (b := 56) (st := [.int v]) (as := [.int (xs (i + 1)), .int (xs (i + 2))]) (ci := 11) (c_X12_suspects hG e2) lml_130 lmv_X12_suspects lmb_X12_suspects hX (by decide) (by decide) rfl (hG.t 56 rfl) rfl (Nat.le_of_ble_eq_true rfl) dL_946 rfl ?_
  refine Wp.icmp_eq (pc := 949) 1109 dL_949 (by decide) (fun _ => ?_) (fun q => absurd rfl q)
  exact kk _ _ hB'
set_option maxHeartbeats 4000000 in
set_option maxRecDepth 100000 in
theorem lc_27 {X : CX} {T : List Dsc} {R : RM} {c e l a b L i n1 n2 : Nat} {s : SS} {m : M2} {xs : Nat → Int32} (hLw : XLw X b L xs) (hL : L ≤ 3072) (hi : i + 6 ≤ L) (hX : XR X 80 n1 n2) (hG : Geo T R c e) (hB : BS m c l s) (kk : ∀ (m' : M2) (s' : SS), BS m' c l s' → Wp X code RL 4 T (mk m' R) n1 n2 1109 [(0, .ref 1000), (1, .ref 0), (2, .ref 56), (3, .int (nI i))] []) : Wp X code RL 4 T (mk m R) n1 n2 954 [(0, .ref 1000), (1, .ref 0), (2, .ref 56), (3, .int (nI i))] [] := by
  obtain ⟨v, m1, m2, s', e1, e2, hB'⟩ := tt_suspect hB (xs (i + 1)) (xs (i + 2)) (xs (i + 3))
  refine Wp.aload_n (pc := 954) 1 rfl rfl dL_954 ?_
  refine Wp.aload_n (pc := 955) 0 rfl rfl dL_955 ?_
  refine Wp.iload_n (pc := 956) 3 rfl rfl dL_956 ?_
  refine Wp.iconst (pc := 957) (1 : Int32) (by decide) dL_957 ?_
  refine Wp.iadd (pc := 958) dL_958 ?_
  refine Wp.sarg (pc := 959) (k := 1) hLw rfl (by omega) hL dL_959 ?_
  refine Wp.aload_n (pc := 960) 0 rfl rfl dL_960 ?_
  refine Wp.iload_n (pc := 961) 3 rfl rfl dL_961 ?_
  refine Wp.iconst (pc := 962) (2 : Int32) (by decide) dL_962 ?_
  refine Wp.iadd (pc := 963) dL_963 ?_
  refine Wp.sarg (pc := 964) (k := 2) hLw rfl (by omega) hL dL_964 ?_
  refine Wp.aload_n (pc := 965) 0 rfl rfl dL_965 ?_
  refine Wp.iload_n (pc := 966) 3 rfl rfl dL_966 ?_
  refine Wp.iconst (pc := 967) (3 : Int32) (by decide) dL_967 ?_
  refine Wp.iadd (pc := 968) dL_968 ?_
  refine Wp.sarg (pc := 969) (k := 3) hLw rfl (by omega) hL dL_969 ?_
  refine Wp.callVi (pc := 970) (b := 0) (st := []) (as := [.int (xs (i + 1)), .int (xs (i + 2)), .int (xs (i + 3))]) (ci := 10) (c_X11_suspect hG e1) lml_131 lmv_X11_suspect lmb_X11_suspect hX (by decide) (by decide) rfl (hG.t 0 rfl) rfl (by decide) dL_970 rfl ?_
  refine Wp.aload_n (pc := 973) 2 rfl rfl dL_973 ?_
  refine Wp.aload_n (pc := 974) 0 rfl rfl dL_974 ?_
  refine Wp.iload_n (pc := 975) 3 rfl rfl dL_975 ?_
  refine Wp.iconst (pc := 976) (1 : Int32) (by decide) dL_976 ?_
  refine Wp.iadd (pc := 977) dL_977 ?_
  refine Wp.sarg (pc := 978) (k := 1) hLw rfl (by omega) hL dL_978 ?_
  refine Wp.aload_n (pc := 979) 0 rfl rfl dL_979 ?_
  refine Wp.iload_n (pc := 980) 3 rfl rfl dL_980 ?_
  refine Wp.iconst (pc := 981) (2 : Int32) (by decide) dL_981 ?_
  refine Wp.iadd (pc := 982) dL_982 ?_
  refine Wp.sarg (pc := 983) (k := 2) hLw rfl (by omega) hL dL_983 ?_
  refine Wp.aload_n (pc := 984) 0 rfl rfl dL_984 ?_
  refine Wp.iload_n (pc := 985) 3 rfl rfl dL_985 ?_
  refine Wp.iconst (pc := 986) (3 : Int32) (by decide) dL_986 ?_
  refine Wp.iadd (pc := 987) dL_987 ?_
  refine Wp.sarg (pc := 988) (k := 3) hLw rfl (by omega) hL dL_988 ?_
  refine Wp.callVi (pc := 989) (b := 56) (st := [.int v]) (as := [.int (xs (i + 1)), .int (xs (i + 2)), .int (xs (i + 3))]) (ci := 11) (c_X12_suspect hG e2) lml_134 lmv_X12_suspect lmb_X12_suspect hX (by decide) (by decide) rfl (hG.t 56 rfl) rfl (Nat.le_of_ble_eq_true rfl) dL_989 rfl ?_
  refine Wp.icmp_eq (pc := 992) 1109 dL_992 (by decide) (fun _ => ?_) (fun q => absurd rfl q)
  exact kk _ _ hB'
set_option maxHeartbeats 4000000 in
set_option maxRecDepth 100000 in
theorem lc_28 {X : CX} {T : List Dsc} {R : RM} {c e l a b L i n1 n2 : Nat} {s : SS} {m : M2} {xs : Nat → Int32} (hLw : XLw X b L xs) (hL : L ≤ 3072) (hi : i + 6 ≤ L) (hX : XR X 80 n1 n2) (hG : Geo T R c e) (hB : BS m c l s) (kk : ∀ (m' : M2) (s' : SS), BS m' c l s' → Wp X code RL 4 T (mk m' R) n1 n2 1109 [(0, .ref 1000), (1, .ref 0), (2, .ref 56), (3, .int (nI i))] []) : Wp X code RL 4 T (mk m R) n1 n2 997 [(0, .ref 1000), (1, .ref 0), (2, .ref 56), (3, .int (nI i))] [] := by
  obtain ⟨v, m1, m2, s', e1, e2, hB'⟩ := tt_check hB (xs (i + 1)) (xs (i + 2)) (xs (i + 3))
  refine Wp.aload_n (pc := 997) 1 rfl rfl dL_997 ?_
  refine Wp.aload_n (pc := 998) 0 rfl rfl dL_998 ?_
  refine Wp.iload_n (pc := 999) 3 rfl rfl dL_999 ?_
  refine Wp.iconst (pc := 1000) (1 : Int32) (by decide) dL_1000 ?_
  refine Wp.iadd (pc := 1001) dL_1001 ?_
  refine Wp.sarg (pc := 1002) (k := 1) hLw rfl (by omega) hL dL_1002 ?_
  refine Wp.aload_n (pc := 1003) 0 rfl rfl dL_1003 ?_
  refine Wp.iload_n (pc := 1004) 3 rfl rfl dL_1004 ?_
  refine Wp.iconst (pc := 1005) (2 : Int32) (by decide) dL_1005 ?_
  refine Wp.iadd (pc := 1006) dL_1006 ?_
  refine Wp.sarg (pc := 1007) (k := 2) hLw rfl (by omega) hL dL_1007 ?_
  refine Wp.aload_n (pc := 1008) 0 rfl rfl dL_1008 ?_
  refine Wp.iload_n (pc := 1009) 3 rfl rfl dL_1009 ?_
  refine Wp.iconst (pc := 1010) (3 : Int32) (by decide) dL_1010 ?_
  refine Wp.iadd (pc := 1011) dL_1011 ?_
  refine Wp.sarg (pc := 1012) (k := 3) hLw rfl (by omega) hL dL_1012 ?_
  refine Wp.callVi (pc := 1013) (b := 0) (st := []) (as := [.int (xs (i + 1)), .int (xs (i + 2)), .int (xs (i + 3))]) (ci := 10) (c_X11_check hG e1) lml_135 lmv_X11_check lmb_X11_check hX (by decide) (by decide) rfl (hG.t 0 rfl) rfl (by decide) dL_1013 rfl ?_
  refine Wp.aload_n (pc := 1016) 2 rfl rfl dL_1016 ?_
  refine Wp.aload_n (pc := 1017) 0 rfl rfl dL_1017 ?_
  refine Wp.iload_n (pc := 1018) 3 rfl rfl dL_1018 ?_
  refine Wp.iconst (pc := 1019) (1 : Int32) (by decide) dL_1019 ?_
  refine Wp.iadd (pc := 1020) dL_1020 ?_
  refine Wp.sarg (pc := 1021) (k := 1) hLw rfl (by omega) hL dL_1021 ?_
  refine Wp.aload_n (pc := 1022) 0 rfl rfl dL_1022 ?_
  refine Wp.iload_n (pc := 1023) 3 rfl rfl dL_1023 ?_
  refine Wp.iconst (pc := 1024) (2 : Int32) (by decide) dL_1024 ?_
  refine Wp.iadd (pc := 1025) dL_1025 ?_
  refine Wp.sarg (pc := 1026) (k := 2) hLw rfl (by omega) hL dL_1026 ?_
  refine Wp.aload_n (pc := 1027) 0 rfl rfl dL_1027 ?_
  refine Wp.iload_n (pc := 1028) 3 rfl rfl dL_1028 ?_
  refine Wp.iconst (pc := 1029) (3 : Int32) (by decide) dL_1029 ?_
  refine Wp.iadd (pc := 1030) dL_1030 ?_
  refine Wp.sarg (pc := 1031) (k := 3) hLw rfl (by omega) hL dL_1031 ?_
  refine Wp.callVi (pc := 1032) (b := 56) (st := [.int v]) (as := [.int (xs (i + 1)), .int (xs (i + 2)), .int (xs (i + 3))]) (ci := 11) (c_X12_check hG e2) lml_138 lmv_X12_check lmb_X12_check hX (by decide) (by decide) rfl (hG.t 56 rfl) rfl (Nat.le_of_ble_eq_true rfl) dL_1032 rfl ?_
  refine Wp.icmp_eq (pc := 1035) 1109 dL_1035 (by decide) (fun _ => ?_) (fun q => absurd rfl q)
  exact kk _ _ hB'
set_option maxHeartbeats 4000000 in
set_option maxRecDepth 100000 in
theorem lc_29 {X : CX} {T : List Dsc} {R : RM} {c e l a b L i n1 n2 : Nat} {s : SS} {m : M2} {xs : Nat → Int32} (hLw : XLw X b L xs) (hL : L ≤ 3072) (hi : i + 6 ≤ L) (hX : XR X 80 n1 n2) (hG : Geo T R c e) (hB : BS m c l s) (kk : ∀ (m' : M2) (s' : SS), BS m' c l s' → Wp X code RL 4 T (mk m' R) n1 n2 1109 [(0, .ref 1000), (1, .ref 0), (2, .ref 56), (3, .int (nI i))] []) : Wp X code RL 4 T (mk m R) n1 n2 1040 [(0, .ref 1000), (1, .ref 0), (2, .ref 56), (3, .int (nI i))] [] := by
  obtain ⟨v, m1, m2, s', e1, e2, hB'⟩ := tt_hold hB (xs (i + 1))
  refine Wp.aload_n (pc := 1040) 1 rfl rfl dL_1040 ?_
  refine Wp.aload_n (pc := 1041) 0 rfl rfl dL_1041 ?_
  refine Wp.iload_n (pc := 1042) 3 rfl rfl dL_1042 ?_
  refine Wp.iconst (pc := 1043) (1 : Int32) (by decide) dL_1043 ?_
  refine Wp.iadd (pc := 1044) dL_1044 ?_
  refine Wp.sarg (pc := 1045) (k := 1) hLw rfl (by omega) hL dL_1045 ?_
  refine Wp.callVi (pc := 1046) (b := 0) (st := []) (as := [.int (xs (i + 1))]) (ci := 10) (c_X11_hold hG e1) lml_139 lmv_X11_hold lmb_X11_hold hX (by decide) (by decide) rfl (hG.t 0 rfl) rfl (by decide) dL_1046 rfl ?_
  refine Wp.aload_n (pc := 1049) 2 rfl rfl dL_1049 ?_
  refine Wp.aload_n (pc := 1050) 0 rfl rfl dL_1050 ?_
  refine Wp.iload_n (pc := 1051) 3 rfl rfl dL_1051 ?_
  refine Wp.iconst (pc := 1052) (1 : Int32) (by decide) dL_1052 ?_
  refine Wp.iadd (pc := 1053) dL_1053 ?_
  refine Wp.sarg (pc := 1054) (k := 1) hLw rfl (by omega) hL dL_1054 ?_
  refine Wp.callVi (pc := 1055) (b := 56) (st := [.int v]) (as := [.int (xs (i + 1))]) (ci := 11) (c_X12_hold hG e2) lml_142 lmv_X12_hold lmb_X12_hold hX (by decide) (by decide) rfl (hG.t 56 rfl) rfl (Nat.le_of_ble_eq_true rfl) dL_1055 rfl ?_
  refine Wp.icmp_eq (pc := 1058) 1109 dL_1058 (by decide) (fun _ => ?_) (fun q => absurd rfl q)
  exact kk _ _ hB'
set_option maxHeartbeats 4000000 in
set_option maxRecDepth 100000 in
theorem lc_30 {X : CX} {T : List Dsc} {R : RM} {c e l a b L i n1 n2 : Nat} {s : SS} {m : M2} {xs : Nat → Int32} (hLw : XLw X b L xs) (hL : L ≤ 3072) (hi : i + 6 ≤ L) (hX : XR X 80 n1 n2) (hG : Geo T R c e) (hB : BS m c l s) (kk : ∀ (m' : M2) (s' : SS), BS m' c l s' → Wp X code RL 4 T (mk m' R) n1 n2 1109 [(0, .ref 1000), (1, .ref 0), (2, .ref 56), (3, .int (nI i))] []) : Wp X code RL 4 T (mk m R) n1 n2 1063 [(0, .ref 1000), (1, .ref 0), (2, .ref 56), (3, .int (nI i))] [] := by
  obtain ⟨v, m1, m2, s', e1, e2, hB'⟩ := tt_restore hB (xs (i + 1))
  refine Wp.aload_n (pc := 1063) 1 rfl rfl dL_1063 ?_
  refine Wp.aload_n (pc := 1064) 0 rfl rfl dL_1064 ?_
  refine Wp.iload_n (pc := 1065) 3 rfl rfl dL_1065 ?_
  refine Wp.iconst (pc := 1066) (1 : Int32) (by decide) dL_1066 ?_
  refine Wp.iadd (pc := 1067) dL_1067 ?_
  refine Wp.sarg (pc := 1068) (k := 1) hLw rfl (by omega) hL dL_1068 ?_
  refine Wp.callVi (pc := 1069) (b := 0) (st := []) (as := [.int (xs (i + 1))]) (ci := 10) (c_X11_restore hG e1) lml_143 lmv_X11_restore lmb_X11_restore hX (by decide) (by decide) rfl (hG.t 0 rfl) rfl (by decide) dL_1069 rfl ?_
  refine Wp.aload_n (pc := 1072) 2 rfl rfl dL_1072 ?_
  refine Wp.aload_n (pc := 1073) 0 rfl rfl dL_1073 ?_
  refine Wp.iload_n (pc := 1074) 3 rfl rfl dL_1074 ?_
  refine Wp.iconst (pc := 1075) (1 : Int32) (by decide) dL_1075 ?_
  refine Wp.iadd (pc := 1076) dL_1076 ?_
  refine Wp.sarg (pc := 1077) (k := 1) hLw rfl (by omega) hL dL_1077 ?_
  refine Wp.callVi (pc := 1078) (b := 56) (st := [.int v]) (as := [.int (xs (i + 1))]) (ci := 11) (c_X12_restore hG e2) lml_146 lmv_X12_restore lmb_X12_restore hX (by decide) (by decide) rfl (hG.t 56 rfl) rfl (Nat.le_of_ble_eq_true rfl) dL_1078 rfl ?_
  refine Wp.icmp_eq (pc := 1081) 1109 dL_1081 (by decide) (fun _ => ?_) (fun q => absurd rfl q)
  exact kk _ _ hB'
set_option maxHeartbeats 4000000 in
set_option maxRecDepth 100000 in
theorem lc_31 {X : CX} {T : List Dsc} {R : RM} {c e l a b L i n1 n2 : Nat} {s : SS} {m : M2} {xs : Nat → Int32} (hLw : XLw X b L xs) (hL : L ≤ 3072) (hi : i + 6 ≤ L) (hX : XR X 80 n1 n2) (hG : Geo T R c e) (hB : BS m c l s) (kk : ∀ (m' : M2) (s' : SS), BS m' c l s' → Wp X code RL 4 T (mk m' R) n1 n2 1109 [(0, .ref 1000), (1, .ref 0), (2, .ref 56), (3, .int (nI i))] []) : Wp X code RL 4 T (mk m R) n1 n2 1086 [(0, .ref 1000), (1, .ref 0), (2, .ref 56), (3, .int (nI i))] [] := by
  obtain ⟨v, m1, m2, s', e1, e2, hB'⟩ := tt_count hB (xs (i + 1))
  refine Wp.aload_n (pc := 1086) 1 rfl rfl dL_1086 ?_
  refine Wp.aload_n (pc := 1087) 0 rfl rfl dL_1087 ?_
  refine Wp.iload_n (pc := 1088) 3 rfl rfl dL_1088 ?_
  refine Wp.iconst (pc := 1089) (1 : Int32) (by decide) dL_1089 ?_
  refine Wp.iadd (pc := 1090) dL_1090 ?_
  refine Wp.sarg (pc := 1091) (k := 1) hLw rfl (by omega) hL dL_1091 ?_
  refine Wp.callVi (pc := 1092) (b := 0) (st := []) (as := [.int (xs (i + 1))]) (ci := 10) (c_X11_count hG e1) lml_147 lmv_X11_count lmb_X11_count hX (by decide) (by decide) rfl (hG.t 0 rfl) rfl (by decide) dL_1092 rfl ?_
  refine Wp.aload_n (pc := 1095) 2 rfl rfl dL_1095 ?_
  refine Wp.aload_n (pc := 1096) 0 rfl rfl dL_1096 ?_
  refine Wp.iload_n (pc := 1097) 3 rfl rfl dL_1097 ?_
  refine Wp.iconst (pc := 1098) (1 : Int32) (by decide) dL_1098 ?_
  refine Wp.iadd (pc := 1099) dL_1099 ?_
  refine Wp.sarg (pc := 1100) (k := 1) hLw rfl (by omega) hL dL_1100 ?_
  refine Wp.callVi (pc := 1101) (b := 56) (st := [.int v]) (as := [.int (xs (i + 1))]) (ci := 11) (c_X12_count hG e2) lml_150 lmv_X12_count lmb_X12_count hX (by decide) (by decide) rfl (hG.t 56 rfl) rfl (Nat.le_of_ble_eq_true rfl) dL_1101 rfl ?_
  refine Wp.icmp_eq (pc := 1104) 1109 dL_1104 (by decide) (fun _ => ?_) (fun q => absurd rfl q)
  exact kk _ _ hB'
