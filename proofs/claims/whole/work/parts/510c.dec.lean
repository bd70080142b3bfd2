/-! the law decoded -/
theorem dL_788 : decode code 788 = .ok (.iload_n 3, 1) := by decide +kernel
theorem dL_789 : decode code 789 = .ok (.iconst 1, 1) := by decide +kernel
theorem dL_790 : decode code 790 = .ok (.iadd, 1) := by decide +kernel
theorem dL_791 : decode code 791 = .ok (.iaload, 1) := by decide +kernel
theorem dL_792 : decode code 792 = .ok (.aload_n 0, 1) := by decide +kernel
theorem dL_793 : decode code 793 = .ok (.iload_n 3, 1) := by decide +kernel
theorem dL_794 : decode code 794 = .ok (.iconst 2, 1) := by decide +kernel
theorem dL_795 : decode code 795 = .ok (.iadd, 1) := by decide +kernel
theorem dL_796 : decode code 796 = .ok (.iaload, 1) := by decide +kernel
theorem dL_797 : decode code 797 = .ok (.invokevirtual 112, 3) := by decide +kernel
theorem dL_800 : decode code 800 = .ok (.if_icmp .eq 309, 3) := by decide +kernel
theorem dL_803 : decode code 803 = .ok (.iconst 0, 1) := by decide +kernel
theorem dL_804 : decode code 804 = .ok (.ireturn, 1) := by decide +kernel
theorem dL_805 : decode code 805 = .ok (.aload_n 1, 1) := by decide +kernel
theorem dL_806 : decode code 806 = .ok (.aload_n 0, 1) := by decide +kernel
theorem dL_807 : decode code 807 = .ok (.iload_n 3, 1) := by decide +kernel
theorem dL_808 : decode code 808 = .ok (.iconst 1, 1) := by decide +kernel
theorem dL_809 : decode code 809 = .ok (.iadd, 1) := by decide +kernel
theorem dL_810 : decode code 810 = .ok (.iaload, 1) := by decide +kernel
theorem dL_811 : decode code 811 = .ok (.aload_n 0, 1) := by decide +kernel
theorem dL_812 : decode code 812 = .ok (.iload_n 3, 1) := by decide +kernel
theorem dL_813 : decode code 813 = .ok (.iconst 2, 1) := by decide +kernel
theorem dL_814 : decode code 814 = .ok (.iadd, 1) := by decide +kernel
theorem dL_815 : decode code 815 = .ok (.iaload, 1) := by decide +kernel
theorem dL_816 : decode code 816 = .ok (.aload_n 0, 1) := by decide +kernel
theorem dL_817 : decode code 817 = .ok (.iload_n 3, 1) := by decide +kernel
theorem dL_818 : decode code 818 = .ok (.iconst 3, 1) := by decide +kernel
theorem dL_819 : decode code 819 = .ok (.iadd, 1) := by decide +kernel
theorem dL_820 : decode code 820 = .ok (.iaload, 1) := by decide +kernel
theorem dL_821 : decode code 821 = .ok (.invokevirtual 113, 3) := by decide +kernel
theorem dL_824 : decode code 824 = .ok (.aload_n 2, 1) := by decide +kernel
theorem dL_825 : decode code 825 = .ok (.aload_n 0, 1) := by decide +kernel
theorem dL_826 : decode code 826 = .ok (.iload_n 3, 1) := by decide +kernel
theorem dL_827 : decode code 827 = .ok (.iconst 1, 1) := by decide +kernel
theorem dL_828 : decode code 828 = .ok (.iadd, 1) := by decide +kernel
theorem dL_829 : decode code 829 = .ok (.iaload, 1) := by decide +kernel
theorem dL_830 : decode code 830 = .ok (.aload_n 0, 1) := by decide +kernel
theorem dL_831 : decode code 831 = .ok (.iload_n 3, 1) := by decide +kernel
theorem dL_832 : decode code 832 = .ok (.iconst 2, 1) := by decide +kernel
theorem dL_833 : decode code 833 = .ok (.iadd, 1) := by decide +kernel
theorem dL_834 : decode code 834 = .ok (.iaload, 1) := by decide +kernel
theorem dL_835 : decode code 835 = .ok (.aload_n 0, 1) := by decide +kernel
theorem dL_836 : decode code 836 = .ok (.iload_n 3, 1) := by decide +kernel
theorem dL_837 : decode code 837 = .ok (.iconst 3, 1) := by decide +kernel
theorem dL_838 : decode code 838 = .ok (.iadd, 1) := by decide +kernel
theorem dL_839 : decode code 839 = .ok (.iaload, 1) := by decide +kernel
theorem dL_840 : decode code 840 = .ok (.invokevirtual 117, 3) := by decide +kernel
theorem dL_843 : decode code 843 = .ok (.lcmp, 1) := by decide +kernel
theorem dL_844 : decode code 844 = .ok (.ifCond .eq 265, 3) := by decide +kernel
theorem dL_847 : decode code 847 = .ok (.iconst 0, 1) := by decide +kernel
theorem dL_848 : decode code 848 = .ok (.ireturn, 1) := by decide +kernel
theorem dL_849 : decode code 849 = .ok (.aload_n 1, 1) := by decide +kernel
theorem dL_850 : decode code 850 = .ok (.aload_n 0, 1) := by decide +kernel
theorem dL_851 : decode code 851 = .ok (.iload_n 3, 1) := by decide +kernel
theorem dL_852 : decode code 852 = .ok (.iconst 1, 1) := by decide +kernel
theorem dL_853 : decode code 853 = .ok (.iadd, 1) := by decide +kernel
theorem dL_854 : decode code 854 = .ok (.iaload, 1) := by decide +kernel
theorem dL_855 : decode code 855 = .ok (.aload_n 0, 1) := by decide +kernel
theorem dL_856 : decode code 856 = .ok (.iload_n 3, 1) := by decide +kernel
theorem dL_857 : decode code 857 = .ok (.iconst 2, 1) := by decide +kernel
theorem dL_858 : decode code 858 = .ok (.iadd, 1) := by decide +kernel
theorem dL_859 : decode code 859 = .ok (.iaload, 1) := by decide +kernel
theorem dL_860 : decode code 860 = .ok (.aload_n 0, 1) := by decide +kernel
theorem dL_861 : decode code 861 = .ok (.iload_n 3, 1) := by decide +kernel
theorem dL_862 : decode code 862 = .ok (.iconst 3, 1) := by decide +kernel
theorem dL_863 : decode code 863 = .ok (.iadd, 1) := by decide +kernel
theorem dL_864 : decode code 864 = .ok (.iaload, 1) := by decide +kernel
theorem dL_865 : decode code 865 = .ok (.ifCond .eq 7, 3) := by decide +kernel
theorem dL_868 : decode code 868 = .ok (.iconst 1, 1) := by decide +kernel
theorem dL_869 : decode code 869 = .ok (.goto 4, 3) := by decide +kernel
theorem dL_872 : decode code 872 = .ok (.iconst 0, 1) := by decide +kernel
theorem dL_873 : decode code 873 = .ok (.invokevirtual 118, 3) := by decide +kernel
theorem dL_876 : decode code 876 = .ok (.aload_n 2, 1) := by decide +kernel
theorem dL_877 : decode code 877 = .ok (.aload_n 0, 1) := by decide +kernel
theorem dL_878 : decode code 878 = .ok (.iload_n 3, 1) := by decide +kernel
theorem dL_879 : decode code 879 = .ok (.iconst 1, 1) := by decide +kernel
theorem dL_880 : decode code 880 = .ok (.iadd, 1) := by decide +kernel
theorem dL_881 : decode code 881 = .ok (.iaload, 1) := by decide +kernel
theorem dL_882 : decode code 882 = .ok (.aload_n 0, 1) := by decide +kernel
theorem dL_883 : decode code 883 = .ok (.iload_n 3, 1) := by decide +kernel
theorem dL_884 : decode code 884 = .ok (.iconst 2, 1) := by decide +kernel
theorem dL_885 : decode code 885 = .ok (.iadd, 1) := by decide +kernel
theorem dL_886 : decode code 886 = .ok (.iaload, 1) := by decide +kernel
theorem dL_887 : decode code 887 = .ok (.aload_n 0, 1) := by decide +kernel
theorem dL_888 : decode code 888 = .ok (.iload_n 3, 1) := by decide +kernel
theorem dL_889 : decode code 889 = .ok (.iconst 3, 1) := by decide +kernel
theorem dL_890 : decode code 890 = .ok (.iadd, 1) := by decide +kernel
theorem dL_891 : decode code 891 = .ok (.iaload, 1) := by decide +kernel
theorem dL_892 : decode code 892 = .ok (.ifCond .eq 7, 3) := by decide +kernel
theorem dL_895 : decode code 895 = .ok (.iconst 1, 1) := by decide +kernel
theorem dL_896 : decode code 896 = .ok (.goto 4, 3) := by decide +kernel
theorem dL_899 : decode code 899 = .ok (.iconst 0, 1) := by decide +kernel
theorem dL_900 : decode code 900 = .ok (.invokevirtual 122, 3) := by decide +kernel
theorem dL_903 : decode code 903 = .ok (.if_icmp .eq 206, 3) := by decide +kernel
theorem dL_906 : decode code 906 = .ok (.iconst 0, 1) := by decide +kernel
theorem dL_907 : decode code 907 = .ok (.ireturn, 1) := by decide +kernel
theorem dL_908 : decode code 908 = .ok (.aload_n 1, 1) := by decide +kernel
theorem dL_909 : decode code 909 = .ok (.invokevirtual 123, 3) := by decide +kernel
theorem dL_912 : decode code 912 = .ok (.aload_n 2, 1) := by decide +kernel
theorem dL_913 : decode code 913 = .ok (.invokevirtual 126, 3) := by decide +kernel
theorem dL_916 : decode code 916 = .ok (.if_icmp .eq 193, 3) := by decide +kernel
theorem dL_919 : decode code 919 = .ok (.iconst 0, 1) := by decide +kernel
theorem dL_920 : decode code 920 = .ok (.ireturn, 1) := by decide +kernel
theorem dL_921 : decode code 921 = .ok (.aload_n 1, 1) := by decide +kernel
theorem dL_922 : decode code 922 = .ok (.aload_n 0, 1) := by decide +kernel
theorem dL_923 : decode code 923 = .ok (.iload_n 3, 1) := by decide +kernel
theorem dL_924 : decode code 924 = .ok (.iconst 1, 1) := by decide +kernel
theorem dL_925 : decode code 925 = .ok (.iadd, 1) := by decide +kernel
theorem dL_926 : decode code 926 = .ok (.iaload, 1) := by decide +kernel
theorem dL_927 : decode code 927 = .ok (.aload_n 0, 1) := by decide +kernel
theorem dL_928 : decode code 928 = .ok (.iload_n 3, 1) := by decide +kernel
theorem dL_929 : decode code 929 = .ok (.iconst 2, 1) := by decide +kernel
theorem dL_930 : decode code 930 = .ok (.iadd, 1) := by decide +kernel
theorem dL_931 : decode code 931 = .ok (.iaload, 1) := by decide +kernel
theorem dL_932 : decode code 932 = .ok (.invokevirtual 127, 3) := by decide +kernel
theorem dL_935 : decode code 935 = .ok (.aload_n 2, 1) := by decide +kernel
theorem dL_936 : decode code 936 = .ok (.aload_n 0, 1) := by decide +kernel
theorem dL_937 : decode code 937 = .ok (.iload_n 3, 1) := by decide +kernel
theorem dL_938 : decode code 938 = .ok (.iconst 1, 1) := by decide +kernel
theorem dL_939 : decode code 939 = .ok (.iadd, 1) := by decide +kernel
theorem dL_940 : decode code 940 = .ok (.iaload, 1) := by decide +kernel
theorem dL_941 : decode code 941 = .ok (.aload_n 0, 1) := by decide +kernel
theorem dL_942 : decode code 942 = .ok (.iload_n 3, 1) := by decide +kernel
theorem dL_943 : decode code 943 = .ok (.iconst 2, 1) := by decide +kernel
theorem dL_944 : decode code 944 = .ok (.iadd, 1) := by decide +kernel
theorem dL_945 : decode code 945 = .ok (.iaload, 1) := by decide +kernel
theorem dL_946 : decode code 946 = .ok (.invokevirtual 130, 3) := by decide +kernel
theorem dL_949 : decode code 949 = .ok (.if_icmp .eq 160, 3) := by decide +kernel
theorem dL_952 : decode code 952 = .ok (.iconst 0, 1) := by decide +kernel
theorem dL_953 : decode code 953 = .ok (.ireturn, 1) := by decide +kernel
theorem dL_954 : decode code 954 = .ok (.aload_n 1, 1) := by decide +kernel
theorem dL_955 : decode code 955 = .ok (.aload_n 0, 1) := by decide +kernel
theorem dL_956 : decode code 956 = .ok (.iload_n 3, 1) := by decide +kernel
theorem dL_957 : decode code 957 = .ok (.iconst 1, 1) := by decide +kernel
theorem dL_958 : decode code 958 = .ok (.iadd, 1) := by decide +kernel
theorem dL_959 : decode code 959 = .ok (.iaload, 1) := by decide +kernel
theorem dL_960 : decode code 960 = .ok (.aload_n 0, 1) := by decide +kernel
theorem dL_961 : decode code 961 = .ok (.iload_n 3, 1) := by decide +kernel
theorem dL_962 : decode code 962 = .ok (.iconst 2, 1) := by decide +kernel
theorem dL_963 : decode code 963 = .ok (.iadd, 1) := by decide +kernel
theorem dL_964 : decode code 964 = .ok (.iaload, 1) := by decide +kernel
theorem dL_965 : decode code 965 = .ok (.aload_n 0, 1) := by decide +kernel
theorem dL_966 : decode code 966 = .ok (.iload_n 3, 1) := by decide +kernel
theorem dL_967 : decode code 967 = .ok (.iconst 3, 1) := by decide +kernel
theorem dL_968 : decode code 968 = .ok (.iadd, 1) := by decide +kernel
theorem dL_969 : decode code 969 = .ok (.iaload, 1) := by decide +kernel
theorem dL_970 : decode code 970 = .ok (.invokevirtual 131, 3) := by decide +kernel
theorem dL_973 : decode code 973 = .ok (.aload_n 2, 1) := by decide +kernel
theorem dL_974 : decode code 974 = .ok (.aload_n 0, 1) := by decide +kernel
theorem dL_975 : decode code 975 = .ok (.iload_n 3, 1) := by decide +kernel
theorem dL_976 : decode code 976 = .ok (.iconst 1, 1) := by decide +kernel
theorem dL_977 : decode code 977 = .ok (.iadd, 1) := by decide +kernel
theorem dL_978 : decode code 978 = .ok (.iaload, 1) := by decide +kernel
theorem dL_979 : decode code 979 = .ok (.aload_n 0, 1) := by decide +kernel
theorem dL_980 : decode code 980 = .ok (.iload_n 3, 1) := by decide +kernel
theorem dL_981 : decode code 981 = .ok (.iconst 2, 1) := by decide +kernel
theorem dL_982 : decode code 982 = .ok (.iadd, 1) := by decide +kernel
theorem dL_983 : decode code 983 = .ok (.iaload, 1) := by decide +kernel
theorem dL_984 : decode code 984 = .ok (.aload_n 0, 1) := by decide +kernel
theorem dL_985 : decode code 985 = .ok (.iload_n 3, 1) := by decide +kernel
theorem dL_986 : decode code 986 = .ok (.iconst 3, 1) := by decide +kernel
theorem dL_987 : decode code 987 = .ok (.iadd, 1) := by decide +kernel
theorem dL_988 : decode code 988 = .ok (.iaload, 1) := by decide +kernel
theorem dL_989 : decode code 989 = .ok (.invokevirtual 134, 3) := by decide +kernel
theorem dL_992 : decode code 992 = .ok (.if_icmp .eq 117, 3) := by decide +kernel
theorem dL_995 : decode code 995 = .ok (.iconst 0, 1) := by decide +kernel
theorem dL_996 : decode code 996 = .ok (.ireturn, 1) := by decide +kernel
theorem dL_997 : decode code 997 = .ok (.aload_n 1, 1) := by decide +kernel
theorem dL_998 : decode code 998 = .ok (.aload_n 0, 1) := by decide +kernel
theorem dL_999 : decode code 999 = .ok (.iload_n 3, 1) := by decide +kernel
theorem dL_1000 : decode code 1000 = .ok (.iconst 1, 1) := by decide +kernel
theorem dL_1001 : decode code 1001 = .ok (.iadd, 1) := by decide +kernel
theorem dL_1002 : decode code 1002 = .ok (.iaload, 1) := by decide +kernel
theorem dL_1003 : decode code 1003 = .ok (.aload_n 0, 1) := by decide +kernel
theorem dL_1004 : decode code 1004 = .ok (.iload_n 3, 1) := by decide +kernel
theorem dL_1005 : decode code 1005 = .ok (.iconst 2, 1) := by decide +kernel
theorem dL_1006 : decode code 1006 = .ok (.iadd, 1) := by decide +kernel
theorem dL_1007 : decode code 1007 = .ok (.iaload, 1) := by decide +kernel
theorem dL_1008 : decode code 1008 = .ok (.aload_n 0, 1) := by decide +kernel
theorem dL_1009 : decode code 1009 = .ok (.iload_n 3, 1) := by decide +kernel
theorem dL_1010 : decode code 1010 = .ok (.iconst 3, 1) := by decide +kernel
theorem dL_1011 : decode code 1011 = .ok (.iadd, 1) := by decide +kernel
theorem dL_1012 : decode code 1012 = .ok (.iaload, 1) := by decide +kernel
theorem dL_1013 : decode code 1013 = .ok (.invokevirtual 135, 3) := by decide +kernel
theorem dL_1016 : decode code 1016 = .ok (.aload_n 2, 1) := by decide +kernel
theorem dL_1017 : decode code 1017 = .ok (.aload_n 0, 1) := by decide +kernel
theorem dL_1018 : decode code 1018 = .ok (.iload_n 3, 1) := by decide +kernel
theorem dL_1019 : decode code 1019 = .ok (.iconst 1, 1) := by decide +kernel
theorem dL_1020 : decode code 1020 = .ok (.iadd, 1) := by decide +kernel
theorem dL_1021 : decode code 1021 = .ok (.iaload, 1) := by decide +kernel
theorem dL_1022 : decode code 1022 = .ok (.aload_n 0, 1) := by decide +kernel
theorem dL_1023 : decode code 1023 = .ok (.iload_n 3, 1) := by decide +kernel
theorem dL_1024 : decode code 1024 = .ok (.iconst 2, 1) := by decide +kernel
theorem dL_1025 : decode code 1025 = .ok (.iadd, 1) := by decide +kernel
theorem dL_1026 : decode code 1026 = .ok (.iaload, 1) := by decide +kernel
theorem dL_1027 : decode code 1027 = .ok (.aload_n 0, 1) := by decide +kernel
theorem dL_1028 : decode code 1028 = .ok (.iload_n 3, 1) := by decide +kernel
theorem dL_1029 : decode code 1029 = .ok (.iconst 3, 1) := by decide +kernel
theorem dL_1030 : decode code 1030 = .ok (.iadd, 1) := by decide +kernel
theorem dL_1031 : decode code 1031 = .ok (.iaload, 1) := by decide +kernel
theorem dL_1032 : decode code 1032 = .ok (.invokevirtual 138, 3) := by decide +kernel
theorem dL_1035 : decode code 1035 = .ok (.if_icmp .eq 74, 3) := by decide +kernel
theorem dL_1038 : decode code 1038 = .ok (.iconst 0, 1) := by decide +kernel
theorem dL_1039 : decode code 1039 = .ok (.ireturn, 1) := by decide +kernel
theorem dL_1040 : decode code 1040 = .ok (.aload_n 1, 1) := by decide +kernel
theorem dL_1041 : decode code 1041 = .ok (.aload_n 0, 1) := by decide +kernel
theorem dL_1042 : decode code 1042 = .ok (.iload_n 3, 1) := by decide +kernel
theorem dL_1043 : decode code 1043 = .ok (.iconst 1, 1) := by decide +kernel
theorem dL_1044 : decode code 1044 = .ok (.iadd, 1) := by decide +kernel
theorem dL_1045 : decode code 1045 = .ok (.iaload, 1) := by decide +kernel
theorem dL_1046 : decode code 1046 = .ok (.invokevirtual 139, 3) := by decide +kernel
theorem dL_1049 : decode code 1049 = .ok (.aload_n 2, 1) := by decide +kernel
theorem dL_1050 : decode code 1050 = .ok (.aload_n 0, 1) := by decide +kernel
theorem dL_1051 : decode code 1051 = .ok (.iload_n 3, 1) := by decide +kernel
theorem dL_1052 : decode code 1052 = .ok (.iconst 1, 1) := by decide +kernel
theorem dL_1053 : decode code 1053 = .ok (.iadd, 1) := by decide +kernel
theorem dL_1054 : decode code 1054 = .ok (.iaload, 1) := by decide +kernel
theorem dL_1055 : decode code 1055 = .ok (.invokevirtual 142, 3) := by decide +kernel
theorem dL_1058 : decode code 1058 = .ok (.if_icmp .eq 51, 3) := by decide +kernel
theorem dL_1061 : decode code 1061 = .ok (.iconst 0, 1) := by decide +kernel
theorem dL_1062 : decode code 1062 = .ok (.ireturn, 1) := by decide +kernel
theorem dL_1063 : decode code 1063 = .ok (.aload_n 1, 1) := by decide +kernel
theorem dL_1064 : decode code 1064 = .ok (.aload_n 0, 1) := by decide +kernel
theorem dL_1065 : decode code 1065 = .ok (.iload_n 3, 1) := by decide +kernel
theorem dL_1066 : decode code 1066 = .ok (.iconst 1, 1) := by decide +kernel
theorem dL_1067 : decode code 1067 = .ok (.iadd, 1) := by decide +kernel
theorem dL_1068 : decode code 1068 = .ok (.iaload, 1) := by decide +kernel
theorem dL_1069 : decode code 1069 = .ok (.invokevirtual 143, 3) := by decide +kernel
theorem dL_1072 : decode code 1072 = .ok (.aload_n 2, 1) := by decide +kernel
theorem dL_1073 : decode code 1073 = .ok (.aload_n 0, 1) := by decide +kernel
theorem dL_1074 : decode code 1074 = .ok (.iload_n 3, 1) := by decide +kernel
theorem dL_1075 : decode code 1075 = .ok (.iconst 1, 1) := by decide +kernel
theorem dL_1076 : decode code 1076 = .ok (.iadd, 1) := by decide +kernel
theorem dL_1077 : decode code 1077 = .ok (.iaload, 1) := by decide +kernel
theorem dL_1078 : decode code 1078 = .ok (.invokevirtual 146, 3) := by decide +kernel
theorem dL_1081 : decode code 1081 = .ok (.if_icmp .eq 28, 3) := by decide +kernel
theorem dL_1084 : decode code 1084 = .ok (.iconst 0, 1) := by decide +kernel
theorem dL_1085 : decode code 1085 = .ok (.ireturn, 1) := by decide +kernel
theorem dL_1086 : decode code 1086 = .ok (.aload_n 1, 1) := by decide +kernel
theorem dL_1087 : decode code 1087 = .ok (.aload_n 0, 1) := by decide +kernel
theorem dL_1088 : decode code 1088 = .ok (.iload_n 3, 1) := by decide +kernel
theorem dL_1089 : decode code 1089 = .ok (.iconst 1, 1) := by decide +kernel
theorem dL_1090 : decode code 1090 = .ok (.iadd, 1) := by decide +kernel
theorem dL_1091 : decode code 1091 = .ok (.iaload, 1) := by decide +kernel
theorem dL_1092 : decode code 1092 = .ok (.invokevirtual 147, 3) := by decide +kernel
theorem dL_1095 : decode code 1095 = .ok (.aload_n 2, 1) := by decide +kernel
theorem dL_1096 : decode code 1096 = .ok (.aload_n 0, 1) := by decide +kernel
theorem dL_1097 : decode code 1097 = .ok (.iload_n 3, 1) := by decide +kernel
theorem dL_1098 : decode code 1098 = .ok (.iconst 1, 1) := by decide +kernel
theorem dL_1099 : decode code 1099 = .ok (.iadd, 1) := by decide +kernel
