theorem dL_law_727 : decode cL_law 727 = .ok (.bipush 20, 2) := by decide +kernel
theorem dL_law_729 : decode cL_law 729 = .ok (.irem, 1) := by decide +kernel
theorem dL_law_730 : decode cL_law 730 = .ok (.aload_n 2, 1) := by decide +kernel
theorem dL_law_731 : decode cL_law 731 = .ok (.aload_n 3, 1) := by decide +kernel
theorem dL_law_732 : decode cL_law 732 = .ok (.aload 4, 2) := by decide +kernel
theorem dL_law_734 : decode cL_law 734 = .ok (.aload 5, 2) := by decide +kernel
theorem dL_law_736 : decode cL_law 736 = .ok (.invokestatic 183, 3) := by decide +kernel
theorem dL_law_739 : decode cL_law 739 = .ok (.ifCond .ne 6, 3) := by decide +kernel
theorem dL_law_742 : decode cL_law 742 = .ok (.goto 31, 3) := by decide +kernel
theorem dL_law_745 : decode cL_law 745 = .ok (.aload 10, 2) := by decide +kernel
theorem dL_law_747 : decode cL_law 747 = .ok (.aload_n 2, 1) := by decide +kernel
theorem dL_law_748 : decode cL_law 748 = .ok (.iconst 5, 1) := by decide +kernel
theorem dL_law_749 : decode cL_law 749 = .ok (.dup2, 1) := by decide +kernel
theorem dL_law_750 : decode cL_law 750 = .ok (.iaload, 1) := by decide +kernel
theorem dL_law_751 : decode cL_law 751 = .ok (.dup_x2, 1) := by decide +kernel
theorem dL_law_752 : decode cL_law 752 = .ok (.iconst 1, 1) := by decide +kernel
theorem dL_law_753 : decode cL_law 753 = .ok (.iadd, 1) := by decide +kernel
theorem dL_law_754 : decode cL_law 754 = .ok (.iastore, 1) := by decide +kernel
theorem dL_law_755 : decode cL_law 755 = .ok (.bipush 32, 2) := by decide +kernel
theorem dL_law_757 : decode cL_law 757 = .ok (.iload 32, 2) := by decide +kernel
theorem dL_law_759 : decode cL_law 759 = .ok (.imul, 1) := by decide +kernel
theorem dL_law_760 : decode cL_law 760 = .ok (.iload 31, 2) := by decide +kernel
theorem dL_law_762 : decode cL_law 762 = .ok (.bipush 20, 2) := by decide +kernel
theorem dL_law_764 : decode cL_law 764 = .ok (.irem, 1) := by decide +kernel
theorem dL_law_765 : decode cL_law 765 = .ok (.iadd, 1) := by decide +kernel
theorem dL_law_766 : decode cL_law 766 = .ok (.iastore, 1) := by decide +kernel
theorem dL_law_767 : decode cL_law 767 = .ok (.iinc 30 1, 3) := by decide +kernel
theorem dL_law_770 : decode cL_law 770 = .ok (.iconst (-1), 1) := by decide +kernel
theorem dL_law_771 : decode cL_law 771 = .ok (.istore 31, 2) := by decide +kernel
theorem dL_law_773 : decode cL_law 773 = .ok (.iinc 31 1, 3) := by decide +kernel
theorem dL_law_776 : decode cL_law 776 = .ok (.goto (-97), 3) := by decide +kernel
theorem dL_law_779 : decode cL_law 779 = .ok (.iload 29, 2) := by decide +kernel
theorem dL_law_781 : decode cL_law 781 = .ok (.iload 30, 2) := by decide +kernel
theorem dL_law_783 : decode cL_law 783 = .ok (.if_icmp .ne 24, 3) := by decide +kernel
theorem dL_law_786 : decode cL_law 786 = .ok (.aload_n 1, 1) := by decide +kernel
theorem dL_law_787 : decode cL_law 787 = .ok (.invokevirtual 176, 3) := by decide +kernel
theorem dL_law_790 : decode cL_law 790 = .ok (.ifCond .ne 17, 3) := by decide +kernel
theorem dL_law_793 : decode cL_law 793 = .ok (.aload_n 1, 1) := by decide +kernel
theorem dL_law_794 : decode cL_law 794 = .ok (.invokevirtual 111, 3) := by decide +kernel
theorem dL_law_797 : decode cL_law 797 = .ok (.aload_n 2, 1) := by decide +kernel
theorem dL_law_798 : decode cL_law 798 = .ok (.iconst 4, 1) := by decide +kernel
theorem dL_law_799 : decode cL_law 799 = .ok (.iaload, 1) := by decide +kernel
theorem dL_law_800 : decode cL_law 800 = .ok (.if_icmp .ne 7, 3) := by decide +kernel
theorem dL_law_803 : decode cL_law 803 = .ok (.iconst 1, 1) := by decide +kernel
theorem dL_law_804 : decode cL_law 804 = .ok (.goto 4, 3) := by decide +kernel
theorem dL_law_807 : decode cL_law 807 = .ok (.iconst 0, 1) := by decide +kernel
theorem dL_law_808 : decode cL_law 808 = .ok (.istore 19, 2) := by decide +kernel
theorem dL_law_810 : decode cL_law 810 = .ok (.goto 477, 3) := by decide +kernel
theorem dL_law_813 : decode cL_law 813 = .ok (.aload_n 1, 1) := by decide +kernel
theorem dL_law_814 : decode cL_law 814 = .ok (.invokestatic 187, 3) := by decide +kernel
theorem dL_law_817 : decode cL_law 817 = .ok (.aload_n 2, 1) := by decide +kernel
theorem dL_law_818 : decode cL_law 818 = .ok (.iconst 5, 1) := by decide +kernel
theorem dL_law_819 : decode cL_law 819 = .ok (.iaload, 1) := by decide +kernel
theorem dL_law_820 : decode cL_law 820 = .ok (.ifCond .ne 9, 3) := by decide +kernel
theorem dL_law_823 : decode cL_law 823 = .ok (.sipush (-7300), 3) := by decide +kernel
theorem dL_law_826 : decode cL_law 826 = .ok (.goto 8, 3) := by decide +kernel
theorem dL_law_829 : decode cL_law 829 = .ok (.aload_n 2, 1) := by decide +kernel
theorem dL_law_830 : decode cL_law 830 = .ok (.iconst 5, 1) := by decide +kernel
theorem dL_law_831 : decode cL_law 831 = .ok (.iaload, 1) := by decide +kernel
theorem dL_law_832 : decode cL_law 832 = .ok (.iconst 1, 1) := by decide +kernel
theorem dL_law_833 : decode cL_law 833 = .ok (.isub, 1) := by decide +kernel
theorem dL_law_834 : decode cL_law 834 = .ok (.if_icmp .ne 7, 3) := by decide +kernel
theorem dL_law_837 : decode cL_law 837 = .ok (.iconst 1, 1) := by decide +kernel
theorem dL_law_838 : decode cL_law 838 = .ok (.goto 4, 3) := by decide +kernel
theorem dL_law_841 : decode cL_law 841 = .ok (.iconst 0, 1) := by decide +kernel
theorem dL_law_842 : decode cL_law 842 = .ok (.istore 19, 2) := by decide +kernel
theorem dL_law_844 : decode cL_law 844 = .ok (.aload_n 2, 1) := by decide +kernel
theorem dL_law_845 : decode cL_law 845 = .ok (.iconst 5, 1) := by decide +kernel
theorem dL_law_846 : decode cL_law 846 = .ok (.iaload, 1) := by decide +kernel
theorem dL_law_847 : decode cL_law 847 = .ok (.ifCond .ne 6, 3) := by decide +kernel
theorem dL_law_850 : decode cL_law 850 = .ok (.goto 437, 3) := by decide +kernel
theorem dL_law_853 : decode cL_law 853 = .ok (.aload_n 2, 1) := by decide +kernel
theorem dL_law_854 : decode cL_law 854 = .ok (.iconst 5, 1) := by decide +kernel
theorem dL_law_855 : decode cL_law 855 = .ok (.iaload, 1) := by decide +kernel
theorem dL_law_856 : decode cL_law 856 = .ok (.iconst 1, 1) := by decide +kernel
theorem dL_law_857 : decode cL_law 857 = .ok (.isub, 1) := by decide +kernel
theorem dL_law_858 : decode cL_law 858 = .ok (.istore 31, 2) := by decide +kernel
theorem dL_law_860 : decode cL_law 860 = .ok (.aload 6, 2) := by decide +kernel
theorem dL_law_862 : decode cL_law 862 = .ok (.aload_n 2, 1) := by decide +kernel
theorem dL_law_863 : decode cL_law 863 = .ok (.invokestatic 190, 3) := by decide +kernel
theorem dL_law_866 : decode cL_law 866 = .ok (.aload 7, 2) := by decide +kernel
theorem dL_law_868 : decode cL_law 868 = .ok (.aload_n 3, 1) := by decide +kernel
theorem dL_law_869 : decode cL_law 869 = .ok (.invokestatic 190, 3) := by decide +kernel
theorem dL_law_872 : decode cL_law 872 = .ok (.aload 8, 2) := by decide +kernel
theorem dL_law_874 : decode cL_law 874 = .ok (.aload 4, 2) := by decide +kernel
theorem dL_law_876 : decode cL_law 876 = .ok (.invokestatic 190, 3) := by decide +kernel
theorem dL_law_879 : decode cL_law 879 = .ok (.aload 9, 2) := by decide +kernel
theorem dL_law_881 : decode cL_law 881 = .ok (.aload 5, 2) := by decide +kernel
theorem dL_law_883 : decode cL_law 883 = .ok (.invokestatic 190, 3) := by decide +kernel
theorem dL_law_886 : decode cL_law 886 = .ok (.iconst 0, 1) := by decide +kernel
theorem dL_law_887 : decode cL_law 887 = .ok (.istore 32, 2) := by decide +kernel
theorem dL_law_889 : decode cL_law 889 = .ok (.iload 32, 2) := by decide +kernel
theorem dL_law_891 : decode cL_law 891 = .ok (.iload 31, 2) := by decide +kernel
theorem dL_law_893 : decode cL_law 893 = .ok (.if_icmp .ge 39, 3) := by decide +kernel
theorem dL_law_896 : decode cL_law 896 = .ok (.iload 19, 2) := by decide +kernel
theorem dL_law_898 : decode cL_law 898 = .ok (.aload 10, 2) := by decide +kernel
theorem dL_law_900 : decode cL_law 900 = .ok (.iload 32, 2) := by decide +kernel
theorem dL_law_902 : decode cL_law 902 = .ok (.iaload, 1) := by decide +kernel
theorem dL_law_903 : decode cL_law 903 = .ok (.bipush 32, 2) := by decide +kernel
theorem dL_law_905 : decode cL_law 905 = .ok (.idiv, 1) := by decide +kernel
theorem dL_law_906 : decode cL_law 906 = .ok (.aload 10, 2) := by decide +kernel
theorem dL_law_908 : decode cL_law 908 = .ok (.iload 32, 2) := by decide +kernel
theorem dL_law_910 : decode cL_law 910 = .ok (.iaload, 1) := by decide +kernel
theorem dL_law_911 : decode cL_law 911 = .ok (.bipush 32, 2) := by decide +kernel
theorem dL_law_913 : decode cL_law 913 = .ok (.irem, 1) := by decide +kernel
theorem dL_law_914 : decode cL_law 914 = .ok (.aload_n 2, 1) := by decide +kernel
theorem dL_law_915 : decode cL_law 915 = .ok (.aload_n 3, 1) := by decide +kernel
theorem dL_law_916 : decode cL_law 916 = .ok (.aload 4, 2) := by decide +kernel
theorem dL_law_918 : decode cL_law 918 = .ok (.aload 5, 2) := by decide +kernel
theorem dL_law_920 : decode cL_law 920 = .ok (.invokestatic 183, 3) := by decide +kernel
theorem dL_law_923 : decode cL_law 923 = .ok (.iand, 1) := by decide +kernel
theorem dL_law_924 : decode cL_law 924 = .ok (.istore 19, 2) := by decide +kernel
theorem dL_law_926 : decode cL_law 926 = .ok (.iinc 32 1, 3) := by decide +kernel
theorem dL_law_929 : decode cL_law 929 = .ok (.goto (-40), 3) := by decide +kernel
theorem dL_law_932 : decode cL_law 932 = .ok (.aload_n 2, 1) := by decide +kernel
theorem dL_law_933 : decode cL_law 933 = .ok (.iconst 5, 1) := by decide +kernel
theorem dL_law_934 : decode cL_law 934 = .ok (.iload 31, 2) := by decide +kernel
theorem dL_law_936 : decode cL_law 936 = .ok (.iastore, 1) := by decide +kernel
theorem dL_law_937 : decode cL_law 937 = .ok (.goto 350, 3) := by decide +kernel
theorem dL_law_940 : decode cL_law 940 = .ok (.aload_n 1, 1) := by decide +kernel
theorem dL_law_941 : decode cL_law 941 = .ok (.invokevirtual 194, 3) := by decide +kernel
theorem dL_law_944 : decode cL_law 944 = .ok (.aload_n 2, 1) := by decide +kernel
theorem dL_law_945 : decode cL_law 945 = .ok (.iconst 1, 1) := by decide +kernel
theorem dL_law_946 : decode cL_law 946 = .ok (.iaload, 1) := by decide +kernel
theorem dL_law_947 : decode cL_law 947 = .ok (.aload_n 2, 1) := by decide +kernel
theorem dL_law_948 : decode cL_law 948 = .ok (.iconst 2, 1) := by decide +kernel
theorem dL_law_949 : decode cL_law 949 = .ok (.iaload, 1) := by decide +kernel
theorem dL_law_950 : decode cL_law 950 = .ok (.iand, 1) := by decide +kernel
theorem dL_law_951 : decode cL_law 951 = .ok (.sipush 128, 3) := by decide +kernel
theorem dL_law_954 : decode cL_law 954 = .ok (.ior, 1) := by decide +kernel
theorem dL_law_955 : decode cL_law 955 = .ok (.istore 14, 2) := by decide +kernel
theorem dL_law_957 : decode cL_law 957 = .ok (.aload_n 2, 1) := by decide +kernel
theorem dL_law_958 : decode cL_law 958 = .ok (.aload_n 3, 1) := by decide +kernel
theorem dL_law_959 : decode cL_law 959 = .ok (.aload 4, 2) := by decide +kernel
theorem dL_law_961 : decode cL_law 961 = .ok (.aload 5, 2) := by decide +kernel
theorem dL_law_963 : decode cL_law 963 = .ok (.invokestatic 85, 3) := by decide +kernel
theorem dL_law_966 : decode cL_law 966 = .ok (.lstore 32, 2) := by decide +kernel
theorem dL_law_968 : decode cL_law 968 = .ok (.iconst 0, 1) := by decide +kernel
theorem dL_law_969 : decode cL_law 969 = .ok (.istore 34, 2) := by decide +kernel
theorem dL_law_971 : decode cL_law 971 = .ok (.iload 34, 2) := by decide +kernel
theorem dL_law_973 : decode cL_law 973 = .ok (.bipush 7, 2) := by decide +kernel
theorem dL_law_975 : decode cL_law 975 = .ok (.if_icmp .ge 126, 3) := by decide +kernel
theorem dL_law_978 : decode cL_law 978 = .ok (.iconst 0, 1) := by decide +kernel
theorem dL_law_979 : decode cL_law 979 = .ok (.istore 35, 2) := by decide +kernel
theorem dL_law_981 : decode cL_law 981 = .ok (.iload 35, 2) := by decide +kernel
theorem dL_law_983 : decode cL_law 983 = .ok (.iload 34, 2) := by decide +kernel
theorem dL_law_985 : decode cL_law 985 = .ok (.if_icmp .ge 110, 3) := by decide +kernel
theorem dL_law_988 : decode cL_law 988 = .ok (.iload 14, 2) := by decide +kernel
theorem dL_law_990 : decode cL_law 990 = .ok (.iload 34, 2) := by decide +kernel
theorem dL_law_992 : decode cL_law 992 = .ok (.ishr, 1) := by decide +kernel
theorem dL_law_993 : decode cL_law 993 = .ok (.iconst 1, 1) := by decide +kernel
theorem dL_law_994 : decode cL_law 994 = .ok (.iand, 1) := by decide +kernel
theorem dL_law_995 : decode cL_law 995 = .ok (.ifCond .eq 94, 3) := by decide +kernel
theorem dL_law_998 : decode cL_law 998 = .ok (.iload 14, 2) := by decide +kernel
theorem dL_law_1000 : decode cL_law 1000 = .ok (.iload 35, 2) := by decide +kernel
theorem dL_law_1002 : decode cL_law 1002 = .ok (.ishr, 1) := by decide +kernel
theorem dL_law_1003 : decode cL_law 1003 = .ok (.iconst 1, 1) := by decide +kernel
theorem dL_law_1004 : decode cL_law 1004 = .ok (.iand, 1) := by decide +kernel
theorem dL_law_1005 : decode cL_law 1005 = .ok (.ifCond .ne 6, 3) := by decide +kernel
theorem dL_law_1008 : decode cL_law 1008 = .ok (.goto 81, 3) := by decide +kernel
theorem dL_law_1011 : decode cL_law 1011 = .ok (.iload 34, 2) := by decide +kernel
theorem dL_law_1013 : decode cL_law 1013 = .ok (.iload 35, 2) := by decide +kernel
theorem dL_law_1015 : decode cL_law 1015 = .ok (.aload_n 2, 1) := by decide +kernel
theorem dL_law_1016 : decode cL_law 1016 = .ok (.aload_n 3, 1) := by decide +kernel
theorem dL_law_1017 : decode cL_law 1017 = .ok (.aload 4, 2) := by decide +kernel
theorem dL_law_1019 : decode cL_law 1019 = .ok (.aload 5, 2) := by decide +kernel
theorem dL_law_1021 : decode cL_law 1021 = .ok (.invokestatic 132, 3) := by decide +kernel
theorem dL_law_1024 : decode cL_law 1024 = .ok (.lstore 36, 2) := by decide +kernel
theorem dL_law_1026 : decode cL_law 1026 = .ok (.lload 32, 2) := by decide +kernel
theorem dL_law_1028 : decode cL_law 1028 = .ok (.lconst 0, 1) := by decide +kernel
theorem dL_law_1029 : decode cL_law 1029 = .ok (.lcmp, 1) := by decide +kernel
theorem dL_law_1030 : decode cL_law 1030 = .ok (.ifCond .ne 7, 3) := by decide +kernel
theorem dL_law_1033 : decode cL_law 1033 = .ok (.lconst 1, 1) := by decide +kernel
theorem dL_law_1034 : decode cL_law 1034 = .ok (.goto 10, 3) := by decide +kernel
theorem dL_law_1037 : decode cL_law 1037 = .ok (.lload 36, 2) := by decide +kernel
theorem dL_law_1039 : decode cL_law 1039 = .ok (.lload 32, 2) := by decide +kernel
theorem dL_law_1041 : decode cL_law 1041 = .ok (.invokestatic 89, 3) := by decide +kernel
theorem dL_law_1044 : decode cL_law 1044 = .ok (.lstore 38, 2) := by decide +kernel
theorem dL_law_1046 : decode cL_law 1046 = .ok (.aload 12, 2) := by decide +kernel
theorem dL_law_1048 : decode cL_law 1048 = .ok (.bipush 7, 2) := by decide +kernel
theorem dL_law_1050 : decode cL_law 1050 = .ok (.iload 34, 2) := by decide +kernel
theorem dL_law_1052 : decode cL_law 1052 = .ok (.imul, 1) := by decide +kernel
theorem dL_law_1053 : decode cL_law 1053 = .ok (.iload 35, 2) := by decide +kernel
theorem dL_law_1055 : decode cL_law 1055 = .ok (.iadd, 1) := by decide +kernel
theorem dL_law_1056 : decode cL_law 1056 = .ok (.lload 32, 2) := by decide +kernel
theorem dL_law_1058 : decode cL_law 1058 = .ok (.lconst 0, 1) := by decide +kernel
theorem dL_law_1059 : decode cL_law 1059 = .ok (.lcmp, 1) := by decide +kernel
theorem dL_law_1060 : decode cL_law 1060 = .ok (.ifCond .ne 7, 3) := by decide +kernel
theorem dL_law_1063 : decode cL_law 1063 = .ok (.lconst 0, 1) := by decide +kernel
theorem dL_law_1064 : decode cL_law 1064 = .ok (.goto 8, 3) := by decide +kernel
theorem dL_law_1067 : decode cL_law 1067 = .ok (.lload 36, 2) := by decide +kernel
theorem dL_law_1069 : decode cL_law 1069 = .ok (.lload 38, 2) := by decide +kernel
theorem dL_law_1071 : decode cL_law 1071 = .ok (.ldiv, 1) := by decide +kernel
theorem dL_law_1072 : decode cL_law 1072 = .ok (.lastore, 1) := by decide +kernel
theorem dL_law_1073 : decode cL_law 1073 = .ok (.aload 13, 2) := by decide +kernel
theorem dL_law_1075 : decode cL_law 1075 = .ok (.bipush 7, 2) := by decide +kernel
theorem dL_law_1077 : decode cL_law 1077 = .ok (.iload 34, 2) := by decide +kernel
theorem dL_law_1079 : decode cL_law 1079 = .ok (.imul, 1) := by decide +kernel
theorem dL_law_1080 : decode cL_law 1080 = .ok (.iload 35, 2) := by decide +kernel
theorem dL_law_1082 : decode cL_law 1082 = .ok (.iadd, 1) := by decide +kernel
theorem dL_law_1083 : decode cL_law 1083 = .ok (.lload 32, 2) := by decide +kernel
theorem dL_law_1085 : decode cL_law 1085 = .ok (.lload 38, 2) := by decide +kernel
theorem dL_law_1087 : decode cL_law 1087 = .ok (.ldiv, 1) := by decide +kernel
theorem dL_law_1088 : decode cL_law 1088 = .ok (.lastore, 1) := by decide +kernel
theorem dL_law_1089 : decode cL_law 1089 = .ok (.iinc 35 1, 3) := by decide +kernel
theorem dL_law_1092 : decode cL_law 1092 = .ok (.goto (-111), 3) := by decide +kernel
theorem dL_law_1095 : decode cL_law 1095 = .ok (.iinc 34 1, 3) := by decide +kernel
theorem dL_law_1098 : decode cL_law 1098 = .ok (.goto (-127), 3) := by decide +kernel
theorem dL_law_1101 : decode cL_law 1101 = .ok (.goto 186, 3) := by decide +kernel
theorem dL_law_1104 : decode cL_law 1104 = .ok (.iload 17, 2) := by decide +kernel
theorem dL_law_1106 : decode cL_law 1106 = .ok (.bipush 6, 2) := by decide +kernel
theorem dL_law_1108 : decode cL_law 1108 = .ok (.invokestatic 123, 3) := by decide +kernel
theorem dL_law_1111 : decode cL_law 1111 = .ok (.istore 18, 2) := by decide +kernel
theorem dL_law_1113 : decode cL_law 1113 = .ok (.iconst 0, 1) := by decide +kernel
theorem dL_law_1114 : decode cL_law 1114 = .ok (.istore 34, 2) := by decide +kernel
theorem dL_law_1116 : decode cL_law 1116 = .ok (.iconst 0, 1) := by decide +kernel
theorem dL_law_1117 : decode cL_law 1117 = .ok (.istore 35, 2) := by decide +kernel
theorem dL_law_1119 : decode cL_law 1119 = .ok (.iload 35, 2) := by decide +kernel
theorem dL_law_1121 : decode cL_law 1121 = .ok (.bipush 20, 2) := by decide +kernel
theorem dL_law_1123 : decode cL_law 1123 = .ok (.if_icmp .ge 164, 3) := by decide +kernel
theorem dL_law_1126 : decode cL_law 1126 = .ok (.iload 34, 2) := by decide +kernel
theorem dL_law_1128 : decode cL_law 1128 = .ok (.ifCond .ne 159, 3) := by decide +kernel
theorem dL_law_1131 : decode cL_law 1131 = .ok (.iload 35, 2) := by decide +kernel
theorem dL_law_1133 : decode cL_law 1133 = .ok (.iload 17, 2) := by decide +kernel
theorem dL_law_1135 : decode cL_law 1135 = .ok (.iconst 4, 1) := by decide +kernel
theorem dL_law_1136 : decode cL_law 1136 = .ok (.ishr, 1) := by decide +kernel
theorem dL_law_1137 : decode cL_law 1137 = .ok (.bipush 20, 2) := by decide +kernel
theorem dL_law_1139 : decode cL_law 1139 = .ok (.invokestatic 123, 3) := by decide +kernel
theorem dL_law_1142 : decode cL_law 1142 = .ok (.iadd, 1) := by decide +kernel
theorem dL_law_1143 : decode cL_law 1143 = .ok (.bipush 20, 2) := by decide +kernel
theorem dL_law_1145 : decode cL_law 1145 = .ok (.irem, 1) := by decide +kernel
theorem dL_law_1146 : decode cL_law 1146 = .ok (.istore 36, 2) := by decide +kernel
theorem dL_law_1148 : decode cL_law 1148 = .ok (.iload 18, 2) := by decide +kernel
theorem dL_law_1150 : decode cL_law 1150 = .ok (.iload 36, 2) := by decide +kernel
theorem dL_law_1152 : decode cL_law 1152 = .ok (.aload_n 2, 1) := by decide +kernel
theorem dL_law_1153 : decode cL_law 1153 = .ok (.invokestatic 179, 3) := by decide +kernel
theorem dL_law_1156 : decode cL_law 1156 = .ok (.ifCond .eq 26, 3) := by decide +kernel
theorem dL_law_1159 : decode cL_law 1159 = .ok (.iload 18, 2) := by decide +kernel
theorem dL_law_1161 : decode cL_law 1161 = .ok (.iconst 2, 1) := by decide +kernel
theorem dL_law_1162 : decode cL_law 1162 = .ok (.if_icmp .lt 16, 3) := by decide +kernel
theorem dL_law_1165 : decode cL_law 1165 = .ok (.iload 18, 2) := by decide +kernel
theorem dL_law_1167 : decode cL_law 1167 = .ok (.iconst 5, 1) := by decide +kernel
theorem dL_law_1168 : decode cL_law 1168 = .ok (.if_icmp .eq 10, 3) := by decide +kernel
theorem dL_law_1171 : decode cL_law 1171 = .ok (.iload 36, 2) := by decide +kernel
theorem dL_law_1173 : decode cL_law 1173 = .ok (.bipush 7, 2) := by decide +kernel
theorem dL_law_1175 : decode cL_law 1175 = .ok (.if_icmp .ge 7, 3) := by decide +kernel
theorem dL_law_1178 : decode cL_law 1178 = .ok (.iconst 1, 1) := by decide +kernel
theorem dL_law_1179 : decode cL_law 1179 = .ok (.goto 4, 3) := by decide +kernel
theorem dL_law_1182 : decode cL_law 1182 = .ok (.iconst 0, 1) := by decide +kernel
theorem dL_law_1183 : decode cL_law 1183 = .ok (.istore 37, 2) := by decide +kernel
theorem dL_law_1185 : decode cL_law 1185 = .ok (.iload 37, 2) := by decide +kernel
theorem dL_law_1187 : decode cL_law 1187 = .ok (.ifCond .eq 23, 3) := by decide +kernel
theorem dL_law_1190 : decode cL_law 1190 = .ok (.iload 18, 2) := by decide +kernel
theorem dL_law_1192 : decode cL_law 1192 = .ok (.iload 36, 2) := by decide +kernel
theorem dL_law_1194 : decode cL_law 1194 = .ok (.aload_n 2, 1) := by decide +kernel
theorem dL_law_1195 : decode cL_law 1195 = .ok (.aload_n 3, 1) := by decide +kernel
theorem dL_law_1196 : decode cL_law 1196 = .ok (.aload 4, 2) := by decide +kernel
theorem dL_law_1198 : decode cL_law 1198 = .ok (.aload 5, 2) := by decide +kernel
theorem dL_law_1200 : decode cL_law 1200 = .ok (.invokestatic 183, 3) := by decide +kernel
theorem dL_law_1203 : decode cL_law 1203 = .ok (.ifCond .eq 7, 3) := by decide +kernel
theorem dL_law_1206 : decode cL_law 1206 = .ok (.iconst 1, 1) := by decide +kernel
theorem dL_law_1207 : decode cL_law 1207 = .ok (.goto 4, 3) := by decide +kernel
theorem dL_law_1210 : decode cL_law 1210 = .ok (.iconst 0, 1) := by decide +kernel
theorem dL_law_1211 : decode cL_law 1211 = .ok (.istore 34, 2) := by decide +kernel
theorem dL_law_1213 : decode cL_law 1213 = .ok (.iload 19, 2) := by decide +kernel
theorem dL_law_1215 : decode cL_law 1215 = .ok (.aload_n 1, 1) := by decide +kernel
theorem dL_law_1216 : decode cL_law 1216 = .ok (.iload 18, 2) := by decide +kernel
theorem dL_law_1218 : decode cL_law 1218 = .ok (.iload 36, 2) := by decide +kernel
theorem dL_law_1220 : decode cL_law 1220 = .ok (.invokestatic 197, 3) := by decide +kernel
theorem dL_law_1223 : decode cL_law 1223 = .ok (.iload 37, 2) := by decide +kernel
theorem dL_law_1225 : decode cL_law 1225 = .ok (.ifCond .ne 9, 3) := by decide +kernel
theorem dL_law_1228 : decode cL_law 1228 = .ok (.sipush (-7100), 3) := by decide +kernel
theorem dL_law_1231 : decode cL_law 1231 = .ok (.goto 15, 3) := by decide +kernel
theorem dL_law_1234 : decode cL_law 1234 = .ok (.iload 34, 2) := by decide +kernel
theorem dL_law_1236 : decode cL_law 1236 = .ok (.ifCond .eq 7, 3) := by decide +kernel
theorem dL_law_1239 : decode cL_law 1239 = .ok (.iconst 0, 1) := by decide +kernel
theorem dL_law_1240 : decode cL_law 1240 = .ok (.goto 6, 3) := by decide +kernel
theorem dL_law_1243 : decode cL_law 1243 = .ok (.sipush (-7300), 3) := by decide +kernel
theorem dL_law_1246 : decode cL_law 1246 = .ok (.if_icmp .ne 7, 3) := by decide +kernel
theorem dL_law_1249 : decode cL_law 1249 = .ok (.iconst 1, 1) := by decide +kernel
theorem dL_law_1250 : decode cL_law 1250 = .ok (.goto 4, 3) := by decide +kernel
theorem dL_law_1253 : decode cL_law 1253 = .ok (.iconst 0, 1) := by decide +kernel
theorem dL_law_1254 : decode cL_law 1254 = .ok (.iand, 1) := by decide +kernel
theorem dL_law_1255 : decode cL_law 1255 = .ok (.istore 19, 2) := by decide +kernel
theorem dL_law_1257 : decode cL_law 1257 = .ok (.iload 34, 2) := by decide +kernel
theorem dL_law_1259 : decode cL_law 1259 = .ok (.ifCond .eq 22, 3) := by decide +kernel
theorem dL_law_1262 : decode cL_law 1262 = .ok (.aload 10, 2) := by decide +kernel
theorem dL_law_1264 : decode cL_law 1264 = .ok (.aload_n 2, 1) := by decide +kernel
theorem dL_law_1265 : decode cL_law 1265 = .ok (.iconst 5, 1) := by decide +kernel
theorem dL_law_1266 : decode cL_law 1266 = .ok (.dup2, 1) := by decide +kernel
theorem dL_law_1267 : decode cL_law 1267 = .ok (.iaload, 1) := by decide +kernel
theorem dL_law_1268 : decode cL_law 1268 = .ok (.dup_x2, 1) := by decide +kernel
theorem dL_law_1269 : decode cL_law 1269 = .ok (.iconst 1, 1) := by decide +kernel
theorem dL_law_1270 : decode cL_law 1270 = .ok (.iadd, 1) := by decide +kernel
theorem dL_law_1271 : decode cL_law 1271 = .ok (.iastore, 1) := by decide +kernel
theorem dL_law_1272 : decode cL_law 1272 = .ok (.bipush 32, 2) := by decide +kernel
theorem dL_law_1274 : decode cL_law 1274 = .ok (.iload 18, 2) := by decide +kernel
theorem dL_law_1276 : decode cL_law 1276 = .ok (.imul, 1) := by decide +kernel
theorem dL_law_1277 : decode cL_law 1277 = .ok (.iload 36, 2) := by decide +kernel
theorem dL_law_1279 : decode cL_law 1279 = .ok (.iadd, 1) := by decide +kernel
theorem dL_law_1280 : decode cL_law 1280 = .ok (.iastore, 1) := by decide +kernel
theorem dL_law_1281 : decode cL_law 1281 = .ok (.iinc 35 1, 3) := by decide +kernel
theorem dL_law_1284 : decode cL_law 1284 = .ok (.goto (-165), 3) := by decide +kernel
theorem dL_law_1287 : decode cL_law 1287 = .ok (.aload_n 2, 1) := by decide +kernel
theorem dL_law_1288 : decode cL_law 1288 = .ok (.iconst 5, 1) := by decide +kernel
theorem dL_law_1289 : decode cL_law 1289 = .ok (.iaload, 1) := by decide +kernel
theorem dL_law_1290 : decode cL_law 1290 = .ok (.ifCond .ne 29, 3) := by decide +kernel
theorem dL_law_1293 : decode cL_law 1293 = .ok (.aload_n 2, 1) := by decide +kernel
theorem dL_law_1294 : decode cL_law 1294 = .ok (.aload 6, 2) := by decide +kernel
theorem dL_law_1296 : decode cL_law 1296 = .ok (.invokestatic 190, 3) := by decide +kernel
theorem dL_law_1299 : decode cL_law 1299 = .ok (.aload_n 3, 1) := by decide +kernel
theorem dL_law_1300 : decode cL_law 1300 = .ok (.aload 7, 2) := by decide +kernel
theorem dL_law_1302 : decode cL_law 1302 = .ok (.invokestatic 190, 3) := by decide +kernel
theorem dL_law_1305 : decode cL_law 1305 = .ok (.aload 4, 2) := by decide +kernel
theorem dL_law_1307 : decode cL_law 1307 = .ok (.aload 8, 2) := by decide +kernel
theorem dL_law_1309 : decode cL_law 1309 = .ok (.invokestatic 190, 3) := by decide +kernel
theorem dL_law_1312 : decode cL_law 1312 = .ok (.aload 5, 2) := by decide +kernel
theorem dL_law_1314 : decode cL_law 1314 = .ok (.aload 9, 2) := by decide +kernel
theorem dL_law_1316 : decode cL_law 1316 = .ok (.invokestatic 190, 3) := by decide +kernel
theorem dL_law_1319 : decode cL_law 1319 = .ok (.iconst 1, 1) := by decide +kernel
theorem dL_law_1320 : decode cL_law 1320 = .ok (.istore 20, 2) := by decide +kernel
theorem dL_law_1322 : decode cL_law 1322 = .ok (.aload_n 2, 1) := by decide +kernel
theorem dL_law_1323 : decode cL_law 1323 = .ok (.aload_n 3, 1) := by decide +kernel
theorem dL_law_1324 : decode cL_law 1324 = .ok (.aload 4, 2) := by decide +kernel
theorem dL_law_1326 : decode cL_law 1326 = .ok (.aload 5, 2) := by decide +kernel
theorem dL_law_1328 : decode cL_law 1328 = .ok (.invokestatic 85, 3) := by decide +kernel
theorem dL_law_1331 : decode cL_law 1331 = .ok (.lstore 21, 2) := by decide +kernel
theorem dL_law_1333 : decode cL_law 1333 = .ok (.iconst 0, 1) := by decide +kernel
theorem dL_law_1334 : decode cL_law 1334 = .ok (.istore 23, 2) := by decide +kernel
theorem dL_law_1336 : decode cL_law 1336 = .ok (.iload 23, 2) := by decide +kernel
theorem dL_law_1338 : decode cL_law 1338 = .ok (.bipush 7, 2) := by decide +kernel
theorem dL_law_1340 : decode cL_law 1340 = .ok (.if_icmp .ge 97, 3) := by decide +kernel
theorem dL_law_1343 : decode cL_law 1343 = .ok (.iload 14, 2) := by decide +kernel
theorem dL_law_1345 : decode cL_law 1345 = .ok (.ifCond .le 92, 3) := by decide +kernel
theorem dL_law_1348 : decode cL_law 1348 = .ok (.iconst 0, 1) := by decide +kernel
theorem dL_law_1349 : decode cL_law 1349 = .ok (.istore 24, 2) := by decide +kernel
theorem dL_law_1351 : decode cL_law 1351 = .ok (.iload 24, 2) := by decide +kernel
theorem dL_law_1353 : decode cL_law 1353 = .ok (.iload 23, 2) := by decide +kernel
theorem dL_law_1355 : decode cL_law 1355 = .ok (.if_icmp .ge 76, 3) := by decide +kernel
theorem dL_law_1358 : decode cL_law 1358 = .ok (.iload 14, 2) := by decide +kernel
theorem dL_law_1360 : decode cL_law 1360 = .ok (.iload 23, 2) := by decide +kernel
theorem dL_law_1362 : decode cL_law 1362 = .ok (.ishr, 1) := by decide +kernel
theorem dL_law_1363 : decode cL_law 1363 = .ok (.iconst 1, 1) := by decide +kernel
theorem dL_law_1364 : decode cL_law 1364 = .ok (.iand, 1) := by decide +kernel
theorem dL_law_1365 : decode cL_law 1365 = .ok (.iconst 1, 1) := by decide +kernel
theorem dL_law_1366 : decode cL_law 1366 = .ok (.if_icmp .ne 59, 3) := by decide +kernel
theorem dL_law_1369 : decode cL_law 1369 = .ok (.iload 14, 2) := by decide +kernel
theorem dL_law_1371 : decode cL_law 1371 = .ok (.iload 24, 2) := by decide +kernel
theorem dL_law_1373 : decode cL_law 1373 = .ok (.ishr, 1) := by decide +kernel
theorem dL_law_1374 : decode cL_law 1374 = .ok (.iconst 1, 1) := by decide +kernel
theorem dL_law_1375 : decode cL_law 1375 = .ok (.iand, 1) := by decide +kernel
theorem dL_law_1376 : decode cL_law 1376 = .ok (.iconst 1, 1) := by decide +kernel
theorem dL_law_1377 : decode cL_law 1377 = .ok (.if_icmp .ne 48, 3) := by decide +kernel
theorem dL_law_1380 : decode cL_law 1380 = .ok (.iload 20, 2) := by decide +kernel
theorem dL_law_1382 : decode cL_law 1382 = .ok (.aload 12, 2) := by decide +kernel
theorem dL_law_1384 : decode cL_law 1384 = .ok (.bipush 7, 2) := by decide +kernel
theorem dL_law_1386 : decode cL_law 1386 = .ok (.iload 23, 2) := by decide +kernel
theorem dL_law_1388 : decode cL_law 1388 = .ok (.imul, 1) := by decide +kernel
theorem dL_law_1389 : decode cL_law 1389 = .ok (.iload 24, 2) := by decide +kernel
theorem dL_law_1391 : decode cL_law 1391 = .ok (.iadd, 1) := by decide +kernel
theorem dL_law_1392 : decode cL_law 1392 = .ok (.laload, 1) := by decide +kernel
theorem dL_law_1393 : decode cL_law 1393 = .ok (.aload 13, 2) := by decide +kernel
theorem dL_law_1395 : decode cL_law 1395 = .ok (.bipush 7, 2) := by decide +kernel
theorem dL_law_1397 : decode cL_law 1397 = .ok (.iload 23, 2) := by decide +kernel
theorem dL_law_1399 : decode cL_law 1399 = .ok (.imul, 1) := by decide +kernel
theorem dL_law_1400 : decode cL_law 1400 = .ok (.iload 24, 2) := by decide +kernel
theorem dL_law_1402 : decode cL_law 1402 = .ok (.iadd, 1) := by decide +kernel
theorem dL_law_1403 : decode cL_law 1403 = .ok (.laload, 1) := by decide +kernel
theorem dL_law_1404 : decode cL_law 1404 = .ok (.iload 23, 2) := by decide +kernel
theorem dL_law_1406 : decode cL_law 1406 = .ok (.iload 24, 2) := by decide +kernel
theorem dL_law_1408 : decode cL_law 1408 = .ok (.aload_n 2, 1) := by decide +kernel
theorem dL_law_1409 : decode cL_law 1409 = .ok (.aload_n 3, 1) := by decide +kernel
theorem dL_law_1410 : decode cL_law 1410 = .ok (.aload 4, 2) := by decide +kernel
theorem dL_law_1412 : decode cL_law 1412 = .ok (.aload 5, 2) := by decide +kernel
theorem dL_law_1414 : decode cL_law 1414 = .ok (.invokestatic 132, 3) := by decide +kernel
theorem dL_law_1417 : decode cL_law 1417 = .ok (.lload 21, 2) := by decide +kernel
theorem dL_law_1419 : decode cL_law 1419 = .ok (.invokestatic 135, 3) := by decide +kernel
theorem dL_law_1422 : decode cL_law 1422 = .ok (.iand, 1) := by decide +kernel
theorem dL_law_1423 : decode cL_law 1423 = .ok (.istore 20, 2) := by decide +kernel
theorem dL_law_1425 : decode cL_law 1425 = .ok (.iinc 24 1, 3) := by decide +kernel
theorem dL_law_1428 : decode cL_law 1428 = .ok (.goto (-77), 3) := by decide +kernel
theorem dL_law_1431 : decode cL_law 1431 = .ok (.iinc 23 1, 3) := by decide +kernel
theorem dL_law_1434 : decode cL_law 1434 = .ok (.goto (-98), 3) := by decide +kernel
theorem dL_law_1437 : decode cL_law 1437 = .ok (.iload 19, 2) := by decide +kernel
theorem dL_law_1439 : decode cL_law 1439 = .ok (.ifCond .eq 29, 3) := by decide +kernel
theorem dL_law_1442 : decode cL_law 1442 = .ok (.aload_n 1, 1) := by decide +kernel
theorem dL_law_1443 : decode cL_law 1443 = .ok (.invokevirtual 199, 3) := by decide +kernel
theorem dL_law_1446 : decode cL_law 1446 = .ok (.iload 20, 2) := by decide +kernel
theorem dL_law_1448 : decode cL_law 1448 = .ok (.if_icmp .ne 20, 3) := by decide +kernel
theorem dL_law_1451 : decode cL_law 1451 = .ok (.aload_n 1, 1) := by decide +kernel
theorem dL_law_1452 : decode cL_law 1452 = .ok (.iload 16, 2) := by decide +kernel
theorem dL_law_1454 : decode cL_law 1454 = .ok (.aload 11, 2) := by decide +kernel
theorem dL_law_1456 : decode cL_law 1456 = .ok (.aload_n 2, 1) := by decide +kernel
theorem dL_law_1457 : decode cL_law 1457 = .ok (.aload_n 3, 1) := by decide +kernel
theorem dL_law_1458 : decode cL_law 1458 = .ok (.aload 4, 2) := by decide +kernel
theorem dL_law_1460 : decode cL_law 1460 = .ok (.aload 5, 2) := by decide +kernel
theorem dL_law_1462 : decode cL_law 1462 = .ok (.invokestatic 203, 3) := by decide +kernel
theorem dL_law_1465 : decode cL_law 1465 = .ok (.ifCond .ne 5, 3) := by decide +kernel
theorem dL_law_1468 : decode cL_law 1468 = .ok (.iconst 0, 1) := by decide +kernel
theorem dL_law_1469 : decode cL_law 1469 = .ok (.ireturn, 1) := by decide +kernel
theorem dL_law_1470 : decode cL_law 1470 = .ok (.iinc 15 1, 3) := by decide +kernel
theorem dL_law_1473 : decode cL_law 1473 = .ok (.goto (-1389), 3) := by decide +kernel
theorem dL_law_1476 : decode cL_law 1476 = .ok (.aload_n 1, 1) := by decide +kernel
theorem dL_law_1477 : decode cL_law 1477 = .ok (.bipush 6, 2) := by decide +kernel
theorem dL_law_1479 : decode cL_law 1479 = .ok (.iconst 0, 1) := by decide +kernel
theorem dL_law_1480 : decode cL_law 1480 = .ok (.invokestatic 197, 3) := by decide +kernel
theorem dL_law_1483 : decode cL_law 1483 = .ok (.sipush (-7200), 3) := by decide +kernel
theorem dL_law_1486 : decode cL_law 1486 = .ok (.if_icmp .ne 18, 3) := by decide +kernel
theorem dL_law_1489 : decode cL_law 1489 = .ok (.aload_n 1, 1) := by decide +kernel
theorem dL_law_1490 : decode cL_law 1490 = .ok (.iconst (-1), 1) := by decide +kernel
theorem dL_law_1491 : decode cL_law 1491 = .ok (.invokestatic 207, 3) := by decide +kernel
theorem dL_law_1494 : decode cL_law 1494 = .ok (.sipush (-7200), 3) := by decide +kernel
theorem dL_law_1497 : decode cL_law 1497 = .ok (.if_icmp .ne 7, 3) := by decide +kernel
theorem dL_law_1500 : decode cL_law 1500 = .ok (.iconst 1, 1) := by decide +kernel
theorem dL_law_1501 : decode cL_law 1501 = .ok (.goto 4, 3) := by decide +kernel
theorem dL_law_1504 : decode cL_law 1504 = .ok (.iconst 0, 1) := by decide +kernel
theorem dL_law_1505 : decode cL_law 1505 = .ok (.ireturn, 1) := by decide +kernel
abbrev vwCl : List vw_C := [(RX0, TX0, 9), (RX1, TX1, 3), (RX2, TX2, 3), (RX3, TX3, 10), (RX4, TX4, 8), (RX5, TX5, 10), (RX6, TX6, 2), (RX7, TX7, 7)]
