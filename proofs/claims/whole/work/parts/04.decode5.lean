theorem dD_addRow_52 : decode cD_addRow 52 = .ok (.ireturn, 1) := by decide +kernel
theorem dD_fold_0 : decode cD_fold 0 = .ok (.iconst 0, 1) := by decide +kernel
theorem dD_fold_1 : decode cD_fold 1 = .ok (.istore_n 1, 1) := by decide +kernel
theorem dD_fold_2 : decode cD_fold 2 = .ok (.iload_n 1, 1) := by decide +kernel
theorem dD_fold_3 : decode cD_fold 3 = .ok (.aload_n 0, 1) := by decide +kernel
theorem dD_fold_4 : decode cD_fold 4 = .ok (.getfield 39, 3) := by decide +kernel
theorem dD_fold_7 : decode cD_fold 7 = .ok (.if_icmp .ge 16, 3) := by decide +kernel
theorem dD_fold_10 : decode cD_fold 10 = .ok (.aload_n 0, 1) := by decide +kernel
theorem dD_fold_11 : decode cD_fold 11 = .ok (.getfield 21, 3) := by decide +kernel
theorem dD_fold_14 : decode cD_fold 14 = .ok (.iload_n 1, 1) := by decide +kernel
theorem dD_fold_15 : decode cD_fold 15 = .ok (.iload_n 1, 1) := by decide +kernel
theorem dD_fold_16 : decode cD_fold 16 = .ok (.iastore, 1) := by decide +kernel
theorem dD_fold_17 : decode cD_fold 17 = .ok (.iinc 1 1, 3) := by decide +kernel
theorem dD_fold_20 : decode cD_fold 20 = .ok (.goto (-18), 3) := by decide +kernel
theorem dD_fold_23 : decode cD_fold 23 = .ok (.iconst 1, 1) := by decide +kernel
theorem dD_fold_24 : decode cD_fold 24 = .ok (.istore_n 1, 1) := by decide +kernel
theorem dD_fold_25 : decode cD_fold 25 = .ok (.iconst 0, 1) := by decide +kernel
theorem dD_fold_26 : decode cD_fold 26 = .ok (.istore_n 2, 1) := by decide +kernel
theorem dD_fold_27 : decode cD_fold 27 = .ok (.iload_n 2, 1) := by decide +kernel
theorem dD_fold_28 : decode cD_fold 28 = .ok (.bipush 64, 2) := by decide +kernel
theorem dD_fold_30 : decode cD_fold 30 = .ok (.if_icmp .ge 109, 3) := by decide +kernel
theorem dD_fold_33 : decode cD_fold 33 = .ok (.iload_n 1, 1) := by decide +kernel
theorem dD_fold_34 : decode cD_fold 34 = .ok (.ifCond .eq 105, 3) := by decide +kernel
theorem dD_fold_37 : decode cD_fold 37 = .ok (.iconst 0, 1) := by decide +kernel
theorem dD_fold_38 : decode cD_fold 38 = .ok (.istore_n 1, 1) := by decide +kernel
theorem dD_fold_39 : decode cD_fold 39 = .ok (.aload_n 0, 1) := by decide +kernel
theorem dD_fold_40 : decode cD_fold 40 = .ok (.getfield 24, 3) := by decide +kernel
theorem dD_fold_43 : decode cD_fold 43 = .ok (.iconst (-1), 1) := by decide +kernel
theorem dD_fold_44 : decode cD_fold 44 = .ok (.invokestatic 49, 3) := by decide +kernel
theorem dD_fold_47 : decode cD_fold 47 = .ok (.iconst 0, 1) := by decide +kernel
theorem dD_fold_48 : decode cD_fold 48 = .ok (.istore_n 3, 1) := by decide +kernel
theorem dD_fold_49 : decode cD_fold 49 = .ok (.iload_n 3, 1) := by decide +kernel
theorem dD_fold_50 : decode cD_fold 50 = .ok (.aload_n 0, 1) := by decide +kernel
theorem dD_fold_51 : decode cD_fold 51 = .ok (.getfield 46, 3) := by decide +kernel
theorem dD_fold_54 : decode cD_fold 54 = .ok (.if_icmp .ge 79, 3) := by decide +kernel
theorem dD_fold_57 : decode cD_fold 57 = .ok (.aload_n 0, 1) := by decide +kernel
theorem dD_fold_58 : decode cD_fold 58 = .ok (.aload_n 0, 1) := by decide +kernel
theorem dD_fold_59 : decode cD_fold 59 = .ok (.getfield 9, 3) := by decide +kernel
theorem dD_fold_62 : decode cD_fold 62 = .ok (.iload_n 3, 1) := by decide +kernel
theorem dD_fold_63 : decode cD_fold 63 = .ok (.iaload, 1) := by decide +kernel
theorem dD_fold_64 : decode cD_fold 64 = .ok (.aload_n 0, 1) := by decide +kernel
theorem dD_fold_65 : decode cD_fold 65 = .ok (.getfield 15, 3) := by decide +kernel
theorem dD_fold_68 : decode cD_fold 68 = .ok (.iload_n 3, 1) := by decide +kernel
theorem dD_fold_69 : decode cD_fold 69 = .ok (.iaload, 1) := by decide +kernel
theorem dD_fold_70 : decode cD_fold 70 = .ok (.aload_n 0, 1) := by decide +kernel
theorem dD_fold_71 : decode cD_fold 71 = .ok (.getfield 18, 3) := by decide +kernel
theorem dD_fold_74 : decode cD_fold 74 = .ok (.iload_n 3, 1) := by decide +kernel
theorem dD_fold_75 : decode cD_fold 75 = .ok (.iaload, 1) := by decide +kernel
theorem dD_fold_76 : decode cD_fold 76 = .ok (.invokevirtual 80, 3) := by decide +kernel
theorem dD_fold_79 : decode cD_fold 79 = .ok (.istore 4, 2) := by decide +kernel
theorem dD_fold_81 : decode cD_fold 81 = .ok (.aload_n 0, 1) := by decide +kernel
theorem dD_fold_82 : decode cD_fold 82 = .ok (.aload_n 0, 1) := by decide +kernel
theorem dD_fold_83 : decode cD_fold 83 = .ok (.getfield 18, 3) := by decide +kernel
theorem dD_fold_86 : decode cD_fold 86 = .ok (.iload_n 3, 1) := by decide +kernel
theorem dD_fold_87 : decode cD_fold 87 = .ok (.iaload, 1) := by decide +kernel
theorem dD_fold_88 : decode cD_fold 88 = .ok (.aload_n 0, 1) := by decide +kernel
theorem dD_fold_89 : decode cD_fold 89 = .ok (.getfield 15, 3) := by decide +kernel
theorem dD_fold_92 : decode cD_fold 92 = .ok (.iload_n 3, 1) := by decide +kernel
theorem dD_fold_93 : decode cD_fold 93 = .ok (.iaload, 1) := by decide +kernel
theorem dD_fold_94 : decode cD_fold 94 = .ok (.iconst 1, 1) := by decide +kernel
theorem dD_fold_95 : decode cD_fold 95 = .ok (.ixor, 1) := by decide +kernel
theorem dD_fold_96 : decode cD_fold 96 = .ok (.aload_n 0, 1) := by decide +kernel
theorem dD_fold_97 : decode cD_fold 97 = .ok (.getfield 9, 3) := by decide +kernel
theorem dD_fold_100 : decode cD_fold 100 = .ok (.iload_n 3, 1) := by decide +kernel
theorem dD_fold_101 : decode cD_fold 101 = .ok (.iaload, 1) := by decide +kernel
theorem dD_fold_102 : decode cD_fold 102 = .ok (.invokevirtual 80, 3) := by decide +kernel
theorem dD_fold_105 : decode cD_fold 105 = .ok (.istore 5, 2) := by decide +kernel
theorem dD_fold_107 : decode cD_fold 107 = .ok (.iload_n 1, 1) := by decide +kernel
theorem dD_fold_108 : decode cD_fold 108 = .ok (.ifCond .ne 13, 3) := by decide +kernel
theorem dD_fold_111 : decode cD_fold 111 = .ok (.iload 4, 2) := by decide +kernel
theorem dD_fold_113 : decode cD_fold 113 = .ok (.ifCond .ne 8, 3) := by decide +kernel
theorem dD_fold_116 : decode cD_fold 116 = .ok (.iload 5, 2) := by decide +kernel
theorem dD_fold_118 : decode cD_fold 118 = .ok (.ifCond .eq 7, 3) := by decide +kernel
theorem dD_fold_121 : decode cD_fold 121 = .ok (.iconst 1, 1) := by decide +kernel
theorem dD_fold_122 : decode cD_fold 122 = .ok (.goto 4, 3) := by decide +kernel
theorem dD_fold_125 : decode cD_fold 125 = .ok (.iconst 0, 1) := by decide +kernel
theorem dD_fold_126 : decode cD_fold 126 = .ok (.istore_n 1, 1) := by decide +kernel
theorem dD_fold_127 : decode cD_fold 127 = .ok (.iinc 3 1, 3) := by decide +kernel
theorem dD_fold_130 : decode cD_fold 130 = .ok (.goto (-81), 3) := by decide +kernel
theorem dD_fold_133 : decode cD_fold 133 = .ok (.iinc 2 1, 3) := by decide +kernel
theorem dD_fold_136 : decode cD_fold 136 = .ok (.goto (-109), 3) := by decide +kernel
theorem dD_fold_139 : decode cD_fold 139 = .ok (.aload_n 0, 1) := by decide +kernel
theorem dD_fold_140 : decode cD_fold 140 = .ok (.aload_n 0, 1) := by decide +kernel
theorem dD_fold_141 : decode cD_fold 141 = .ok (.getfield 21, 3) := by decide +kernel
theorem dD_fold_144 : decode cD_fold 144 = .ok (.aload_n 0, 1) := by decide +kernel
theorem dD_fold_145 : decode cD_fold 145 = .ok (.getfield 43, 3) := by decide +kernel
theorem dD_fold_148 : decode cD_fold 148 = .ok (.iaload, 1) := by decide +kernel
theorem dD_fold_149 : decode cD_fold 149 = .ok (.putfield 43, 3) := by decide +kernel
theorem dD_fold_152 : decode cD_fold 152 = .ok (.return_, 1) := by decide +kernel
theorem dD_layWay_0 : decode cD_layWay 0 = .ok (.aload_n 0, 1) := by decide +kernel
theorem dD_layWay_1 : decode cD_layWay 1 = .ok (.getfield 21, 3) := by decide +kernel
theorem dD_layWay_4 : decode cD_layWay 4 = .ok (.iload_n 1, 1) := by decide +kernel
theorem dD_layWay_5 : decode cD_layWay 5 = .ok (.iaload, 1) := by decide +kernel
theorem dD_layWay_6 : decode cD_layWay 6 = .ok (.bipush 6, 2) := by decide +kernel
theorem dD_layWay_8 : decode cD_layWay 8 = .ok (.imul, 1) := by decide +kernel
theorem dD_layWay_9 : decode cD_layWay 9 = .ok (.iload_n 2, 1) := by decide +kernel
theorem dD_layWay_10 : decode cD_layWay 10 = .ok (.iadd, 1) := by decide +kernel
theorem dD_layWay_11 : decode cD_layWay 11 = .ok (.istore 4, 2) := by decide +kernel
theorem dD_layWay_13 : decode cD_layWay 13 = .ok (.aload_n 0, 1) := by decide +kernel
theorem dD_layWay_14 : decode cD_layWay 14 = .ok (.getfield 24, 3) := by decide +kernel
theorem dD_layWay_17 : decode cD_layWay 17 = .ok (.iload 4, 2) := by decide +kernel
theorem dD_layWay_19 : decode cD_layWay 19 = .ok (.iaload, 1) := by decide +kernel
theorem dD_layWay_20 : decode cD_layWay 20 = .ok (.iconst (-1), 1) := by decide +kernel
theorem dD_layWay_21 : decode cD_layWay 21 = .ok (.if_icmp .ne 18, 3) := by decide +kernel
theorem dD_layWay_24 : decode cD_layWay 24 = .ok (.aload_n 0, 1) := by decide +kernel
theorem dD_layWay_25 : decode cD_layWay 25 = .ok (.getfield 24, 3) := by decide +kernel
theorem dD_layWay_28 : decode cD_layWay 28 = .ok (.iload 4, 2) := by decide +kernel
theorem dD_layWay_30 : decode cD_layWay 30 = .ok (.aload_n 0, 1) := by decide +kernel
theorem dD_layWay_31 : decode cD_layWay 31 = .ok (.getfield 21, 3) := by decide +kernel
theorem dD_layWay_34 : decode cD_layWay 34 = .ok (.iload_n 3, 1) := by decide +kernel
theorem dD_layWay_35 : decode cD_layWay 35 = .ok (.iaload, 1) := by decide +kernel
theorem dD_layWay_36 : decode cD_layWay 36 = .ok (.iastore, 1) := by decide +kernel
theorem dD_layWay_37 : decode cD_layWay 37 = .ok (.iconst 0, 1) := by decide +kernel
theorem dD_layWay_38 : decode cD_layWay 38 = .ok (.ireturn, 1) := by decide +kernel
theorem dD_layWay_39 : decode cD_layWay 39 = .ok (.aload_n 0, 1) := by decide +kernel
theorem dD_layWay_40 : decode cD_layWay 40 = .ok (.getfield 21, 3) := by decide +kernel
theorem dD_layWay_43 : decode cD_layWay 43 = .ok (.aload_n 0, 1) := by decide +kernel
theorem dD_layWay_44 : decode cD_layWay 44 = .ok (.getfield 24, 3) := by decide +kernel
theorem dD_layWay_47 : decode cD_layWay 47 = .ok (.iload 4, 2) := by decide +kernel
theorem dD_layWay_49 : decode cD_layWay 49 = .ok (.iaload, 1) := by decide +kernel
theorem dD_layWay_50 : decode cD_layWay 50 = .ok (.iaload, 1) := by decide +kernel
theorem dD_layWay_51 : decode cD_layWay 51 = .ok (.istore 5, 2) := by decide +kernel
theorem dD_layWay_53 : decode cD_layWay 53 = .ok (.iload 5, 2) := by decide +kernel
theorem dD_layWay_55 : decode cD_layWay 55 = .ok (.aload_n 0, 1) := by decide +kernel
theorem dD_layWay_56 : decode cD_layWay 56 = .ok (.getfield 21, 3) := by decide +kernel
theorem dD_layWay_59 : decode cD_layWay 59 = .ok (.iload_n 3, 1) := by decide +kernel
theorem dD_layWay_60 : decode cD_layWay 60 = .ok (.iaload, 1) := by decide +kernel
theorem dD_layWay_61 : decode cD_layWay 61 = .ok (.if_icmp .ne 5, 3) := by decide +kernel
theorem dD_layWay_64 : decode cD_layWay 64 = .ok (.iconst 0, 1) := by decide +kernel
theorem dD_layWay_65 : decode cD_layWay 65 = .ok (.ireturn, 1) := by decide +kernel
theorem dD_layWay_66 : decode cD_layWay 66 = .ok (.aload_n 0, 1) := by decide +kernel
theorem dD_layWay_67 : decode cD_layWay 67 = .ok (.iload 5, 2) := by decide +kernel
theorem dD_layWay_69 : decode cD_layWay 69 = .ok (.aload_n 0, 1) := by decide +kernel
theorem dD_layWay_70 : decode cD_layWay 70 = .ok (.getfield 21, 3) := by decide +kernel
theorem dD_layWay_73 : decode cD_layWay 73 = .ok (.iload_n 3, 1) := by decide +kernel
theorem dD_layWay_74 : decode cD_layWay 74 = .ok (.iaload, 1) := by decide +kernel
theorem dD_layWay_75 : decode cD_layWay 75 = .ok (.invokevirtual 84, 3) := by decide +kernel
theorem dD_layWay_78 : decode cD_layWay 78 = .ok (.iconst 1, 1) := by decide +kernel
theorem dD_layWay_79 : decode cD_layWay 79 = .ok (.ireturn, 1) := by decide +kernel
theorem dD_unite_0 : decode cD_unite 0 = .ok (.iconst 0, 1) := by decide +kernel
theorem dD_unite_1 : decode cD_unite 1 = .ok (.istore_n 3, 1) := by decide +kernel
theorem dD_unite_2 : decode cD_unite 2 = .ok (.iload_n 3, 1) := by decide +kernel
theorem dD_unite_3 : decode cD_unite 3 = .ok (.aload_n 0, 1) := by decide +kernel
theorem dD_unite_4 : decode cD_unite 4 = .ok (.getfield 39, 3) := by decide +kernel
theorem dD_unite_7 : decode cD_unite 7 = .ok (.if_icmp .ge 26, 3) := by decide +kernel
theorem dD_unite_10 : decode cD_unite 10 = .ok (.aload_n 0, 1) := by decide +kernel
theorem dD_unite_11 : decode cD_unite 11 = .ok (.getfield 21, 3) := by decide +kernel
theorem dD_unite_14 : decode cD_unite 14 = .ok (.iload_n 3, 1) := by decide +kernel
theorem dD_unite_15 : decode cD_unite 15 = .ok (.iaload, 1) := by decide +kernel
theorem dD_unite_16 : decode cD_unite 16 = .ok (.iload_n 2, 1) := by decide +kernel
theorem dD_unite_17 : decode cD_unite 17 = .ok (.if_icmp .ne 10, 3) := by decide +kernel
theorem dD_unite_20 : decode cD_unite 20 = .ok (.aload_n 0, 1) := by decide +kernel
theorem dD_unite_21 : decode cD_unite 21 = .ok (.getfield 21, 3) := by decide +kernel
theorem dD_unite_24 : decode cD_unite 24 = .ok (.iload_n 3, 1) := by decide +kernel
theorem dD_unite_25 : decode cD_unite 25 = .ok (.iload_n 1, 1) := by decide +kernel
theorem dD_unite_26 : decode cD_unite 26 = .ok (.iastore, 1) := by decide +kernel
theorem dD_unite_27 : decode cD_unite 27 = .ok (.iinc 3 1, 3) := by decide +kernel
theorem dD_unite_30 : decode cD_unite 30 = .ok (.goto (-28), 3) := by decide +kernel
theorem dD_unite_33 : decode cD_unite 33 = .ok (.return_, 1) := by decide +kernel
theorem dD_addPairs_0 : decode cD_addPairs 0 = .ok (.aload_n 0, 1) := by decide +kernel
theorem dD_addPairs_1 : decode cD_addPairs 1 = .ok (.getfield 27, 3) := by decide +kernel
theorem dD_addPairs_4 : decode cD_addPairs 4 = .ok (.iconst 0, 1) := by decide +kernel
theorem dD_addPairs_5 : decode cD_addPairs 5 = .ok (.iconst 0, 1) := by decide +kernel
theorem dD_addPairs_6 : decode cD_addPairs 6 = .ok (.iastore, 1) := by decide +kernel
theorem dD_addPairs_7 : decode cD_addPairs 7 = .ok (.aload_n 0, 1) := by decide +kernel
theorem dD_addPairs_8 : decode cD_addPairs 8 = .ok (.getfield 30, 3) := by decide +kernel
theorem dD_addPairs_11 : decode cD_addPairs 11 = .ok (.iconst 0, 1) := by decide +kernel
theorem dD_addPairs_12 : decode cD_addPairs 12 = .ok (.iconst 0, 1) := by decide +kernel
theorem dD_addPairs_13 : decode cD_addPairs 13 = .ok (.iastore, 1) := by decide +kernel
theorem dD_addPairs_14 : decode cD_addPairs 14 = .ok (.iconst 0, 1) := by decide +kernel
theorem dD_addPairs_15 : decode cD_addPairs 15 = .ok (.istore_n 3, 1) := by decide +kernel
theorem dD_addPairs_16 : decode cD_addPairs 16 = .ok (.iload_n 3, 1) := by decide +kernel
theorem dD_addPairs_17 : decode cD_addPairs 17 = .ok (.bipush 64, 2) := by decide +kernel
theorem dD_addPairs_19 : decode cD_addPairs 19 = .ok (.if_icmp .ge 108, 3) := by decide +kernel
theorem dD_addPairs_22 : decode cD_addPairs 22 = .ok (.iload_n 3, 1) := by decide +kernel
theorem dD_addPairs_23 : decode cD_addPairs 23 = .ok (.aload_n 0, 1) := by decide +kernel
theorem dD_addPairs_24 : decode cD_addPairs 24 = .ok (.getfield 39, 3) := by decide +kernel
theorem dD_addPairs_27 : decode cD_addPairs 27 = .ok (.if_icmp .ge 100, 3) := by decide +kernel
theorem dD_addPairs_30 : decode cD_addPairs 30 = .ok (.iconst 0, 1) := by decide +kernel
theorem dD_addPairs_31 : decode cD_addPairs 31 = .ok (.istore 4, 2) := by decide +kernel
theorem dD_addPairs_33 : decode cD_addPairs 33 = .ok (.iload 4, 2) := by decide +kernel
theorem dD_addPairs_35 : decode cD_addPairs 35 = .ok (.bipush 6, 2) := by decide +kernel
theorem dD_addPairs_37 : decode cD_addPairs 37 = .ok (.if_icmp .ge 84, 3) := by decide +kernel
theorem dD_addPairs_40 : decode cD_addPairs 40 = .ok (.aload_n 1, 1) := by decide +kernel
theorem dD_addPairs_41 : decode cD_addPairs 41 = .ok (.aload_n 0, 1) := by decide +kernel
theorem dD_addPairs_42 : decode cD_addPairs 42 = .ok (.getfield 27, 3) := by decide +kernel
theorem dD_addPairs_45 : decode cD_addPairs 45 = .ok (.iload_n 3, 1) := by decide +kernel
theorem dD_addPairs_46 : decode cD_addPairs 46 = .ok (.iaload, 1) := by decide +kernel
theorem dD_addPairs_47 : decode cD_addPairs 47 = .ok (.iload 4, 2) := by decide +kernel
theorem dD_addPairs_49 : decode cD_addPairs 49 = .ok (.invokevirtual 58, 3) := by decide +kernel
theorem dD_addPairs_52 : decode cD_addPairs 52 = .ok (.istore 5, 2) := by decide +kernel
theorem dD_addPairs_54 : decode cD_addPairs 54 = .ok (.aload_n 2, 1) := by decide +kernel
theorem dD_addPairs_55 : decode cD_addPairs 55 = .ok (.aload_n 0, 1) := by decide +kernel
theorem dD_addPairs_56 : decode cD_addPairs 56 = .ok (.getfield 30, 3) := by decide +kernel
theorem dD_addPairs_59 : decode cD_addPairs 59 = .ok (.iload_n 3, 1) := by decide +kernel
theorem dD_addPairs_60 : decode cD_addPairs 60 = .ok (.iaload, 1) := by decide +kernel
theorem dD_addPairs_61 : decode cD_addPairs 61 = .ok (.iload 4, 2) := by decide +kernel
theorem dD_addPairs_63 : decode cD_addPairs 63 = .ok (.invokevirtual 58, 3) := by decide +kernel
theorem dD_addPairs_66 : decode cD_addPairs 66 = .ok (.istore 6, 2) := by decide +kernel
theorem dD_addPairs_68 : decode cD_addPairs 68 = .ok (.iload 5, 2) := by decide +kernel
theorem dD_addPairs_70 : decode cD_addPairs 70 = .ok (.iconst (-1), 1) := by decide +kernel
theorem dD_addPairs_71 : decode cD_addPairs 71 = .ok (.if_icmp .eq 44, 3) := by decide +kernel
theorem dD_addPairs_74 : decode cD_addPairs 74 = .ok (.iload 6, 2) := by decide +kernel
theorem dD_addPairs_76 : decode cD_addPairs 76 = .ok (.iconst (-1), 1) := by decide +kernel
theorem dD_addPairs_77 : decode cD_addPairs 77 = .ok (.if_icmp .ne 6, 3) := by decide +kernel
theorem dD_addPairs_80 : decode cD_addPairs 80 = .ok (.goto 35, 3) := by decide +kernel
theorem dD_addPairs_83 : decode cD_addPairs 83 = .ok (.aload_n 0, 1) := by decide +kernel
theorem dD_addPairs_84 : decode cD_addPairs 84 = .ok (.iload 5, 2) := by decide +kernel
theorem dD_addPairs_86 : decode cD_addPairs 86 = .ok (.iload 6, 2) := by decide +kernel
theorem dD_addPairs_88 : decode cD_addPairs 88 = .ok (.invokevirtual 88, 3) := by decide +kernel
theorem dD_addPairs_91 : decode cD_addPairs 91 = .ok (.istore 7, 2) := by decide +kernel
theorem dD_addPairs_93 : decode cD_addPairs 93 = .ok (.iload 7, 2) := by decide +kernel
theorem dD_addPairs_95 : decode cD_addPairs 95 = .ok (.iconst (-1), 1) := by decide +kernel
theorem dD_addPairs_96 : decode cD_addPairs 96 = .ok (.if_icmp .ne 5, 3) := by decide +kernel
theorem dD_addPairs_99 : decode cD_addPairs 99 = .ok (.iconst 0, 1) := by decide +kernel
theorem dD_addPairs_100 : decode cD_addPairs 100 = .ok (.ireturn, 1) := by decide +kernel
theorem dD_addPairs_101 : decode cD_addPairs 101 = .ok (.aload_n 0, 1) := by decide +kernel
theorem dD_addPairs_102 : decode cD_addPairs 102 = .ok (.getfield 24, 3) := by decide +kernel
theorem dD_addPairs_105 : decode cD_addPairs 105 = .ok (.iload_n 3, 1) := by decide +kernel
theorem dD_addPairs_106 : decode cD_addPairs 106 = .ok (.bipush 6, 2) := by decide +kernel
theorem dD_addPairs_108 : decode cD_addPairs 108 = .ok (.imul, 1) := by decide +kernel
theorem dD_addPairs_109 : decode cD_addPairs 109 = .ok (.iload 4, 2) := by decide +kernel
theorem dD_addPairs_111 : decode cD_addPairs 111 = .ok (.iadd, 1) := by decide +kernel
theorem dD_addPairs_112 : decode cD_addPairs 112 = .ok (.iload 7, 2) := by decide +kernel
theorem dD_addPairs_114 : decode cD_addPairs 114 = .ok (.iastore, 1) := by decide +kernel
theorem dD_addPairs_115 : decode cD_addPairs 115 = .ok (.iinc 4 1, 3) := by decide +kernel
theorem dD_addPairs_118 : decode cD_addPairs 118 = .ok (.goto (-85), 3) := by decide +kernel
theorem dD_addPairs_121 : decode cD_addPairs 121 = .ok (.iinc 3 1, 3) := by decide +kernel
theorem dD_addPairs_124 : decode cD_addPairs 124 = .ok (.goto (-108), 3) := by decide +kernel
theorem dD_addPairs_127 : decode cD_addPairs 127 = .ok (.iconst 1, 1) := by decide +kernel
theorem dD_addPairs_128 : decode cD_addPairs 128 = .ok (.ireturn, 1) := by decide +kernel
theorem dD_findOrAddPair_0 : decode cD_findOrAddPair 0 = .ok (.iconst 0, 1) := by decide +kernel
theorem dD_findOrAddPair_1 : decode cD_findOrAddPair 1 = .ok (.istore_n 3, 1) := by decide +kernel
theorem dD_findOrAddPair_2 : decode cD_findOrAddPair 2 = .ok (.iload_n 3, 1) := by decide +kernel
theorem dD_findOrAddPair_3 : decode cD_findOrAddPair 3 = .ok (.aload_n 0, 1) := by decide +kernel
theorem dD_findOrAddPair_4 : decode cD_findOrAddPair 4 = .ok (.getfield 39, 3) := by decide +kernel
theorem dD_findOrAddPair_7 : decode cD_findOrAddPair 7 = .ok (.if_icmp .ge 31, 3) := by decide +kernel
theorem dD_findOrAddPair_10 : decode cD_findOrAddPair 10 = .ok (.aload_n 0, 1) := by decide +kernel
theorem dD_findOrAddPair_11 : decode cD_findOrAddPair 11 = .ok (.getfield 27, 3) := by decide +kernel
theorem dD_findOrAddPair_14 : decode cD_findOrAddPair 14 = .ok (.iload_n 3, 1) := by decide +kernel
theorem dD_findOrAddPair_15 : decode cD_findOrAddPair 15 = .ok (.iaload, 1) := by decide +kernel
theorem dD_findOrAddPair_16 : decode cD_findOrAddPair 16 = .ok (.iload_n 1, 1) := by decide +kernel
theorem dD_findOrAddPair_17 : decode cD_findOrAddPair 17 = .ok (.if_icmp .ne 15, 3) := by decide +kernel
theorem dD_findOrAddPair_20 : decode cD_findOrAddPair 20 = .ok (.aload_n 0, 1) := by decide +kernel
theorem dD_findOrAddPair_21 : decode cD_findOrAddPair 21 = .ok (.getfield 30, 3) := by decide +kernel
theorem dD_findOrAddPair_24 : decode cD_findOrAddPair 24 = .ok (.iload_n 3, 1) := by decide +kernel
theorem dD_findOrAddPair_25 : decode cD_findOrAddPair 25 = .ok (.iaload, 1) := by decide +kernel
theorem dD_findOrAddPair_26 : decode cD_findOrAddPair 26 = .ok (.iload_n 2, 1) := by decide +kernel
theorem dD_findOrAddPair_27 : decode cD_findOrAddPair 27 = .ok (.if_icmp .ne 5, 3) := by decide +kernel
theorem dD_findOrAddPair_30 : decode cD_findOrAddPair 30 = .ok (.iload_n 3, 1) := by decide +kernel
theorem dD_findOrAddPair_31 : decode cD_findOrAddPair 31 = .ok (.ireturn, 1) := by decide +kernel
theorem dD_findOrAddPair_32 : decode cD_findOrAddPair 32 = .ok (.iinc 3 1, 3) := by decide +kernel
theorem dD_findOrAddPair_35 : decode cD_findOrAddPair 35 = .ok (.goto (-33), 3) := by decide +kernel
theorem dD_findOrAddPair_38 : decode cD_findOrAddPair 38 = .ok (.aload_n 0, 1) := by decide +kernel
theorem dD_findOrAddPair_39 : decode cD_findOrAddPair 39 = .ok (.getfield 39, 3) := by decide +kernel
theorem dD_findOrAddPair_42 : decode cD_findOrAddPair 42 = .ok (.bipush 64, 2) := by decide +kernel
theorem dD_findOrAddPair_44 : decode cD_findOrAddPair 44 = .ok (.if_icmp .lt 5, 3) := by decide +kernel
theorem dD_findOrAddPair_47 : decode cD_findOrAddPair 47 = .ok (.iconst (-1), 1) := by decide +kernel
theorem dD_findOrAddPair_48 : decode cD_findOrAddPair 48 = .ok (.ireturn, 1) := by decide +kernel
theorem dD_findOrAddPair_49 : decode cD_findOrAddPair 49 = .ok (.aload_n 0, 1) := by decide +kernel
theorem dD_findOrAddPair_50 : decode cD_findOrAddPair 50 = .ok (.getfield 27, 3) := by decide +kernel
theorem dD_findOrAddPair_53 : decode cD_findOrAddPair 53 = .ok (.aload_n 0, 1) := by decide +kernel
theorem dD_findOrAddPair_54 : decode cD_findOrAddPair 54 = .ok (.getfield 39, 3) := by decide +kernel
theorem dD_findOrAddPair_57 : decode cD_findOrAddPair 57 = .ok (.iload_n 1, 1) := by decide +kernel
theorem dD_findOrAddPair_58 : decode cD_findOrAddPair 58 = .ok (.iastore, 1) := by decide +kernel
theorem dD_findOrAddPair_59 : decode cD_findOrAddPair 59 = .ok (.aload_n 0, 1) := by decide +kernel
theorem dD_findOrAddPair_60 : decode cD_findOrAddPair 60 = .ok (.getfield 30, 3) := by decide +kernel
theorem dD_findOrAddPair_63 : decode cD_findOrAddPair 63 = .ok (.aload_n 0, 1) := by decide +kernel
theorem dD_findOrAddPair_64 : decode cD_findOrAddPair 64 = .ok (.getfield 39, 3) := by decide +kernel
theorem dD_findOrAddPair_67 : decode cD_findOrAddPair 67 = .ok (.iload_n 2, 1) := by decide +kernel
theorem dD_findOrAddPair_68 : decode cD_findOrAddPair 68 = .ok (.iastore, 1) := by decide +kernel
theorem dD_findOrAddPair_69 : decode cD_findOrAddPair 69 = .ok (.aload_n 0, 1) := by decide +kernel
theorem dD_findOrAddPair_70 : decode cD_findOrAddPair 70 = .ok (.dup, 1) := by decide +kernel
theorem dD_findOrAddPair_71 : decode cD_findOrAddPair 71 = .ok (.getfield 39, 3) := by decide +kernel
theorem dD_findOrAddPair_74 : decode cD_findOrAddPair 74 = .ok (.iconst 1, 1) := by decide +kernel
theorem dD_findOrAddPair_75 : decode cD_findOrAddPair 75 = .ok (.iadd, 1) := by decide +kernel
theorem dD_findOrAddPair_76 : decode cD_findOrAddPair 76 = .ok (.putfield 39, 3) := by decide +kernel
theorem dD_findOrAddPair_79 : decode cD_findOrAddPair 79 = .ok (.aload_n 0, 1) := by decide +kernel
theorem dD_findOrAddPair_80 : decode cD_findOrAddPair 80 = .ok (.getfield 39, 3) := by decide +kernel
theorem dD_findOrAddPair_83 : decode cD_findOrAddPair 83 = .ok (.iconst 1, 1) := by decide +kernel
theorem dD_findOrAddPair_84 : decode cD_findOrAddPair 84 = .ok (.isub, 1) := by decide +kernel
theorem dD_findOrAddPair_85 : decode cD_findOrAddPair 85 = .ok (.ireturn, 1) := by decide +kernel
theorem dD_trim_0 : decode cD_trim 0 = .ok (.iconst 0, 1) := by decide +kernel
theorem dD_trim_1 : decode cD_trim 1 = .ok (.istore_n 1, 1) := by decide +kernel
theorem dD_trim_2 : decode cD_trim 2 = .ok (.iload_n 1, 1) := by decide +kernel
theorem dD_trim_3 : decode cD_trim 3 = .ok (.aload_n 0, 1) := by decide +kernel
theorem dD_trim_4 : decode cD_trim 4 = .ok (.getfield 39, 3) := by decide +kernel
theorem dD_trim_7 : decode cD_trim 7 = .ok (.if_icmp .ge 14, 3) := by decide +kernel
theorem dD_trim_10 : decode cD_trim 10 = .ok (.aload_n 0, 1) := by decide +kernel
theorem dD_trim_11 : decode cD_trim 11 = .ok (.iload_n 1, 1) := by decide +kernel
theorem dD_trim_12 : decode cD_trim 12 = .ok (.invokevirtual 91, 3) := by decide +kernel
theorem dD_trim_15 : decode cD_trim 15 = .ok (.iinc 1 1, 3) := by decide +kernel
theorem dD_trim_18 : decode cD_trim 18 = .ok (.goto (-16), 3) := by decide +kernel
theorem dD_trim_21 : decode cD_trim 21 = .ok (.return_, 1) := by decide +kernel
theorem dD_trimFrom_0 : decode cD_trimFrom 0 = .ok (.iload_n 1, 1) := by decide +kernel
theorem dD_trimFrom_1 : decode cD_trimFrom 1 = .ok (.istore_n 2, 1) := by decide +kernel
theorem dD_trimFrom_2 : decode cD_trimFrom 2 = .ok (.iconst 0, 1) := by decide +kernel
theorem dD_trimFrom_3 : decode cD_trimFrom 3 = .ok (.istore_n 3, 1) := by decide +kernel
theorem dD_trimFrom_4 : decode cD_trimFrom 4 = .ok (.iload_n 3, 1) := by decide +kernel
theorem dD_trimFrom_5 : decode cD_trimFrom 5 = .ok (.aload_n 0, 1) := by decide +kernel
theorem dD_trimFrom_6 : decode cD_trimFrom 6 = .ok (.getfield 39, 3) := by decide +kernel
theorem dD_trimFrom_9 : decode cD_trimFrom 9 = .ok (.if_icmp .ge 77, 3) := by decide +kernel
theorem dD_trimFrom_12 : decode cD_trimFrom 12 = .ok (.iload_n 2, 1) := by decide +kernel
theorem dD_trimFrom_13 : decode cD_trimFrom 13 = .ok (.aload_n 0, 1) := by decide +kernel
theorem dD_trimFrom_14 : decode cD_trimFrom 14 = .ok (.getfield 43, 3) := by decide +kernel
theorem dD_trimFrom_17 : decode cD_trimFrom 17 = .ok (.if_icmp .eq 69, 3) := by decide +kernel
theorem dD_trimFrom_20 : decode cD_trimFrom 20 = .ok (.aload_n 0, 1) := by decide +kernel
theorem dD_trimFrom_21 : decode cD_trimFrom 21 = .ok (.iload_n 2, 1) := by decide +kernel
theorem dD_trimFrom_22 : decode cD_trimFrom 22 = .ok (.invokevirtual 95, 3) := by decide +kernel
theorem dD_trimFrom_25 : decode cD_trimFrom 25 = .ok (.istore 4, 2) := by decide +kernel
theorem dD_trimFrom_27 : decode cD_trimFrom 27 = .ok (.iload 4, 2) := by decide +kernel
theorem dD_trimFrom_29 : decode cD_trimFrom 29 = .ok (.iconst (-1), 1) := by decide +kernel
theorem dD_trimFrom_30 : decode cD_trimFrom 30 = .ok (.if_icmp .ne 4, 3) := by decide +kernel
theorem dD_trimFrom_33 : decode cD_trimFrom 33 = .ok (.return_, 1) := by decide +kernel
theorem dD_trimFrom_34 : decode cD_trimFrom 34 = .ok (.aload_n 0, 1) := by decide +kernel
theorem dD_trimFrom_35 : decode cD_trimFrom 35 = .ok (.getfield 24, 3) := by decide +kernel
theorem dD_trimFrom_38 : decode cD_trimFrom 38 = .ok (.iload_n 2, 1) := by decide +kernel
theorem dD_trimFrom_39 : decode cD_trimFrom 39 = .ok (.bipush 6, 2) := by decide +kernel
theorem dD_trimFrom_41 : decode cD_trimFrom 41 = .ok (.imul, 1) := by decide +kernel
theorem dD_trimFrom_42 : decode cD_trimFrom 42 = .ok (.iload 4, 2) := by decide +kernel
theorem dD_trimFrom_44 : decode cD_trimFrom 44 = .ok (.iadd, 1) := by decide +kernel
theorem dD_trimFrom_45 : decode cD_trimFrom 45 = .ok (.iaload, 1) := by decide +kernel
theorem dD_trimFrom_46 : decode cD_trimFrom 46 = .ok (.istore 5, 2) := by decide +kernel
theorem dD_trimFrom_48 : decode cD_trimFrom 48 = .ok (.aload_n 0, 1) := by decide +kernel
theorem dD_trimFrom_49 : decode cD_trimFrom 49 = .ok (.getfield 24, 3) := by decide +kernel
theorem dD_trimFrom_52 : decode cD_trimFrom 52 = .ok (.iload_n 2, 1) := by decide +kernel
theorem dD_trimFrom_53 : decode cD_trimFrom 53 = .ok (.bipush 6, 2) := by decide +kernel
theorem dD_trimFrom_55 : decode cD_trimFrom 55 = .ok (.imul, 1) := by decide +kernel
theorem dD_trimFrom_56 : decode cD_trimFrom 56 = .ok (.iload 4, 2) := by decide +kernel
theorem dD_trimFrom_58 : decode cD_trimFrom 58 = .ok (.iadd, 1) := by decide +kernel
theorem dD_trimFrom_59 : decode cD_trimFrom 59 = .ok (.iconst (-1), 1) := by decide +kernel
theorem dD_trimFrom_60 : decode cD_trimFrom 60 = .ok (.iastore, 1) := by decide +kernel
theorem dD_trimFrom_61 : decode cD_trimFrom 61 = .ok (.aload_n 0, 1) := by decide +kernel
theorem dD_trimFrom_62 : decode cD_trimFrom 62 = .ok (.getfield 24, 3) := by decide +kernel
theorem dD_trimFrom_65 : decode cD_trimFrom 65 = .ok (.iload 5, 2) := by decide +kernel
theorem dD_trimFrom_67 : decode cD_trimFrom 67 = .ok (.bipush 6, 2) := by decide +kernel
theorem dD_trimFrom_69 : decode cD_trimFrom 69 = .ok (.imul, 1) := by decide +kernel
theorem dD_trimFrom_70 : decode cD_trimFrom 70 = .ok (.iload 4, 2) := by decide +kernel
theorem dD_trimFrom_72 : decode cD_trimFrom 72 = .ok (.iconst 1, 1) := by decide +kernel
theorem dD_trimFrom_73 : decode cD_trimFrom 73 = .ok (.ixor, 1) := by decide +kernel
theorem dD_trimFrom_74 : decode cD_trimFrom 74 = .ok (.iadd, 1) := by decide +kernel
theorem dD_trimFrom_75 : decode cD_trimFrom 75 = .ok (.iconst (-1), 1) := by decide +kernel
theorem dD_trimFrom_76 : decode cD_trimFrom 76 = .ok (.iastore, 1) := by decide +kernel
theorem dD_trimFrom_77 : decode cD_trimFrom 77 = .ok (.iload 5, 2) := by decide +kernel
theorem dD_trimFrom_79 : decode cD_trimFrom 79 = .ok (.istore_n 2, 1) := by decide +kernel
theorem dD_trimFrom_80 : decode cD_trimFrom 80 = .ok (.iinc 3 1, 3) := by decide +kernel
theorem dD_trimFrom_83 : decode cD_trimFrom 83 = .ok (.goto (-79), 3) := by decide +kernel
theorem dD_trimFrom_86 : decode cD_trimFrom 86 = .ok (.return_, 1) := by decide +kernel
theorem dD_onlyWay_0 : decode cD_onlyWay 0 = .ok (.iconst (-1), 1) := by decide +kernel
theorem dD_onlyWay_1 : decode cD_onlyWay 1 = .ok (.istore_n 2, 1) := by decide +kernel
theorem dD_onlyWay_2 : decode cD_onlyWay 2 = .ok (.iconst 0, 1) := by decide +kernel
theorem dD_onlyWay_3 : decode cD_onlyWay 3 = .ok (.istore_n 3, 1) := by decide +kernel
theorem dD_onlyWay_4 : decode cD_onlyWay 4 = .ok (.iload_n 3, 1) := by decide +kernel
theorem dD_onlyWay_5 : decode cD_onlyWay 5 = .ok (.bipush 6, 2) := by decide +kernel
theorem dD_onlyWay_7 : decode cD_onlyWay 7 = .ok (.if_icmp .ge 33, 3) := by decide +kernel
theorem dD_onlyWay_10 : decode cD_onlyWay 10 = .ok (.aload_n 0, 1) := by decide +kernel
theorem dD_onlyWay_11 : decode cD_onlyWay 11 = .ok (.getfield 24, 3) := by decide +kernel
theorem dD_onlyWay_14 : decode cD_onlyWay 14 = .ok (.iload_n 1, 1) := by decide +kernel
theorem dD_onlyWay_15 : decode cD_onlyWay 15 = .ok (.bipush 6, 2) := by decide +kernel
theorem dD_onlyWay_17 : decode cD_onlyWay 17 = .ok (.imul, 1) := by decide +kernel
theorem dD_onlyWay_18 : decode cD_onlyWay 18 = .ok (.iload_n 3, 1) := by decide +kernel
theorem dD_onlyWay_19 : decode cD_onlyWay 19 = .ok (.iadd, 1) := by decide +kernel
theorem dD_onlyWay_20 : decode cD_onlyWay 20 = .ok (.iaload, 1) := by decide +kernel
theorem dD_onlyWay_21 : decode cD_onlyWay 21 = .ok (.iconst (-1), 1) := by decide +kernel
theorem dD_onlyWay_22 : decode cD_onlyWay 22 = .ok (.if_icmp .eq 12, 3) := by decide +kernel
theorem dD_onlyWay_25 : decode cD_onlyWay 25 = .ok (.iload_n 2, 1) := by decide +kernel
theorem dD_onlyWay_26 : decode cD_onlyWay 26 = .ok (.iconst (-1), 1) := by decide +kernel
theorem dD_onlyWay_27 : decode cD_onlyWay 27 = .ok (.if_icmp .eq 5, 3) := by decide +kernel
theorem dD_onlyWay_30 : decode cD_onlyWay 30 = .ok (.iconst (-1), 1) := by decide +kernel
theorem dD_onlyWay_31 : decode cD_onlyWay 31 = .ok (.ireturn, 1) := by decide +kernel
theorem dD_onlyWay_32 : decode cD_onlyWay 32 = .ok (.iload_n 3, 1) := by decide +kernel
theorem dD_onlyWay_33 : decode cD_onlyWay 33 = .ok (.istore_n 2, 1) := by decide +kernel
theorem dD_onlyWay_34 : decode cD_onlyWay 34 = .ok (.iinc 3 1, 3) := by decide +kernel
theorem dD_onlyWay_37 : decode cD_onlyWay 37 = .ok (.goto (-33), 3) := by decide +kernel
theorem dD_onlyWay_40 : decode cD_onlyWay 40 = .ok (.iload_n 2, 1) := by decide +kernel
theorem dD_onlyWay_41 : decode cD_onlyWay 41 = .ok (.ireturn, 1) := by decide +kernel
theorem dD_numberInto_0 : decode cD_numberInto 0 = .ok (.aload_n 1, 1) := by decide +kernel
theorem dD_numberInto_1 : decode cD_numberInto 1 = .ok (.invokevirtual 98, 3) := by decide +kernel
theorem dD_numberInto_4 : decode cD_numberInto 4 = .ok (.aload_n 0, 1) := by decide +kernel
theorem dD_numberInto_5 : decode cD_numberInto 5 = .ok (.getfield 33, 3) := by decide +kernel
theorem dD_numberInto_8 : decode cD_numberInto 8 = .ok (.iconst (-1), 1) := by decide +kernel
theorem dD_numberInto_9 : decode cD_numberInto 9 = .ok (.invokestatic 49, 3) := by decide +kernel
theorem dD_numberInto_12 : decode cD_numberInto 12 = .ok (.aload_n 0, 1) := by decide +kernel
theorem dD_numberInto_13 : decode cD_numberInto 13 = .ok (.getfield 33, 3) := by decide +kernel
theorem dD_numberInto_16 : decode cD_numberInto 16 = .ok (.aload_n 0, 1) := by decide +kernel
theorem dD_numberInto_17 : decode cD_numberInto 17 = .ok (.getfield 43, 3) := by decide +kernel
theorem dD_numberInto_20 : decode cD_numberInto 20 = .ok (.iconst 0, 1) := by decide +kernel
theorem dD_numberInto_21 : decode cD_numberInto 21 = .ok (.iastore, 1) := by decide +kernel
theorem dD_numberInto_22 : decode cD_numberInto 22 = .ok (.aload_n 0, 1) := by decide +kernel
theorem dD_numberInto_23 : decode cD_numberInto 23 = .ok (.getfield 36, 3) := by decide +kernel
theorem dD_numberInto_26 : decode cD_numberInto 26 = .ok (.iconst 0, 1) := by decide +kernel
theorem dD_numberInto_27 : decode cD_numberInto 27 = .ok (.aload_n 0, 1) := by decide +kernel
theorem dD_numberInto_28 : decode cD_numberInto 28 = .ok (.getfield 43, 3) := by decide +kernel
theorem dD_numberInto_31 : decode cD_numberInto 31 = .ok (.iastore, 1) := by decide +kernel
theorem dD_numberInto_32 : decode cD_numberInto 32 = .ok (.iconst 0, 1) := by decide +kernel
theorem dD_numberInto_33 : decode cD_numberInto 33 = .ok (.istore_n 2, 1) := by decide +kernel
theorem dD_numberInto_34 : decode cD_numberInto 34 = .ok (.iload_n 2, 1) := by decide +kernel
theorem dD_numberInto_35 : decode cD_numberInto 35 = .ok (.bipush 64, 2) := by decide +kernel
theorem dD_numberInto_37 : decode cD_numberInto 37 = .ok (.if_icmp .ge 115, 3) := by decide +kernel
theorem dD_numberInto_40 : decode cD_numberInto 40 = .ok (.iload_n 2, 1) := by decide +kernel
theorem dD_numberInto_41 : decode cD_numberInto 41 = .ok (.aload_n 1, 1) := by decide +kernel
theorem dD_numberInto_42 : decode cD_numberInto 42 = .ok (.getfield 55, 3) := by decide +kernel
theorem dD_numberInto_45 : decode cD_numberInto 45 = .ok (.if_icmp .ge 107, 3) := by decide +kernel
theorem dD_numberInto_48 : decode cD_numberInto 48 = .ok (.iconst 0, 1) := by decide +kernel
theorem dD_numberInto_49 : decode cD_numberInto 49 = .ok (.istore_n 3, 1) := by decide +kernel
theorem dD_numberInto_50 : decode cD_numberInto 50 = .ok (.iload_n 3, 1) := by decide +kernel
theorem dD_numberInto_51 : decode cD_numberInto 51 = .ok (.bipush 6, 2) := by decide +kernel
theorem dD_numberInto_53 : decode cD_numberInto 53 = .ok (.if_icmp .ge 93, 3) := by decide +kernel
theorem dD_numberInto_56 : decode cD_numberInto 56 = .ok (.aload_n 0, 1) := by decide +kernel
theorem dD_numberInto_57 : decode cD_numberInto 57 = .ok (.getfield 24, 3) := by decide +kernel
theorem dD_numberInto_60 : decode cD_numberInto 60 = .ok (.aload_n 0, 1) := by decide +kernel
theorem dD_numberInto_61 : decode cD_numberInto 61 = .ok (.getfield 36, 3) := by decide +kernel
theorem dD_numberInto_64 : decode cD_numberInto 64 = .ok (.iload_n 2, 1) := by decide +kernel
theorem dD_numberInto_65 : decode cD_numberInto 65 = .ok (.iaload, 1) := by decide +kernel
theorem dD_numberInto_66 : decode cD_numberInto 66 = .ok (.bipush 6, 2) := by decide +kernel
theorem dD_numberInto_68 : decode cD_numberInto 68 = .ok (.imul, 1) := by decide +kernel
theorem dD_numberInto_69 : decode cD_numberInto 69 = .ok (.iload_n 3, 1) := by decide +kernel
theorem dD_numberInto_70 : decode cD_numberInto 70 = .ok (.iadd, 1) := by decide +kernel
theorem dD_numberInto_71 : decode cD_numberInto 71 = .ok (.iaload, 1) := by decide +kernel
theorem dD_numberInto_72 : decode cD_numberInto 72 = .ok (.istore 4, 2) := by decide +kernel
theorem dD_numberInto_74 : decode cD_numberInto 74 = .ok (.iload 4, 2) := by decide +kernel
theorem dD_numberInto_76 : decode cD_numberInto 76 = .ok (.iconst (-1), 1) := by decide +kernel
theorem dD_numberInto_77 : decode cD_numberInto 77 = .ok (.if_icmp .ne 6, 3) := by decide +kernel
theorem dD_numberInto_80 : decode cD_numberInto 80 = .ok (.goto 60, 3) := by decide +kernel
theorem dD_numberInto_83 : decode cD_numberInto 83 = .ok (.aload_n 0, 1) := by decide +kernel
theorem dD_numberInto_84 : decode cD_numberInto 84 = .ok (.getfield 33, 3) := by decide +kernel
theorem dD_numberInto_87 : decode cD_numberInto 87 = .ok (.iload 4, 2) := by decide +kernel
theorem dD_numberInto_89 : decode cD_numberInto 89 = .ok (.iaload, 1) := by decide +kernel
theorem dD_numberInto_90 : decode cD_numberInto 90 = .ok (.iconst (-1), 1) := by decide +kernel
theorem dD_numberInto_91 : decode cD_numberInto 91 = .ok (.if_icmp .ne 31, 3) := by decide +kernel
theorem dD_numberInto_94 : decode cD_numberInto 94 = .ok (.aload_n 0, 1) := by decide +kernel
theorem dD_numberInto_95 : decode cD_numberInto 95 = .ok (.getfield 33, 3) := by decide +kernel
theorem dD_numberInto_98 : decode cD_numberInto 98 = .ok (.iload 4, 2) := by decide +kernel
theorem dD_numberInto_100 : decode cD_numberInto 100 = .ok (.aload_n 1, 1) := by decide +kernel
theorem dD_numberInto_101 : decode cD_numberInto 101 = .ok (.getfield 55, 3) := by decide +kernel
theorem dD_numberInto_104 : decode cD_numberInto 104 = .ok (.iastore, 1) := by decide +kernel
theorem dD_numberInto_105 : decode cD_numberInto 105 = .ok (.aload_n 0, 1) := by decide +kernel
theorem dD_numberInto_106 : decode cD_numberInto 106 = .ok (.getfield 36, 3) := by decide +kernel
theorem dD_numberInto_109 : decode cD_numberInto 109 = .ok (.aload_n 1, 1) := by decide +kernel
theorem dD_numberInto_110 : decode cD_numberInto 110 = .ok (.getfield 55, 3) := by decide +kernel
theorem dD_numberInto_113 : decode cD_numberInto 113 = .ok (.iload 4, 2) := by decide +kernel
theorem dD_numberInto_115 : decode cD_numberInto 115 = .ok (.iastore, 1) := by decide +kernel
theorem dD_numberInto_116 : decode cD_numberInto 116 = .ok (.aload_n 1, 1) := by decide +kernel
theorem dD_numberInto_117 : decode cD_numberInto 117 = .ok (.iload_n 2, 1) := by decide +kernel
theorem dD_numberInto_118 : decode cD_numberInto 118 = .ok (.iload_n 3, 1) := by decide +kernel
theorem dD_numberInto_119 : decode cD_numberInto 119 = .ok (.invokevirtual 101, 3) := by decide +kernel
theorem dD_numberInto_122 : decode cD_numberInto 122 = .ok (.aload_n 1, 1) := by decide +kernel
theorem dD_numberInto_123 : decode cD_numberInto 123 = .ok (.getfield 104, 3) := by decide +kernel
theorem dD_numberInto_126 : decode cD_numberInto 126 = .ok (.iload_n 2, 1) := by decide +kernel
theorem dD_numberInto_127 : decode cD_numberInto 127 = .ok (.bipush 6, 2) := by decide +kernel
theorem dD_numberInto_129 : decode cD_numberInto 129 = .ok (.imul, 1) := by decide +kernel
theorem dD_numberInto_130 : decode cD_numberInto 130 = .ok (.iload_n 3, 1) := by decide +kernel
theorem dD_numberInto_131 : decode cD_numberInto 131 = .ok (.iadd, 1) := by decide +kernel
theorem dD_numberInto_132 : decode cD_numberInto 132 = .ok (.aload_n 0, 1) := by decide +kernel
theorem dD_numberInto_133 : decode cD_numberInto 133 = .ok (.getfield 33, 3) := by decide +kernel
theorem dD_numberInto_136 : decode cD_numberInto 136 = .ok (.iload 4, 2) := by decide +kernel
theorem dD_numberInto_138 : decode cD_numberInto 138 = .ok (.iaload, 1) := by decide +kernel
theorem dD_numberInto_139 : decode cD_numberInto 139 = .ok (.iastore, 1) := by decide +kernel
theorem dD_numberInto_140 : decode cD_numberInto 140 = .ok (.iinc 3 1, 3) := by decide +kernel
theorem dD_numberInto_143 : decode cD_numberInto 143 = .ok (.goto (-93), 3) := by decide +kernel
theorem dD_numberInto_146 : decode cD_numberInto 146 = .ok (.iinc 2 1, 3) := by decide +kernel
theorem dD_numberInto_149 : decode cD_numberInto 149 = .ok (.goto (-115), 3) := by decide +kernel
theorem dD_numberInto_152 : decode cD_numberInto 152 = .ok (.aload_n 1, 1) := by decide +kernel
theorem dD_numberInto_153 : decode cD_numberInto 153 = .ok (.invokevirtual 105, 3) := by decide +kernel
theorem dD_numberInto_156 : decode cD_numberInto 156 = .ok (.aload_n 1, 1) := by decide +kernel
theorem dD_numberInto_157 : decode cD_numberInto 157 = .ok (.getfield 55, 3) := by decide +kernel
theorem dD_numberInto_160 : decode cD_numberInto 160 = .ok (.ireturn, 1) := by decide +kernel
theorem dG_init_0 : decode cG_init 0 = .ok (.aload_n 0, 1) := by decide +kernel
theorem dG_init_1 : decode cG_init 1 = .ok (.invokespecial 3, 3) := by decide +kernel
theorem dG_init_4 : decode cG_init 4 = .ok (.aload_n 0, 1) := by decide +kernel
theorem dG_init_5 : decode cG_init 5 = .ok (.sipush 384, 3) := by decide +kernel
theorem dG_init_8 : decode cG_init 8 = .ok (.newarray .int, 2) := by decide +kernel
theorem dG_init_10 : decode cG_init 10 = .ok (.putfield 9, 3) := by decide +kernel
theorem dG_init_13 : decode cG_init 13 = .ok (.aload_n 0, 1) := by decide +kernel
theorem dG_init_14 : decode cG_init 14 = .ok (.sipush 384, 3) := by decide +kernel
theorem dG_init_17 : decode cG_init 17 = .ok (.newarray .int, 2) := by decide +kernel
theorem dG_init_19 : decode cG_init 19 = .ok (.putfield 15, 3) := by decide +kernel
theorem dG_init_22 : decode cG_init 22 = .ok (.aload_n 0, 1) := by decide +kernel
theorem dG_init_23 : decode cG_init 23 = .ok (.bipush 64, 2) := by decide +kernel
theorem dG_init_25 : decode cG_init 25 = .ok (.newarray .int, 2) := by decide +kernel
theorem dG_init_27 : decode cG_init 27 = .ok (.putfield 18, 3) := by decide +kernel
theorem dG_init_30 : decode cG_init 30 = .ok (.aload_n 0, 1) := by decide +kernel
theorem dG_init_31 : decode cG_init 31 = .ok (.bipush 64, 2) := by decide +kernel
theorem dG_init_33 : decode cG_init 33 = .ok (.newarray .int, 2) := by decide +kernel
theorem dG_init_35 : decode cG_init 35 = .ok (.putfield 21, 3) := by decide +kernel
theorem dG_init_38 : decode cG_init 38 = .ok (.aload_n 0, 1) := by decide +kernel
theorem dG_init_39 : decode cG_init 39 = .ok (.bipush 64, 2) := by decide +kernel
theorem dG_init_41 : decode cG_init 41 = .ok (.newarray .int, 2) := by decide +kernel
theorem dG_init_43 : decode cG_init 43 = .ok (.putfield 24, 3) := by decide +kernel
theorem dG_init_46 : decode cG_init 46 = .ok (.aload_n 0, 1) := by decide +kernel
theorem dG_init_47 : decode cG_init 47 = .ok (.bipush 64, 2) := by decide +kernel
theorem dG_init_49 : decode cG_init 49 = .ok (.newarray .int, 2) := by decide +kernel
theorem dG_init_51 : decode cG_init 51 = .ok (.putfield 27, 3) := by decide +kernel
theorem dG_init_54 : decode cG_init 54 = .ok (.aload_n 0, 1) := by decide +kernel
theorem dG_init_55 : decode cG_init 55 = .ok (.invokevirtual 30, 3) := by decide +kernel
theorem dG_init_58 : decode cG_init 58 = .ok (.return_, 1) := by decide +kernel
theorem dG_reset_0 : decode cG_reset 0 = .ok (.aload_n 0, 1) := by decide +kernel
theorem dG_reset_1 : decode cG_reset 1 = .ok (.iconst 1, 1) := by decide +kernel
theorem dG_reset_2 : decode cG_reset 2 = .ok (.putfield 33, 3) := by decide +kernel
theorem dG_reset_5 : decode cG_reset 5 = .ok (.aload_n 0, 1) := by decide +kernel
theorem dG_reset_6 : decode cG_reset 6 = .ok (.iconst 0, 1) := by decide +kernel
theorem dG_reset_7 : decode cG_reset 7 = .ok (.putfield 37, 3) := by decide +kernel
theorem dG_reset_10 : decode cG_reset 10 = .ok (.aload_n 0, 1) := by decide +kernel
theorem dG_reset_11 : decode cG_reset 11 = .ok (.iconst 0, 1) := by decide +kernel
theorem dG_reset_12 : decode cG_reset 12 = .ok (.putfield 40, 3) := by decide +kernel
theorem dG_reset_15 : decode cG_reset 15 = .ok (.aload_n 0, 1) := by decide +kernel
theorem dG_reset_16 : decode cG_reset 16 = .ok (.getfield 18, 3) := by decide +kernel
theorem dG_reset_19 : decode cG_reset 19 = .ok (.iconst 0, 1) := by decide +kernel
theorem dG_reset_20 : decode cG_reset 20 = .ok (.iconst (-1), 1) := by decide +kernel
theorem dG_reset_21 : decode cG_reset 21 = .ok (.iastore, 1) := by decide +kernel
theorem dG_reset_22 : decode cG_reset 22 = .ok (.aload_n 0, 1) := by decide +kernel
theorem dG_reset_23 : decode cG_reset 23 = .ok (.getfield 21, 3) := by decide +kernel
theorem dG_reset_26 : decode cG_reset 26 = .ok (.iconst 0, 1) := by decide +kernel
theorem dG_reset_27 : decode cG_reset 27 = .ok (.iconst (-1), 1) := by decide +kernel
theorem dG_reset_28 : decode cG_reset 28 = .ok (.iastore, 1) := by decide +kernel
theorem dG_reset_29 : decode cG_reset 29 = .ok (.aload_n 0, 1) := by decide +kernel
theorem dG_reset_30 : decode cG_reset 30 = .ok (.getfield 24, 3) := by decide +kernel
theorem dG_reset_33 : decode cG_reset 33 = .ok (.iconst 0, 1) := by decide +kernel
theorem dG_reset_34 : decode cG_reset 34 = .ok (.iconst 0, 1) := by decide +kernel
theorem dG_reset_35 : decode cG_reset 35 = .ok (.iastore, 1) := by decide +kernel
theorem dG_reset_36 : decode cG_reset 36 = .ok (.aload_n 0, 1) := by decide +kernel
theorem dG_reset_37 : decode cG_reset 37 = .ok (.getfield 9, 3) := by decide +kernel
theorem dG_reset_40 : decode cG_reset 40 = .ok (.iconst (-1), 1) := by decide +kernel
theorem dG_reset_41 : decode cG_reset 41 = .ok (.invokestatic 43, 3) := by decide +kernel
theorem dG_reset_44 : decode cG_reset 44 = .ok (.aload_n 0, 1) := by decide +kernel
theorem dG_reset_45 : decode cG_reset 45 = .ok (.getfield 15, 3) := by decide +kernel
theorem dG_reset_48 : decode cG_reset 48 = .ok (.iconst 0, 1) := by decide +kernel
theorem dG_reset_49 : decode cG_reset 49 = .ok (.invokestatic 43, 3) := by decide +kernel
theorem dG_reset_52 : decode cG_reset 52 = .ok (.return_, 1) := by decide +kernel
theorem dG_way_0 : decode cG_way 0 = .ok (.aload_n 0, 1) := by decide +kernel
theorem dG_way_1 : decode cG_way 1 = .ok (.getfield 9, 3) := by decide +kernel
theorem dG_way_4 : decode cG_way 4 = .ok (.iload_n 1, 1) := by decide +kernel
theorem dG_way_5 : decode cG_way 5 = .ok (.bipush 6, 2) := by decide +kernel
theorem dG_way_7 : decode cG_way 7 = .ok (.imul, 1) := by decide +kernel
theorem dG_way_8 : decode cG_way 8 = .ok (.iload_n 2, 1) := by decide +kernel
theorem dG_way_9 : decode cG_way 9 = .ok (.iadd, 1) := by decide +kernel
theorem dG_way_10 : decode cG_way 10 = .ok (.iaload, 1) := by decide +kernel
theorem dG_way_11 : decode cG_way 11 = .ok (.ireturn, 1) := by decide +kernel
theorem dG_growTree_0 : decode cG_growTree 0 = .ok (.aload_n 0, 1) := by decide +kernel
theorem dG_growTree_1 : decode cG_growTree 1 = .ok (.getfield 33, 3) := by decide +kernel
theorem dG_growTree_4 : decode cG_growTree 4 = .ok (.bipush 64, 2) := by decide +kernel
theorem dG_growTree_6 : decode cG_growTree 6 = .ok (.if_icmp .ge 50, 3) := by decide +kernel
theorem dG_growTree_9 : decode cG_growTree 9 = .ok (.aload_n 0, 1) := by decide +kernel
theorem dG_growTree_10 : decode cG_growTree 10 = .ok (.getfield 18, 3) := by decide +kernel
theorem dG_growTree_13 : decode cG_growTree 13 = .ok (.aload_n 0, 1) := by decide +kernel
theorem dG_growTree_14 : decode cG_growTree 14 = .ok (.getfield 33, 3) := by decide +kernel
theorem dG_growTree_17 : decode cG_growTree 17 = .ok (.iload_n 1, 1) := by decide +kernel
theorem dG_growTree_18 : decode cG_growTree 18 = .ok (.iastore, 1) := by decide +kernel
theorem dG_growTree_19 : decode cG_growTree 19 = .ok (.aload_n 0, 1) := by decide +kernel
theorem dG_growTree_20 : decode cG_growTree 20 = .ok (.getfield 21, 3) := by decide +kernel
theorem dG_growTree_23 : decode cG_growTree 23 = .ok (.aload_n 0, 1) := by decide +kernel
theorem dG_growTree_24 : decode cG_growTree 24 = .ok (.getfield 33, 3) := by decide +kernel
theorem dG_growTree_27 : decode cG_growTree 27 = .ok (.iload_n 2, 1) := by decide +kernel
theorem dG_growTree_28 : decode cG_growTree 28 = .ok (.iastore, 1) := by decide +kernel
theorem dG_growTree_29 : decode cG_growTree 29 = .ok (.aload_n 0, 1) := by decide +kernel
theorem dG_growTree_30 : decode cG_growTree 30 = .ok (.getfield 24, 3) := by decide +kernel
theorem dG_growTree_33 : decode cG_growTree 33 = .ok (.aload_n 0, 1) := by decide +kernel
theorem dG_growTree_34 : decode cG_growTree 34 = .ok (.getfield 33, 3) := by decide +kernel
theorem dG_growTree_37 : decode cG_growTree 37 = .ok (.aload_n 0, 1) := by decide +kernel
theorem dG_growTree_38 : decode cG_growTree 38 = .ok (.getfield 24, 3) := by decide +kernel
theorem dG_growTree_41 : decode cG_growTree 41 = .ok (.iload_n 1, 1) := by decide +kernel
theorem dG_growTree_42 : decode cG_growTree 42 = .ok (.iaload, 1) := by decide +kernel
theorem dG_growTree_43 : decode cG_growTree 43 = .ok (.iconst 1, 1) := by decide +kernel
theorem dG_growTree_44 : decode cG_growTree 44 = .ok (.iadd, 1) := by decide +kernel
theorem dG_growTree_45 : decode cG_growTree 45 = .ok (.iastore, 1) := by decide +kernel
theorem dG_growTree_46 : decode cG_growTree 46 = .ok (.aload_n 0, 1) := by decide +kernel
theorem dG_growTree_47 : decode cG_growTree 47 = .ok (.dup, 1) := by decide +kernel
theorem dG_growTree_48 : decode cG_growTree 48 = .ok (.getfield 33, 3) := by decide +kernel
theorem dG_growTree_51 : decode cG_growTree 51 = .ok (.iconst 1, 1) := by decide +kernel
theorem dG_growTree_52 : decode cG_growTree 52 = .ok (.iadd, 1) := by decide +kernel
theorem dG_growTree_53 : decode cG_growTree 53 = .ok (.putfield 33, 3) := by decide +kernel
theorem dG_growTree_56 : decode cG_growTree 56 = .ok (.return_, 1) := by decide +kernel
theorem dG_findBasis_0 : decode cG_findBasis 0 = .ok (.iconst 0, 1) := by decide +kernel
theorem dG_findBasis_1 : decode cG_findBasis 1 = .ok (.istore_n 1, 1) := by decide +kernel
theorem dG_findBasis_2 : decode cG_findBasis 2 = .ok (.iload_n 1, 1) := by decide +kernel
theorem dG_findBasis_3 : decode cG_findBasis 3 = .ok (.aload_n 0, 1) := by decide +kernel
theorem dG_findBasis_4 : decode cG_findBasis 4 = .ok (.getfield 33, 3) := by decide +kernel
theorem dG_findBasis_7 : decode cG_findBasis 7 = .ok (.if_icmp .ge 113, 3) := by decide +kernel
theorem dG_findBasis_10 : decode cG_findBasis 10 = .ok (.iconst 0, 1) := by decide +kernel
theorem dG_findBasis_11 : decode cG_findBasis 11 = .ok (.istore_n 2, 1) := by decide +kernel
theorem dG_findBasis_12 : decode cG_findBasis 12 = .ok (.iload_n 2, 1) := by decide +kernel
theorem dG_findBasis_13 : decode cG_findBasis 13 = .ok (.bipush 6, 2) := by decide +kernel
theorem dG_findBasis_15 : decode cG_findBasis 15 = .ok (.if_icmp .ge 99, 3) := by decide +kernel
theorem dG_findBasis_18 : decode cG_findBasis 18 = .ok (.aload_n 0, 1) := by decide +kernel
theorem dG_findBasis_19 : decode cG_findBasis 19 = .ok (.iload_n 1, 1) := by decide +kernel
theorem dG_findBasis_20 : decode cG_findBasis 20 = .ok (.iload_n 2, 1) := by decide +kernel
theorem dG_findBasis_21 : decode cG_findBasis 21 = .ok (.invokevirtual 49, 3) := by decide +kernel
theorem dG_findBasis_24 : decode cG_findBasis 24 = .ok (.istore_n 3, 1) := by decide +kernel
theorem dG_findBasis_25 : decode cG_findBasis 25 = .ok (.iload_n 3, 1) := by decide +kernel
theorem dG_findBasis_26 : decode cG_findBasis 26 = .ok (.iconst (-1), 1) := by decide +kernel
theorem dG_findBasis_27 : decode cG_findBasis 27 = .ok (.if_icmp .ne 6, 3) := by decide +kernel
theorem dG_findBasis_30 : decode cG_findBasis 30 = .ok (.goto 78, 3) := by decide +kernel
theorem dG_findBasis_33 : decode cG_findBasis 33 = .ok (.aload_n 0, 1) := by decide +kernel
theorem dG_findBasis_34 : decode cG_findBasis 34 = .ok (.dup, 1) := by decide +kernel
theorem dG_findBasis_35 : decode cG_findBasis 35 = .ok (.getfield 37, 3) := by decide +kernel
theorem dG_findBasis_38 : decode cG_findBasis 38 = .ok (.iconst 1, 1) := by decide +kernel
theorem dG_findBasis_39 : decode cG_findBasis 39 = .ok (.iadd, 1) := by decide +kernel
theorem dG_findBasis_40 : decode cG_findBasis 40 = .ok (.putfield 37, 3) := by decide +kernel
theorem dG_findBasis_43 : decode cG_findBasis 43 = .ok (.aload_n 0, 1) := by decide +kernel
theorem dG_findBasis_44 : decode cG_findBasis 44 = .ok (.getfield 21, 3) := by decide +kernel
theorem dG_findBasis_47 : decode cG_findBasis 47 = .ok (.iload_n 3, 1) := by decide +kernel
theorem dG_findBasis_48 : decode cG_findBasis 48 = .ok (.iaload, 1) := by decide +kernel
theorem dG_findBasis_49 : decode cG_findBasis 49 = .ok (.iload_n 2, 1) := by decide +kernel
theorem dG_findBasis_50 : decode cG_findBasis 50 = .ok (.if_icmp .eq 58, 3) := by decide +kernel
theorem dG_findBasis_53 : decode cG_findBasis 53 = .ok (.aload_n 0, 1) := by decide +kernel
theorem dG_findBasis_54 : decode cG_findBasis 54 = .ok (.getfield 21, 3) := by decide +kernel
theorem dG_findBasis_57 : decode cG_findBasis 57 = .ok (.iload_n 1, 1) := by decide +kernel
theorem dG_findBasis_58 : decode cG_findBasis 58 = .ok (.iaload, 1) := by decide +kernel
theorem dG_findBasis_59 : decode cG_findBasis 59 = .ok (.iload_n 2, 1) := by decide +kernel
theorem dG_findBasis_60 : decode cG_findBasis 60 = .ok (.iconst 1, 1) := by decide +kernel
theorem dG_findBasis_61 : decode cG_findBasis 61 = .ok (.ixor, 1) := by decide +kernel
theorem dG_findBasis_62 : decode cG_findBasis 62 = .ok (.if_icmp .eq 46, 3) := by decide +kernel
theorem dG_findBasis_65 : decode cG_findBasis 65 = .ok (.aload_n 0, 1) := by decide +kernel
theorem dG_findBasis_66 : decode cG_findBasis 66 = .ok (.dup, 1) := by decide +kernel
theorem dG_findBasis_67 : decode cG_findBasis 67 = .ok (.getfield 40, 3) := by decide +kernel
theorem dG_findBasis_70 : decode cG_findBasis 70 = .ok (.iconst 1, 1) := by decide +kernel
theorem dG_findBasis_71 : decode cG_findBasis 71 = .ok (.iadd, 1) := by decide +kernel
theorem dG_findBasis_72 : decode cG_findBasis 72 = .ok (.putfield 40, 3) := by decide +kernel
theorem dG_findBasis_75 : decode cG_findBasis 75 = .ok (.aload_n 0, 1) := by decide +kernel
theorem dG_findBasis_76 : decode cG_findBasis 76 = .ok (.getfield 15, 3) := by decide +kernel
theorem dG_findBasis_79 : decode cG_findBasis 79 = .ok (.iload_n 1, 1) := by decide +kernel
theorem dG_findBasis_80 : decode cG_findBasis 80 = .ok (.bipush 6, 2) := by decide +kernel
theorem dG_findBasis_82 : decode cG_findBasis 82 = .ok (.imul, 1) := by decide +kernel
theorem dG_findBasis_83 : decode cG_findBasis 83 = .ok (.iload_n 2, 1) := by decide +kernel
theorem dG_findBasis_84 : decode cG_findBasis 84 = .ok (.iadd, 1) := by decide +kernel
theorem dG_findBasis_85 : decode cG_findBasis 85 = .ok (.aload_n 0, 1) := by decide +kernel
theorem dG_findBasis_86 : decode cG_findBasis 86 = .ok (.getfield 40, 3) := by decide +kernel
theorem dG_findBasis_89 : decode cG_findBasis 89 = .ok (.iastore, 1) := by decide +kernel
theorem dG_findBasis_90 : decode cG_findBasis 90 = .ok (.aload_n 0, 1) := by decide +kernel
theorem dG_findBasis_91 : decode cG_findBasis 91 = .ok (.getfield 15, 3) := by decide +kernel
theorem dG_findBasis_94 : decode cG_findBasis 94 = .ok (.iload_n 3, 1) := by decide +kernel
theorem dG_findBasis_95 : decode cG_findBasis 95 = .ok (.bipush 6, 2) := by decide +kernel
theorem dG_findBasis_97 : decode cG_findBasis 97 = .ok (.imul, 1) := by decide +kernel
theorem dG_findBasis_98 : decode cG_findBasis 98 = .ok (.iload_n 2, 1) := by decide +kernel
theorem dG_findBasis_99 : decode cG_findBasis 99 = .ok (.iconst 1, 1) := by decide +kernel
theorem dG_findBasis_100 : decode cG_findBasis 100 = .ok (.ixor, 1) := by decide +kernel
theorem dG_findBasis_101 : decode cG_findBasis 101 = .ok (.iadd, 1) := by decide +kernel
theorem dG_findBasis_102 : decode cG_findBasis 102 = .ok (.aload_n 0, 1) := by decide +kernel
theorem dG_findBasis_103 : decode cG_findBasis 103 = .ok (.getfield 40, 3) := by decide +kernel
theorem dG_findBasis_106 : decode cG_findBasis 106 = .ok (.ineg, 1) := by decide +kernel
theorem dG_findBasis_107 : decode cG_findBasis 107 = .ok (.iastore, 1) := by decide +kernel
theorem dG_findBasis_108 : decode cG_findBasis 108 = .ok (.iinc 2 2, 3) := by decide +kernel
theorem dG_findBasis_111 : decode cG_findBasis 111 = .ok (.goto (-99), 3) := by decide +kernel
theorem dG_findBasis_114 : decode cG_findBasis 114 = .ok (.iinc 1 1, 3) := by decide +kernel
theorem dG_findBasis_117 : decode cG_findBasis 117 = .ok (.goto (-115), 3) := by decide +kernel
theorem dG_findBasis_120 : decode cG_findBasis 120 = .ok (.return_, 1) := by decide +kernel
theorem dG_slotOfElement_0 : decode cG_slotOfElement 0 = .ok (.iload_n 1, 1) := by decide +kernel
theorem dG_slotOfElement_1 : decode cG_slotOfElement 1 = .ok (.ifCond .lt 11, 3) := by decide +kernel
theorem dG_slotOfElement_4 : decode cG_slotOfElement 4 = .ok (.iload_n 1, 1) := by decide +kernel
theorem dG_slotOfElement_5 : decode cG_slotOfElement 5 = .ok (.aload_n 0, 1) := by decide +kernel
theorem dG_slotOfElement_6 : decode cG_slotOfElement 6 = .ok (.getfield 40, 3) := by decide +kernel
theorem dG_slotOfElement_9 : decode cG_slotOfElement 9 = .ok (.if_icmp .lt 5, 3) := by decide +kernel
theorem dG_slotOfElement_12 : decode cG_slotOfElement 12 = .ok (.iconst (-1), 1) := by decide +kernel
theorem dG_slotOfElement_13 : decode cG_slotOfElement 13 = .ok (.ireturn, 1) := by decide +kernel
theorem dG_slotOfElement_14 : decode cG_slotOfElement 14 = .ok (.iconst 0, 1) := by decide +kernel
theorem dG_slotOfElement_15 : decode cG_slotOfElement 15 = .ok (.istore_n 2, 1) := by decide +kernel
theorem dG_slotOfElement_16 : decode cG_slotOfElement 16 = .ok (.iload_n 2, 1) := by decide +kernel
theorem dG_slotOfElement_17 : decode cG_slotOfElement 17 = .ok (.aload_n 0, 1) := by decide +kernel
theorem dG_slotOfElement_18 : decode cG_slotOfElement 18 = .ok (.getfield 33, 3) := by decide +kernel
theorem dG_slotOfElement_21 : decode cG_slotOfElement 21 = .ok (.bipush 6, 2) := by decide +kernel
theorem dG_slotOfElement_23 : decode cG_slotOfElement 23 = .ok (.imul, 1) := by decide +kernel
theorem dG_slotOfElement_24 : decode cG_slotOfElement 24 = .ok (.if_icmp .ge 23, 3) := by decide +kernel
theorem dG_slotOfElement_27 : decode cG_slotOfElement 27 = .ok (.aload_n 0, 1) := by decide +kernel
theorem dG_slotOfElement_28 : decode cG_slotOfElement 28 = .ok (.getfield 15, 3) := by decide +kernel
theorem dG_slotOfElement_31 : decode cG_slotOfElement 31 = .ok (.iload_n 2, 1) := by decide +kernel
theorem dG_slotOfElement_32 : decode cG_slotOfElement 32 = .ok (.iaload, 1) := by decide +kernel
theorem dG_slotOfElement_33 : decode cG_slotOfElement 33 = .ok (.iload_n 1, 1) := by decide +kernel
theorem dG_slotOfElement_34 : decode cG_slotOfElement 34 = .ok (.iconst 1, 1) := by decide +kernel
theorem dG_slotOfElement_35 : decode cG_slotOfElement 35 = .ok (.iadd, 1) := by decide +kernel
theorem dG_slotOfElement_36 : decode cG_slotOfElement 36 = .ok (.if_icmp .ne 5, 3) := by decide +kernel
theorem dG_slotOfElement_39 : decode cG_slotOfElement 39 = .ok (.iload_n 2, 1) := by decide +kernel
theorem dG_slotOfElement_40 : decode cG_slotOfElement 40 = .ok (.ireturn, 1) := by decide +kernel
theorem dG_slotOfElement_41 : decode cG_slotOfElement 41 = .ok (.iinc 2 1, 3) := by decide +kernel
theorem dG_slotOfElement_44 : decode cG_slotOfElement 44 = .ok (.goto (-28), 3) := by decide +kernel
theorem dG_slotOfElement_47 : decode cG_slotOfElement 47 = .ok (.iconst (-1), 1) := by decide +kernel
theorem dG_slotOfElement_48 : decode cG_slotOfElement 48 = .ok (.ireturn, 1) := by decide +kernel
theorem dG_elementSize_0 : decode cG_elementSize 0 = .ok (.aload_n 0, 1) := by decide +kernel
theorem dG_elementSize_1 : decode cG_elementSize 1 = .ok (.getfield 24, 3) := by decide +kernel
theorem dG_elementSize_4 : decode cG_elementSize 4 = .ok (.iload_n 1, 1) := by decide +kernel
theorem dG_elementSize_5 : decode cG_elementSize 5 = .ok (.bipush 6, 2) := by decide +kernel
theorem dG_elementSize_7 : decode cG_elementSize 7 = .ok (.idiv, 1) := by decide +kernel
theorem dG_elementSize_8 : decode cG_elementSize 8 = .ok (.iaload, 1) := by decide +kernel
theorem dG_elementSize_9 : decode cG_elementSize 9 = .ok (.iconst 1, 1) := by decide +kernel
theorem dG_elementSize_10 : decode cG_elementSize 10 = .ok (.iadd, 1) := by decide +kernel
theorem dG_elementSize_11 : decode cG_elementSize 11 = .ok (.aload_n 0, 1) := by decide +kernel
theorem dG_elementSize_12 : decode cG_elementSize 12 = .ok (.getfield 24, 3) := by decide +kernel
theorem dG_elementSize_15 : decode cG_elementSize 15 = .ok (.aload_n 0, 1) := by decide +kernel
theorem dG_elementSize_16 : decode cG_elementSize 16 = .ok (.getfield 9, 3) := by decide +kernel
theorem dG_elementSize_19 : decode cG_elementSize 19 = .ok (.iload_n 1, 1) := by decide +kernel
theorem dG_elementSize_20 : decode cG_elementSize 20 = .ok (.iaload, 1) := by decide +kernel
theorem dG_elementSize_21 : decode cG_elementSize 21 = .ok (.iaload, 1) := by decide +kernel
theorem dG_elementSize_22 : decode cG_elementSize 22 = .ok (.iadd, 1) := by decide +kernel
theorem dG_elementSize_23 : decode cG_elementSize 23 = .ok (.ireturn, 1) := by decide +kernel
theorem dG_elementLetter_0 : decode cG_elementLetter 0 = .ok (.iload_n 1, 1) := by decide +kernel
theorem dG_elementLetter_1 : decode cG_elementLetter 1 = .ok (.bipush 6, 2) := by decide +kernel
theorem dG_elementLetter_3 : decode cG_elementLetter 3 = .ok (.idiv, 1) := by decide +kernel
theorem dG_elementLetter_4 : decode cG_elementLetter 4 = .ok (.istore_n 3, 1) := by decide +kernel
theorem dG_elementLetter_5 : decode cG_elementLetter 5 = .ok (.aload_n 0, 1) := by decide +kernel
theorem dG_elementLetter_6 : decode cG_elementLetter 6 = .ok (.getfield 24, 3) := by decide +kernel
theorem dG_elementLetter_9 : decode cG_elementLetter 9 = .ok (.iload_n 3, 1) := by decide +kernel
