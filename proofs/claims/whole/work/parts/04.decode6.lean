theorem dG_elementLetter_10 : decode cG_elementLetter 10 = .ok (.iaload, 1) := by decide +kernel
theorem dG_elementLetter_11 : decode cG_elementLetter 11 = .ok (.istore 4, 2) := by decide +kernel
theorem dG_elementLetter_13 : decode cG_elementLetter 13 = .ok (.iload_n 2, 1) := by decide +kernel
theorem dG_elementLetter_14 : decode cG_elementLetter 14 = .ok (.iload 4, 2) := by decide +kernel
theorem dG_elementLetter_16 : decode cG_elementLetter 16 = .ok (.if_icmp .ge 23, 3) := by decide +kernel
theorem dG_elementLetter_19 : decode cG_elementLetter 19 = .ok (.aload_n 0, 1) := by decide +kernel
theorem dG_elementLetter_20 : decode cG_elementLetter 20 = .ok (.getfield 21, 3) := by decide +kernel
theorem dG_elementLetter_23 : decode cG_elementLetter 23 = .ok (.aload_n 0, 1) := by decide +kernel
theorem dG_elementLetter_24 : decode cG_elementLetter 24 = .ok (.iload_n 3, 1) := by decide +kernel
theorem dG_elementLetter_25 : decode cG_elementLetter 25 = .ok (.iload 4, 2) := by decide +kernel
theorem dG_elementLetter_27 : decode cG_elementLetter 27 = .ok (.iconst 1, 1) := by decide +kernel
theorem dG_elementLetter_28 : decode cG_elementLetter 28 = .ok (.isub, 1) := by decide +kernel
theorem dG_elementLetter_29 : decode cG_elementLetter 29 = .ok (.iload_n 2, 1) := by decide +kernel
theorem dG_elementLetter_30 : decode cG_elementLetter 30 = .ok (.isub, 1) := by decide +kernel
theorem dG_elementLetter_31 : decode cG_elementLetter 31 = .ok (.invokevirtual 53, 3) := by decide +kernel
theorem dG_elementLetter_34 : decode cG_elementLetter 34 = .ok (.iaload, 1) := by decide +kernel
theorem dG_elementLetter_35 : decode cG_elementLetter 35 = .ok (.invokestatic 56, 3) := by decide +kernel
theorem dG_elementLetter_38 : decode cG_elementLetter 38 = .ok (.ireturn, 1) := by decide +kernel
theorem dG_elementLetter_39 : decode cG_elementLetter 39 = .ok (.iload_n 2, 1) := by decide +kernel
theorem dG_elementLetter_40 : decode cG_elementLetter 40 = .ok (.iload 4, 2) := by decide +kernel
theorem dG_elementLetter_42 : decode cG_elementLetter 42 = .ok (.if_icmp .ne 11, 3) := by decide +kernel
theorem dG_elementLetter_45 : decode cG_elementLetter 45 = .ok (.iload_n 1, 1) := by decide +kernel
theorem dG_elementLetter_46 : decode cG_elementLetter 46 = .ok (.bipush 6, 2) := by decide +kernel
theorem dG_elementLetter_48 : decode cG_elementLetter 48 = .ok (.irem, 1) := by decide +kernel
theorem dG_elementLetter_49 : decode cG_elementLetter 49 = .ok (.invokestatic 56, 3) := by decide +kernel
theorem dG_elementLetter_52 : decode cG_elementLetter 52 = .ok (.ireturn, 1) := by decide +kernel
theorem dG_elementLetter_53 : decode cG_elementLetter 53 = .ok (.aload_n 0, 1) := by decide +kernel
theorem dG_elementLetter_54 : decode cG_elementLetter 54 = .ok (.getfield 21, 3) := by decide +kernel
theorem dG_elementLetter_57 : decode cG_elementLetter 57 = .ok (.aload_n 0, 1) := by decide +kernel
theorem dG_elementLetter_58 : decode cG_elementLetter 58 = .ok (.aload_n 0, 1) := by decide +kernel
theorem dG_elementLetter_59 : decode cG_elementLetter 59 = .ok (.getfield 9, 3) := by decide +kernel
theorem dG_elementLetter_62 : decode cG_elementLetter 62 = .ok (.iload_n 1, 1) := by decide +kernel
theorem dG_elementLetter_63 : decode cG_elementLetter 63 = .ok (.iaload, 1) := by decide +kernel
theorem dG_elementLetter_64 : decode cG_elementLetter 64 = .ok (.iload_n 2, 1) := by decide +kernel
theorem dG_elementLetter_65 : decode cG_elementLetter 65 = .ok (.iload 4, 2) := by decide +kernel
theorem dG_elementLetter_67 : decode cG_elementLetter 67 = .ok (.isub, 1) := by decide +kernel
theorem dG_elementLetter_68 : decode cG_elementLetter 68 = .ok (.iconst 1, 1) := by decide +kernel
theorem dG_elementLetter_69 : decode cG_elementLetter 69 = .ok (.isub, 1) := by decide +kernel
theorem dG_elementLetter_70 : decode cG_elementLetter 70 = .ok (.invokevirtual 53, 3) := by decide +kernel
theorem dG_elementLetter_73 : decode cG_elementLetter 73 = .ok (.iaload, 1) := by decide +kernel
theorem dG_elementLetter_74 : decode cG_elementLetter 74 = .ok (.invokestatic 56, 3) := by decide +kernel
theorem dG_elementLetter_77 : decode cG_elementLetter 77 = .ok (.ineg, 1) := by decide +kernel
theorem dG_elementLetter_78 : decode cG_elementLetter 78 = .ok (.ireturn, 1) := by decide +kernel
theorem dG_climb_0 : decode cG_climb 0 = .ok (.iload_n 1, 1) := by decide +kernel
theorem dG_climb_1 : decode cG_climb 1 = .ok (.istore_n 3, 1) := by decide +kernel
theorem dG_climb_2 : decode cG_climb 2 = .ok (.iconst 0, 1) := by decide +kernel
theorem dG_climb_3 : decode cG_climb 3 = .ok (.istore 4, 2) := by decide +kernel
theorem dG_climb_5 : decode cG_climb 5 = .ok (.iload 4, 2) := by decide +kernel
theorem dG_climb_7 : decode cG_climb 7 = .ok (.iload_n 2, 1) := by decide +kernel
theorem dG_climb_8 : decode cG_climb 8 = .ok (.if_icmp .ge 16, 3) := by decide +kernel
theorem dG_climb_11 : decode cG_climb 11 = .ok (.aload_n 0, 1) := by decide +kernel
theorem dG_climb_12 : decode cG_climb 12 = .ok (.getfield 18, 3) := by decide +kernel
theorem dG_climb_15 : decode cG_climb 15 = .ok (.iload_n 3, 1) := by decide +kernel
theorem dG_climb_16 : decode cG_climb 16 = .ok (.iaload, 1) := by decide +kernel
theorem dG_climb_17 : decode cG_climb 17 = .ok (.istore_n 3, 1) := by decide +kernel
theorem dG_climb_18 : decode cG_climb 18 = .ok (.iinc 4 1, 3) := by decide +kernel
theorem dG_climb_21 : decode cG_climb 21 = .ok (.goto (-16), 3) := by decide +kernel
theorem dG_climb_24 : decode cG_climb 24 = .ok (.iload_n 3, 1) := by decide +kernel
theorem dG_climb_25 : decode cG_climb 25 = .ok (.ireturn, 1) := by decide +kernel
theorem dG_liesUpon_0 : decode cG_liesUpon 0 = .ok (.aload_n 0, 1) := by decide +kernel
theorem dG_liesUpon_1 : decode cG_liesUpon 1 = .ok (.getfield 27, 3) := by decide +kernel
theorem dG_liesUpon_4 : decode cG_liesUpon 4 = .ok (.iconst 0, 1) := by decide +kernel
theorem dG_liesUpon_5 : decode cG_liesUpon 5 = .ok (.iload_n 2, 1) := by decide +kernel
theorem dG_liesUpon_6 : decode cG_liesUpon 6 = .ok (.iastore, 1) := by decide +kernel
theorem dG_liesUpon_7 : decode cG_liesUpon 7 = .ok (.iconst 1, 1) := by decide +kernel
theorem dG_liesUpon_8 : decode cG_liesUpon 8 = .ok (.istore_n 3, 1) := by decide +kernel
theorem dG_liesUpon_9 : decode cG_liesUpon 9 = .ok (.iload_n 3, 1) := by decide +kernel
theorem dG_liesUpon_10 : decode cG_liesUpon 10 = .ok (.aload_n 0, 1) := by decide +kernel
theorem dG_liesUpon_11 : decode cG_liesUpon 11 = .ok (.getfield 33, 3) := by decide +kernel
theorem dG_liesUpon_14 : decode cG_liesUpon 14 = .ok (.if_icmp .ge 48, 3) := by decide +kernel
theorem dG_liesUpon_17 : decode cG_liesUpon 17 = .ok (.aload_n 0, 1) := by decide +kernel
theorem dG_liesUpon_18 : decode cG_liesUpon 18 = .ok (.getfield 27, 3) := by decide +kernel
theorem dG_liesUpon_21 : decode cG_liesUpon 21 = .ok (.iload_n 3, 1) := by decide +kernel
theorem dG_liesUpon_22 : decode cG_liesUpon 22 = .ok (.aload_n 1, 1) := by decide +kernel
theorem dG_liesUpon_23 : decode cG_liesUpon 23 = .ok (.aload_n 0, 1) := by decide +kernel
theorem dG_liesUpon_24 : decode cG_liesUpon 24 = .ok (.getfield 27, 3) := by decide +kernel
theorem dG_liesUpon_27 : decode cG_liesUpon 27 = .ok (.aload_n 0, 1) := by decide +kernel
theorem dG_liesUpon_28 : decode cG_liesUpon 28 = .ok (.getfield 18, 3) := by decide +kernel
theorem dG_liesUpon_31 : decode cG_liesUpon 31 = .ok (.iload_n 3, 1) := by decide +kernel
theorem dG_liesUpon_32 : decode cG_liesUpon 32 = .ok (.iaload, 1) := by decide +kernel
theorem dG_liesUpon_33 : decode cG_liesUpon 33 = .ok (.iaload, 1) := by decide +kernel
theorem dG_liesUpon_34 : decode cG_liesUpon 34 = .ok (.aload_n 0, 1) := by decide +kernel
theorem dG_liesUpon_35 : decode cG_liesUpon 35 = .ok (.getfield 21, 3) := by decide +kernel
theorem dG_liesUpon_38 : decode cG_liesUpon 38 = .ok (.iload_n 3, 1) := by decide +kernel
theorem dG_liesUpon_39 : decode cG_liesUpon 39 = .ok (.iaload, 1) := by decide +kernel
theorem dG_liesUpon_40 : decode cG_liesUpon 40 = .ok (.invokevirtual 49, 3) := by decide +kernel
theorem dG_liesUpon_43 : decode cG_liesUpon 43 = .ok (.iastore, 1) := by decide +kernel
theorem dG_liesUpon_44 : decode cG_liesUpon 44 = .ok (.aload_n 0, 1) := by decide +kernel
theorem dG_liesUpon_45 : decode cG_liesUpon 45 = .ok (.getfield 27, 3) := by decide +kernel
theorem dG_liesUpon_48 : decode cG_liesUpon 48 = .ok (.iload_n 3, 1) := by decide +kernel
theorem dG_liesUpon_49 : decode cG_liesUpon 49 = .ok (.iaload, 1) := by decide +kernel
theorem dG_liesUpon_50 : decode cG_liesUpon 50 = .ok (.iconst (-1), 1) := by decide +kernel
theorem dG_liesUpon_51 : decode cG_liesUpon 51 = .ok (.if_icmp .ne 5, 3) := by decide +kernel
theorem dG_liesUpon_54 : decode cG_liesUpon 54 = .ok (.iconst 0, 1) := by decide +kernel
theorem dG_liesUpon_55 : decode cG_liesUpon 55 = .ok (.ireturn, 1) := by decide +kernel
theorem dG_liesUpon_56 : decode cG_liesUpon 56 = .ok (.iinc 3 1, 3) := by decide +kernel
theorem dG_liesUpon_59 : decode cG_liesUpon 59 = .ok (.goto (-50), 3) := by decide +kernel
theorem dG_liesUpon_62 : decode cG_liesUpon 62 = .ok (.iconst 0, 1) := by decide +kernel
theorem dG_liesUpon_63 : decode cG_liesUpon 63 = .ok (.istore_n 3, 1) := by decide +kernel
theorem dG_liesUpon_64 : decode cG_liesUpon 64 = .ok (.iload_n 3, 1) := by decide +kernel
theorem dG_liesUpon_65 : decode cG_liesUpon 65 = .ok (.aload_n 0, 1) := by decide +kernel
theorem dG_liesUpon_66 : decode cG_liesUpon 66 = .ok (.getfield 33, 3) := by decide +kernel
theorem dG_liesUpon_69 : decode cG_liesUpon 69 = .ok (.if_icmp .ge 64, 3) := by decide +kernel
theorem dG_liesUpon_72 : decode cG_liesUpon 72 = .ok (.iconst 0, 1) := by decide +kernel
theorem dG_liesUpon_73 : decode cG_liesUpon 73 = .ok (.istore 4, 2) := by decide +kernel
theorem dG_liesUpon_75 : decode cG_liesUpon 75 = .ok (.iload 4, 2) := by decide +kernel
theorem dG_liesUpon_77 : decode cG_liesUpon 77 = .ok (.bipush 6, 2) := by decide +kernel
theorem dG_liesUpon_79 : decode cG_liesUpon 79 = .ok (.if_icmp .ge 48, 3) := by decide +kernel
theorem dG_liesUpon_82 : decode cG_liesUpon 82 = .ok (.aload_n 0, 1) := by decide +kernel
theorem dG_liesUpon_83 : decode cG_liesUpon 83 = .ok (.iload_n 3, 1) := by decide +kernel
theorem dG_liesUpon_84 : decode cG_liesUpon 84 = .ok (.iload 4, 2) := by decide +kernel
theorem dG_liesUpon_86 : decode cG_liesUpon 86 = .ok (.invokevirtual 49, 3) := by decide +kernel
theorem dG_liesUpon_89 : decode cG_liesUpon 89 = .ok (.istore 5, 2) := by decide +kernel
theorem dG_liesUpon_91 : decode cG_liesUpon 91 = .ok (.iload 5, 2) := by decide +kernel
theorem dG_liesUpon_93 : decode cG_liesUpon 93 = .ok (.iconst (-1), 1) := by decide +kernel
theorem dG_liesUpon_94 : decode cG_liesUpon 94 = .ok (.if_icmp .eq 27, 3) := by decide +kernel
theorem dG_liesUpon_97 : decode cG_liesUpon 97 = .ok (.aload_n 1, 1) := by decide +kernel
theorem dG_liesUpon_98 : decode cG_liesUpon 98 = .ok (.aload_n 0, 1) := by decide +kernel
theorem dG_liesUpon_99 : decode cG_liesUpon 99 = .ok (.getfield 27, 3) := by decide +kernel
theorem dG_liesUpon_102 : decode cG_liesUpon 102 = .ok (.iload_n 3, 1) := by decide +kernel
theorem dG_liesUpon_103 : decode cG_liesUpon 103 = .ok (.iaload, 1) := by decide +kernel
theorem dG_liesUpon_104 : decode cG_liesUpon 104 = .ok (.iload 4, 2) := by decide +kernel
theorem dG_liesUpon_106 : decode cG_liesUpon 106 = .ok (.invokevirtual 49, 3) := by decide +kernel
theorem dG_liesUpon_109 : decode cG_liesUpon 109 = .ok (.aload_n 0, 1) := by decide +kernel
theorem dG_liesUpon_110 : decode cG_liesUpon 110 = .ok (.getfield 27, 3) := by decide +kernel
theorem dG_liesUpon_113 : decode cG_liesUpon 113 = .ok (.iload 5, 2) := by decide +kernel
theorem dG_liesUpon_115 : decode cG_liesUpon 115 = .ok (.iaload, 1) := by decide +kernel
theorem dG_liesUpon_116 : decode cG_liesUpon 116 = .ok (.if_icmp .eq 5, 3) := by decide +kernel
theorem dG_liesUpon_119 : decode cG_liesUpon 119 = .ok (.iconst 0, 1) := by decide +kernel
theorem dG_liesUpon_120 : decode cG_liesUpon 120 = .ok (.ireturn, 1) := by decide +kernel
theorem dG_liesUpon_121 : decode cG_liesUpon 121 = .ok (.iinc 4 2, 3) := by decide +kernel
theorem dG_liesUpon_124 : decode cG_liesUpon 124 = .ok (.goto (-49), 3) := by decide +kernel
theorem dG_liesUpon_127 : decode cG_liesUpon 127 = .ok (.iinc 3 1, 3) := by decide +kernel
theorem dG_liesUpon_130 : decode cG_liesUpon 130 = .ok (.goto (-66), 3) := by decide +kernel
theorem dG_liesUpon_133 : decode cG_liesUpon 133 = .ok (.iconst 1, 1) := by decide +kernel
theorem dG_liesUpon_134 : decode cG_liesUpon 134 = .ok (.ireturn, 1) := by decide +kernel
theorem dW_init_0 : decode cW_init 0 = .ok (.aload_n 0, 1) := by decide +kernel
theorem dW_init_1 : decode cW_init 1 = .ok (.invokespecial 3, 3) := by decide +kernel
theorem dW_init_4 : decode cW_init 4 = .ok (.aload_n 0, 1) := by decide +kernel
theorem dW_init_5 : decode cW_init 5 = .ok (.bipush 24, 2) := by decide +kernel
theorem dW_init_7 : decode cW_init 7 = .ok (.newarray .int, 2) := by decide +kernel
theorem dW_init_9 : decode cW_init 9 = .ok (.putfield 9, 3) := by decide +kernel
theorem dW_init_12 : decode cW_init 12 = .ok (.aload_n 0, 1) := by decide +kernel
theorem dW_init_13 : decode cW_init 13 = .ok (.iconst 0, 1) := by decide +kernel
theorem dW_init_14 : decode cW_init 14 = .ok (.putfield 15, 3) := by decide +kernel
theorem dW_init_17 : decode cW_init 17 = .ok (.return_, 1) := by decide +kernel
theorem dW_append_0 : decode cW_append 0 = .ok (.aload_n 0, 1) := by decide +kernel
theorem dW_append_1 : decode cW_append 1 = .ok (.getfield 15, 3) := by decide +kernel
theorem dW_append_4 : decode cW_append 4 = .ok (.ifCond .le 34, 3) := by decide +kernel
theorem dW_append_7 : decode cW_append 7 = .ok (.aload_n 0, 1) := by decide +kernel
theorem dW_append_8 : decode cW_append 8 = .ok (.getfield 9, 3) := by decide +kernel
theorem dW_append_11 : decode cW_append 11 = .ok (.aload_n 0, 1) := by decide +kernel
theorem dW_append_12 : decode cW_append 12 = .ok (.getfield 15, 3) := by decide +kernel
theorem dW_append_15 : decode cW_append 15 = .ok (.iconst 1, 1) := by decide +kernel
theorem dW_append_16 : decode cW_append 16 = .ok (.isub, 1) := by decide +kernel
theorem dW_append_17 : decode cW_append 17 = .ok (.iaload, 1) := by decide +kernel
theorem dW_append_18 : decode cW_append 18 = .ok (.iload_n 1, 1) := by decide +kernel
theorem dW_append_19 : decode cW_append 19 = .ok (.ineg, 1) := by decide +kernel
theorem dW_append_20 : decode cW_append 20 = .ok (.if_icmp .ne 18, 3) := by decide +kernel
theorem dW_append_23 : decode cW_append 23 = .ok (.aload_n 0, 1) := by decide +kernel
theorem dW_append_24 : decode cW_append 24 = .ok (.dup, 1) := by decide +kernel
theorem dW_append_25 : decode cW_append 25 = .ok (.getfield 15, 3) := by decide +kernel
theorem dW_append_28 : decode cW_append 28 = .ok (.iconst 1, 1) := by decide +kernel
theorem dW_append_29 : decode cW_append 29 = .ok (.isub, 1) := by decide +kernel
theorem dW_append_30 : decode cW_append 30 = .ok (.putfield 15, 3) := by decide +kernel
theorem dW_append_33 : decode cW_append 33 = .ok (.aload_n 0, 1) := by decide +kernel
theorem dW_append_34 : decode cW_append 34 = .ok (.getfield 15, 3) := by decide +kernel
theorem dW_append_37 : decode cW_append 37 = .ok (.ireturn, 1) := by decide +kernel
theorem dW_append_38 : decode cW_append 38 = .ok (.aload_n 0, 1) := by decide +kernel
theorem dW_append_39 : decode cW_append 39 = .ok (.getfield 15, 3) := by decide +kernel
theorem dW_append_42 : decode cW_append 42 = .ok (.bipush 24, 2) := by decide +kernel
theorem dW_append_44 : decode cW_append 44 = .ok (.if_icmp .lt 6, 3) := by decide +kernel
theorem dW_append_47 : decode cW_append 47 = .ok (.bipush (-2), 2) := by decide +kernel
theorem dW_append_49 : decode cW_append 49 = .ok (.ireturn, 1) := by decide +kernel
theorem dW_append_50 : decode cW_append 50 = .ok (.aload_n 0, 1) := by decide +kernel
theorem dW_append_51 : decode cW_append 51 = .ok (.getfield 9, 3) := by decide +kernel
theorem dW_append_54 : decode cW_append 54 = .ok (.aload_n 0, 1) := by decide +kernel
theorem dW_append_55 : decode cW_append 55 = .ok (.getfield 15, 3) := by decide +kernel
theorem dW_append_58 : decode cW_append 58 = .ok (.iload_n 1, 1) := by decide +kernel
theorem dW_append_59 : decode cW_append 59 = .ok (.iastore, 1) := by decide +kernel
theorem dW_append_60 : decode cW_append 60 = .ok (.aload_n 0, 1) := by decide +kernel
theorem dW_append_61 : decode cW_append 61 = .ok (.dup, 1) := by decide +kernel
theorem dW_append_62 : decode cW_append 62 = .ok (.getfield 15, 3) := by decide +kernel
theorem dW_append_65 : decode cW_append 65 = .ok (.iconst 1, 1) := by decide +kernel
theorem dW_append_66 : decode cW_append 66 = .ok (.iadd, 1) := by decide +kernel
theorem dW_append_67 : decode cW_append 67 = .ok (.putfield 15, 3) := by decide +kernel
theorem dW_append_70 : decode cW_append 70 = .ok (.aload_n 0, 1) := by decide +kernel
theorem dW_append_71 : decode cW_append 71 = .ok (.getfield 15, 3) := by decide +kernel
theorem dW_append_74 : decode cW_append 74 = .ok (.ireturn, 1) := by decide +kernel
theorem dW_turnRound_0 : decode cW_turnRound 0 = .ok (.iconst 0, 1) := by decide +kernel
theorem dW_turnRound_1 : decode cW_turnRound 1 = .ok (.istore_n 1, 1) := by decide +kernel
theorem dW_turnRound_2 : decode cW_turnRound 2 = .ok (.aload_n 0, 1) := by decide +kernel
theorem dW_turnRound_3 : decode cW_turnRound 3 = .ok (.getfield 15, 3) := by decide +kernel
theorem dW_turnRound_6 : decode cW_turnRound 6 = .ok (.iconst 1, 1) := by decide +kernel
theorem dW_turnRound_7 : decode cW_turnRound 7 = .ok (.isub, 1) := by decide +kernel
theorem dW_turnRound_8 : decode cW_turnRound 8 = .ok (.istore_n 2, 1) := by decide +kernel
theorem dW_turnRound_9 : decode cW_turnRound 9 = .ok (.iload_n 1, 1) := by decide +kernel
theorem dW_turnRound_10 : decode cW_turnRound 10 = .ok (.iload_n 2, 1) := by decide +kernel
theorem dW_turnRound_11 : decode cW_turnRound 11 = .ok (.if_icmp .gt 40, 3) := by decide +kernel
theorem dW_turnRound_14 : decode cW_turnRound 14 = .ok (.aload_n 0, 1) := by decide +kernel
theorem dW_turnRound_15 : decode cW_turnRound 15 = .ok (.getfield 9, 3) := by decide +kernel
theorem dW_turnRound_18 : decode cW_turnRound 18 = .ok (.iload_n 1, 1) := by decide +kernel
theorem dW_turnRound_19 : decode cW_turnRound 19 = .ok (.iaload, 1) := by decide +kernel
theorem dW_turnRound_20 : decode cW_turnRound 20 = .ok (.istore_n 3, 1) := by decide +kernel
theorem dW_turnRound_21 : decode cW_turnRound 21 = .ok (.aload_n 0, 1) := by decide +kernel
theorem dW_turnRound_22 : decode cW_turnRound 22 = .ok (.getfield 9, 3) := by decide +kernel
theorem dW_turnRound_25 : decode cW_turnRound 25 = .ok (.iload_n 1, 1) := by decide +kernel
theorem dW_turnRound_26 : decode cW_turnRound 26 = .ok (.aload_n 0, 1) := by decide +kernel
theorem dW_turnRound_27 : decode cW_turnRound 27 = .ok (.getfield 9, 3) := by decide +kernel
theorem dW_turnRound_30 : decode cW_turnRound 30 = .ok (.iload_n 2, 1) := by decide +kernel
theorem dW_turnRound_31 : decode cW_turnRound 31 = .ok (.iaload, 1) := by decide +kernel
theorem dW_turnRound_32 : decode cW_turnRound 32 = .ok (.ineg, 1) := by decide +kernel
theorem dW_turnRound_33 : decode cW_turnRound 33 = .ok (.iastore, 1) := by decide +kernel
theorem dW_turnRound_34 : decode cW_turnRound 34 = .ok (.aload_n 0, 1) := by decide +kernel
theorem dW_turnRound_35 : decode cW_turnRound 35 = .ok (.getfield 9, 3) := by decide +kernel
theorem dW_turnRound_38 : decode cW_turnRound 38 = .ok (.iload_n 2, 1) := by decide +kernel
theorem dW_turnRound_39 : decode cW_turnRound 39 = .ok (.iload_n 3, 1) := by decide +kernel
theorem dW_turnRound_40 : decode cW_turnRound 40 = .ok (.ineg, 1) := by decide +kernel
theorem dW_turnRound_41 : decode cW_turnRound 41 = .ok (.iastore, 1) := by decide +kernel
theorem dW_turnRound_42 : decode cW_turnRound 42 = .ok (.iinc 1 1, 3) := by decide +kernel
theorem dW_turnRound_45 : decode cW_turnRound 45 = .ok (.iinc 2 (-1), 3) := by decide +kernel
theorem dW_turnRound_48 : decode cW_turnRound 48 = .ok (.goto (-39), 3) := by decide +kernel
theorem dW_turnRound_51 : decode cW_turnRound 51 = .ok (.return_, 1) := by decide +kernel
theorem dL_cell_0 : decode cL_cell 0 = .ok (.iload_n 1, 1) := by decide +kernel
theorem dL_cell_1 : decode cL_cell 1 = .ok (.aload_n 0, 1) := by decide +kernel
theorem dL_cell_2 : decode cL_cell 2 = .ok (.arraylength, 1) := by decide +kernel
theorem dL_cell_3 : decode cL_cell 3 = .ok (.if_icmp .ge 9, 3) := by decide +kernel
theorem dL_cell_6 : decode cL_cell 6 = .ok (.aload_n 0, 1) := by decide +kernel
theorem dL_cell_7 : decode cL_cell 7 = .ok (.iload_n 1, 1) := by decide +kernel
theorem dL_cell_8 : decode cL_cell 8 = .ok (.iaload, 1) := by decide +kernel
theorem dL_cell_9 : decode cL_cell 9 = .ok (.goto 4, 3) := by decide +kernel
theorem dL_cell_12 : decode cL_cell 12 = .ok (.iconst 0, 1) := by decide +kernel
theorem dL_cell_13 : decode cL_cell 13 = .ok (.ireturn, 1) := by decide +kernel
theorem dL_law_0 : decode code 0 = .ok (.new 7, 3) := by decide +kernel
theorem dL_law_3 : decode code 3 = .ok (.dup, 1) := by decide +kernel
theorem dL_law_4 : decode code 4 = .ok (.aload_n 0, 1) := by decide +kernel
theorem dL_law_5 : decode code 5 = .ok (.iconst 0, 1) := by decide +kernel
theorem dL_law_6 : decode code 6 = .ok (.invokestatic 9, 3) := by decide +kernel
theorem dL_law_9 : decode code 9 = .ok (.invokespecial 15, 3) := by decide +kernel
theorem dL_law_12 : decode code 12 = .ok (.astore_n 1, 1) := by decide +kernel
theorem dL_law_13 : decode code 13 = .ok (.new 18, 3) := by decide +kernel
theorem dL_law_16 : decode code 16 = .ok (.dup, 1) := by decide +kernel
theorem dL_law_17 : decode code 17 = .ok (.aload_n 0, 1) := by decide +kernel
theorem dL_law_18 : decode code 18 = .ok (.iconst 0, 1) := by decide +kernel
theorem dL_law_19 : decode code 19 = .ok (.invokestatic 9, 3) := by decide +kernel
theorem dL_law_22 : decode code 22 = .ok (.invokespecial 20, 3) := by decide +kernel
theorem dL_law_25 : decode code 25 = .ok (.astore_n 2, 1) := by decide +kernel
theorem dL_law_26 : decode code 26 = .ok (.iconst 1, 1) := by decide +kernel
theorem dL_law_27 : decode code 27 = .ok (.istore_n 3, 1) := by decide +kernel
theorem dL_law_28 : decode code 28 = .ok (.iload_n 3, 1) := by decide +kernel
theorem dL_law_29 : decode code 29 = .ok (.aload_n 0, 1) := by decide +kernel
theorem dL_law_30 : decode code 30 = .ok (.arraylength, 1) := by decide +kernel
theorem dL_law_31 : decode code 31 = .ok (.iconst 4, 1) := by decide +kernel
theorem dL_law_32 : decode code 32 = .ok (.isub, 1) := by decide +kernel
theorem dL_law_33 : decode code 33 = .ok (.if_icmp .gt 662, 3) := by decide +kernel
theorem dL_law_36 : decode code 36 = .ok (.aload_n 0, 1) := by decide +kernel
theorem dL_law_37 : decode code 37 = .ok (.iload_n 3, 1) := by decide +kernel
theorem dL_law_38 : decode code 38 = .ok (.iaload, 1) := by decide +kernel
theorem dL_law_39 : decode code 39 = .ok (.bipush 31, 2) := by decide +kernel
theorem dL_law_41 : decode code 41 = .ok (.iand, 1) := by decide +kernel
theorem dL_law_42 : decode code 42 = .ok (.tableswitch 647 0 18 #[90, 113, 126, 139, 162, 195, 218, 241, 274, 317, 360, 383, 406, 439, 472, 515, 558, 591, 624], 90) := by decide +kernel
theorem dL_law_132 : decode code 132 = .ok (.aload_n 1, 1) := by decide +kernel
theorem dL_law_133 : decode code 133 = .ok (.aload_n 0, 1) := by decide +kernel
theorem dL_law_134 : decode code 134 = .ok (.iload_n 3, 1) := by decide +kernel
theorem dL_law_135 : decode code 135 = .ok (.iconst 1, 1) := by decide +kernel
theorem dL_law_136 : decode code 136 = .ok (.iadd, 1) := by decide +kernel
theorem dL_law_137 : decode code 137 = .ok (.iaload, 1) := by decide +kernel
theorem dL_law_138 : decode code 138 = .ok (.invokevirtual 21, 3) := by decide +kernel
theorem dL_law_141 : decode code 141 = .ok (.aload_n 2, 1) := by decide +kernel
theorem dL_law_142 : decode code 142 = .ok (.aload_n 0, 1) := by decide +kernel
theorem dL_law_143 : decode code 143 = .ok (.iload_n 3, 1) := by decide +kernel
theorem dL_law_144 : decode code 144 = .ok (.iconst 1, 1) := by decide +kernel
theorem dL_law_145 : decode code 145 = .ok (.iadd, 1) := by decide +kernel
theorem dL_law_146 : decode code 146 = .ok (.iaload, 1) := by decide +kernel
theorem dL_law_147 : decode code 147 = .ok (.invokevirtual 25, 3) := by decide +kernel
theorem dL_law_150 : decode code 150 = .ok (.if_icmp .eq 539, 3) := by decide +kernel
theorem dL_law_153 : decode code 153 = .ok (.iconst 0, 1) := by decide +kernel
theorem dL_law_154 : decode code 154 = .ok (.ireturn, 1) := by decide +kernel
theorem dL_law_155 : decode code 155 = .ok (.aload_n 1, 1) := by decide +kernel
theorem dL_law_156 : decode code 156 = .ok (.invokevirtual 26, 3) := by decide +kernel
theorem dL_law_159 : decode code 159 = .ok (.aload_n 2, 1) := by decide +kernel
theorem dL_law_160 : decode code 160 = .ok (.invokevirtual 30, 3) := by decide +kernel
theorem dL_law_163 : decode code 163 = .ok (.if_icmp .eq 526, 3) := by decide +kernel
theorem dL_law_166 : decode code 166 = .ok (.iconst 0, 1) := by decide +kernel
theorem dL_law_167 : decode code 167 = .ok (.ireturn, 1) := by decide +kernel
theorem dL_law_168 : decode code 168 = .ok (.aload_n 1, 1) := by decide +kernel
theorem dL_law_169 : decode code 169 = .ok (.invokevirtual 31, 3) := by decide +kernel
theorem dL_law_172 : decode code 172 = .ok (.aload_n 2, 1) := by decide +kernel
theorem dL_law_173 : decode code 173 = .ok (.invokevirtual 34, 3) := by decide +kernel
theorem dL_law_176 : decode code 176 = .ok (.if_icmp .eq 513, 3) := by decide +kernel
theorem dL_law_179 : decode code 179 = .ok (.iconst 0, 1) := by decide +kernel
theorem dL_law_180 : decode code 180 = .ok (.ireturn, 1) := by decide +kernel
theorem dL_law_181 : decode code 181 = .ok (.aload_n 1, 1) := by decide +kernel
theorem dL_law_182 : decode code 182 = .ok (.aload_n 0, 1) := by decide +kernel
theorem dL_law_183 : decode code 183 = .ok (.iload_n 3, 1) := by decide +kernel
theorem dL_law_184 : decode code 184 = .ok (.iconst 1, 1) := by decide +kernel
theorem dL_law_185 : decode code 185 = .ok (.iadd, 1) := by decide +kernel
theorem dL_law_186 : decode code 186 = .ok (.iaload, 1) := by decide +kernel
theorem dL_law_187 : decode code 187 = .ok (.invokevirtual 35, 3) := by decide +kernel
theorem dL_law_190 : decode code 190 = .ok (.aload_n 2, 1) := by decide +kernel
theorem dL_law_191 : decode code 191 = .ok (.aload_n 0, 1) := by decide +kernel
theorem dL_law_192 : decode code 192 = .ok (.iload_n 3, 1) := by decide +kernel
theorem dL_law_193 : decode code 193 = .ok (.iconst 1, 1) := by decide +kernel
theorem dL_law_194 : decode code 194 = .ok (.iadd, 1) := by decide +kernel
theorem dL_law_195 : decode code 195 = .ok (.iaload, 1) := by decide +kernel
theorem dL_law_196 : decode code 196 = .ok (.invokevirtual 38, 3) := by decide +kernel
theorem dL_law_199 : decode code 199 = .ok (.if_icmp .eq 490, 3) := by decide +kernel
theorem dL_law_202 : decode code 202 = .ok (.iconst 0, 1) := by decide +kernel
theorem dL_law_203 : decode code 203 = .ok (.ireturn, 1) := by decide +kernel
theorem dL_law_204 : decode code 204 = .ok (.aload_n 1, 1) := by decide +kernel
theorem dL_law_205 : decode code 205 = .ok (.aload_n 0, 1) := by decide +kernel
theorem dL_law_206 : decode code 206 = .ok (.iload_n 3, 1) := by decide +kernel
theorem dL_law_207 : decode code 207 = .ok (.iconst 1, 1) := by decide +kernel
theorem dL_law_208 : decode code 208 = .ok (.iadd, 1) := by decide +kernel
theorem dL_law_209 : decode code 209 = .ok (.iaload, 1) := by decide +kernel
theorem dL_law_210 : decode code 210 = .ok (.aload_n 0, 1) := by decide +kernel
theorem dL_law_211 : decode code 211 = .ok (.iload_n 3, 1) := by decide +kernel
theorem dL_law_212 : decode code 212 = .ok (.iconst 2, 1) := by decide +kernel
theorem dL_law_213 : decode code 213 = .ok (.iadd, 1) := by decide +kernel
theorem dL_law_214 : decode code 214 = .ok (.iaload, 1) := by decide +kernel
theorem dL_law_215 : decode code 215 = .ok (.invokevirtual 39, 3) := by decide +kernel
theorem dL_law_218 : decode code 218 = .ok (.aload_n 2, 1) := by decide +kernel
theorem dL_law_219 : decode code 219 = .ok (.aload_n 0, 1) := by decide +kernel
theorem dL_law_220 : decode code 220 = .ok (.iload_n 3, 1) := by decide +kernel
theorem dL_law_221 : decode code 221 = .ok (.iconst 1, 1) := by decide +kernel
theorem dL_law_222 : decode code 222 = .ok (.iadd, 1) := by decide +kernel
theorem dL_law_223 : decode code 223 = .ok (.iaload, 1) := by decide +kernel
theorem dL_law_224 : decode code 224 = .ok (.aload_n 0, 1) := by decide +kernel
theorem dL_law_225 : decode code 225 = .ok (.iload_n 3, 1) := by decide +kernel
theorem dL_law_226 : decode code 226 = .ok (.iconst 2, 1) := by decide +kernel
theorem dL_law_227 : decode code 227 = .ok (.iadd, 1) := by decide +kernel
theorem dL_law_228 : decode code 228 = .ok (.iaload, 1) := by decide +kernel
theorem dL_law_229 : decode code 229 = .ok (.invokevirtual 43, 3) := by decide +kernel
theorem dL_law_232 : decode code 232 = .ok (.if_icmp .eq 457, 3) := by decide +kernel
theorem dL_law_235 : decode code 235 = .ok (.iconst 0, 1) := by decide +kernel
theorem dL_law_236 : decode code 236 = .ok (.ireturn, 1) := by decide +kernel
theorem dL_law_237 : decode code 237 = .ok (.aload_n 1, 1) := by decide +kernel
theorem dL_law_238 : decode code 238 = .ok (.aload_n 0, 1) := by decide +kernel
theorem dL_law_239 : decode code 239 = .ok (.iload_n 3, 1) := by decide +kernel
theorem dL_law_240 : decode code 240 = .ok (.iconst 1, 1) := by decide +kernel
theorem dL_law_241 : decode code 241 = .ok (.iadd, 1) := by decide +kernel
theorem dL_law_242 : decode code 242 = .ok (.iaload, 1) := by decide +kernel
theorem dL_law_243 : decode code 243 = .ok (.invokevirtual 44, 3) := by decide +kernel
theorem dL_law_246 : decode code 246 = .ok (.aload_n 2, 1) := by decide +kernel
theorem dL_law_247 : decode code 247 = .ok (.aload_n 0, 1) := by decide +kernel
theorem dL_law_248 : decode code 248 = .ok (.iload_n 3, 1) := by decide +kernel
theorem dL_law_249 : decode code 249 = .ok (.iconst 1, 1) := by decide +kernel
theorem dL_law_250 : decode code 250 = .ok (.iadd, 1) := by decide +kernel
theorem dL_law_251 : decode code 251 = .ok (.iaload, 1) := by decide +kernel
theorem dL_law_252 : decode code 252 = .ok (.invokevirtual 47, 3) := by decide +kernel
theorem dL_law_255 : decode code 255 = .ok (.if_icmp .eq 434, 3) := by decide +kernel
theorem dL_law_258 : decode code 258 = .ok (.iconst 0, 1) := by decide +kernel
theorem dL_law_259 : decode code 259 = .ok (.ireturn, 1) := by decide +kernel
theorem dL_law_260 : decode code 260 = .ok (.aload_n 1, 1) := by decide +kernel
theorem dL_law_261 : decode code 261 = .ok (.aload_n 0, 1) := by decide +kernel
theorem dL_law_262 : decode code 262 = .ok (.iload_n 3, 1) := by decide +kernel
theorem dL_law_263 : decode code 263 = .ok (.iconst 1, 1) := by decide +kernel
theorem dL_law_264 : decode code 264 = .ok (.iadd, 1) := by decide +kernel
theorem dL_law_265 : decode code 265 = .ok (.iaload, 1) := by decide +kernel
theorem dL_law_266 : decode code 266 = .ok (.invokevirtual 48, 3) := by decide +kernel
theorem dL_law_269 : decode code 269 = .ok (.aload_n 2, 1) := by decide +kernel
theorem dL_law_270 : decode code 270 = .ok (.aload_n 0, 1) := by decide +kernel
theorem dL_law_271 : decode code 271 = .ok (.iload_n 3, 1) := by decide +kernel
theorem dL_law_272 : decode code 272 = .ok (.iconst 1, 1) := by decide +kernel
theorem dL_law_273 : decode code 273 = .ok (.iadd, 1) := by decide +kernel
theorem dL_law_274 : decode code 274 = .ok (.iaload, 1) := by decide +kernel
theorem dL_law_275 : decode code 275 = .ok (.invokevirtual 51, 3) := by decide +kernel
theorem dL_law_278 : decode code 278 = .ok (.if_icmp .eq 411, 3) := by decide +kernel
theorem dL_law_281 : decode code 281 = .ok (.iconst 0, 1) := by decide +kernel
theorem dL_law_282 : decode code 282 = .ok (.ireturn, 1) := by decide +kernel
theorem dL_law_283 : decode code 283 = .ok (.aload_n 1, 1) := by decide +kernel
theorem dL_law_284 : decode code 284 = .ok (.aload_n 0, 1) := by decide +kernel
theorem dL_law_285 : decode code 285 = .ok (.iload_n 3, 1) := by decide +kernel
theorem dL_law_286 : decode code 286 = .ok (.iconst 1, 1) := by decide +kernel
theorem dL_law_287 : decode code 287 = .ok (.iadd, 1) := by decide +kernel
theorem dL_law_288 : decode code 288 = .ok (.iaload, 1) := by decide +kernel
theorem dL_law_289 : decode code 289 = .ok (.aload_n 0, 1) := by decide +kernel
theorem dL_law_290 : decode code 290 = .ok (.iload_n 3, 1) := by decide +kernel
theorem dL_law_291 : decode code 291 = .ok (.iconst 2, 1) := by decide +kernel
theorem dL_law_292 : decode code 292 = .ok (.iadd, 1) := by decide +kernel
theorem dL_law_293 : decode code 293 = .ok (.iaload, 1) := by decide +kernel
theorem dL_law_294 : decode code 294 = .ok (.invokevirtual 52, 3) := by decide +kernel
theorem dL_law_297 : decode code 297 = .ok (.aload_n 2, 1) := by decide +kernel
theorem dL_law_298 : decode code 298 = .ok (.aload_n 0, 1) := by decide +kernel
theorem dL_law_299 : decode code 299 = .ok (.iload_n 3, 1) := by decide +kernel
theorem dL_law_300 : decode code 300 = .ok (.iconst 1, 1) := by decide +kernel
theorem dL_law_301 : decode code 301 = .ok (.iadd, 1) := by decide +kernel
theorem dL_law_302 : decode code 302 = .ok (.iaload, 1) := by decide +kernel
theorem dL_law_303 : decode code 303 = .ok (.aload_n 0, 1) := by decide +kernel
theorem dL_law_304 : decode code 304 = .ok (.iload_n 3, 1) := by decide +kernel
theorem dL_law_305 : decode code 305 = .ok (.iconst 2, 1) := by decide +kernel
theorem dL_law_306 : decode code 306 = .ok (.iadd, 1) := by decide +kernel
theorem dL_law_307 : decode code 307 = .ok (.iaload, 1) := by decide +kernel
theorem dL_law_308 : decode code 308 = .ok (.invokevirtual 55, 3) := by decide +kernel
theorem dL_law_311 : decode code 311 = .ok (.if_icmp .eq 378, 3) := by decide +kernel
theorem dL_law_314 : decode code 314 = .ok (.iconst 0, 1) := by decide +kernel
theorem dL_law_315 : decode code 315 = .ok (.ireturn, 1) := by decide +kernel
theorem dL_law_316 : decode code 316 = .ok (.aload_n 1, 1) := by decide +kernel
theorem dL_law_317 : decode code 317 = .ok (.aload_n 0, 1) := by decide +kernel
theorem dL_law_318 : decode code 318 = .ok (.iload_n 3, 1) := by decide +kernel
theorem dL_law_319 : decode code 319 = .ok (.iconst 1, 1) := by decide +kernel
theorem dL_law_320 : decode code 320 = .ok (.iadd, 1) := by decide +kernel
theorem dL_law_321 : decode code 321 = .ok (.iaload, 1) := by decide +kernel
theorem dL_law_322 : decode code 322 = .ok (.aload_n 0, 1) := by decide +kernel
theorem dL_law_323 : decode code 323 = .ok (.iload_n 3, 1) := by decide +kernel
theorem dL_law_324 : decode code 324 = .ok (.iconst 2, 1) := by decide +kernel
theorem dL_law_325 : decode code 325 = .ok (.iadd, 1) := by decide +kernel
theorem dL_law_326 : decode code 326 = .ok (.iaload, 1) := by decide +kernel
theorem dL_law_327 : decode code 327 = .ok (.aload_n 0, 1) := by decide +kernel
theorem dL_law_328 : decode code 328 = .ok (.iload_n 3, 1) := by decide +kernel
theorem dL_law_329 : decode code 329 = .ok (.iconst 3, 1) := by decide +kernel
theorem dL_law_330 : decode code 330 = .ok (.iadd, 1) := by decide +kernel
theorem dL_law_331 : decode code 331 = .ok (.iaload, 1) := by decide +kernel
theorem dL_law_332 : decode code 332 = .ok (.invokevirtual 56, 3) := by decide +kernel
theorem dL_law_335 : decode code 335 = .ok (.aload_n 2, 1) := by decide +kernel
theorem dL_law_336 : decode code 336 = .ok (.aload_n 0, 1) := by decide +kernel
theorem dL_law_337 : decode code 337 = .ok (.iload_n 3, 1) := by decide +kernel
theorem dL_law_338 : decode code 338 = .ok (.iconst 1, 1) := by decide +kernel
theorem dL_law_339 : decode code 339 = .ok (.iadd, 1) := by decide +kernel
theorem dL_law_340 : decode code 340 = .ok (.iaload, 1) := by decide +kernel
theorem dL_law_341 : decode code 341 = .ok (.aload_n 0, 1) := by decide +kernel
theorem dL_law_342 : decode code 342 = .ok (.iload_n 3, 1) := by decide +kernel
theorem dL_law_343 : decode code 343 = .ok (.iconst 2, 1) := by decide +kernel
theorem dL_law_344 : decode code 344 = .ok (.iadd, 1) := by decide +kernel
theorem dL_law_345 : decode code 345 = .ok (.iaload, 1) := by decide +kernel
theorem dL_law_346 : decode code 346 = .ok (.aload_n 0, 1) := by decide +kernel
theorem dL_law_347 : decode code 347 = .ok (.iload_n 3, 1) := by decide +kernel
theorem dL_law_348 : decode code 348 = .ok (.iconst 3, 1) := by decide +kernel
theorem dL_law_349 : decode code 349 = .ok (.iadd, 1) := by decide +kernel
theorem dL_law_350 : decode code 350 = .ok (.iaload, 1) := by decide +kernel
theorem dL_law_351 : decode code 351 = .ok (.invokevirtual 60, 3) := by decide +kernel
theorem dL_law_354 : decode code 354 = .ok (.if_icmp .eq 335, 3) := by decide +kernel
theorem dL_law_357 : decode code 357 = .ok (.iconst 0, 1) := by decide +kernel
theorem dL_law_358 : decode code 358 = .ok (.ireturn, 1) := by decide +kernel
theorem dL_law_359 : decode code 359 = .ok (.aload_n 1, 1) := by decide +kernel
theorem dL_law_360 : decode code 360 = .ok (.aload_n 0, 1) := by decide +kernel
theorem dL_law_361 : decode code 361 = .ok (.iload_n 3, 1) := by decide +kernel
theorem dL_law_362 : decode code 362 = .ok (.iconst 1, 1) := by decide +kernel
theorem dL_law_363 : decode code 363 = .ok (.iadd, 1) := by decide +kernel
theorem dL_law_364 : decode code 364 = .ok (.iaload, 1) := by decide +kernel
theorem dL_law_365 : decode code 365 = .ok (.aload_n 0, 1) := by decide +kernel
theorem dL_law_366 : decode code 366 = .ok (.iload_n 3, 1) := by decide +kernel
theorem dL_law_367 : decode code 367 = .ok (.iconst 2, 1) := by decide +kernel
theorem dL_law_368 : decode code 368 = .ok (.iadd, 1) := by decide +kernel
theorem dL_law_369 : decode code 369 = .ok (.iaload, 1) := by decide +kernel
theorem dL_law_370 : decode code 370 = .ok (.aload_n 0, 1) := by decide +kernel
theorem dL_law_371 : decode code 371 = .ok (.iload_n 3, 1) := by decide +kernel
theorem dL_law_372 : decode code 372 = .ok (.iconst 3, 1) := by decide +kernel
theorem dL_law_373 : decode code 373 = .ok (.iadd, 1) := by decide +kernel
theorem dL_law_374 : decode code 374 = .ok (.iaload, 1) := by decide +kernel
theorem dL_law_375 : decode code 375 = .ok (.invokevirtual 61, 3) := by decide +kernel
theorem dL_law_378 : decode code 378 = .ok (.aload_n 2, 1) := by decide +kernel
theorem dL_law_379 : decode code 379 = .ok (.aload_n 0, 1) := by decide +kernel
theorem dL_law_380 : decode code 380 = .ok (.iload_n 3, 1) := by decide +kernel
theorem dL_law_381 : decode code 381 = .ok (.iconst 1, 1) := by decide +kernel
theorem dL_law_382 : decode code 382 = .ok (.iadd, 1) := by decide +kernel
theorem dL_law_383 : decode code 383 = .ok (.iaload, 1) := by decide +kernel
theorem dL_law_384 : decode code 384 = .ok (.aload_n 0, 1) := by decide +kernel
theorem dL_law_385 : decode code 385 = .ok (.iload_n 3, 1) := by decide +kernel
theorem dL_law_386 : decode code 386 = .ok (.iconst 2, 1) := by decide +kernel
theorem dL_law_387 : decode code 387 = .ok (.iadd, 1) := by decide +kernel
theorem dL_law_388 : decode code 388 = .ok (.iaload, 1) := by decide +kernel
theorem dL_law_389 : decode code 389 = .ok (.aload_n 0, 1) := by decide +kernel
theorem dL_law_390 : decode code 390 = .ok (.iload_n 3, 1) := by decide +kernel
theorem dL_law_391 : decode code 391 = .ok (.iconst 3, 1) := by decide +kernel
theorem dL_law_392 : decode code 392 = .ok (.iadd, 1) := by decide +kernel
theorem dL_law_393 : decode code 393 = .ok (.iaload, 1) := by decide +kernel
theorem dL_law_394 : decode code 394 = .ok (.invokevirtual 64, 3) := by decide +kernel
theorem dL_law_397 : decode code 397 = .ok (.if_icmp .eq 292, 3) := by decide +kernel
theorem dL_law_400 : decode code 400 = .ok (.iconst 0, 1) := by decide +kernel
theorem dL_law_401 : decode code 401 = .ok (.ireturn, 1) := by decide +kernel
theorem dL_law_402 : decode code 402 = .ok (.aload_n 1, 1) := by decide +kernel
theorem dL_law_403 : decode code 403 = .ok (.aload_n 0, 1) := by decide +kernel
theorem dL_law_404 : decode code 404 = .ok (.iload_n 3, 1) := by decide +kernel
theorem dL_law_405 : decode code 405 = .ok (.iconst 1, 1) := by decide +kernel
theorem dL_law_406 : decode code 406 = .ok (.iadd, 1) := by decide +kernel
theorem dL_law_407 : decode code 407 = .ok (.iaload, 1) := by decide +kernel
theorem dL_law_408 : decode code 408 = .ok (.invokevirtual 65, 3) := by decide +kernel
theorem dL_law_411 : decode code 411 = .ok (.aload_n 2, 1) := by decide +kernel
theorem dL_law_412 : decode code 412 = .ok (.aload_n 0, 1) := by decide +kernel
theorem dL_law_413 : decode code 413 = .ok (.iload_n 3, 1) := by decide +kernel
theorem dL_law_414 : decode code 414 = .ok (.iconst 1, 1) := by decide +kernel
theorem dL_law_415 : decode code 415 = .ok (.iadd, 1) := by decide +kernel
theorem dL_law_416 : decode code 416 = .ok (.iaload, 1) := by decide +kernel
theorem dL_law_417 : decode code 417 = .ok (.invokevirtual 69, 3) := by decide +kernel
theorem dL_law_420 : decode code 420 = .ok (.if_icmp .eq 269, 3) := by decide +kernel
theorem dL_law_423 : decode code 423 = .ok (.iconst 0, 1) := by decide +kernel
theorem dL_law_424 : decode code 424 = .ok (.ireturn, 1) := by decide +kernel
theorem dL_law_425 : decode code 425 = .ok (.aload_n 1, 1) := by decide +kernel
theorem dL_law_426 : decode code 426 = .ok (.aload_n 0, 1) := by decide +kernel
theorem dL_law_427 : decode code 427 = .ok (.iload_n 3, 1) := by decide +kernel
theorem dL_law_428 : decode code 428 = .ok (.iconst 1, 1) := by decide +kernel
theorem dL_law_429 : decode code 429 = .ok (.iadd, 1) := by decide +kernel
theorem dL_law_430 : decode code 430 = .ok (.iaload, 1) := by decide +kernel
theorem dL_law_431 : decode code 431 = .ok (.invokevirtual 70, 3) := by decide +kernel
theorem dL_law_434 : decode code 434 = .ok (.aload_n 2, 1) := by decide +kernel
theorem dL_law_435 : decode code 435 = .ok (.aload_n 0, 1) := by decide +kernel
theorem dL_law_436 : decode code 436 = .ok (.iload_n 3, 1) := by decide +kernel
theorem dL_law_437 : decode code 437 = .ok (.iconst 1, 1) := by decide +kernel
theorem dL_law_438 : decode code 438 = .ok (.iadd, 1) := by decide +kernel
theorem dL_law_439 : decode code 439 = .ok (.iaload, 1) := by decide +kernel
theorem dL_law_440 : decode code 440 = .ok (.invokevirtual 73, 3) := by decide +kernel
theorem dL_law_443 : decode code 443 = .ok (.if_icmp .eq 246, 3) := by decide +kernel
theorem dL_law_446 : decode code 446 = .ok (.iconst 0, 1) := by decide +kernel
theorem dL_law_447 : decode code 447 = .ok (.ireturn, 1) := by decide +kernel
theorem dL_law_448 : decode code 448 = .ok (.aload_n 1, 1) := by decide +kernel
theorem dL_law_449 : decode code 449 = .ok (.aload_n 0, 1) := by decide +kernel
theorem dL_law_450 : decode code 450 = .ok (.iload_n 3, 1) := by decide +kernel
theorem dL_law_451 : decode code 451 = .ok (.iconst 1, 1) := by decide +kernel
theorem dL_law_452 : decode code 452 = .ok (.iadd, 1) := by decide +kernel
theorem dL_law_453 : decode code 453 = .ok (.iaload, 1) := by decide +kernel
theorem dL_law_454 : decode code 454 = .ok (.aload_n 0, 1) := by decide +kernel
theorem dL_law_455 : decode code 455 = .ok (.iload_n 3, 1) := by decide +kernel
theorem dL_law_456 : decode code 456 = .ok (.iconst 2, 1) := by decide +kernel
theorem dL_law_457 : decode code 457 = .ok (.iadd, 1) := by decide +kernel
theorem dL_law_458 : decode code 458 = .ok (.iaload, 1) := by decide +kernel
theorem dL_law_459 : decode code 459 = .ok (.invokevirtual 74, 3) := by decide +kernel
theorem dL_law_462 : decode code 462 = .ok (.aload_n 2, 1) := by decide +kernel
theorem dL_law_463 : decode code 463 = .ok (.aload_n 0, 1) := by decide +kernel
theorem dL_law_464 : decode code 464 = .ok (.iload_n 3, 1) := by decide +kernel
theorem dL_law_465 : decode code 465 = .ok (.iconst 1, 1) := by decide +kernel
theorem dL_law_466 : decode code 466 = .ok (.iadd, 1) := by decide +kernel
theorem dL_law_467 : decode code 467 = .ok (.iaload, 1) := by decide +kernel
theorem dL_law_468 : decode code 468 = .ok (.aload_n 0, 1) := by decide +kernel
theorem dL_law_469 : decode code 469 = .ok (.iload_n 3, 1) := by decide +kernel
theorem dL_law_470 : decode code 470 = .ok (.iconst 2, 1) := by decide +kernel
theorem dL_law_471 : decode code 471 = .ok (.iadd, 1) := by decide +kernel
theorem dL_law_472 : decode code 472 = .ok (.iaload, 1) := by decide +kernel
theorem dL_law_473 : decode code 473 = .ok (.invokevirtual 77, 3) := by decide +kernel
theorem dL_law_476 : decode code 476 = .ok (.if_icmp .eq 213, 3) := by decide +kernel
theorem dL_law_479 : decode code 479 = .ok (.iconst 0, 1) := by decide +kernel
theorem dL_law_480 : decode code 480 = .ok (.ireturn, 1) := by decide +kernel
theorem dL_law_481 : decode code 481 = .ok (.aload_n 1, 1) := by decide +kernel
theorem dL_law_482 : decode code 482 = .ok (.aload_n 0, 1) := by decide +kernel
theorem dL_law_483 : decode code 483 = .ok (.iload_n 3, 1) := by decide +kernel
theorem dL_law_484 : decode code 484 = .ok (.iconst 1, 1) := by decide +kernel
theorem dL_law_485 : decode code 485 = .ok (.iadd, 1) := by decide +kernel
theorem dL_law_486 : decode code 486 = .ok (.iaload, 1) := by decide +kernel
theorem dL_law_487 : decode code 487 = .ok (.aload_n 0, 1) := by decide +kernel
theorem dL_law_488 : decode code 488 = .ok (.iload_n 3, 1) := by decide +kernel
theorem dL_law_489 : decode code 489 = .ok (.iconst 2, 1) := by decide +kernel
theorem dL_law_490 : decode code 490 = .ok (.iadd, 1) := by decide +kernel
theorem dL_law_491 : decode code 491 = .ok (.iaload, 1) := by decide +kernel
theorem dL_law_492 : decode code 492 = .ok (.invokevirtual 78, 3) := by decide +kernel
theorem dL_law_495 : decode code 495 = .ok (.aload_n 2, 1) := by decide +kernel
theorem dL_law_496 : decode code 496 = .ok (.aload_n 0, 1) := by decide +kernel
theorem dL_law_497 : decode code 497 = .ok (.iload_n 3, 1) := by decide +kernel
theorem dL_law_498 : decode code 498 = .ok (.iconst 1, 1) := by decide +kernel
theorem dL_law_499 : decode code 499 = .ok (.iadd, 1) := by decide +kernel
theorem dL_law_500 : decode code 500 = .ok (.iaload, 1) := by decide +kernel
theorem dL_law_501 : decode code 501 = .ok (.aload_n 0, 1) := by decide +kernel
theorem dL_law_502 : decode code 502 = .ok (.iload_n 3, 1) := by decide +kernel
theorem dL_law_503 : decode code 503 = .ok (.iconst 2, 1) := by decide +kernel
theorem dL_law_504 : decode code 504 = .ok (.iadd, 1) := by decide +kernel
theorem dL_law_505 : decode code 505 = .ok (.iaload, 1) := by decide +kernel
theorem dL_law_506 : decode code 506 = .ok (.invokevirtual 81, 3) := by decide +kernel
theorem dL_law_509 : decode code 509 = .ok (.if_icmp .eq 180, 3) := by decide +kernel
theorem dL_law_512 : decode code 512 = .ok (.iconst 0, 1) := by decide +kernel
theorem dL_law_513 : decode code 513 = .ok (.ireturn, 1) := by decide +kernel
theorem dL_law_514 : decode code 514 = .ok (.aload_n 1, 1) := by decide +kernel
theorem dL_law_515 : decode code 515 = .ok (.aload_n 0, 1) := by decide +kernel
theorem dL_law_516 : decode code 516 = .ok (.iload_n 3, 1) := by decide +kernel
theorem dL_law_517 : decode code 517 = .ok (.iconst 1, 1) := by decide +kernel
theorem dL_law_518 : decode code 518 = .ok (.iadd, 1) := by decide +kernel
theorem dL_law_519 : decode code 519 = .ok (.iaload, 1) := by decide +kernel
theorem dL_law_520 : decode code 520 = .ok (.aload_n 0, 1) := by decide +kernel
theorem dL_law_521 : decode code 521 = .ok (.iload_n 3, 1) := by decide +kernel
theorem dL_law_522 : decode code 522 = .ok (.iconst 2, 1) := by decide +kernel
theorem dL_law_523 : decode code 523 = .ok (.iadd, 1) := by decide +kernel
theorem dL_law_524 : decode code 524 = .ok (.iaload, 1) := by decide +kernel
theorem dL_law_525 : decode code 525 = .ok (.aload_n 0, 1) := by decide +kernel
theorem dL_law_526 : decode code 526 = .ok (.iload_n 3, 1) := by decide +kernel
theorem dL_law_527 : decode code 527 = .ok (.iconst 3, 1) := by decide +kernel
theorem dL_law_528 : decode code 528 = .ok (.iadd, 1) := by decide +kernel
theorem dL_law_529 : decode code 529 = .ok (.iaload, 1) := by decide +kernel
theorem dL_law_530 : decode code 530 = .ok (.invokevirtual 82, 3) := by decide +kernel
theorem dL_law_533 : decode code 533 = .ok (.aload_n 2, 1) := by decide +kernel
theorem dL_law_534 : decode code 534 = .ok (.aload_n 0, 1) := by decide +kernel
theorem dL_law_535 : decode code 535 = .ok (.iload_n 3, 1) := by decide +kernel
theorem dL_law_536 : decode code 536 = .ok (.iconst 1, 1) := by decide +kernel
theorem dL_law_537 : decode code 537 = .ok (.iadd, 1) := by decide +kernel
theorem dL_law_538 : decode code 538 = .ok (.iaload, 1) := by decide +kernel
theorem dL_law_539 : decode code 539 = .ok (.aload_n 0, 1) := by decide +kernel
theorem dL_law_540 : decode code 540 = .ok (.iload_n 3, 1) := by decide +kernel
theorem dL_law_541 : decode code 541 = .ok (.iconst 2, 1) := by decide +kernel
theorem dL_law_542 : decode code 542 = .ok (.iadd, 1) := by decide +kernel
theorem dL_law_543 : decode code 543 = .ok (.iaload, 1) := by decide +kernel
theorem dL_law_544 : decode code 544 = .ok (.aload_n 0, 1) := by decide +kernel
theorem dL_law_545 : decode code 545 = .ok (.iload_n 3, 1) := by decide +kernel
theorem dL_law_546 : decode code 546 = .ok (.iconst 3, 1) := by decide +kernel
theorem dL_law_547 : decode code 547 = .ok (.iadd, 1) := by decide +kernel
theorem dL_law_548 : decode code 548 = .ok (.iaload, 1) := by decide +kernel
theorem dL_law_549 : decode code 549 = .ok (.invokevirtual 85, 3) := by decide +kernel
theorem dL_law_552 : decode code 552 = .ok (.if_icmp .eq 137, 3) := by decide +kernel
theorem dL_law_555 : decode code 555 = .ok (.iconst 0, 1) := by decide +kernel
theorem dL_law_556 : decode code 556 = .ok (.ireturn, 1) := by decide +kernel
theorem dL_law_557 : decode code 557 = .ok (.aload_n 1, 1) := by decide +kernel
theorem dL_law_558 : decode code 558 = .ok (.aload_n 0, 1) := by decide +kernel
theorem dL_law_559 : decode code 559 = .ok (.iload_n 3, 1) := by decide +kernel
theorem dL_law_560 : decode code 560 = .ok (.iconst 1, 1) := by decide +kernel
theorem dL_law_561 : decode code 561 = .ok (.iadd, 1) := by decide +kernel
theorem dL_law_562 : decode code 562 = .ok (.iaload, 1) := by decide +kernel
theorem dL_law_563 : decode code 563 = .ok (.aload_n 0, 1) := by decide +kernel
theorem dL_law_564 : decode code 564 = .ok (.iload_n 3, 1) := by decide +kernel
theorem dL_law_565 : decode code 565 = .ok (.iconst 2, 1) := by decide +kernel
theorem dL_law_566 : decode code 566 = .ok (.iadd, 1) := by decide +kernel
theorem dL_law_567 : decode code 567 = .ok (.iaload, 1) := by decide +kernel
theorem dL_law_568 : decode code 568 = .ok (.aload_n 0, 1) := by decide +kernel
theorem dL_law_569 : decode code 569 = .ok (.iload_n 3, 1) := by decide +kernel
theorem dL_law_570 : decode code 570 = .ok (.iconst 3, 1) := by decide +kernel
theorem dL_law_571 : decode code 571 = .ok (.iadd, 1) := by decide +kernel
theorem dL_law_572 : decode code 572 = .ok (.iaload, 1) := by decide +kernel
theorem dL_law_573 : decode code 573 = .ok (.invokevirtual 86, 3) := by decide +kernel
theorem dL_law_576 : decode code 576 = .ok (.aload_n 2, 1) := by decide +kernel
theorem dL_law_577 : decode code 577 = .ok (.aload_n 0, 1) := by decide +kernel
theorem dL_law_578 : decode code 578 = .ok (.iload_n 3, 1) := by decide +kernel
theorem dL_law_579 : decode code 579 = .ok (.iconst 1, 1) := by decide +kernel
theorem dL_law_580 : decode code 580 = .ok (.iadd, 1) := by decide +kernel
theorem dL_law_581 : decode code 581 = .ok (.iaload, 1) := by decide +kernel
theorem dL_law_582 : decode code 582 = .ok (.aload_n 0, 1) := by decide +kernel
theorem dL_law_583 : decode code 583 = .ok (.iload_n 3, 1) := by decide +kernel
theorem dL_law_584 : decode code 584 = .ok (.iconst 2, 1) := by decide +kernel
theorem dL_law_585 : decode code 585 = .ok (.iadd, 1) := by decide +kernel
theorem dL_law_586 : decode code 586 = .ok (.iaload, 1) := by decide +kernel
theorem dL_law_587 : decode code 587 = .ok (.aload_n 0, 1) := by decide +kernel
theorem dL_law_588 : decode code 588 = .ok (.iload_n 3, 1) := by decide +kernel
theorem dL_law_589 : decode code 589 = .ok (.iconst 3, 1) := by decide +kernel
theorem dL_law_590 : decode code 590 = .ok (.iadd, 1) := by decide +kernel
theorem dL_law_591 : decode code 591 = .ok (.iaload, 1) := by decide +kernel
theorem dL_law_592 : decode code 592 = .ok (.invokevirtual 89, 3) := by decide +kernel
theorem dL_law_595 : decode code 595 = .ok (.if_icmp .eq 94, 3) := by decide +kernel
theorem dL_law_598 : decode code 598 = .ok (.iconst 0, 1) := by decide +kernel
theorem dL_law_599 : decode code 599 = .ok (.ireturn, 1) := by decide +kernel
theorem dL_law_600 : decode code 600 = .ok (.aload_n 1, 1) := by decide +kernel
theorem dL_law_601 : decode code 601 = .ok (.aload_n 0, 1) := by decide +kernel
theorem dL_law_602 : decode code 602 = .ok (.iload_n 3, 1) := by decide +kernel
theorem dL_law_603 : decode code 603 = .ok (.iconst 1, 1) := by decide +kernel
theorem dL_law_604 : decode code 604 = .ok (.iadd, 1) := by decide +kernel
theorem dL_law_605 : decode code 605 = .ok (.iaload, 1) := by decide +kernel
theorem dL_law_606 : decode code 606 = .ok (.aload_n 0, 1) := by decide +kernel
theorem dL_law_607 : decode code 607 = .ok (.iload_n 3, 1) := by decide +kernel
theorem dL_law_608 : decode code 608 = .ok (.iconst 2, 1) := by decide +kernel
theorem dL_law_609 : decode code 609 = .ok (.iadd, 1) := by decide +kernel
theorem dL_law_610 : decode code 610 = .ok (.iaload, 1) := by decide +kernel
theorem dL_law_611 : decode code 611 = .ok (.invokevirtual 90, 3) := by decide +kernel
theorem dL_law_614 : decode code 614 = .ok (.aload_n 2, 1) := by decide +kernel
theorem dL_law_615 : decode code 615 = .ok (.aload_n 0, 1) := by decide +kernel
theorem dL_law_616 : decode code 616 = .ok (.iload_n 3, 1) := by decide +kernel
theorem dL_law_617 : decode code 617 = .ok (.iconst 1, 1) := by decide +kernel
theorem dL_law_618 : decode code 618 = .ok (.iadd, 1) := by decide +kernel
theorem dL_law_619 : decode code 619 = .ok (.iaload, 1) := by decide +kernel
theorem dL_law_620 : decode code 620 = .ok (.aload_n 0, 1) := by decide +kernel
theorem dL_law_621 : decode code 621 = .ok (.iload_n 3, 1) := by decide +kernel
theorem dL_law_622 : decode code 622 = .ok (.iconst 2, 1) := by decide +kernel
theorem dL_law_623 : decode code 623 = .ok (.iadd, 1) := by decide +kernel
theorem dL_law_624 : decode code 624 = .ok (.iaload, 1) := by decide +kernel
theorem dL_law_625 : decode code 625 = .ok (.invokevirtual 93, 3) := by decide +kernel
theorem dL_law_628 : decode code 628 = .ok (.if_icmp .eq 61, 3) := by decide +kernel
theorem dL_law_631 : decode code 631 = .ok (.iconst 0, 1) := by decide +kernel
theorem dL_law_632 : decode code 632 = .ok (.ireturn, 1) := by decide +kernel
theorem dL_law_633 : decode code 633 = .ok (.aload_n 1, 1) := by decide +kernel
theorem dL_law_634 : decode code 634 = .ok (.aload_n 0, 1) := by decide +kernel
theorem dL_law_635 : decode code 635 = .ok (.iload_n 3, 1) := by decide +kernel
theorem dL_law_636 : decode code 636 = .ok (.iconst 1, 1) := by decide +kernel
theorem dL_law_637 : decode code 637 = .ok (.iadd, 1) := by decide +kernel
theorem dL_law_638 : decode code 638 = .ok (.iaload, 1) := by decide +kernel
theorem dL_law_639 : decode code 639 = .ok (.aload_n 0, 1) := by decide +kernel
theorem dL_law_640 : decode code 640 = .ok (.iload_n 3, 1) := by decide +kernel
theorem dL_law_641 : decode code 641 = .ok (.iconst 2, 1) := by decide +kernel
theorem dL_law_642 : decode code 642 = .ok (.iadd, 1) := by decide +kernel
theorem dL_law_643 : decode code 643 = .ok (.iaload, 1) := by decide +kernel
theorem dL_law_644 : decode code 644 = .ok (.invokevirtual 94, 3) := by decide +kernel
theorem dL_law_647 : decode code 647 = .ok (.aload_n 2, 1) := by decide +kernel
theorem dL_law_648 : decode code 648 = .ok (.aload_n 0, 1) := by decide +kernel
theorem dL_law_649 : decode code 649 = .ok (.iload_n 3, 1) := by decide +kernel
theorem dL_law_650 : decode code 650 = .ok (.iconst 1, 1) := by decide +kernel
theorem dL_law_651 : decode code 651 = .ok (.iadd, 1) := by decide +kernel
theorem dL_law_652 : decode code 652 = .ok (.iaload, 1) := by decide +kernel
theorem dL_law_653 : decode code 653 = .ok (.aload_n 0, 1) := by decide +kernel
theorem dL_law_654 : decode code 654 = .ok (.iload_n 3, 1) := by decide +kernel
theorem dL_law_655 : decode code 655 = .ok (.iconst 2, 1) := by decide +kernel
theorem dL_law_656 : decode code 656 = .ok (.iadd, 1) := by decide +kernel
theorem dL_law_657 : decode code 657 = .ok (.iaload, 1) := by decide +kernel
theorem dL_law_658 : decode code 658 = .ok (.invokevirtual 98, 3) := by decide +kernel
theorem dL_law_661 : decode code 661 = .ok (.if_icmp .eq 28, 3) := by decide +kernel
theorem dL_law_664 : decode code 664 = .ok (.iconst 0, 1) := by decide +kernel
theorem dL_law_665 : decode code 665 = .ok (.ireturn, 1) := by decide +kernel
theorem dL_law_666 : decode code 666 = .ok (.aload_n 1, 1) := by decide +kernel
theorem dL_law_667 : decode code 667 = .ok (.aload_n 0, 1) := by decide +kernel
theorem dL_law_668 : decode code 668 = .ok (.iload_n 3, 1) := by decide +kernel
theorem dL_law_669 : decode code 669 = .ok (.iconst 1, 1) := by decide +kernel
theorem dL_law_670 : decode code 670 = .ok (.iadd, 1) := by decide +kernel
theorem dL_law_671 : decode code 671 = .ok (.iaload, 1) := by decide +kernel
theorem dL_law_672 : decode code 672 = .ok (.invokevirtual 99, 3) := by decide +kernel
theorem dL_law_675 : decode code 675 = .ok (.aload_n 2, 1) := by decide +kernel
theorem dL_law_676 : decode code 676 = .ok (.aload_n 0, 1) := by decide +kernel
theorem dL_law_677 : decode code 677 = .ok (.iload_n 3, 1) := by decide +kernel
theorem dL_law_678 : decode code 678 = .ok (.iconst 1, 1) := by decide +kernel
theorem dL_law_679 : decode code 679 = .ok (.iadd, 1) := by decide +kernel
theorem dL_law_680 : decode code 680 = .ok (.iaload, 1) := by decide +kernel
