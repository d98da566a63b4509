theorem dM_init_23 : decode cM_init 23 = .ok (.newarray .int, 2) := by decide +kernel
theorem dM_init_25 : decode cM_init 25 = .ok (.putfield 16, 3) := by decide +kernel
theorem dM_init_28 : decode cM_init 28 = .ok (.aload_n 0, 1) := by decide +kernel
theorem dM_init_29 : decode cM_init 29 = .ok (.sipush 256, 3) := by decide +kernel
theorem dM_init_32 : decode cM_init 32 = .ok (.newarray .int, 2) := by decide +kernel
theorem dM_init_34 : decode cM_init 34 = .ok (.putfield 19, 3) := by decide +kernel
theorem dM_init_37 : decode cM_init 37 = .ok (.aload_n 0, 1) := by decide +kernel
theorem dM_init_38 : decode cM_init 38 = .ok (.sipush 256, 3) := by decide +kernel
theorem dM_init_41 : decode cM_init 41 = .ok (.newarray .int, 2) := by decide +kernel
theorem dM_init_43 : decode cM_init 43 = .ok (.putfield 22, 3) := by decide +kernel
theorem dM_init_46 : decode cM_init 46 = .ok (.aload_n 0, 1) := by decide +kernel
theorem dM_init_47 : decode cM_init 47 = .ok (.sipush 256, 3) := by decide +kernel
theorem dM_init_50 : decode cM_init 50 = .ok (.newarray .int, 2) := by decide +kernel
theorem dM_init_52 : decode cM_init 52 = .ok (.putfield 25, 3) := by decide +kernel
theorem dM_init_55 : decode cM_init 55 = .ok (.aload_n 0, 1) := by decide +kernel
theorem dM_init_56 : decode cM_init 56 = .ok (.sipush 256, 3) := by decide +kernel
theorem dM_init_59 : decode cM_init 59 = .ok (.newarray .int, 2) := by decide +kernel
theorem dM_init_61 : decode cM_init 61 = .ok (.putfield 28, 3) := by decide +kernel
theorem dM_init_64 : decode cM_init 64 = .ok (.aload_n 0, 1) := by decide +kernel
theorem dM_init_65 : decode cM_init 65 = .ok (.sipush 256, 3) := by decide +kernel
theorem dM_init_68 : decode cM_init 68 = .ok (.newarray .int, 2) := by decide +kernel
theorem dM_init_70 : decode cM_init 70 = .ok (.putfield 31, 3) := by decide +kernel
theorem dM_init_73 : decode cM_init 73 = .ok (.aload_n 0, 1) := by decide +kernel
theorem dM_init_74 : decode cM_init 74 = .ok (.sipush 256, 3) := by decide +kernel
theorem dM_init_77 : decode cM_init 77 = .ok (.newarray .int, 2) := by decide +kernel
theorem dM_init_79 : decode cM_init 79 = .ok (.putfield 34, 3) := by decide +kernel
theorem dM_init_82 : decode cM_init 82 = .ok (.aload_n 0, 1) := by decide +kernel
theorem dM_init_83 : decode cM_init 83 = .ok (.bipush 64, 2) := by decide +kernel
theorem dM_init_85 : decode cM_init 85 = .ok (.newarray .int, 2) := by decide +kernel
theorem dM_init_87 : decode cM_init 87 = .ok (.putfield 37, 3) := by decide +kernel
theorem dM_init_90 : decode cM_init 90 = .ok (.aload_n 0, 1) := by decide +kernel
theorem dM_init_91 : decode cM_init 91 = .ok (.sipush 384, 3) := by decide +kernel
theorem dM_init_94 : decode cM_init 94 = .ok (.newarray .int, 2) := by decide +kernel
theorem dM_init_96 : decode cM_init 96 = .ok (.putfield 40, 3) := by decide +kernel
theorem dM_init_99 : decode cM_init 99 = .ok (.aload_n 0, 1) := by decide +kernel
theorem dM_init_100 : decode cM_init 100 = .ok (.bipush 64, 2) := by decide +kernel
theorem dM_init_102 : decode cM_init 102 = .ok (.newarray .int, 2) := by decide +kernel
theorem dM_init_104 : decode cM_init 104 = .ok (.putfield 43, 3) := by decide +kernel
theorem dM_init_107 : decode cM_init 107 = .ok (.aload_n 0, 1) := by decide +kernel
theorem dM_init_108 : decode cM_init 108 = .ok (.bipush 64, 2) := by decide +kernel
theorem dM_init_110 : decode cM_init 110 = .ok (.newarray .int, 2) := by decide +kernel
theorem dM_init_112 : decode cM_init 112 = .ok (.putfield 46, 3) := by decide +kernel
theorem dM_init_115 : decode cM_init 115 = .ok (.aload_n 0, 1) := by decide +kernel
theorem dM_init_116 : decode cM_init 116 = .ok (.bipush 64, 2) := by decide +kernel
theorem dM_init_118 : decode cM_init 118 = .ok (.newarray .int, 2) := by decide +kernel
theorem dM_init_120 : decode cM_init 120 = .ok (.putfield 49, 3) := by decide +kernel
theorem dM_init_123 : decode cM_init 123 = .ok (.aload_n 0, 1) := by decide +kernel
theorem dM_init_124 : decode cM_init 124 = .ok (.bipush 64, 2) := by decide +kernel
theorem dM_init_126 : decode cM_init 126 = .ok (.newarray .int, 2) := by decide +kernel
theorem dM_init_128 : decode cM_init 128 = .ok (.putfield 52, 3) := by decide +kernel
theorem dM_init_131 : decode cM_init 131 = .ok (.aload_n 0, 1) := by decide +kernel
theorem dM_init_132 : decode cM_init 132 = .ok (.sipush 132, 3) := by decide +kernel
theorem dM_init_135 : decode cM_init 135 = .ok (.newarray .int, 2) := by decide +kernel
theorem dM_init_137 : decode cM_init 137 = .ok (.putfield 55, 3) := by decide +kernel
theorem dM_init_140 : decode cM_init 140 = .ok (.aload_n 0, 1) := by decide +kernel
theorem dM_init_141 : decode cM_init 141 = .ok (.iload_n 1, 1) := by decide +kernel
theorem dM_init_142 : decode cM_init 142 = .ok (.iconst 1, 1) := by decide +kernel
theorem dM_init_143 : decode cM_init 143 = .ok (.if_icmp .ge 7, 3) := by decide +kernel
theorem dM_init_146 : decode cM_init 146 = .ok (.iconst 1, 1) := by decide +kernel
theorem dM_init_147 : decode cM_init 147 = .ok (.goto 13, 3) := by decide +kernel
theorem dM_init_150 : decode cM_init 150 = .ok (.iload_n 1, 1) := by decide +kernel
theorem dM_init_151 : decode cM_init 151 = .ok (.iconst 3, 1) := by decide +kernel
theorem dM_init_152 : decode cM_init 152 = .ok (.if_icmp .le 7, 3) := by decide +kernel
theorem dM_init_155 : decode cM_init 155 = .ok (.iconst 3, 1) := by decide +kernel
theorem dM_init_156 : decode cM_init 156 = .ok (.goto 4, 3) := by decide +kernel
theorem dM_init_159 : decode cM_init 159 = .ok (.iload_n 1, 1) := by decide +kernel
theorem dM_init_160 : decode cM_init 160 = .ok (.putfield 58, 3) := by decide +kernel
theorem dM_init_163 : decode cM_init 163 = .ok (.iconst 0, 1) := by decide +kernel
theorem dM_init_164 : decode cM_init 164 = .ok (.istore_n 2, 1) := by decide +kernel
theorem dM_init_165 : decode cM_init 165 = .ok (.iload_n 2, 1) := by decide +kernel
theorem dM_init_166 : decode cM_init 166 = .ok (.sipush 1536, 3) := by decide +kernel
theorem dM_init_169 : decode cM_init 169 = .ok (.if_icmp .ge 16, 3) := by decide +kernel
theorem dM_init_172 : decode cM_init 172 = .ok (.aload_n 0, 1) := by decide +kernel
theorem dM_init_173 : decode cM_init 173 = .ok (.getfield 16, 3) := by decide +kernel
theorem dM_init_176 : decode cM_init 176 = .ok (.iload_n 2, 1) := by decide +kernel
theorem dM_init_177 : decode cM_init 177 = .ok (.iconst (-1), 1) := by decide +kernel
theorem dM_init_178 : decode cM_init 178 = .ok (.iastore, 1) := by decide +kernel
theorem dM_init_179 : decode cM_init 179 = .ok (.iinc 2 1, 3) := by decide +kernel
theorem dM_init_182 : decode cM_init 182 = .ok (.goto (-17), 3) := by decide +kernel
theorem dM_init_185 : decode cM_init 185 = .ok (.iconst 0, 1) := by decide +kernel
theorem dM_init_186 : decode cM_init 186 = .ok (.istore_n 2, 1) := by decide +kernel
theorem dM_init_187 : decode cM_init 187 = .ok (.iload_n 2, 1) := by decide +kernel
theorem dM_init_188 : decode cM_init 188 = .ok (.iconst 4, 1) := by decide +kernel
theorem dM_init_189 : decode cM_init 189 = .ok (.if_icmp .ge 16, 3) := by decide +kernel
theorem dM_init_192 : decode cM_init 192 = .ok (.aload_n 0, 1) := by decide +kernel
theorem dM_init_193 : decode cM_init 193 = .ok (.getfield 13, 3) := by decide +kernel
theorem dM_init_196 : decode cM_init 196 = .ok (.iload_n 2, 1) := by decide +kernel
theorem dM_init_197 : decode cM_init 197 = .ok (.iconst 1, 1) := by decide +kernel
theorem dM_init_198 : decode cM_init 198 = .ok (.iastore, 1) := by decide +kernel
theorem dM_init_199 : decode cM_init 199 = .ok (.iinc 2 1, 3) := by decide +kernel
theorem dM_init_202 : decode cM_init 202 = .ok (.goto (-15), 3) := by decide +kernel
theorem dM_init_205 : decode cM_init 205 = .ok (.return_, 1) := by decide +kernel
theorem dM_isLetter_0 : decode cM_isLetter 0 = .ok (.iload_n 1, 1) := by decide +kernel
theorem dM_isLetter_1 : decode cM_isLetter 1 = .ok (.ifCond .eq 24, 3) := by decide +kernel
theorem dM_isLetter_4 : decode cM_isLetter 4 = .ok (.iload_n 1, 1) := by decide +kernel
theorem dM_isLetter_5 : decode cM_isLetter 5 = .ok (.aload_n 0, 1) := by decide +kernel
theorem dM_isLetter_6 : decode cM_isLetter 6 = .ok (.getfield 58, 3) := by decide +kernel
theorem dM_isLetter_9 : decode cM_isLetter 9 = .ok (.ineg, 1) := by decide +kernel
theorem dM_isLetter_10 : decode cM_isLetter 10 = .ok (.if_icmp .lt 15, 3) := by decide +kernel
theorem dM_isLetter_13 : decode cM_isLetter 13 = .ok (.iload_n 1, 1) := by decide +kernel
theorem dM_isLetter_14 : decode cM_isLetter 14 = .ok (.aload_n 0, 1) := by decide +kernel
theorem dM_isLetter_15 : decode cM_isLetter 15 = .ok (.getfield 58, 3) := by decide +kernel
theorem dM_isLetter_18 : decode cM_isLetter 18 = .ok (.if_icmp .gt 7, 3) := by decide +kernel
theorem dM_isLetter_21 : decode cM_isLetter 21 = .ok (.iconst 1, 1) := by decide +kernel
theorem dM_isLetter_22 : decode cM_isLetter 22 = .ok (.goto 4, 3) := by decide +kernel
theorem dM_isLetter_25 : decode cM_isLetter 25 = .ok (.iconst 0, 1) := by decide +kernel
theorem dM_isLetter_26 : decode cM_isLetter 26 = .ok (.ireturn, 1) := by decide +kernel
theorem dM_isGroup_0 : decode cM_isGroup 0 = .ok (.iload_n 0, 1) := by decide +kernel
theorem dM_isGroup_1 : decode cM_isGroup 1 = .ok (.ifCond .lt 12, 3) := by decide +kernel
theorem dM_isGroup_4 : decode cM_isGroup 4 = .ok (.iload_n 0, 1) := by decide +kernel
theorem dM_isGroup_5 : decode cM_isGroup 5 = .ok (.iconst 4, 1) := by decide +kernel
theorem dM_isGroup_6 : decode cM_isGroup 6 = .ok (.if_icmp .ge 7, 3) := by decide +kernel
theorem dM_isGroup_9 : decode cM_isGroup 9 = .ok (.iconst 1, 1) := by decide +kernel
theorem dM_isGroup_10 : decode cM_isGroup 10 = .ok (.goto 4, 3) := by decide +kernel
theorem dM_isGroup_13 : decode cM_isGroup 13 = .ok (.iconst 0, 1) := by decide +kernel
theorem dM_isGroup_14 : decode cM_isGroup 14 = .ok (.ireturn, 1) := by decide +kernel
theorem dM_numberOf_0 : decode cM_numberOf 0 = .ok (.iload_n 0, 1) := by decide +kernel
theorem dM_numberOf_1 : decode cM_numberOf 1 = .ok (.ifCond .le 11, 3) := by decide +kernel
theorem dM_numberOf_4 : decode cM_numberOf 4 = .ok (.iconst 2, 1) := by decide +kernel
theorem dM_numberOf_5 : decode cM_numberOf 5 = .ok (.iload_n 0, 1) := by decide +kernel
theorem dM_numberOf_6 : decode cM_numberOf 6 = .ok (.imul, 1) := by decide +kernel
theorem dM_numberOf_7 : decode cM_numberOf 7 = .ok (.iconst 2, 1) := by decide +kernel
theorem dM_numberOf_8 : decode cM_numberOf 8 = .ok (.isub, 1) := by decide +kernel
theorem dM_numberOf_9 : decode cM_numberOf 9 = .ok (.goto 9, 3) := by decide +kernel
theorem dM_numberOf_12 : decode cM_numberOf 12 = .ok (.bipush (-2), 2) := by decide +kernel
theorem dM_numberOf_14 : decode cM_numberOf 14 = .ok (.iload_n 0, 1) := by decide +kernel
theorem dM_numberOf_15 : decode cM_numberOf 15 = .ok (.imul, 1) := by decide +kernel
theorem dM_numberOf_16 : decode cM_numberOf 16 = .ok (.iconst 1, 1) := by decide +kernel
theorem dM_numberOf_17 : decode cM_numberOf 17 = .ok (.isub, 1) := by decide +kernel
theorem dM_numberOf_18 : decode cM_numberOf 18 = .ok (.ireturn, 1) := by decide +kernel
theorem dM_letterOf_0 : decode cM_letterOf 0 = .ok (.iload_n 0, 1) := by decide +kernel
theorem dM_letterOf_1 : decode cM_letterOf 1 = .ok (.iconst 2, 1) := by decide +kernel
theorem dM_letterOf_2 : decode cM_letterOf 2 = .ok (.irem, 1) := by decide +kernel
theorem dM_letterOf_3 : decode cM_letterOf 3 = .ok (.ifCond .ne 11, 3) := by decide +kernel
theorem dM_letterOf_6 : decode cM_letterOf 6 = .ok (.iload_n 0, 1) := by decide +kernel
theorem dM_letterOf_7 : decode cM_letterOf 7 = .ok (.iconst 2, 1) := by decide +kernel
theorem dM_letterOf_8 : decode cM_letterOf 8 = .ok (.idiv, 1) := by decide +kernel
theorem dM_letterOf_9 : decode cM_letterOf 9 = .ok (.iconst 1, 1) := by decide +kernel
theorem dM_letterOf_10 : decode cM_letterOf 10 = .ok (.iadd, 1) := by decide +kernel
theorem dM_letterOf_11 : decode cM_letterOf 11 = .ok (.goto 9, 3) := by decide +kernel
theorem dM_letterOf_14 : decode cM_letterOf 14 = .ok (.iload_n 0, 1) := by decide +kernel
theorem dM_letterOf_15 : decode cM_letterOf 15 = .ok (.iconst 2, 1) := by decide +kernel
theorem dM_letterOf_16 : decode cM_letterOf 16 = .ok (.idiv, 1) := by decide +kernel
theorem dM_letterOf_17 : decode cM_letterOf 17 = .ok (.ineg, 1) := by decide +kernel
theorem dM_letterOf_18 : decode cM_letterOf 18 = .ok (.iconst 1, 1) := by decide +kernel
theorem dM_letterOf_19 : decode cM_letterOf 19 = .ok (.isub, 1) := by decide +kernel
theorem dM_letterOf_20 : decode cM_letterOf 20 = .ok (.ireturn, 1) := by decide +kernel
theorem dM_way_0 : decode cM_way 0 = .ok (.aload_n 0, 1) := by decide +kernel
theorem dM_way_1 : decode cM_way 1 = .ok (.getfield 16, 3) := by decide +kernel
theorem dM_way_4 : decode cM_way 4 = .ok (.sipush 384, 3) := by decide +kernel
theorem dM_way_7 : decode cM_way 7 = .ok (.iload_n 1, 1) := by decide +kernel
theorem dM_way_8 : decode cM_way 8 = .ok (.imul, 1) := by decide +kernel
theorem dM_way_9 : decode cM_way 9 = .ok (.bipush 6, 2) := by decide +kernel
theorem dM_way_11 : decode cM_way 11 = .ok (.iload_n 2, 1) := by decide +kernel
theorem dM_way_12 : decode cM_way 12 = .ok (.imul, 1) := by decide +kernel
theorem dM_way_13 : decode cM_way 13 = .ok (.iadd, 1) := by decide +kernel
theorem dM_way_14 : decode cM_way 14 = .ok (.iload_n 3, 1) := by decide +kernel
theorem dM_way_15 : decode cM_way 15 = .ok (.iadd, 1) := by decide +kernel
theorem dM_way_16 : decode cM_way 16 = .ok (.iaload, 1) := by decide +kernel
theorem dM_way_17 : decode cM_way 17 = .ok (.ireturn, 1) := by decide +kernel
theorem dM_letter_0 : decode cM_letter 0 = .ok (.aload_n 0, 1) := by decide +kernel
theorem dM_letter_1 : decode cM_letter 1 = .ok (.iload_n 1, 1) := by decide +kernel
theorem dM_letter_2 : decode cM_letter 2 = .ok (.invokevirtual 62, 3) := by decide +kernel
theorem dM_letter_5 : decode cM_letter 5 = .ok (.ifCond .ne 5, 3) := by decide +kernel
theorem dM_letter_8 : decode cM_letter 8 = .ok (.iconst (-1), 1) := by decide +kernel
theorem dM_letter_9 : decode cM_letter 9 = .ok (.ireturn, 1) := by decide +kernel
theorem dM_letter_10 : decode cM_letter 10 = .ok (.aload_n 0, 1) := by decide +kernel
theorem dM_letter_11 : decode cM_letter 11 = .ok (.getfield 66, 3) := by decide +kernel
theorem dM_letter_14 : decode cM_letter 14 = .ok (.ifCond .le 34, 3) := by decide +kernel
theorem dM_letter_17 : decode cM_letter 17 = .ok (.aload_n 0, 1) := by decide +kernel
theorem dM_letter_18 : decode cM_letter 18 = .ok (.getfield 7, 3) := by decide +kernel
theorem dM_letter_21 : decode cM_letter 21 = .ok (.aload_n 0, 1) := by decide +kernel
theorem dM_letter_22 : decode cM_letter 22 = .ok (.getfield 66, 3) := by decide +kernel
theorem dM_letter_25 : decode cM_letter 25 = .ok (.iconst 1, 1) := by decide +kernel
theorem dM_letter_26 : decode cM_letter 26 = .ok (.isub, 1) := by decide +kernel
theorem dM_letter_27 : decode cM_letter 27 = .ok (.iaload, 1) := by decide +kernel
theorem dM_letter_28 : decode cM_letter 28 = .ok (.iload_n 1, 1) := by decide +kernel
theorem dM_letter_29 : decode cM_letter 29 = .ok (.ineg, 1) := by decide +kernel
theorem dM_letter_30 : decode cM_letter 30 = .ok (.if_icmp .ne 18, 3) := by decide +kernel
theorem dM_letter_33 : decode cM_letter 33 = .ok (.aload_n 0, 1) := by decide +kernel
theorem dM_letter_34 : decode cM_letter 34 = .ok (.dup, 1) := by decide +kernel
theorem dM_letter_35 : decode cM_letter 35 = .ok (.getfield 66, 3) := by decide +kernel
theorem dM_letter_38 : decode cM_letter 38 = .ok (.iconst 1, 1) := by decide +kernel
theorem dM_letter_39 : decode cM_letter 39 = .ok (.isub, 1) := by decide +kernel
theorem dM_letter_40 : decode cM_letter 40 = .ok (.putfield 66, 3) := by decide +kernel
theorem dM_letter_43 : decode cM_letter 43 = .ok (.aload_n 0, 1) := by decide +kernel
theorem dM_letter_44 : decode cM_letter 44 = .ok (.getfield 66, 3) := by decide +kernel
theorem dM_letter_47 : decode cM_letter 47 = .ok (.ireturn, 1) := by decide +kernel
theorem dM_letter_48 : decode cM_letter 48 = .ok (.aload_n 0, 1) := by decide +kernel
theorem dM_letter_49 : decode cM_letter 49 = .ok (.getfield 66, 3) := by decide +kernel
theorem dM_letter_52 : decode cM_letter 52 = .ok (.bipush 24, 2) := by decide +kernel
theorem dM_letter_54 : decode cM_letter 54 = .ok (.if_icmp .ne 6, 3) := by decide +kernel
theorem dM_letter_57 : decode cM_letter 57 = .ok (.bipush (-2), 2) := by decide +kernel
theorem dM_letter_59 : decode cM_letter 59 = .ok (.ireturn, 1) := by decide +kernel
theorem dM_letter_60 : decode cM_letter 60 = .ok (.aload_n 0, 1) := by decide +kernel
theorem dM_letter_61 : decode cM_letter 61 = .ok (.getfield 7, 3) := by decide +kernel
theorem dM_letter_64 : decode cM_letter 64 = .ok (.aload_n 0, 1) := by decide +kernel
theorem dM_letter_65 : decode cM_letter 65 = .ok (.getfield 66, 3) := by decide +kernel
theorem dM_letter_68 : decode cM_letter 68 = .ok (.iload_n 1, 1) := by decide +kernel
theorem dM_letter_69 : decode cM_letter 69 = .ok (.iastore, 1) := by decide +kernel
theorem dM_letter_70 : decode cM_letter 70 = .ok (.aload_n 0, 1) := by decide +kernel
theorem dM_letter_71 : decode cM_letter 71 = .ok (.dup, 1) := by decide +kernel
theorem dM_letter_72 : decode cM_letter 72 = .ok (.getfield 66, 3) := by decide +kernel
theorem dM_letter_75 : decode cM_letter 75 = .ok (.iconst 1, 1) := by decide +kernel
theorem dM_letter_76 : decode cM_letter 76 = .ok (.iadd, 1) := by decide +kernel
theorem dM_letter_77 : decode cM_letter 77 = .ok (.putfield 66, 3) := by decide +kernel
theorem dM_letter_80 : decode cM_letter 80 = .ok (.aload_n 0, 1) := by decide +kernel
theorem dM_letter_81 : decode cM_letter 81 = .ok (.getfield 66, 3) := by decide +kernel
theorem dM_letter_84 : decode cM_letter 84 = .ok (.ireturn, 1) := by decide +kernel
theorem dM_clear_0 : decode cM_clear 0 = .ok (.aload_n 0, 1) := by decide +kernel
theorem dM_clear_1 : decode cM_clear 1 = .ok (.getfield 66, 3) := by decide +kernel
theorem dM_clear_4 : decode cM_clear 4 = .ok (.istore_n 1, 1) := by decide +kernel
theorem dM_clear_5 : decode cM_clear 5 = .ok (.aload_n 0, 1) := by decide +kernel
theorem dM_clear_6 : decode cM_clear 6 = .ok (.iconst 0, 1) := by decide +kernel
theorem dM_clear_7 : decode cM_clear 7 = .ok (.putfield 66, 3) := by decide +kernel
theorem dM_clear_10 : decode cM_clear 10 = .ok (.iload_n 1, 1) := by decide +kernel
theorem dM_clear_11 : decode cM_clear 11 = .ok (.ireturn, 1) := by decide +kernel
theorem dM_invert_0 : decode cM_invert 0 = .ok (.iconst 0, 1) := by decide +kernel
theorem dM_invert_1 : decode cM_invert 1 = .ok (.istore_n 1, 1) := by decide +kernel
theorem dM_invert_2 : decode cM_invert 2 = .ok (.iload_n 1, 1) := by decide +kernel
theorem dM_invert_3 : decode cM_invert 3 = .ok (.aload_n 0, 1) := by decide +kernel
theorem dM_invert_4 : decode cM_invert 4 = .ok (.getfield 66, 3) := by decide +kernel
theorem dM_invert_7 : decode cM_invert 7 = .ok (.if_icmp .ge 29, 3) := by decide +kernel
theorem dM_invert_10 : decode cM_invert 10 = .ok (.aload_n 0, 1) := by decide +kernel
theorem dM_invert_11 : decode cM_invert 11 = .ok (.getfield 55, 3) := by decide +kernel
theorem dM_invert_14 : decode cM_invert 14 = .ok (.iload_n 1, 1) := by decide +kernel
theorem dM_invert_15 : decode cM_invert 15 = .ok (.aload_n 0, 1) := by decide +kernel
theorem dM_invert_16 : decode cM_invert 16 = .ok (.getfield 7, 3) := by decide +kernel
theorem dM_invert_19 : decode cM_invert 19 = .ok (.aload_n 0, 1) := by decide +kernel
theorem dM_invert_20 : decode cM_invert 20 = .ok (.getfield 66, 3) := by decide +kernel
theorem dM_invert_23 : decode cM_invert 23 = .ok (.iconst 1, 1) := by decide +kernel
theorem dM_invert_24 : decode cM_invert 24 = .ok (.isub, 1) := by decide +kernel
theorem dM_invert_25 : decode cM_invert 25 = .ok (.iload_n 1, 1) := by decide +kernel
theorem dM_invert_26 : decode cM_invert 26 = .ok (.isub, 1) := by decide +kernel
theorem dM_invert_27 : decode cM_invert 27 = .ok (.iaload, 1) := by decide +kernel
theorem dM_invert_28 : decode cM_invert 28 = .ok (.ineg, 1) := by decide +kernel
theorem dM_invert_29 : decode cM_invert 29 = .ok (.iastore, 1) := by decide +kernel
theorem dM_invert_30 : decode cM_invert 30 = .ok (.iinc 1 1, 3) := by decide +kernel
theorem dM_invert_33 : decode cM_invert 33 = .ok (.goto (-31), 3) := by decide +kernel
theorem dM_invert_36 : decode cM_invert 36 = .ok (.iconst 0, 1) := by decide +kernel
theorem dM_invert_37 : decode cM_invert 37 = .ok (.istore_n 1, 1) := by decide +kernel
theorem dM_invert_38 : decode cM_invert 38 = .ok (.iload_n 1, 1) := by decide +kernel
theorem dM_invert_39 : decode cM_invert 39 = .ok (.aload_n 0, 1) := by decide +kernel
theorem dM_invert_40 : decode cM_invert 40 = .ok (.getfield 66, 3) := by decide +kernel
theorem dM_invert_43 : decode cM_invert 43 = .ok (.if_icmp .ge 21, 3) := by decide +kernel
theorem dM_invert_46 : decode cM_invert 46 = .ok (.aload_n 0, 1) := by decide +kernel
theorem dM_invert_47 : decode cM_invert 47 = .ok (.getfield 7, 3) := by decide +kernel
theorem dM_invert_50 : decode cM_invert 50 = .ok (.iload_n 1, 1) := by decide +kernel
theorem dM_invert_51 : decode cM_invert 51 = .ok (.aload_n 0, 1) := by decide +kernel
theorem dM_invert_52 : decode cM_invert 52 = .ok (.getfield 55, 3) := by decide +kernel
theorem dM_invert_55 : decode cM_invert 55 = .ok (.iload_n 1, 1) := by decide +kernel
theorem dM_invert_56 : decode cM_invert 56 = .ok (.iaload, 1) := by decide +kernel
theorem dM_invert_57 : decode cM_invert 57 = .ok (.iastore, 1) := by decide +kernel
theorem dM_invert_58 : decode cM_invert 58 = .ok (.iinc 1 1, 3) := by decide +kernel
theorem dM_invert_61 : decode cM_invert 61 = .ok (.goto (-23), 3) := by decide +kernel
theorem dM_invert_64 : decode cM_invert 64 = .ok (.aload_n 0, 1) := by decide +kernel
theorem dM_invert_65 : decode cM_invert 65 = .ok (.getfield 66, 3) := by decide +kernel
theorem dM_invert_68 : decode cM_invert 68 = .ok (.ireturn, 1) := by decide +kernel
theorem dM_at_0 : decode cM_at 0 = .ok (.iload_n 1, 1) := by decide +kernel
theorem dM_at_1 : decode cM_at 1 = .ok (.ifCond .lt 20, 3) := by decide +kernel
theorem dM_at_4 : decode cM_at 4 = .ok (.iload_n 1, 1) := by decide +kernel
theorem dM_at_5 : decode cM_at 5 = .ok (.aload_n 0, 1) := by decide +kernel
theorem dM_at_6 : decode cM_at 6 = .ok (.getfield 66, 3) := by decide +kernel
theorem dM_at_9 : decode cM_at 9 = .ok (.if_icmp .ge 12, 3) := by decide +kernel
theorem dM_at_12 : decode cM_at 12 = .ok (.aload_n 0, 1) := by decide +kernel
theorem dM_at_13 : decode cM_at 13 = .ok (.getfield 7, 3) := by decide +kernel
theorem dM_at_16 : decode cM_at 16 = .ok (.iload_n 1, 1) := by decide +kernel
theorem dM_at_17 : decode cM_at 17 = .ok (.iaload, 1) := by decide +kernel
theorem dM_at_18 : decode cM_at 18 = .ok (.goto 4, 3) := by decide +kernel
theorem dM_at_21 : decode cM_at 21 = .ok (.iconst 0, 1) := by decide +kernel
theorem dM_at_22 : decode cM_at 22 = .ok (.ireturn, 1) := by decide +kernel
theorem dM_begin_0 : decode cM_begin 0 = .ok (.aload_n 0, 1) := by decide +kernel
theorem dM_begin_1 : decode cM_begin 1 = .ok (.iload_n 1, 1) := by decide +kernel
theorem dM_begin_2 : decode cM_begin 2 = .ok (.putfield 69, 3) := by decide +kernel
theorem dM_begin_5 : decode cM_begin 5 = .ok (.aload_n 0, 1) := by decide +kernel
theorem dM_begin_6 : decode cM_begin 6 = .ok (.iconst 0, 1) := by decide +kernel
theorem dM_begin_7 : decode cM_begin 7 = .ok (.putfield 72, 3) := by decide +kernel
theorem dM_begin_10 : decode cM_begin 10 = .ok (.aload_n 0, 1) := by decide +kernel
theorem dM_begin_11 : decode cM_begin 11 = .ok (.iconst 0, 1) := by decide +kernel
theorem dM_begin_12 : decode cM_begin 12 = .ok (.putfield 75, 3) := by decide +kernel
theorem dM_begin_15 : decode cM_begin 15 = .ok (.return_, 1) := by decide +kernel
theorem dM_addEdge_0 : decode cM_addEdge 0 = .ok (.aload_n 0, 1) := by decide +kernel
theorem dM_addEdge_1 : decode cM_addEdge 1 = .ok (.getfield 28, 3) := by decide +kernel
theorem dM_addEdge_4 : decode cM_addEdge 4 = .ok (.aload_n 0, 1) := by decide +kernel
theorem dM_addEdge_5 : decode cM_addEdge 5 = .ok (.getfield 75, 3) := by decide +kernel
theorem dM_addEdge_8 : decode cM_addEdge 8 = .ok (.iload_n 2, 1) := by decide +kernel
theorem dM_addEdge_9 : decode cM_addEdge 9 = .ok (.ifCond .le 7, 3) := by decide +kernel
theorem dM_addEdge_12 : decode cM_addEdge 12 = .ok (.iload_n 1, 1) := by decide +kernel
theorem dM_addEdge_13 : decode cM_addEdge 13 = .ok (.goto 4, 3) := by decide +kernel
theorem dM_addEdge_16 : decode cM_addEdge 16 = .ok (.iload_n 3, 1) := by decide +kernel
theorem dM_addEdge_17 : decode cM_addEdge 17 = .ok (.iastore, 1) := by decide +kernel
theorem dM_addEdge_18 : decode cM_addEdge 18 = .ok (.aload_n 0, 1) := by decide +kernel
theorem dM_addEdge_19 : decode cM_addEdge 19 = .ok (.getfield 31, 3) := by decide +kernel
theorem dM_addEdge_22 : decode cM_addEdge 22 = .ok (.aload_n 0, 1) := by decide +kernel
theorem dM_addEdge_23 : decode cM_addEdge 23 = .ok (.getfield 75, 3) := by decide +kernel
theorem dM_addEdge_26 : decode cM_addEdge 26 = .ok (.iload_n 2, 1) := by decide +kernel
theorem dM_addEdge_27 : decode cM_addEdge 27 = .ok (.ifCond .le 7, 3) := by decide +kernel
theorem dM_addEdge_30 : decode cM_addEdge 30 = .ok (.iload_n 2, 1) := by decide +kernel
theorem dM_addEdge_31 : decode cM_addEdge 31 = .ok (.goto 5, 3) := by decide +kernel
theorem dM_addEdge_34 : decode cM_addEdge 34 = .ok (.iload_n 2, 1) := by decide +kernel
theorem dM_addEdge_35 : decode cM_addEdge 35 = .ok (.ineg, 1) := by decide +kernel
theorem dM_addEdge_36 : decode cM_addEdge 36 = .ok (.iastore, 1) := by decide +kernel
theorem dM_addEdge_37 : decode cM_addEdge 37 = .ok (.aload_n 0, 1) := by decide +kernel
theorem dM_addEdge_38 : decode cM_addEdge 38 = .ok (.getfield 34, 3) := by decide +kernel
theorem dM_addEdge_41 : decode cM_addEdge 41 = .ok (.aload_n 0, 1) := by decide +kernel
theorem dM_addEdge_42 : decode cM_addEdge 42 = .ok (.getfield 75, 3) := by decide +kernel
theorem dM_addEdge_45 : decode cM_addEdge 45 = .ok (.iload_n 2, 1) := by decide +kernel
theorem dM_addEdge_46 : decode cM_addEdge 46 = .ok (.ifCond .le 7, 3) := by decide +kernel
theorem dM_addEdge_49 : decode cM_addEdge 49 = .ok (.iload_n 3, 1) := by decide +kernel
theorem dM_addEdge_50 : decode cM_addEdge 50 = .ok (.goto 4, 3) := by decide +kernel
theorem dM_addEdge_53 : decode cM_addEdge 53 = .ok (.iload_n 1, 1) := by decide +kernel
theorem dM_addEdge_54 : decode cM_addEdge 54 = .ok (.iastore, 1) := by decide +kernel
theorem dM_addEdge_55 : decode cM_addEdge 55 = .ok (.aload_n 0, 1) := by decide +kernel
theorem dM_addEdge_56 : decode cM_addEdge 56 = .ok (.dup, 1) := by decide +kernel
theorem dM_addEdge_57 : decode cM_addEdge 57 = .ok (.getfield 75, 3) := by decide +kernel
theorem dM_addEdge_60 : decode cM_addEdge 60 = .ok (.iconst 1, 1) := by decide +kernel
theorem dM_addEdge_61 : decode cM_addEdge 61 = .ok (.iadd, 1) := by decide +kernel
theorem dM_addEdge_62 : decode cM_addEdge 62 = .ok (.putfield 75, 3) := by decide +kernel
theorem dM_addEdge_65 : decode cM_addEdge 65 = .ok (.return_, 1) := by decide +kernel
theorem dM_addCopy_0 : decode cM_addCopy 0 = .ok (.iconst 0, 1) := by decide +kernel
theorem dM_addCopy_1 : decode cM_addCopy 1 = .ok (.istore_n 3, 1) := by decide +kernel
theorem dM_addCopy_2 : decode cM_addCopy 2 = .ok (.iload_n 3, 1) := by decide +kernel
theorem dM_addCopy_3 : decode cM_addCopy 3 = .ok (.aload_n 0, 1) := by decide +kernel
theorem dM_addCopy_4 : decode cM_addCopy 4 = .ok (.getfield 13, 3) := by decide +kernel
theorem dM_addCopy_7 : decode cM_addCopy 7 = .ok (.iload_n 1, 1) := by decide +kernel
theorem dM_addCopy_8 : decode cM_addCopy 8 = .ok (.iaload, 1) := by decide +kernel
theorem dM_addCopy_9 : decode cM_addCopy 9 = .ok (.if_icmp .ge 75, 3) := by decide +kernel
theorem dM_addCopy_12 : decode cM_addCopy 12 = .ok (.iconst 1, 1) := by decide +kernel
theorem dM_addCopy_13 : decode cM_addCopy 13 = .ok (.istore 4, 2) := by decide +kernel
theorem dM_addCopy_15 : decode cM_addCopy 15 = .ok (.iload 4, 2) := by decide +kernel
theorem dM_addCopy_17 : decode cM_addCopy 17 = .ok (.aload_n 0, 1) := by decide +kernel
theorem dM_addCopy_18 : decode cM_addCopy 18 = .ok (.getfield 58, 3) := by decide +kernel
theorem dM_addCopy_21 : decode cM_addCopy 21 = .ok (.if_icmp .gt 57, 3) := by decide +kernel
theorem dM_addCopy_24 : decode cM_addCopy 24 = .ok (.aload_n 0, 1) := by decide +kernel
theorem dM_addCopy_25 : decode cM_addCopy 25 = .ok (.iload_n 1, 1) := by decide +kernel
theorem dM_addCopy_26 : decode cM_addCopy 26 = .ok (.iload_n 3, 1) := by decide +kernel
theorem dM_addCopy_27 : decode cM_addCopy 27 = .ok (.iload 4, 2) := by decide +kernel
theorem dM_addCopy_29 : decode cM_addCopy 29 = .ok (.invokestatic 78, 3) := by decide +kernel
theorem dM_addCopy_32 : decode cM_addCopy 32 = .ok (.invokevirtual 82, 3) := by decide +kernel
theorem dM_addCopy_35 : decode cM_addCopy 35 = .ok (.istore 5, 2) := by decide +kernel
theorem dM_addCopy_37 : decode cM_addCopy 37 = .ok (.iload 5, 2) := by decide +kernel
theorem dM_addCopy_39 : decode cM_addCopy 39 = .ok (.ifCond .lt 33, 3) := by decide +kernel
theorem dM_addCopy_42 : decode cM_addCopy 42 = .ok (.aload_n 0, 1) := by decide +kernel
theorem dM_addCopy_43 : decode cM_addCopy 43 = .ok (.iload_n 3, 1) := by decide +kernel
theorem dM_addCopy_44 : decode cM_addCopy 44 = .ok (.ifCond .ne 7, 3) := by decide +kernel
theorem dM_addCopy_47 : decode cM_addCopy 47 = .ok (.iconst 0, 1) := by decide +kernel
theorem dM_addCopy_48 : decode cM_addCopy 48 = .ok (.goto 6, 3) := by decide +kernel
theorem dM_addCopy_51 : decode cM_addCopy 51 = .ok (.iload_n 3, 1) := by decide +kernel
theorem dM_addCopy_52 : decode cM_addCopy 52 = .ok (.iload_n 2, 1) := by decide +kernel
theorem dM_addCopy_53 : decode cM_addCopy 53 = .ok (.iadd, 1) := by decide +kernel
theorem dM_addCopy_54 : decode cM_addCopy 54 = .ok (.iload 4, 2) := by decide +kernel
theorem dM_addCopy_56 : decode cM_addCopy 56 = .ok (.iload 5, 2) := by decide +kernel
theorem dM_addCopy_58 : decode cM_addCopy 58 = .ok (.ifCond .ne 7, 3) := by decide +kernel
theorem dM_addCopy_61 : decode cM_addCopy 61 = .ok (.iconst 0, 1) := by decide +kernel
theorem dM_addCopy_62 : decode cM_addCopy 62 = .ok (.goto 7, 3) := by decide +kernel
theorem dM_addCopy_65 : decode cM_addCopy 65 = .ok (.iload 5, 2) := by decide +kernel
theorem dM_addCopy_67 : decode cM_addCopy 67 = .ok (.iload_n 2, 1) := by decide +kernel
theorem dM_addCopy_68 : decode cM_addCopy 68 = .ok (.iadd, 1) := by decide +kernel
theorem dM_addCopy_69 : decode cM_addCopy 69 = .ok (.invokevirtual 86, 3) := by decide +kernel
theorem dM_addCopy_72 : decode cM_addCopy 72 = .ok (.iinc 4 1, 3) := by decide +kernel
theorem dM_addCopy_75 : decode cM_addCopy 75 = .ok (.goto (-60), 3) := by decide +kernel
theorem dM_addCopy_78 : decode cM_addCopy 78 = .ok (.iinc 3 1, 3) := by decide +kernel
theorem dM_addCopy_81 : decode cM_addCopy 81 = .ok (.goto (-79), 3) := by decide +kernel
theorem dM_addCopy_84 : decode cM_addCopy 84 = .ok (.return_, 1) := by decide +kernel
theorem dM_unite_0 : decode cM_unite 0 = .ok (.iload_n 1, 1) := by decide +kernel
theorem dM_unite_1 : decode cM_unite 1 = .ok (.iload_n 2, 1) := by decide +kernel
theorem dM_unite_2 : decode cM_unite 2 = .ok (.if_icmp .ge 7, 3) := by decide +kernel
theorem dM_unite_5 : decode cM_unite 5 = .ok (.iload_n 1, 1) := by decide +kernel
theorem dM_unite_6 : decode cM_unite 6 = .ok (.goto 4, 3) := by decide +kernel
theorem dM_unite_9 : decode cM_unite 9 = .ok (.iload_n 2, 1) := by decide +kernel
theorem dM_unite_10 : decode cM_unite 10 = .ok (.istore_n 3, 1) := by decide +kernel
theorem dM_unite_11 : decode cM_unite 11 = .ok (.iload_n 1, 1) := by decide +kernel
theorem dM_unite_12 : decode cM_unite 12 = .ok (.iload_n 2, 1) := by decide +kernel
theorem dM_unite_13 : decode cM_unite 13 = .ok (.if_icmp .ge 7, 3) := by decide +kernel
theorem dM_unite_16 : decode cM_unite 16 = .ok (.iload_n 2, 1) := by decide +kernel
theorem dM_unite_17 : decode cM_unite 17 = .ok (.goto 4, 3) := by decide +kernel
theorem dM_unite_20 : decode cM_unite 20 = .ok (.iload_n 1, 1) := by decide +kernel
theorem dM_unite_21 : decode cM_unite 21 = .ok (.istore 4, 2) := by decide +kernel
theorem dM_unite_23 : decode cM_unite 23 = .ok (.iconst 0, 1) := by decide +kernel
theorem dM_unite_24 : decode cM_unite 24 = .ok (.istore 5, 2) := by decide +kernel
theorem dM_unite_26 : decode cM_unite 26 = .ok (.iload 5, 2) := by decide +kernel
theorem dM_unite_28 : decode cM_unite 28 = .ok (.aload_n 0, 1) := by decide +kernel
theorem dM_unite_29 : decode cM_unite 29 = .ok (.getfield 69, 3) := by decide +kernel
theorem dM_unite_32 : decode cM_unite 32 = .ok (.if_icmp .ge 39, 3) := by decide +kernel
theorem dM_unite_35 : decode cM_unite 35 = .ok (.aload_n 0, 1) := by decide +kernel
theorem dM_unite_36 : decode cM_unite 36 = .ok (.getfield 37, 3) := by decide +kernel
theorem dM_unite_39 : decode cM_unite 39 = .ok (.iload 5, 2) := by decide +kernel
theorem dM_unite_41 : decode cM_unite 41 = .ok (.aload_n 0, 1) := by decide +kernel
theorem dM_unite_42 : decode cM_unite 42 = .ok (.getfield 37, 3) := by decide +kernel
theorem dM_unite_45 : decode cM_unite 45 = .ok (.iload 5, 2) := by decide +kernel
theorem dM_unite_47 : decode cM_unite 47 = .ok (.iaload, 1) := by decide +kernel
theorem dM_unite_48 : decode cM_unite 48 = .ok (.iload 4, 2) := by decide +kernel
theorem dM_unite_50 : decode cM_unite 50 = .ok (.if_icmp .ne 7, 3) := by decide +kernel
theorem dM_unite_53 : decode cM_unite 53 = .ok (.iload_n 3, 1) := by decide +kernel
theorem dM_unite_54 : decode cM_unite 54 = .ok (.goto 10, 3) := by decide +kernel
theorem dM_unite_57 : decode cM_unite 57 = .ok (.aload_n 0, 1) := by decide +kernel
theorem dM_unite_58 : decode cM_unite 58 = .ok (.getfield 37, 3) := by decide +kernel
theorem dM_unite_61 : decode cM_unite 61 = .ok (.iload 5, 2) := by decide +kernel
theorem dM_unite_63 : decode cM_unite 63 = .ok (.iaload, 1) := by decide +kernel
theorem dM_unite_64 : decode cM_unite 64 = .ok (.iastore, 1) := by decide +kernel
theorem dM_unite_65 : decode cM_unite 65 = .ok (.iinc 5 1, 3) := by decide +kernel
theorem dM_unite_68 : decode cM_unite 68 = .ok (.goto (-42), 3) := by decide +kernel
theorem dM_unite_71 : decode cM_unite 71 = .ok (.return_, 1) := by decide +kernel
theorem dM_foldOnce_0 : decode cM_foldOnce 0 = .ok (.iconst 0, 1) := by decide +kernel
theorem dM_foldOnce_1 : decode cM_foldOnce 1 = .ok (.istore_n 1, 1) := by decide +kernel
theorem dM_foldOnce_2 : decode cM_foldOnce 2 = .ok (.iload_n 1, 1) := by decide +kernel
theorem dM_foldOnce_3 : decode cM_foldOnce 3 = .ok (.sipush 384, 3) := by decide +kernel
theorem dM_foldOnce_6 : decode cM_foldOnce 6 = .ok (.if_icmp .ge 16, 3) := by decide +kernel
theorem dM_foldOnce_9 : decode cM_foldOnce 9 = .ok (.aload_n 0, 1) := by decide +kernel
theorem dM_foldOnce_10 : decode cM_foldOnce 10 = .ok (.getfield 40, 3) := by decide +kernel
theorem dM_foldOnce_13 : decode cM_foldOnce 13 = .ok (.iload_n 1, 1) := by decide +kernel
theorem dM_foldOnce_14 : decode cM_foldOnce 14 = .ok (.iconst (-1), 1) := by decide +kernel
theorem dM_foldOnce_15 : decode cM_foldOnce 15 = .ok (.iastore, 1) := by decide +kernel
theorem dM_foldOnce_16 : decode cM_foldOnce 16 = .ok (.iinc 1 1, 3) := by decide +kernel
theorem dM_foldOnce_19 : decode cM_foldOnce 19 = .ok (.goto (-17), 3) := by decide +kernel
theorem dM_foldOnce_22 : decode cM_foldOnce 22 = .ok (.iconst 0, 1) := by decide +kernel
theorem dM_foldOnce_23 : decode cM_foldOnce 23 = .ok (.istore_n 1, 1) := by decide +kernel
theorem dM_foldOnce_24 : decode cM_foldOnce 24 = .ok (.iload_n 1, 1) := by decide +kernel
theorem dM_foldOnce_25 : decode cM_foldOnce 25 = .ok (.aload_n 0, 1) := by decide +kernel
theorem dM_foldOnce_26 : decode cM_foldOnce 26 = .ok (.getfield 75, 3) := by decide +kernel
theorem dM_foldOnce_29 : decode cM_foldOnce 29 = .ok (.if_icmp .ge 142, 3) := by decide +kernel
theorem dM_foldOnce_32 : decode cM_foldOnce 32 = .ok (.aload_n 0, 1) := by decide +kernel
theorem dM_foldOnce_33 : decode cM_foldOnce 33 = .ok (.getfield 37, 3) := by decide +kernel
theorem dM_foldOnce_36 : decode cM_foldOnce 36 = .ok (.aload_n 0, 1) := by decide +kernel
theorem dM_foldOnce_37 : decode cM_foldOnce 37 = .ok (.getfield 28, 3) := by decide +kernel
theorem dM_foldOnce_40 : decode cM_foldOnce 40 = .ok (.iload_n 1, 1) := by decide +kernel
theorem dM_foldOnce_41 : decode cM_foldOnce 41 = .ok (.iaload, 1) := by decide +kernel
theorem dM_foldOnce_42 : decode cM_foldOnce 42 = .ok (.iaload, 1) := by decide +kernel
theorem dM_foldOnce_43 : decode cM_foldOnce 43 = .ok (.istore_n 2, 1) := by decide +kernel
theorem dM_foldOnce_44 : decode cM_foldOnce 44 = .ok (.aload_n 0, 1) := by decide +kernel
theorem dM_foldOnce_45 : decode cM_foldOnce 45 = .ok (.getfield 37, 3) := by decide +kernel
theorem dM_foldOnce_48 : decode cM_foldOnce 48 = .ok (.aload_n 0, 1) := by decide +kernel
theorem dM_foldOnce_49 : decode cM_foldOnce 49 = .ok (.getfield 34, 3) := by decide +kernel
theorem dM_foldOnce_52 : decode cM_foldOnce 52 = .ok (.iload_n 1, 1) := by decide +kernel
theorem dM_foldOnce_53 : decode cM_foldOnce 53 = .ok (.iaload, 1) := by decide +kernel
theorem dM_foldOnce_54 : decode cM_foldOnce 54 = .ok (.iaload, 1) := by decide +kernel
theorem dM_foldOnce_55 : decode cM_foldOnce 55 = .ok (.istore_n 3, 1) := by decide +kernel
theorem dM_foldOnce_56 : decode cM_foldOnce 56 = .ok (.aload_n 0, 1) := by decide +kernel
theorem dM_foldOnce_57 : decode cM_foldOnce 57 = .ok (.getfield 31, 3) := by decide +kernel
theorem dM_foldOnce_60 : decode cM_foldOnce 60 = .ok (.iload_n 1, 1) := by decide +kernel
theorem dM_foldOnce_61 : decode cM_foldOnce 61 = .ok (.iaload, 1) := by decide +kernel
theorem dM_foldOnce_62 : decode cM_foldOnce 62 = .ok (.invokestatic 78, 3) := by decide +kernel
theorem dM_foldOnce_65 : decode cM_foldOnce 65 = .ok (.istore 4, 2) := by decide +kernel
theorem dM_foldOnce_67 : decode cM_foldOnce 67 = .ok (.aload_n 0, 1) := by decide +kernel
theorem dM_foldOnce_68 : decode cM_foldOnce 68 = .ok (.getfield 40, 3) := by decide +kernel
theorem dM_foldOnce_71 : decode cM_foldOnce 71 = .ok (.bipush 6, 2) := by decide +kernel
theorem dM_foldOnce_73 : decode cM_foldOnce 73 = .ok (.iload_n 2, 1) := by decide +kernel
theorem dM_foldOnce_74 : decode cM_foldOnce 74 = .ok (.imul, 1) := by decide +kernel
theorem dM_foldOnce_75 : decode cM_foldOnce 75 = .ok (.iload 4, 2) := by decide +kernel
theorem dM_foldOnce_77 : decode cM_foldOnce 77 = .ok (.iadd, 1) := by decide +kernel
theorem dM_foldOnce_78 : decode cM_foldOnce 78 = .ok (.iaload, 1) := by decide +kernel
theorem dM_foldOnce_79 : decode cM_foldOnce 79 = .ok (.istore 5, 2) := by decide +kernel
theorem dM_foldOnce_81 : decode cM_foldOnce 81 = .ok (.aload_n 0, 1) := by decide +kernel
theorem dM_foldOnce_82 : decode cM_foldOnce 82 = .ok (.getfield 40, 3) := by decide +kernel
theorem dM_foldOnce_85 : decode cM_foldOnce 85 = .ok (.bipush 6, 2) := by decide +kernel
theorem dM_foldOnce_87 : decode cM_foldOnce 87 = .ok (.iload_n 3, 1) := by decide +kernel
theorem dM_foldOnce_88 : decode cM_foldOnce 88 = .ok (.imul, 1) := by decide +kernel
theorem dM_foldOnce_89 : decode cM_foldOnce 89 = .ok (.iload 4, 2) := by decide +kernel
theorem dM_foldOnce_91 : decode cM_foldOnce 91 = .ok (.iadd, 1) := by decide +kernel
theorem dM_foldOnce_92 : decode cM_foldOnce 92 = .ok (.iconst 1, 1) := by decide +kernel
theorem dM_foldOnce_93 : decode cM_foldOnce 93 = .ok (.iadd, 1) := by decide +kernel
theorem dM_foldOnce_94 : decode cM_foldOnce 94 = .ok (.iaload, 1) := by decide +kernel
theorem dM_foldOnce_95 : decode cM_foldOnce 95 = .ok (.istore 6, 2) := by decide +kernel
theorem dM_foldOnce_97 : decode cM_foldOnce 97 = .ok (.iload 5, 2) := by decide +kernel
theorem dM_foldOnce_99 : decode cM_foldOnce 99 = .ok (.ifCond .lt 18, 3) := by decide +kernel
theorem dM_foldOnce_102 : decode cM_foldOnce 102 = .ok (.iload 5, 2) := by decide +kernel
theorem dM_foldOnce_104 : decode cM_foldOnce 104 = .ok (.iload_n 3, 1) := by decide +kernel
theorem dM_foldOnce_105 : decode cM_foldOnce 105 = .ok (.if_icmp .eq 12, 3) := by decide +kernel
theorem dM_foldOnce_108 : decode cM_foldOnce 108 = .ok (.aload_n 0, 1) := by decide +kernel
theorem dM_foldOnce_109 : decode cM_foldOnce 109 = .ok (.iload 5, 2) := by decide +kernel
theorem dM_foldOnce_111 : decode cM_foldOnce 111 = .ok (.iload_n 3, 1) := by decide +kernel
theorem dM_foldOnce_112 : decode cM_foldOnce 112 = .ok (.invokevirtual 90, 3) := by decide +kernel
theorem dM_foldOnce_115 : decode cM_foldOnce 115 = .ok (.iconst 1, 1) := by decide +kernel
theorem dM_foldOnce_116 : decode cM_foldOnce 116 = .ok (.ireturn, 1) := by decide +kernel
theorem dM_foldOnce_117 : decode cM_foldOnce 117 = .ok (.iload 6, 2) := by decide +kernel
theorem dM_foldOnce_119 : decode cM_foldOnce 119 = .ok (.ifCond .lt 18, 3) := by decide +kernel
theorem dM_foldOnce_122 : decode cM_foldOnce 122 = .ok (.iload 6, 2) := by decide +kernel
theorem dM_foldOnce_124 : decode cM_foldOnce 124 = .ok (.iload_n 2, 1) := by decide +kernel
theorem dM_foldOnce_125 : decode cM_foldOnce 125 = .ok (.if_icmp .eq 12, 3) := by decide +kernel
theorem dM_foldOnce_128 : decode cM_foldOnce 128 = .ok (.aload_n 0, 1) := by decide +kernel
theorem dM_foldOnce_129 : decode cM_foldOnce 129 = .ok (.iload 6, 2) := by decide +kernel
theorem dM_foldOnce_131 : decode cM_foldOnce 131 = .ok (.iload_n 2, 1) := by decide +kernel
theorem dM_foldOnce_132 : decode cM_foldOnce 132 = .ok (.invokevirtual 90, 3) := by decide +kernel
theorem dM_foldOnce_135 : decode cM_foldOnce 135 = .ok (.iconst 1, 1) := by decide +kernel
theorem dM_foldOnce_136 : decode cM_foldOnce 136 = .ok (.ireturn, 1) := by decide +kernel
theorem dM_foldOnce_137 : decode cM_foldOnce 137 = .ok (.aload_n 0, 1) := by decide +kernel
theorem dM_foldOnce_138 : decode cM_foldOnce 138 = .ok (.getfield 40, 3) := by decide +kernel
theorem dM_foldOnce_141 : decode cM_foldOnce 141 = .ok (.bipush 6, 2) := by decide +kernel
theorem dM_foldOnce_143 : decode cM_foldOnce 143 = .ok (.iload_n 2, 1) := by decide +kernel
theorem dM_foldOnce_144 : decode cM_foldOnce 144 = .ok (.imul, 1) := by decide +kernel
theorem dM_foldOnce_145 : decode cM_foldOnce 145 = .ok (.iload 4, 2) := by decide +kernel
theorem dM_foldOnce_147 : decode cM_foldOnce 147 = .ok (.iadd, 1) := by decide +kernel
theorem dM_foldOnce_148 : decode cM_foldOnce 148 = .ok (.iload_n 3, 1) := by decide +kernel
theorem dM_foldOnce_149 : decode cM_foldOnce 149 = .ok (.iastore, 1) := by decide +kernel
theorem dM_foldOnce_150 : decode cM_foldOnce 150 = .ok (.aload_n 0, 1) := by decide +kernel
theorem dM_foldOnce_151 : decode cM_foldOnce 151 = .ok (.getfield 40, 3) := by decide +kernel
theorem dM_foldOnce_154 : decode cM_foldOnce 154 = .ok (.bipush 6, 2) := by decide +kernel
theorem dM_foldOnce_156 : decode cM_foldOnce 156 = .ok (.iload_n 3, 1) := by decide +kernel
theorem dM_foldOnce_157 : decode cM_foldOnce 157 = .ok (.imul, 1) := by decide +kernel
theorem dM_foldOnce_158 : decode cM_foldOnce 158 = .ok (.iload 4, 2) := by decide +kernel
theorem dM_foldOnce_160 : decode cM_foldOnce 160 = .ok (.iadd, 1) := by decide +kernel
theorem dM_foldOnce_161 : decode cM_foldOnce 161 = .ok (.iconst 1, 1) := by decide +kernel
theorem dM_foldOnce_162 : decode cM_foldOnce 162 = .ok (.iadd, 1) := by decide +kernel
theorem dM_foldOnce_163 : decode cM_foldOnce 163 = .ok (.iload_n 2, 1) := by decide +kernel
theorem dM_foldOnce_164 : decode cM_foldOnce 164 = .ok (.iastore, 1) := by decide +kernel
theorem dM_foldOnce_165 : decode cM_foldOnce 165 = .ok (.iinc 1 1, 3) := by decide +kernel
theorem dM_foldOnce_168 : decode cM_foldOnce 168 = .ok (.goto (-144), 3) := by decide +kernel
theorem dM_foldOnce_171 : decode cM_foldOnce 171 = .ok (.iconst 0, 1) := by decide +kernel
theorem dM_foldOnce_172 : decode cM_foldOnce 172 = .ok (.ireturn, 1) := by decide +kernel
theorem dM_fold_0 : decode cM_fold 0 = .ok (.iconst 0, 1) := by decide +kernel
theorem dM_fold_1 : decode cM_fold 1 = .ok (.istore_n 1, 1) := by decide +kernel
theorem dM_fold_2 : decode cM_fold 2 = .ok (.iload_n 1, 1) := by decide +kernel
theorem dM_fold_3 : decode cM_fold 3 = .ok (.aload_n 0, 1) := by decide +kernel
theorem dM_fold_4 : decode cM_fold 4 = .ok (.getfield 69, 3) := by decide +kernel
theorem dM_fold_7 : decode cM_fold 7 = .ok (.if_icmp .ge 16, 3) := by decide +kernel
theorem dM_fold_10 : decode cM_fold 10 = .ok (.aload_n 0, 1) := by decide +kernel
theorem dM_fold_11 : decode cM_fold 11 = .ok (.getfield 37, 3) := by decide +kernel
theorem dM_fold_14 : decode cM_fold 14 = .ok (.iload_n 1, 1) := by decide +kernel
theorem dM_fold_15 : decode cM_fold 15 = .ok (.iload_n 1, 1) := by decide +kernel
theorem dM_fold_16 : decode cM_fold 16 = .ok (.iastore, 1) := by decide +kernel
theorem dM_fold_17 : decode cM_fold 17 = .ok (.iinc 1 1, 3) := by decide +kernel
theorem dM_fold_20 : decode cM_fold 20 = .ok (.goto (-18), 3) := by decide +kernel
theorem dM_fold_23 : decode cM_fold 23 = .ok (.iconst 1, 1) := by decide +kernel
theorem dM_fold_24 : decode cM_fold 24 = .ok (.istore_n 1, 1) := by decide +kernel
theorem dM_fold_25 : decode cM_fold 25 = .ok (.iload_n 1, 1) := by decide +kernel
theorem dM_fold_26 : decode cM_fold 26 = .ok (.ifCond .eq 11, 3) := by decide +kernel
theorem dM_fold_29 : decode cM_fold 29 = .ok (.aload_n 0, 1) := by decide +kernel
theorem dM_fold_30 : decode cM_fold 30 = .ok (.invokevirtual 94, 3) := by decide +kernel
theorem dM_fold_33 : decode cM_fold 33 = .ok (.istore_n 1, 1) := by decide +kernel
theorem dM_fold_34 : decode cM_fold 34 = .ok (.goto (-9), 3) := by decide +kernel
theorem dM_fold_37 : decode cM_fold 37 = .ok (.aload_n 0, 1) := by decide +kernel
theorem dM_fold_38 : decode cM_fold 38 = .ok (.aload_n 0, 1) := by decide +kernel
theorem dM_fold_39 : decode cM_fold 39 = .ok (.getfield 37, 3) := by decide +kernel
theorem dM_fold_42 : decode cM_fold 42 = .ok (.aload_n 0, 1) := by decide +kernel
theorem dM_fold_43 : decode cM_fold 43 = .ok (.getfield 72, 3) := by decide +kernel
theorem dM_fold_46 : decode cM_fold 46 = .ok (.iaload, 1) := by decide +kernel
theorem dM_fold_47 : decode cM_fold 47 = .ok (.putfield 72, 3) := by decide +kernel
theorem dM_fold_50 : decode cM_fold 50 = .ok (.return_, 1) := by decide +kernel
theorem dM_onlyWay_0 : decode cM_onlyWay 0 = .ok (.iconst (-1), 1) := by decide +kernel
theorem dM_onlyWay_1 : decode cM_onlyWay 1 = .ok (.istore_n 2, 1) := by decide +kernel
theorem dM_onlyWay_2 : decode cM_onlyWay 2 = .ok (.iconst 0, 1) := by decide +kernel
theorem dM_onlyWay_3 : decode cM_onlyWay 3 = .ok (.istore_n 3, 1) := by decide +kernel
theorem dM_onlyWay_4 : decode cM_onlyWay 4 = .ok (.iconst 0, 1) := by decide +kernel
theorem dM_onlyWay_5 : decode cM_onlyWay 5 = .ok (.istore 4, 2) := by decide +kernel
theorem dM_onlyWay_7 : decode cM_onlyWay 7 = .ok (.iload 4, 2) := by decide +kernel
theorem dM_onlyWay_9 : decode cM_onlyWay 9 = .ok (.bipush 6, 2) := by decide +kernel
theorem dM_onlyWay_11 : decode cM_onlyWay 11 = .ok (.if_icmp .ge 30, 3) := by decide +kernel
theorem dM_onlyWay_14 : decode cM_onlyWay 14 = .ok (.aload_n 0, 1) := by decide +kernel
theorem dM_onlyWay_15 : decode cM_onlyWay 15 = .ok (.getfield 40, 3) := by decide +kernel
theorem dM_onlyWay_18 : decode cM_onlyWay 18 = .ok (.bipush 6, 2) := by decide +kernel
theorem dM_onlyWay_20 : decode cM_onlyWay 20 = .ok (.iload_n 1, 1) := by decide +kernel
theorem dM_onlyWay_21 : decode cM_onlyWay 21 = .ok (.imul, 1) := by decide +kernel
theorem dM_onlyWay_22 : decode cM_onlyWay 22 = .ok (.iload 4, 2) := by decide +kernel
theorem dM_onlyWay_24 : decode cM_onlyWay 24 = .ok (.iadd, 1) := by decide +kernel
theorem dM_onlyWay_25 : decode cM_onlyWay 25 = .ok (.iaload, 1) := by decide +kernel
theorem dM_onlyWay_26 : decode cM_onlyWay 26 = .ok (.ifCond .lt 9, 3) := by decide +kernel
theorem dM_onlyWay_29 : decode cM_onlyWay 29 = .ok (.iload 4, 2) := by decide +kernel
theorem dM_onlyWay_31 : decode cM_onlyWay 31 = .ok (.istore_n 2, 1) := by decide +kernel
theorem dM_onlyWay_32 : decode cM_onlyWay 32 = .ok (.iinc 3 1, 3) := by decide +kernel
theorem dM_onlyWay_35 : decode cM_onlyWay 35 = .ok (.iinc 4 1, 3) := by decide +kernel
theorem dM_onlyWay_38 : decode cM_onlyWay 38 = .ok (.goto (-31), 3) := by decide +kernel
theorem dM_onlyWay_41 : decode cM_onlyWay 41 = .ok (.iload_n 3, 1) := by decide +kernel
theorem dM_onlyWay_42 : decode cM_onlyWay 42 = .ok (.iconst 1, 1) := by decide +kernel
theorem dM_onlyWay_43 : decode cM_onlyWay 43 = .ok (.if_icmp .ne 7, 3) := by decide +kernel
theorem dM_onlyWay_46 : decode cM_onlyWay 46 = .ok (.iload_n 2, 1) := by decide +kernel
theorem dM_onlyWay_47 : decode cM_onlyWay 47 = .ok (.goto 4, 3) := by decide +kernel
theorem dM_onlyWay_50 : decode cM_onlyWay 50 = .ok (.iconst (-1), 1) := by decide +kernel
theorem dM_onlyWay_51 : decode cM_onlyWay 51 = .ok (.ireturn, 1) := by decide +kernel
theorem dM_trim_0 : decode cM_trim 0 = .ok (.iconst 1, 1) := by decide +kernel
theorem dM_trim_1 : decode cM_trim 1 = .ok (.istore_n 1, 1) := by decide +kernel
theorem dM_trim_2 : decode cM_trim 2 = .ok (.iload_n 1, 1) := by decide +kernel
theorem dM_trim_3 : decode cM_trim 3 = .ok (.ifCond .eq 88, 3) := by decide +kernel
theorem dM_trim_6 : decode cM_trim 6 = .ok (.iconst 0, 1) := by decide +kernel
theorem dM_trim_7 : decode cM_trim 7 = .ok (.istore_n 1, 1) := by decide +kernel
theorem dM_trim_8 : decode cM_trim 8 = .ok (.iconst 0, 1) := by decide +kernel
theorem dM_trim_9 : decode cM_trim 9 = .ok (.istore_n 2, 1) := by decide +kernel
theorem dM_trim_10 : decode cM_trim 10 = .ok (.iload_n 2, 1) := by decide +kernel
theorem dM_trim_11 : decode cM_trim 11 = .ok (.aload_n 0, 1) := by decide +kernel
theorem dM_trim_12 : decode cM_trim 12 = .ok (.getfield 69, 3) := by decide +kernel
theorem dM_trim_15 : decode cM_trim 15 = .ok (.if_icmp .ge 73, 3) := by decide +kernel
theorem dM_trim_18 : decode cM_trim 18 = .ok (.iload_n 2, 1) := by decide +kernel
theorem dM_trim_19 : decode cM_trim 19 = .ok (.aload_n 0, 1) := by decide +kernel
theorem dM_trim_20 : decode cM_trim 20 = .ok (.getfield 72, 3) := by decide +kernel
theorem dM_trim_23 : decode cM_trim 23 = .ok (.if_icmp .ne 7, 3) := by decide +kernel
theorem dM_trim_26 : decode cM_trim 26 = .ok (.iconst (-1), 1) := by decide +kernel
theorem dM_trim_27 : decode cM_trim 27 = .ok (.goto 8, 3) := by decide +kernel
theorem dM_trim_30 : decode cM_trim 30 = .ok (.aload_n 0, 1) := by decide +kernel
theorem dM_trim_31 : decode cM_trim 31 = .ok (.iload_n 2, 1) := by decide +kernel
theorem dM_trim_32 : decode cM_trim 32 = .ok (.invokevirtual 98, 3) := by decide +kernel
theorem dM_trim_35 : decode cM_trim 35 = .ok (.istore_n 3, 1) := by decide +kernel
theorem dM_trim_36 : decode cM_trim 36 = .ok (.iload_n 3, 1) := by decide +kernel
theorem dM_trim_37 : decode cM_trim 37 = .ok (.ifCond .lt 45, 3) := by decide +kernel
theorem dM_trim_40 : decode cM_trim 40 = .ok (.aload_n 0, 1) := by decide +kernel
theorem dM_trim_41 : decode cM_trim 41 = .ok (.getfield 40, 3) := by decide +kernel
theorem dM_trim_44 : decode cM_trim 44 = .ok (.bipush 6, 2) := by decide +kernel
theorem dM_trim_46 : decode cM_trim 46 = .ok (.iload_n 2, 1) := by decide +kernel
theorem dM_trim_47 : decode cM_trim 47 = .ok (.imul, 1) := by decide +kernel
theorem dM_trim_48 : decode cM_trim 48 = .ok (.iload_n 3, 1) := by decide +kernel
theorem dM_trim_49 : decode cM_trim 49 = .ok (.iadd, 1) := by decide +kernel
theorem dM_trim_50 : decode cM_trim 50 = .ok (.iaload, 1) := by decide +kernel
theorem dM_trim_51 : decode cM_trim 51 = .ok (.istore 4, 2) := by decide +kernel
theorem dM_trim_53 : decode cM_trim 53 = .ok (.aload_n 0, 1) := by decide +kernel
theorem dM_trim_54 : decode cM_trim 54 = .ok (.getfield 40, 3) := by decide +kernel
theorem dM_trim_57 : decode cM_trim 57 = .ok (.bipush 6, 2) := by decide +kernel
theorem dM_trim_59 : decode cM_trim 59 = .ok (.iload_n 2, 1) := by decide +kernel
theorem dM_trim_60 : decode cM_trim 60 = .ok (.imul, 1) := by decide +kernel
theorem dM_trim_61 : decode cM_trim 61 = .ok (.iload_n 3, 1) := by decide +kernel
theorem dM_trim_62 : decode cM_trim 62 = .ok (.iadd, 1) := by decide +kernel
theorem dM_trim_63 : decode cM_trim 63 = .ok (.iconst (-1), 1) := by decide +kernel
theorem dM_trim_64 : decode cM_trim 64 = .ok (.iastore, 1) := by decide +kernel
theorem dM_trim_65 : decode cM_trim 65 = .ok (.aload_n 0, 1) := by decide +kernel
theorem dM_trim_66 : decode cM_trim 66 = .ok (.getfield 40, 3) := by decide +kernel
theorem dM_trim_69 : decode cM_trim 69 = .ok (.bipush 6, 2) := by decide +kernel
theorem dM_trim_71 : decode cM_trim 71 = .ok (.iload 4, 2) := by decide +kernel
theorem dM_trim_73 : decode cM_trim 73 = .ok (.imul, 1) := by decide +kernel
theorem dM_trim_74 : decode cM_trim 74 = .ok (.iload_n 3, 1) := by decide +kernel
theorem dM_trim_75 : decode cM_trim 75 = .ok (.iconst 1, 1) := by decide +kernel
theorem dM_trim_76 : decode cM_trim 76 = .ok (.ixor, 1) := by decide +kernel
theorem dM_trim_77 : decode cM_trim 77 = .ok (.iadd, 1) := by decide +kernel
theorem dM_trim_78 : decode cM_trim 78 = .ok (.iconst (-1), 1) := by decide +kernel
theorem dM_trim_79 : decode cM_trim 79 = .ok (.iastore, 1) := by decide +kernel
theorem dM_trim_80 : decode cM_trim 80 = .ok (.iconst 1, 1) := by decide +kernel
theorem dM_trim_81 : decode cM_trim 81 = .ok (.istore_n 1, 1) := by decide +kernel
theorem dM_trim_82 : decode cM_trim 82 = .ok (.iinc 2 1, 3) := by decide +kernel
theorem dM_trim_85 : decode cM_trim 85 = .ok (.goto (-75), 3) := by decide +kernel
theorem dM_trim_88 : decode cM_trim 88 = .ok (.goto (-86), 3) := by decide +kernel
theorem dM_trim_91 : decode cM_trim 91 = .ok (.return_, 1) := by decide +kernel
theorem dM_settle_0 : decode cM_settle 0 = .ok (.iconst 0, 1) := by decide +kernel
theorem dM_settle_1 : decode cM_settle 1 = .ok (.istore_n 2, 1) := by decide +kernel
theorem dM_settle_2 : decode cM_settle 2 = .ok (.iload_n 2, 1) := by decide +kernel
theorem dM_settle_3 : decode cM_settle 3 = .ok (.bipush 64, 2) := by decide +kernel
theorem dM_settle_5 : decode cM_settle 5 = .ok (.if_icmp .ge 16, 3) := by decide +kernel
theorem dM_settle_8 : decode cM_settle 8 = .ok (.aload_n 0, 1) := by decide +kernel
theorem dM_settle_9 : decode cM_settle 9 = .ok (.getfield 43, 3) := by decide +kernel
theorem dM_settle_12 : decode cM_settle 12 = .ok (.iload_n 2, 1) := by decide +kernel
theorem dM_settle_13 : decode cM_settle 13 = .ok (.iconst (-1), 1) := by decide +kernel
theorem dM_settle_14 : decode cM_settle 14 = .ok (.iastore, 1) := by decide +kernel
theorem dM_settle_15 : decode cM_settle 15 = .ok (.iinc 2 1, 3) := by decide +kernel
theorem dM_settle_18 : decode cM_settle 18 = .ok (.goto (-16), 3) := by decide +kernel
theorem dM_settle_21 : decode cM_settle 21 = .ok (.aload_n 0, 1) := by decide +kernel
theorem dM_settle_22 : decode cM_settle 22 = .ok (.getfield 43, 3) := by decide +kernel
theorem dM_settle_25 : decode cM_settle 25 = .ok (.aload_n 0, 1) := by decide +kernel
theorem dM_settle_26 : decode cM_settle 26 = .ok (.getfield 72, 3) := by decide +kernel
theorem dM_settle_29 : decode cM_settle 29 = .ok (.iconst 0, 1) := by decide +kernel
theorem dM_settle_30 : decode cM_settle 30 = .ok (.iastore, 1) := by decide +kernel
theorem dM_settle_31 : decode cM_settle 31 = .ok (.aload_n 0, 1) := by decide +kernel
theorem dM_settle_32 : decode cM_settle 32 = .ok (.getfield 46, 3) := by decide +kernel
theorem dM_settle_35 : decode cM_settle 35 = .ok (.iconst 0, 1) := by decide +kernel
theorem dM_settle_36 : decode cM_settle 36 = .ok (.aload_n 0, 1) := by decide +kernel
theorem dM_settle_37 : decode cM_settle 37 = .ok (.getfield 72, 3) := by decide +kernel
theorem dM_settle_40 : decode cM_settle 40 = .ok (.iastore, 1) := by decide +kernel
theorem dM_settle_41 : decode cM_settle 41 = .ok (.aload_n 0, 1) := by decide +kernel
theorem dM_settle_42 : decode cM_settle 42 = .ok (.getfield 25, 3) := by decide +kernel
theorem dM_settle_45 : decode cM_settle 45 = .ok (.bipush 64, 2) := by decide +kernel
theorem dM_settle_47 : decode cM_settle 47 = .ok (.iload_n 1, 1) := by decide +kernel
theorem dM_settle_48 : decode cM_settle 48 = .ok (.imul, 1) := by decide +kernel
theorem dM_settle_49 : decode cM_settle 49 = .ok (.iconst 0, 1) := by decide +kernel
theorem dM_settle_50 : decode cM_settle 50 = .ok (.iastore, 1) := by decide +kernel
theorem dM_settle_51 : decode cM_settle 51 = .ok (.iconst 1, 1) := by decide +kernel
theorem dM_settle_52 : decode cM_settle 52 = .ok (.istore_n 2, 1) := by decide +kernel
theorem dM_settle_53 : decode cM_settle 53 = .ok (.iconst 0, 1) := by decide +kernel
theorem dM_settle_54 : decode cM_settle 54 = .ok (.istore_n 3, 1) := by decide +kernel
theorem dM_settle_55 : decode cM_settle 55 = .ok (.iload_n 3, 1) := by decide +kernel
theorem dM_settle_56 : decode cM_settle 56 = .ok (.iload_n 2, 1) := by decide +kernel
theorem dM_settle_57 : decode cM_settle 57 = .ok (.if_icmp .ge 127, 3) := by decide +kernel
theorem dM_settle_60 : decode cM_settle 60 = .ok (.iconst 0, 1) := by decide +kernel
theorem dM_settle_61 : decode cM_settle 61 = .ok (.istore 4, 2) := by decide +kernel
theorem dM_settle_63 : decode cM_settle 63 = .ok (.iload 4, 2) := by decide +kernel
theorem dM_settle_65 : decode cM_settle 65 = .ok (.bipush 6, 2) := by decide +kernel
theorem dM_settle_67 : decode cM_settle 67 = .ok (.if_icmp .ge 111, 3) := by decide +kernel
theorem dM_settle_70 : decode cM_settle 70 = .ok (.aload_n 0, 1) := by decide +kernel
theorem dM_settle_71 : decode cM_settle 71 = .ok (.getfield 40, 3) := by decide +kernel
theorem dM_settle_74 : decode cM_settle 74 = .ok (.bipush 6, 2) := by decide +kernel
theorem dM_settle_76 : decode cM_settle 76 = .ok (.aload_n 0, 1) := by decide +kernel
theorem dM_settle_77 : decode cM_settle 77 = .ok (.getfield 46, 3) := by decide +kernel
theorem dM_settle_80 : decode cM_settle 80 = .ok (.iload_n 3, 1) := by decide +kernel
theorem dM_settle_81 : decode cM_settle 81 = .ok (.iaload, 1) := by decide +kernel
theorem dM_settle_82 : decode cM_settle 82 = .ok (.imul, 1) := by decide +kernel
theorem dM_settle_83 : decode cM_settle 83 = .ok (.iload 4, 2) := by decide +kernel
theorem dM_settle_85 : decode cM_settle 85 = .ok (.iadd, 1) := by decide +kernel
theorem dM_settle_86 : decode cM_settle 86 = .ok (.iaload, 1) := by decide +kernel
theorem dM_settle_87 : decode cM_settle 87 = .ok (.istore 5, 2) := by decide +kernel
theorem dM_settle_89 : decode cM_settle 89 = .ok (.iload 5, 2) := by decide +kernel
theorem dM_settle_91 : decode cM_settle 91 = .ok (.ifCond .lt 81, 3) := by decide +kernel
theorem dM_settle_94 : decode cM_settle 94 = .ok (.aload_n 0, 1) := by decide +kernel
theorem dM_settle_95 : decode cM_settle 95 = .ok (.getfield 43, 3) := by decide +kernel
theorem dM_settle_98 : decode cM_settle 98 = .ok (.iload 5, 2) := by decide +kernel
theorem dM_settle_100 : decode cM_settle 100 = .ok (.iaload, 1) := by decide +kernel
theorem dM_settle_101 : decode cM_settle 101 = .ok (.ifCond .ge 71, 3) := by decide +kernel
theorem dM_settle_104 : decode cM_settle 104 = .ok (.aload_n 0, 1) := by decide +kernel
theorem dM_settle_105 : decode cM_settle 105 = .ok (.getfield 43, 3) := by decide +kernel
theorem dM_settle_108 : decode cM_settle 108 = .ok (.iload 5, 2) := by decide +kernel
theorem dM_settle_110 : decode cM_settle 110 = .ok (.iload_n 2, 1) := by decide +kernel
theorem dM_settle_111 : decode cM_settle 111 = .ok (.iastore, 1) := by decide +kernel
theorem dM_settle_112 : decode cM_settle 112 = .ok (.aload_n 0, 1) := by decide +kernel
theorem dM_settle_113 : decode cM_settle 113 = .ok (.getfield 46, 3) := by decide +kernel
theorem dM_settle_116 : decode cM_settle 116 = .ok (.iload_n 2, 1) := by decide +kernel
theorem dM_settle_117 : decode cM_settle 117 = .ok (.iload 5, 2) := by decide +kernel
theorem dM_settle_119 : decode cM_settle 119 = .ok (.iastore, 1) := by decide +kernel
theorem dM_settle_120 : decode cM_settle 120 = .ok (.aload_n 0, 1) := by decide +kernel
