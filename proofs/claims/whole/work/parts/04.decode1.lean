theorem dX_init_0 : decode cX_init 0 = .ok (.aload_n 0, 1) := by decide +kernel
theorem dX_init_1 : decode cX_init 1 = .ok (.invokespecial 3, 3) := by decide +kernel
theorem dX_init_4 : decode cX_init 4 = .ok (.aload_n 0, 1) := by decide +kernel
theorem dX_init_5 : decode cX_init 5 = .ok (.iconst 1, 1) := by decide +kernel
theorem dX_init_6 : decode cX_init 6 = .ok (.iconst 3, 1) := by decide +kernel
theorem dX_init_7 : decode cX_init 7 = .ok (.iload_n 1, 1) := by decide +kernel
theorem dX_init_8 : decode cX_init 8 = .ok (.invokestatic 9, 3) := by decide +kernel
theorem dX_init_11 : decode cX_init 11 = .ok (.invokestatic 15, 3) := by decide +kernel
theorem dX_init_14 : decode cX_init 14 = .ok (.putfield 18, 3) := by decide +kernel
theorem dX_init_17 : decode cX_init 17 = .ok (.aload_n 0, 1) := by decide +kernel
theorem dX_init_18 : decode cX_init 18 = .ok (.new 22, 3) := by decide +kernel
theorem dX_init_21 : decode cX_init 21 = .ok (.dup, 1) := by decide +kernel
theorem dX_init_22 : decode cX_init 22 = .ok (.invokespecial 24, 3) := by decide +kernel
theorem dX_init_25 : decode cX_init 25 = .ok (.putfield 25, 3) := by decide +kernel
theorem dX_init_28 : decode cX_init 28 = .ok (.aload_n 0, 1) := by decide +kernel
theorem dX_init_29 : decode cX_init 29 = .ok (.iconst 4, 1) := by decide +kernel
theorem dX_init_30 : decode cX_init 30 = .ok (.anewarray 29, 3) := by decide +kernel
theorem dX_init_33 : decode cX_init 33 = .ok (.putfield 31, 3) := by decide +kernel
theorem dX_init_36 : decode cX_init 36 = .ok (.iconst 0, 1) := by decide +kernel
theorem dX_init_37 : decode cX_init 37 = .ok (.istore_n 2, 1) := by decide +kernel
theorem dX_init_38 : decode cX_init 38 = .ok (.iload_n 2, 1) := by decide +kernel
theorem dX_init_39 : decode cX_init 39 = .ok (.iconst 4, 1) := by decide +kernel
theorem dX_init_40 : decode cX_init 40 = .ok (.if_icmp .ge 22, 3) := by decide +kernel
theorem dX_init_43 : decode cX_init 43 = .ok (.aload_n 0, 1) := by decide +kernel
theorem dX_init_44 : decode cX_init 44 = .ok (.getfield 31, 3) := by decide +kernel
theorem dX_init_47 : decode cX_init 47 = .ok (.iload_n 2, 1) := by decide +kernel
theorem dX_init_48 : decode cX_init 48 = .ok (.new 29, 3) := by decide +kernel
theorem dX_init_51 : decode cX_init 51 = .ok (.dup, 1) := by decide +kernel
theorem dX_init_52 : decode cX_init 52 = .ok (.invokespecial 35, 3) := by decide +kernel
theorem dX_init_55 : decode cX_init 55 = .ok (.aastore, 1) := by decide +kernel
theorem dX_init_56 : decode cX_init 56 = .ok (.iinc 2 1, 3) := by decide +kernel
theorem dX_init_59 : decode cX_init 59 = .ok (.goto (-21), 3) := by decide +kernel
theorem dX_init_62 : decode cX_init 62 = .ok (.aload_n 0, 1) := by decide +kernel
theorem dX_init_63 : decode cX_init 63 = .ok (.new 36, 3) := by decide +kernel
theorem dX_init_66 : decode cX_init 66 = .ok (.dup, 1) := by decide +kernel
theorem dX_init_67 : decode cX_init 67 = .ok (.invokespecial 38, 3) := by decide +kernel
theorem dX_init_70 : decode cX_init 70 = .ok (.putfield 39, 3) := by decide +kernel
theorem dX_init_73 : decode cX_init 73 = .ok (.return_, 1) := by decide +kernel
theorem dX_letter_0 : decode cX_letter 0 = .ok (.aload_n 0, 1) := by decide +kernel
theorem dX_letter_1 : decode cX_letter 1 = .ok (.iload_n 1, 1) := by decide +kernel
theorem dX_letter_2 : decode cX_letter 2 = .ok (.invokevirtual 43, 3) := by decide +kernel
theorem dX_letter_5 : decode cX_letter 5 = .ok (.ifCond .eq 14, 3) := by decide +kernel
theorem dX_letter_8 : decode cX_letter 8 = .ok (.aload_n 0, 1) := by decide +kernel
theorem dX_letter_9 : decode cX_letter 9 = .ok (.getfield 25, 3) := by decide +kernel
theorem dX_letter_12 : decode cX_letter 12 = .ok (.iload_n 1, 1) := by decide +kernel
theorem dX_letter_13 : decode cX_letter 13 = .ok (.invokevirtual 47, 3) := by decide +kernel
theorem dX_letter_16 : decode cX_letter 16 = .ok (.goto 4, 3) := by decide +kernel
theorem dX_letter_19 : decode cX_letter 19 = .ok (.iconst (-1), 1) := by decide +kernel
theorem dX_letter_20 : decode cX_letter 20 = .ok (.ireturn, 1) := by decide +kernel
theorem dX_clear_0 : decode cX_clear 0 = .ok (.aload_n 0, 1) := by decide +kernel
theorem dX_clear_1 : decode cX_clear 1 = .ok (.getfield 25, 3) := by decide +kernel
theorem dX_clear_4 : decode cX_clear 4 = .ok (.getfield 51, 3) := by decide +kernel
theorem dX_clear_7 : decode cX_clear 7 = .ok (.istore_n 1, 1) := by decide +kernel
theorem dX_clear_8 : decode cX_clear 8 = .ok (.aload_n 0, 1) := by decide +kernel
theorem dX_clear_9 : decode cX_clear 9 = .ok (.getfield 25, 3) := by decide +kernel
theorem dX_clear_12 : decode cX_clear 12 = .ok (.iconst 0, 1) := by decide +kernel
theorem dX_clear_13 : decode cX_clear 13 = .ok (.putfield 51, 3) := by decide +kernel
theorem dX_clear_16 : decode cX_clear 16 = .ok (.iload_n 1, 1) := by decide +kernel
theorem dX_clear_17 : decode cX_clear 17 = .ok (.ireturn, 1) := by decide +kernel
theorem dX_invert_0 : decode cX_invert 0 = .ok (.aload_n 0, 1) := by decide +kernel
theorem dX_invert_1 : decode cX_invert 1 = .ok (.getfield 25, 3) := by decide +kernel
theorem dX_invert_4 : decode cX_invert 4 = .ok (.invokevirtual 54, 3) := by decide +kernel
theorem dX_invert_7 : decode cX_invert 7 = .ok (.aload_n 0, 1) := by decide +kernel
theorem dX_invert_8 : decode cX_invert 8 = .ok (.getfield 25, 3) := by decide +kernel
theorem dX_invert_11 : decode cX_invert 11 = .ok (.getfield 51, 3) := by decide +kernel
theorem dX_invert_14 : decode cX_invert 14 = .ok (.ireturn, 1) := by decide +kernel
theorem dX_at_0 : decode cX_at 0 = .ok (.iload_n 1, 1) := by decide +kernel
theorem dX_at_1 : decode cX_at 1 = .ok (.ifCond .lt 26, 3) := by decide +kernel
theorem dX_at_4 : decode cX_at 4 = .ok (.iload_n 1, 1) := by decide +kernel
theorem dX_at_5 : decode cX_at 5 = .ok (.aload_n 0, 1) := by decide +kernel
theorem dX_at_6 : decode cX_at 6 = .ok (.getfield 25, 3) := by decide +kernel
theorem dX_at_9 : decode cX_at 9 = .ok (.getfield 51, 3) := by decide +kernel
theorem dX_at_12 : decode cX_at 12 = .ok (.if_icmp .ge 15, 3) := by decide +kernel
theorem dX_at_15 : decode cX_at 15 = .ok (.aload_n 0, 1) := by decide +kernel
theorem dX_at_16 : decode cX_at 16 = .ok (.getfield 25, 3) := by decide +kernel
theorem dX_at_19 : decode cX_at 19 = .ok (.getfield 57, 3) := by decide +kernel
theorem dX_at_22 : decode cX_at 22 = .ok (.iload_n 1, 1) := by decide +kernel
theorem dX_at_23 : decode cX_at 23 = .ok (.iaload, 1) := by decide +kernel
theorem dX_at_24 : decode cX_at 24 = .ok (.goto 4, 3) := by decide +kernel
theorem dX_at_27 : decode cX_at 27 = .ok (.iconst 0, 1) := by decide +kernel
theorem dX_at_28 : decode cX_at 28 = .ok (.ireturn, 1) := by decide +kernel
theorem dX_take_0 : decode cX_take 0 = .ok (.aload_n 0, 1) := by decide +kernel
theorem dX_take_1 : decode cX_take 1 = .ok (.iload_n 1, 1) := by decide +kernel
theorem dX_take_2 : decode cX_take 2 = .ok (.iload_n 2, 1) := by decide +kernel
theorem dX_take_3 : decode cX_take 3 = .ok (.invokevirtual 61, 3) := by decide +kernel
theorem dX_take_6 : decode cX_take 6 = .ok (.istore_n 3, 1) := by decide +kernel
theorem dX_take_7 : decode cX_take 7 = .ok (.iload_n 3, 1) := by decide +kernel
theorem dX_take_8 : decode cX_take 8 = .ok (.iconst (-1), 1) := by decide +kernel
theorem dX_take_9 : decode cX_take 9 = .ok (.if_icmp .ne 5, 3) := by decide +kernel
theorem dX_take_12 : decode cX_take 12 = .ok (.iconst (-1), 1) := by decide +kernel
theorem dX_take_13 : decode cX_take 13 = .ok (.ireturn, 1) := by decide +kernel
theorem dX_take_14 : decode cX_take 14 = .ok (.iload_n 3, 1) := by decide +kernel
theorem dX_take_15 : decode cX_take 15 = .ok (.bipush 24, 2) := by decide +kernel
theorem dX_take_17 : decode cX_take 17 = .ok (.if_icmp .le 6, 3) := by decide +kernel
theorem dX_take_20 : decode cX_take 20 = .ok (.bipush (-2), 2) := by decide +kernel
theorem dX_take_22 : decode cX_take 22 = .ok (.ireturn, 1) := by decide +kernel
theorem dX_take_23 : decode cX_take 23 = .ok (.aload_n 0, 1) := by decide +kernel
theorem dX_take_24 : decode cX_take 24 = .ok (.getfield 31, 3) := by decide +kernel
theorem dX_take_27 : decode cX_take 27 = .ok (.iload_n 1, 1) := by decide +kernel
theorem dX_take_28 : decode cX_take 28 = .ok (.aaload, 1) := by decide +kernel
theorem dX_take_29 : decode cX_take 29 = .ok (.astore 4, 2) := by decide +kernel
theorem dX_take_31 : decode cX_take 31 = .ok (.aload 4, 2) := by decide +kernel
theorem dX_take_33 : decode cX_take 33 = .ok (.iload_n 2, 1) := by decide +kernel
theorem dX_take_34 : decode cX_take 34 = .ok (.invokevirtual 64, 3) := by decide +kernel
theorem dX_take_37 : decode cX_take 37 = .ok (.istore 5, 2) := by decide +kernel
theorem dX_take_39 : decode cX_take 39 = .ok (.iconst 0, 1) := by decide +kernel
theorem dX_take_40 : decode cX_take 40 = .ok (.istore 6, 2) := by decide +kernel
theorem dX_take_42 : decode cX_take 42 = .ok (.iload 6, 2) := by decide +kernel
theorem dX_take_44 : decode cX_take 44 = .ok (.iload_n 3, 1) := by decide +kernel
theorem dX_take_45 : decode cX_take 45 = .ok (.if_icmp .ge 28, 3) := by decide +kernel
theorem dX_take_48 : decode cX_take 48 = .ok (.aload_n 0, 1) := by decide +kernel
theorem dX_take_49 : decode cX_take 49 = .ok (.getfield 25, 3) := by decide +kernel
theorem dX_take_52 : decode cX_take 52 = .ok (.getfield 57, 3) := by decide +kernel
theorem dX_take_55 : decode cX_take 55 = .ok (.iload 6, 2) := by decide +kernel
theorem dX_take_57 : decode cX_take 57 = .ok (.aload 4, 2) := by decide +kernel
theorem dX_take_59 : decode cX_take 59 = .ok (.iload 5, 2) := by decide +kernel
theorem dX_take_61 : decode cX_take 61 = .ok (.iload 6, 2) := by decide +kernel
theorem dX_take_63 : decode cX_take 63 = .ok (.invokevirtual 67, 3) := by decide +kernel
theorem dX_take_66 : decode cX_take 66 = .ok (.iastore, 1) := by decide +kernel
theorem dX_take_67 : decode cX_take 67 = .ok (.iinc 6 1, 3) := by decide +kernel
theorem dX_take_70 : decode cX_take 70 = .ok (.goto (-28), 3) := by decide +kernel
theorem dX_take_73 : decode cX_take 73 = .ok (.aload_n 0, 1) := by decide +kernel
theorem dX_take_74 : decode cX_take 74 = .ok (.getfield 25, 3) := by decide +kernel
theorem dX_take_77 : decode cX_take 77 = .ok (.iload_n 3, 1) := by decide +kernel
theorem dX_take_78 : decode cX_take 78 = .ok (.putfield 51, 3) := by decide +kernel
theorem dX_take_81 : decode cX_take 81 = .ok (.iload_n 3, 1) := by decide +kernel
theorem dX_take_82 : decode cX_take 82 = .ok (.ireturn, 1) := by decide +kernel
theorem dX_generate_0 : decode cX_generate 0 = .ok (.aload_n 0, 1) := by decide +kernel
theorem dX_generate_1 : decode cX_generate 1 = .ok (.iload_n 1, 1) := by decide +kernel
theorem dX_generate_2 : decode cX_generate 2 = .ok (.invokevirtual 70, 3) := by decide +kernel
theorem dX_generate_5 : decode cX_generate 5 = .ok (.ifCond .ne 5, 3) := by decide +kernel
theorem dX_generate_8 : decode cX_generate 8 = .ok (.iconst (-1), 1) := by decide +kernel
theorem dX_generate_9 : decode cX_generate 9 = .ok (.ireturn, 1) := by decide +kernel
theorem dX_generate_10 : decode cX_generate 10 = .ok (.iconst 0, 1) := by decide +kernel
theorem dX_generate_11 : decode cX_generate 11 = .ok (.aload_n 0, 1) := by decide +kernel
theorem dX_generate_12 : decode cX_generate 12 = .ok (.getfield 25, 3) := by decide +kernel
theorem dX_generate_15 : decode cX_generate 15 = .ok (.getfield 51, 3) := by decide +kernel
theorem dX_generate_18 : decode cX_generate 18 = .ok (.iconst 1, 1) := by decide +kernel
theorem dX_generate_19 : decode cX_generate 19 = .ok (.isub, 1) := by decide +kernel
theorem dX_generate_20 : decode cX_generate 20 = .ok (.invokestatic 15, 3) := by decide +kernel
theorem dX_generate_23 : decode cX_generate 23 = .ok (.istore_n 2, 1) := by decide +kernel
theorem dX_generate_24 : decode cX_generate 24 = .ok (.aload_n 0, 1) := by decide +kernel
theorem dX_generate_25 : decode cX_generate 25 = .ok (.getfield 31, 3) := by decide +kernel
theorem dX_generate_28 : decode cX_generate 28 = .ok (.iload_n 1, 1) := by decide +kernel
theorem dX_generate_29 : decode cX_generate 29 = .ok (.aaload, 1) := by decide +kernel
theorem dX_generate_30 : decode cX_generate 30 = .ok (.getfield 73, 3) := by decide +kernel
theorem dX_generate_33 : decode cX_generate 33 = .ok (.iload_n 2, 1) := by decide +kernel
theorem dX_generate_34 : decode cX_generate 34 = .ok (.iadd, 1) := by decide +kernel
theorem dX_generate_35 : decode cX_generate 35 = .ok (.bipush 64, 2) := by decide +kernel
theorem dX_generate_37 : decode cX_generate 37 = .ok (.if_icmp .le 6, 3) := by decide +kernel
theorem dX_generate_40 : decode cX_generate 40 = .ok (.bipush (-2), 2) := by decide +kernel
theorem dX_generate_42 : decode cX_generate 42 = .ok (.ireturn, 1) := by decide +kernel
theorem dX_generate_43 : decode cX_generate 43 = .ok (.aload_n 0, 1) := by decide +kernel
theorem dX_generate_44 : decode cX_generate 44 = .ok (.getfield 39, 3) := by decide +kernel
theorem dX_generate_47 : decode cX_generate 47 = .ok (.invokevirtual 74, 3) := by decide +kernel
theorem dX_generate_50 : decode cX_generate 50 = .ok (.aload_n 0, 1) := by decide +kernel
theorem dX_generate_51 : decode cX_generate 51 = .ok (.getfield 39, 3) := by decide +kernel
theorem dX_generate_54 : decode cX_generate 54 = .ok (.aload_n 0, 1) := by decide +kernel
theorem dX_generate_55 : decode cX_generate 55 = .ok (.getfield 31, 3) := by decide +kernel
theorem dX_generate_58 : decode cX_generate 58 = .ok (.iload_n 1, 1) := by decide +kernel
theorem dX_generate_59 : decode cX_generate 59 = .ok (.aaload, 1) := by decide +kernel
theorem dX_generate_60 : decode cX_generate 60 = .ok (.invokevirtual 77, 3) := by decide +kernel
theorem dX_generate_63 : decode cX_generate 63 = .ok (.aload_n 0, 1) := by decide +kernel
theorem dX_generate_64 : decode cX_generate 64 = .ok (.getfield 39, 3) := by decide +kernel
theorem dX_generate_67 : decode cX_generate 67 = .ok (.aload_n 0, 1) := by decide +kernel
theorem dX_generate_68 : decode cX_generate 68 = .ok (.getfield 25, 3) := by decide +kernel
theorem dX_generate_71 : decode cX_generate 71 = .ok (.invokevirtual 81, 3) := by decide +kernel
theorem dX_generate_74 : decode cX_generate 74 = .ok (.aload_n 0, 1) := by decide +kernel
theorem dX_generate_75 : decode cX_generate 75 = .ok (.getfield 39, 3) := by decide +kernel
theorem dX_generate_78 : decode cX_generate 78 = .ok (.invokevirtual 85, 3) := by decide +kernel
theorem dX_generate_81 : decode cX_generate 81 = .ok (.aload_n 0, 1) := by decide +kernel
theorem dX_generate_82 : decode cX_generate 82 = .ok (.getfield 39, 3) := by decide +kernel
theorem dX_generate_85 : decode cX_generate 85 = .ok (.aload_n 0, 1) := by decide +kernel
theorem dX_generate_86 : decode cX_generate 86 = .ok (.getfield 31, 3) := by decide +kernel
theorem dX_generate_89 : decode cX_generate 89 = .ok (.iload_n 1, 1) := by decide +kernel
theorem dX_generate_90 : decode cX_generate 90 = .ok (.aaload, 1) := by decide +kernel
theorem dX_generate_91 : decode cX_generate 91 = .ok (.invokevirtual 88, 3) := by decide +kernel
theorem dX_generate_94 : decode cX_generate 94 = .ok (.ireturn, 1) := by decide +kernel
theorem dX_drop_0 : decode cX_drop 0 = .ok (.aload_n 0, 1) := by decide +kernel
theorem dX_drop_1 : decode cX_drop 1 = .ok (.iload_n 1, 1) := by decide +kernel
theorem dX_drop_2 : decode cX_drop 2 = .ok (.invokevirtual 70, 3) := by decide +kernel
theorem dX_drop_5 : decode cX_drop 5 = .ok (.ifCond .ne 5, 3) := by decide +kernel
theorem dX_drop_8 : decode cX_drop 8 = .ok (.iconst (-1), 1) := by decide +kernel
theorem dX_drop_9 : decode cX_drop 9 = .ok (.ireturn, 1) := by decide +kernel
theorem dX_drop_10 : decode cX_drop 10 = .ok (.aload_n 0, 1) := by decide +kernel
theorem dX_drop_11 : decode cX_drop 11 = .ok (.getfield 31, 3) := by decide +kernel
theorem dX_drop_14 : decode cX_drop 14 = .ok (.iload_n 1, 1) := by decide +kernel
theorem dX_drop_15 : decode cX_drop 15 = .ok (.aaload, 1) := by decide +kernel
theorem dX_drop_16 : decode cX_drop 16 = .ok (.getfield 73, 3) := by decide +kernel
theorem dX_drop_19 : decode cX_drop 19 = .ok (.istore_n 2, 1) := by decide +kernel
theorem dX_drop_20 : decode cX_drop 20 = .ok (.aload_n 0, 1) := by decide +kernel
theorem dX_drop_21 : decode cX_drop 21 = .ok (.getfield 31, 3) := by decide +kernel
theorem dX_drop_24 : decode cX_drop 24 = .ok (.iload_n 1, 1) := by decide +kernel
theorem dX_drop_25 : decode cX_drop 25 = .ok (.aaload, 1) := by decide +kernel
theorem dX_drop_26 : decode cX_drop 26 = .ok (.invokevirtual 92, 3) := by decide +kernel
theorem dX_drop_29 : decode cX_drop 29 = .ok (.iload_n 2, 1) := by decide +kernel
theorem dX_drop_30 : decode cX_drop 30 = .ok (.ireturn, 1) := by decide +kernel
theorem dX_conjugate_0 : decode cX_conjugate 0 = .ok (.aload_n 0, 1) := by decide +kernel
theorem dX_conjugate_1 : decode cX_conjugate 1 = .ok (.iload_n 1, 1) := by decide +kernel
theorem dX_conjugate_2 : decode cX_conjugate 2 = .ok (.invokevirtual 70, 3) := by decide +kernel
theorem dX_conjugate_5 : decode cX_conjugate 5 = .ok (.ifCond .eq 11, 3) := by decide +kernel
theorem dX_conjugate_8 : decode cX_conjugate 8 = .ok (.aload_n 0, 1) := by decide +kernel
theorem dX_conjugate_9 : decode cX_conjugate 9 = .ok (.iload_n 2, 1) := by decide +kernel
theorem dX_conjugate_10 : decode cX_conjugate 10 = .ok (.invokevirtual 70, 3) := by decide +kernel
theorem dX_conjugate_13 : decode cX_conjugate 13 = .ok (.ifCond .ne 5, 3) := by decide +kernel
theorem dX_conjugate_16 : decode cX_conjugate 16 = .ok (.iconst (-1), 1) := by decide +kernel
theorem dX_conjugate_17 : decode cX_conjugate 17 = .ok (.ireturn, 1) := by decide +kernel
theorem dX_conjugate_18 : decode cX_conjugate 18 = .ok (.aload_n 0, 1) := by decide +kernel
theorem dX_conjugate_19 : decode cX_conjugate 19 = .ok (.getfield 31, 3) := by decide +kernel
theorem dX_conjugate_22 : decode cX_conjugate 22 = .ok (.iload_n 2, 1) := by decide +kernel
theorem dX_conjugate_23 : decode cX_conjugate 23 = .ok (.aaload, 1) := by decide +kernel
theorem dX_conjugate_24 : decode cX_conjugate 24 = .ok (.getfield 73, 3) := by decide +kernel
theorem dX_conjugate_27 : decode cX_conjugate 27 = .ok (.aload_n 0, 1) := by decide +kernel
theorem dX_conjugate_28 : decode cX_conjugate 28 = .ok (.getfield 25, 3) := by decide +kernel
theorem dX_conjugate_31 : decode cX_conjugate 31 = .ok (.getfield 51, 3) := by decide +kernel
theorem dX_conjugate_34 : decode cX_conjugate 34 = .ok (.iadd, 1) := by decide +kernel
theorem dX_conjugate_35 : decode cX_conjugate 35 = .ok (.bipush 64, 2) := by decide +kernel
theorem dX_conjugate_37 : decode cX_conjugate 37 = .ok (.if_icmp .le 6, 3) := by decide +kernel
theorem dX_conjugate_40 : decode cX_conjugate 40 = .ok (.bipush (-2), 2) := by decide +kernel
theorem dX_conjugate_42 : decode cX_conjugate 42 = .ok (.ireturn, 1) := by decide +kernel
theorem dX_conjugate_43 : decode cX_conjugate 43 = .ok (.aload_n 0, 1) := by decide +kernel
theorem dX_conjugate_44 : decode cX_conjugate 44 = .ok (.getfield 39, 3) := by decide +kernel
theorem dX_conjugate_47 : decode cX_conjugate 47 = .ok (.invokevirtual 74, 3) := by decide +kernel
theorem dX_conjugate_50 : decode cX_conjugate 50 = .ok (.aload_n 0, 1) := by decide +kernel
theorem dX_conjugate_51 : decode cX_conjugate 51 = .ok (.getfield 39, 3) := by decide +kernel
theorem dX_conjugate_54 : decode cX_conjugate 54 = .ok (.aload_n 0, 1) := by decide +kernel
theorem dX_conjugate_55 : decode cX_conjugate 55 = .ok (.getfield 31, 3) := by decide +kernel
theorem dX_conjugate_58 : decode cX_conjugate 58 = .ok (.iload_n 2, 1) := by decide +kernel
theorem dX_conjugate_59 : decode cX_conjugate 59 = .ok (.aaload, 1) := by decide +kernel
theorem dX_conjugate_60 : decode cX_conjugate 60 = .ok (.invokevirtual 77, 3) := by decide +kernel
theorem dX_conjugate_63 : decode cX_conjugate 63 = .ok (.aload_n 0, 1) := by decide +kernel
theorem dX_conjugate_64 : decode cX_conjugate 64 = .ok (.getfield 39, 3) := by decide +kernel
theorem dX_conjugate_67 : decode cX_conjugate 67 = .ok (.aload_n 0, 1) := by decide +kernel
theorem dX_conjugate_68 : decode cX_conjugate 68 = .ok (.getfield 25, 3) := by decide +kernel
theorem dX_conjugate_71 : decode cX_conjugate 71 = .ok (.invokevirtual 95, 3) := by decide +kernel
theorem dX_conjugate_74 : decode cX_conjugate 74 = .ok (.aload_n 0, 1) := by decide +kernel
theorem dX_conjugate_75 : decode cX_conjugate 75 = .ok (.getfield 39, 3) := by decide +kernel
theorem dX_conjugate_78 : decode cX_conjugate 78 = .ok (.invokevirtual 85, 3) := by decide +kernel
theorem dX_conjugate_81 : decode cX_conjugate 81 = .ok (.aload_n 0, 1) := by decide +kernel
theorem dX_conjugate_82 : decode cX_conjugate 82 = .ok (.getfield 39, 3) := by decide +kernel
theorem dX_conjugate_85 : decode cX_conjugate 85 = .ok (.invokevirtual 98, 3) := by decide +kernel
theorem dX_conjugate_88 : decode cX_conjugate 88 = .ok (.aload_n 0, 1) := by decide +kernel
theorem dX_conjugate_89 : decode cX_conjugate 89 = .ok (.getfield 39, 3) := by decide +kernel
theorem dX_conjugate_92 : decode cX_conjugate 92 = .ok (.aload_n 0, 1) := by decide +kernel
theorem dX_conjugate_93 : decode cX_conjugate 93 = .ok (.getfield 31, 3) := by decide +kernel
theorem dX_conjugate_96 : decode cX_conjugate 96 = .ok (.iload_n 1, 1) := by decide +kernel
theorem dX_conjugate_97 : decode cX_conjugate 97 = .ok (.aaload, 1) := by decide +kernel
theorem dX_conjugate_98 : decode cX_conjugate 98 = .ok (.invokevirtual 88, 3) := by decide +kernel
theorem dX_conjugate_101 : decode cX_conjugate 101 = .ok (.ireturn, 1) := by decide +kernel
theorem dX_meet_0 : decode cX_meet 0 = .ok (.aload_n 0, 1) := by decide +kernel
theorem dX_meet_1 : decode cX_meet 1 = .ok (.iload_n 1, 1) := by decide +kernel
theorem dX_meet_2 : decode cX_meet 2 = .ok (.invokevirtual 70, 3) := by decide +kernel
theorem dX_meet_5 : decode cX_meet 5 = .ok (.ifCond .eq 19, 3) := by decide +kernel
theorem dX_meet_8 : decode cX_meet 8 = .ok (.aload_n 0, 1) := by decide +kernel
theorem dX_meet_9 : decode cX_meet 9 = .ok (.iload_n 2, 1) := by decide +kernel
theorem dX_meet_10 : decode cX_meet 10 = .ok (.invokevirtual 70, 3) := by decide +kernel
theorem dX_meet_13 : decode cX_meet 13 = .ok (.ifCond .eq 11, 3) := by decide +kernel
theorem dX_meet_16 : decode cX_meet 16 = .ok (.aload_n 0, 1) := by decide +kernel
theorem dX_meet_17 : decode cX_meet 17 = .ok (.iload_n 3, 1) := by decide +kernel
theorem dX_meet_18 : decode cX_meet 18 = .ok (.invokevirtual 70, 3) := by decide +kernel
theorem dX_meet_21 : decode cX_meet 21 = .ok (.ifCond .ne 5, 3) := by decide +kernel
theorem dX_meet_24 : decode cX_meet 24 = .ok (.iconst (-1), 1) := by decide +kernel
theorem dX_meet_25 : decode cX_meet 25 = .ok (.ireturn, 1) := by decide +kernel
theorem dX_meet_26 : decode cX_meet 26 = .ok (.aload_n 0, 1) := by decide +kernel
theorem dX_meet_27 : decode cX_meet 27 = .ok (.getfield 39, 3) := by decide +kernel
theorem dX_meet_30 : decode cX_meet 30 = .ok (.invokevirtual 74, 3) := by decide +kernel
theorem dX_meet_33 : decode cX_meet 33 = .ok (.aload_n 0, 1) := by decide +kernel
theorem dX_meet_34 : decode cX_meet 34 = .ok (.getfield 39, 3) := by decide +kernel
theorem dX_meet_37 : decode cX_meet 37 = .ok (.aload_n 0, 1) := by decide +kernel
theorem dX_meet_38 : decode cX_meet 38 = .ok (.getfield 31, 3) := by decide +kernel
theorem dX_meet_41 : decode cX_meet 41 = .ok (.iload_n 2, 1) := by decide +kernel
theorem dX_meet_42 : decode cX_meet 42 = .ok (.aaload, 1) := by decide +kernel
theorem dX_meet_43 : decode cX_meet 43 = .ok (.aload_n 0, 1) := by decide +kernel
theorem dX_meet_44 : decode cX_meet 44 = .ok (.getfield 31, 3) := by decide +kernel
theorem dX_meet_47 : decode cX_meet 47 = .ok (.iload_n 3, 1) := by decide +kernel
theorem dX_meet_48 : decode cX_meet 48 = .ok (.aaload, 1) := by decide +kernel
theorem dX_meet_49 : decode cX_meet 49 = .ok (.invokevirtual 101, 3) := by decide +kernel
theorem dX_meet_52 : decode cX_meet 52 = .ok (.ifCond .ne 6, 3) := by decide +kernel
theorem dX_meet_55 : decode cX_meet 55 = .ok (.bipush (-2), 2) := by decide +kernel
theorem dX_meet_57 : decode cX_meet 57 = .ok (.ireturn, 1) := by decide +kernel
theorem dX_meet_58 : decode cX_meet 58 = .ok (.aload_n 0, 1) := by decide +kernel
theorem dX_meet_59 : decode cX_meet 59 = .ok (.getfield 39, 3) := by decide +kernel
theorem dX_meet_62 : decode cX_meet 62 = .ok (.invokevirtual 98, 3) := by decide +kernel
theorem dX_meet_65 : decode cX_meet 65 = .ok (.aload_n 0, 1) := by decide +kernel
theorem dX_meet_66 : decode cX_meet 66 = .ok (.getfield 39, 3) := by decide +kernel
theorem dX_meet_69 : decode cX_meet 69 = .ok (.aload_n 0, 1) := by decide +kernel
theorem dX_meet_70 : decode cX_meet 70 = .ok (.getfield 31, 3) := by decide +kernel
theorem dX_meet_73 : decode cX_meet 73 = .ok (.iload_n 1, 1) := by decide +kernel
theorem dX_meet_74 : decode cX_meet 74 = .ok (.aaload, 1) := by decide +kernel
theorem dX_meet_75 : decode cX_meet 75 = .ok (.invokevirtual 88, 3) := by decide +kernel
theorem dX_meet_78 : decode cX_meet 78 = .ok (.ireturn, 1) := by decide +kernel
theorem dX_join_0 : decode cX_join 0 = .ok (.aload_n 0, 1) := by decide +kernel
theorem dX_join_1 : decode cX_join 1 = .ok (.iload_n 1, 1) := by decide +kernel
theorem dX_join_2 : decode cX_join 2 = .ok (.invokevirtual 70, 3) := by decide +kernel
theorem dX_join_5 : decode cX_join 5 = .ok (.ifCond .eq 19, 3) := by decide +kernel
theorem dX_join_8 : decode cX_join 8 = .ok (.aload_n 0, 1) := by decide +kernel
theorem dX_join_9 : decode cX_join 9 = .ok (.iload_n 2, 1) := by decide +kernel
theorem dX_join_10 : decode cX_join 10 = .ok (.invokevirtual 70, 3) := by decide +kernel
theorem dX_join_13 : decode cX_join 13 = .ok (.ifCond .eq 11, 3) := by decide +kernel
theorem dX_join_16 : decode cX_join 16 = .ok (.aload_n 0, 1) := by decide +kernel
theorem dX_join_17 : decode cX_join 17 = .ok (.iload_n 3, 1) := by decide +kernel
theorem dX_join_18 : decode cX_join 18 = .ok (.invokevirtual 70, 3) := by decide +kernel
theorem dX_join_21 : decode cX_join 21 = .ok (.ifCond .ne 5, 3) := by decide +kernel
theorem dX_join_24 : decode cX_join 24 = .ok (.iconst (-1), 1) := by decide +kernel
theorem dX_join_25 : decode cX_join 25 = .ok (.ireturn, 1) := by decide +kernel
theorem dX_join_26 : decode cX_join 26 = .ok (.aload_n 0, 1) := by decide +kernel
theorem dX_join_27 : decode cX_join 27 = .ok (.getfield 31, 3) := by decide +kernel
theorem dX_join_30 : decode cX_join 30 = .ok (.iload_n 2, 1) := by decide +kernel
theorem dX_join_31 : decode cX_join 31 = .ok (.aaload, 1) := by decide +kernel
theorem dX_join_32 : decode cX_join 32 = .ok (.getfield 73, 3) := by decide +kernel
theorem dX_join_35 : decode cX_join 35 = .ok (.aload_n 0, 1) := by decide +kernel
theorem dX_join_36 : decode cX_join 36 = .ok (.getfield 31, 3) := by decide +kernel
theorem dX_join_39 : decode cX_join 39 = .ok (.iload_n 3, 1) := by decide +kernel
theorem dX_join_40 : decode cX_join 40 = .ok (.aaload, 1) := by decide +kernel
theorem dX_join_41 : decode cX_join 41 = .ok (.getfield 73, 3) := by decide +kernel
theorem dX_join_44 : decode cX_join 44 = .ok (.iadd, 1) := by decide +kernel
theorem dX_join_45 : decode cX_join 45 = .ok (.iconst 1, 1) := by decide +kernel
theorem dX_join_46 : decode cX_join 46 = .ok (.isub, 1) := by decide +kernel
theorem dX_join_47 : decode cX_join 47 = .ok (.bipush 64, 2) := by decide +kernel
theorem dX_join_49 : decode cX_join 49 = .ok (.if_icmp .le 6, 3) := by decide +kernel
theorem dX_join_52 : decode cX_join 52 = .ok (.bipush (-2), 2) := by decide +kernel
theorem dX_join_54 : decode cX_join 54 = .ok (.ireturn, 1) := by decide +kernel
theorem dX_join_55 : decode cX_join 55 = .ok (.aload_n 0, 1) := by decide +kernel
theorem dX_join_56 : decode cX_join 56 = .ok (.getfield 39, 3) := by decide +kernel
theorem dX_join_59 : decode cX_join 59 = .ok (.invokevirtual 74, 3) := by decide +kernel
theorem dX_join_62 : decode cX_join 62 = .ok (.aload_n 0, 1) := by decide +kernel
theorem dX_join_63 : decode cX_join 63 = .ok (.getfield 39, 3) := by decide +kernel
theorem dX_join_66 : decode cX_join 66 = .ok (.aload_n 0, 1) := by decide +kernel
theorem dX_join_67 : decode cX_join 67 = .ok (.getfield 31, 3) := by decide +kernel
theorem dX_join_70 : decode cX_join 70 = .ok (.iload_n 2, 1) := by decide +kernel
theorem dX_join_71 : decode cX_join 71 = .ok (.aaload, 1) := by decide +kernel
theorem dX_join_72 : decode cX_join 72 = .ok (.invokevirtual 77, 3) := by decide +kernel
theorem dX_join_75 : decode cX_join 75 = .ok (.aload_n 0, 1) := by decide +kernel
theorem dX_join_76 : decode cX_join 76 = .ok (.getfield 39, 3) := by decide +kernel
theorem dX_join_79 : decode cX_join 79 = .ok (.aload_n 0, 1) := by decide +kernel
theorem dX_join_80 : decode cX_join 80 = .ok (.getfield 31, 3) := by decide +kernel
theorem dX_join_83 : decode cX_join 83 = .ok (.iload_n 3, 1) := by decide +kernel
theorem dX_join_84 : decode cX_join 84 = .ok (.aaload, 1) := by decide +kernel
theorem dX_join_85 : decode cX_join 85 = .ok (.invokevirtual 77, 3) := by decide +kernel
theorem dX_join_88 : decode cX_join 88 = .ok (.aload_n 0, 1) := by decide +kernel
theorem dX_join_89 : decode cX_join 89 = .ok (.getfield 39, 3) := by decide +kernel
theorem dX_join_92 : decode cX_join 92 = .ok (.invokevirtual 85, 3) := by decide +kernel
theorem dX_join_95 : decode cX_join 95 = .ok (.aload_n 0, 1) := by decide +kernel
theorem dX_join_96 : decode cX_join 96 = .ok (.getfield 39, 3) := by decide +kernel
theorem dX_join_99 : decode cX_join 99 = .ok (.aload_n 0, 1) := by decide +kernel
theorem dX_join_100 : decode cX_join 100 = .ok (.getfield 31, 3) := by decide +kernel
theorem dX_join_103 : decode cX_join 103 = .ok (.iload_n 1, 1) := by decide +kernel
theorem dX_join_104 : decode cX_join 104 = .ok (.aaload, 1) := by decide +kernel
theorem dX_join_105 : decode cX_join 105 = .ok (.invokevirtual 88, 3) := by decide +kernel
theorem dX_join_108 : decode cX_join 108 = .ok (.ireturn, 1) := by decide +kernel
theorem dX_member_0 : decode cX_member 0 = .ok (.aload_n 0, 1) := by decide +kernel
theorem dX_member_1 : decode cX_member 1 = .ok (.iload_n 1, 1) := by decide +kernel
theorem dX_member_2 : decode cX_member 2 = .ok (.invokevirtual 105, 3) := by decide +kernel
theorem dX_member_5 : decode cX_member 5 = .ok (.ifCond .ne 7, 3) := by decide +kernel
theorem dX_member_8 : decode cX_member 8 = .ok (.iconst 1, 1) := by decide +kernel
theorem dX_member_9 : decode cX_member 9 = .ok (.goto 4, 3) := by decide +kernel
theorem dX_member_12 : decode cX_member 12 = .ok (.iconst 0, 1) := by decide +kernel
theorem dX_member_13 : decode cX_member 13 = .ok (.ireturn, 1) := by decide +kernel
theorem dX_trace_0 : decode cX_trace 0 = .ok (.aload_n 0, 1) := by decide +kernel
theorem dX_trace_1 : decode cX_trace 1 = .ok (.iload_n 1, 1) := by decide +kernel
theorem dX_trace_2 : decode cX_trace 2 = .ok (.invokevirtual 70, 3) := by decide +kernel
theorem dX_trace_5 : decode cX_trace 5 = .ok (.ifCond .ne 5, 3) := by decide +kernel
theorem dX_trace_8 : decode cX_trace 8 = .ok (.iconst (-1), 1) := by decide +kernel
theorem dX_trace_9 : decode cX_trace 9 = .ok (.ireturn, 1) := by decide +kernel
theorem dX_trace_10 : decode cX_trace 10 = .ok (.iconst 0, 1) := by decide +kernel
theorem dX_trace_11 : decode cX_trace 11 = .ok (.istore_n 2, 1) := by decide +kernel
theorem dX_trace_12 : decode cX_trace 12 = .ok (.iconst 0, 1) := by decide +kernel
theorem dX_trace_13 : decode cX_trace 13 = .ok (.istore_n 3, 1) := by decide +kernel
theorem dX_trace_14 : decode cX_trace 14 = .ok (.iload_n 3, 1) := by decide +kernel
theorem dX_trace_15 : decode cX_trace 15 = .ok (.aload_n 0, 1) := by decide +kernel
theorem dX_trace_16 : decode cX_trace 16 = .ok (.getfield 25, 3) := by decide +kernel
theorem dX_trace_19 : decode cX_trace 19 = .ok (.getfield 51, 3) := by decide +kernel
theorem dX_trace_22 : decode cX_trace 22 = .ok (.if_icmp .ge 37, 3) := by decide +kernel
theorem dX_trace_25 : decode cX_trace 25 = .ok (.iload_n 2, 1) := by decide +kernel
theorem dX_trace_26 : decode cX_trace 26 = .ok (.iconst (-1), 1) := by decide +kernel
theorem dX_trace_27 : decode cX_trace 27 = .ok (.if_icmp .eq 32, 3) := by decide +kernel
theorem dX_trace_30 : decode cX_trace 30 = .ok (.aload_n 0, 1) := by decide +kernel
theorem dX_trace_31 : decode cX_trace 31 = .ok (.getfield 31, 3) := by decide +kernel
theorem dX_trace_34 : decode cX_trace 34 = .ok (.iload_n 1, 1) := by decide +kernel
theorem dX_trace_35 : decode cX_trace 35 = .ok (.aaload, 1) := by decide +kernel
theorem dX_trace_36 : decode cX_trace 36 = .ok (.iload_n 2, 1) := by decide +kernel
theorem dX_trace_37 : decode cX_trace 37 = .ok (.aload_n 0, 1) := by decide +kernel
theorem dX_trace_38 : decode cX_trace 38 = .ok (.getfield 25, 3) := by decide +kernel
theorem dX_trace_41 : decode cX_trace 41 = .ok (.getfield 57, 3) := by decide +kernel
theorem dX_trace_44 : decode cX_trace 44 = .ok (.iload_n 3, 1) := by decide +kernel
theorem dX_trace_45 : decode cX_trace 45 = .ok (.iaload, 1) := by decide +kernel
theorem dX_trace_46 : decode cX_trace 46 = .ok (.invokestatic 108, 3) := by decide +kernel
theorem dX_trace_49 : decode cX_trace 49 = .ok (.invokevirtual 111, 3) := by decide +kernel
theorem dX_trace_52 : decode cX_trace 52 = .ok (.istore_n 2, 1) := by decide +kernel
theorem dX_trace_53 : decode cX_trace 53 = .ok (.iinc 3 1, 3) := by decide +kernel
theorem dX_trace_56 : decode cX_trace 56 = .ok (.goto (-42), 3) := by decide +kernel
theorem dX_trace_59 : decode cX_trace 59 = .ok (.iload_n 2, 1) := by decide +kernel
theorem dX_trace_60 : decode cX_trace 60 = .ok (.ireturn, 1) := by decide +kernel
theorem dX_written_0 : decode cX_written 0 = .ok (.aload_n 0, 1) := by decide +kernel
theorem dX_written_1 : decode cX_written 1 = .ok (.iload_n 1, 1) := by decide +kernel
theorem dX_written_2 : decode cX_written 2 = .ok (.invokevirtual 114, 3) := by decide +kernel
theorem dX_written_5 : decode cX_written 5 = .ok (.ifCond .ne 5, 3) := by decide +kernel
theorem dX_written_8 : decode cX_written 8 = .ok (.iconst 0, 1) := by decide +kernel
theorem dX_written_9 : decode cX_written 9 = .ok (.ireturn, 1) := by decide +kernel
theorem dX_written_10 : decode cX_written 10 = .ok (.aload_n 0, 1) := by decide +kernel
theorem dX_written_11 : decode cX_written 11 = .ok (.getfield 31, 3) := by decide +kernel
theorem dX_written_14 : decode cX_written 14 = .ok (.iload_n 1, 1) := by decide +kernel
theorem dX_written_15 : decode cX_written 15 = .ok (.aaload, 1) := by decide +kernel
theorem dX_written_16 : decode cX_written 16 = .ok (.astore_n 3, 1) := by decide +kernel
theorem dX_written_17 : decode cX_written 17 = .ok (.iconst 0, 1) := by decide +kernel
theorem dX_written_18 : decode cX_written 18 = .ok (.istore 4, 2) := by decide +kernel
theorem dX_written_20 : decode cX_written 20 = .ok (.iconst 0, 1) := by decide +kernel
theorem dX_written_21 : decode cX_written 21 = .ok (.istore 5, 2) := by decide +kernel
theorem dX_written_23 : decode cX_written 23 = .ok (.iconst 0, 1) := by decide +kernel
theorem dX_written_24 : decode cX_written 24 = .ok (.istore 6, 2) := by decide +kernel
theorem dX_written_26 : decode cX_written 26 = .ok (.iload 6, 2) := by decide +kernel
theorem dX_written_28 : decode cX_written 28 = .ok (.aload_n 0, 1) := by decide +kernel
theorem dX_written_29 : decode cX_written 29 = .ok (.getfield 25, 3) := by decide +kernel
theorem dX_written_32 : decode cX_written 32 = .ok (.getfield 51, 3) := by decide +kernel
theorem dX_written_35 : decode cX_written 35 = .ok (.if_icmp .ge 66, 3) := by decide +kernel
theorem dX_written_38 : decode cX_written 38 = .ok (.aload_n 0, 1) := by decide +kernel
theorem dX_written_39 : decode cX_written 39 = .ok (.getfield 25, 3) := by decide +kernel
theorem dX_written_42 : decode cX_written 42 = .ok (.getfield 57, 3) := by decide +kernel
theorem dX_written_45 : decode cX_written 45 = .ok (.iload 6, 2) := by decide +kernel
theorem dX_written_47 : decode cX_written 47 = .ok (.iaload, 1) := by decide +kernel
theorem dX_written_48 : decode cX_written 48 = .ok (.invokestatic 108, 3) := by decide +kernel
theorem dX_written_51 : decode cX_written 51 = .ok (.istore 7, 2) := by decide +kernel
theorem dX_written_53 : decode cX_written 53 = .ok (.aload_n 3, 1) := by decide +kernel
theorem dX_written_54 : decode cX_written 54 = .ok (.getfield 117, 3) := by decide +kernel
theorem dX_written_57 : decode cX_written 57 = .ok (.iload 4, 2) := by decide +kernel
theorem dX_written_59 : decode cX_written 59 = .ok (.bipush 6, 2) := by decide +kernel
theorem dX_written_61 : decode cX_written 61 = .ok (.imul, 1) := by decide +kernel
theorem dX_written_62 : decode cX_written 62 = .ok (.iload 7, 2) := by decide +kernel
theorem dX_written_64 : decode cX_written 64 = .ok (.iadd, 1) := by decide +kernel
theorem dX_written_65 : decode cX_written 65 = .ok (.iaload, 1) := by decide +kernel
theorem dX_written_66 : decode cX_written 66 = .ok (.istore 8, 2) := by decide +kernel
theorem dX_written_68 : decode cX_written 68 = .ok (.iload 8, 2) := by decide +kernel
theorem dX_written_70 : decode cX_written 70 = .ok (.ifCond .eq 15, 3) := by decide +kernel
theorem dX_written_73 : decode cX_written 73 = .ok (.iload 5, 2) := by decide +kernel
theorem dX_written_75 : decode cX_written 75 = .ok (.iload_n 2, 1) := by decide +kernel
theorem dX_written_76 : decode cX_written 76 = .ok (.if_icmp .ne 6, 3) := by decide +kernel
theorem dX_written_79 : decode cX_written 79 = .ok (.iload 8, 2) := by decide +kernel
theorem dX_written_81 : decode cX_written 81 = .ok (.ireturn, 1) := by decide +kernel
theorem dX_written_82 : decode cX_written 82 = .ok (.iinc 5 1, 3) := by decide +kernel
theorem dX_written_85 : decode cX_written 85 = .ok (.aload_n 3, 1) := by decide +kernel
theorem dX_written_86 : decode cX_written 86 = .ok (.iload 4, 2) := by decide +kernel
theorem dX_written_88 : decode cX_written 88 = .ok (.iload 7, 2) := by decide +kernel
theorem dX_written_90 : decode cX_written 90 = .ok (.invokevirtual 111, 3) := by decide +kernel
theorem dX_written_93 : decode cX_written 93 = .ok (.istore 4, 2) := by decide +kernel
theorem dX_written_95 : decode cX_written 95 = .ok (.iinc 6 1, 3) := by decide +kernel
theorem dX_written_98 : decode cX_written 98 = .ok (.goto (-72), 3) := by decide +kernel
theorem dX_written_101 : decode cX_written 101 = .ok (.iconst 0, 1) := by decide +kernel
theorem dX_written_102 : decode cX_written 102 = .ok (.ireturn, 1) := by decide +kernel
theorem dX_length_0 : decode cX_length 0 = .ok (.aload_n 0, 1) := by decide +kernel
theorem dX_length_1 : decode cX_length 1 = .ok (.iload_n 1, 1) := by decide +kernel
theorem dX_length_2 : decode cX_length 2 = .ok (.invokevirtual 70, 3) := by decide +kernel
theorem dX_length_5 : decode cX_length 5 = .ok (.ifCond .ne 5, 3) := by decide +kernel
theorem dX_length_8 : decode cX_length 8 = .ok (.iconst (-1), 1) := by decide +kernel
theorem dX_length_9 : decode cX_length 9 = .ok (.ireturn, 1) := by decide +kernel
theorem dX_length_10 : decode cX_length 10 = .ok (.aload_n 0, 1) := by decide +kernel
theorem dX_length_11 : decode cX_length 11 = .ok (.getfield 31, 3) := by decide +kernel
theorem dX_length_14 : decode cX_length 14 = .ok (.iload_n 1, 1) := by decide +kernel
theorem dX_length_15 : decode cX_length 15 = .ok (.aaload, 1) := by decide +kernel
theorem dX_length_16 : decode cX_length 16 = .ok (.iload_n 2, 1) := by decide +kernel
theorem dX_length_17 : decode cX_length 17 = .ok (.invokevirtual 64, 3) := by decide +kernel
theorem dX_length_20 : decode cX_length 20 = .ok (.istore_n 3, 1) := by decide +kernel
theorem dX_length_21 : decode cX_length 21 = .ok (.iload_n 3, 1) := by decide +kernel
theorem dX_length_22 : decode cX_length 22 = .ok (.iconst (-1), 1) := by decide +kernel
theorem dX_length_23 : decode cX_length 23 = .ok (.if_icmp .ne 7, 3) := by decide +kernel
theorem dX_length_26 : decode cX_length 26 = .ok (.iconst (-1), 1) := by decide +kernel
theorem dX_length_27 : decode cX_length 27 = .ok (.goto 13, 3) := by decide +kernel
theorem dX_length_30 : decode cX_length 30 = .ok (.aload_n 0, 1) := by decide +kernel
theorem dX_length_31 : decode cX_length 31 = .ok (.getfield 31, 3) := by decide +kernel
theorem dX_length_34 : decode cX_length 34 = .ok (.iload_n 1, 1) := by decide +kernel
theorem dX_length_35 : decode cX_length 35 = .ok (.aaload, 1) := by decide +kernel
theorem dX_length_36 : decode cX_length 36 = .ok (.iload_n 3, 1) := by decide +kernel
theorem dX_length_37 : decode cX_length 37 = .ok (.invokevirtual 120, 3) := by decide +kernel
theorem dX_length_40 : decode cX_length 40 = .ok (.ireturn, 1) := by decide +kernel
theorem dX_basis_0 : decode cX_basis 0 = .ok (.iload_n 3, 1) := by decide +kernel
theorem dX_basis_1 : decode cX_basis 1 = .ok (.ifCond .lt 13, 3) := by decide +kernel
theorem dX_basis_4 : decode cX_basis 4 = .ok (.iload_n 3, 1) := by decide +kernel
theorem dX_basis_5 : decode cX_basis 5 = .ok (.aload_n 0, 1) := by decide +kernel
theorem dX_basis_6 : decode cX_basis 6 = .ok (.iload_n 1, 1) := by decide +kernel
theorem dX_basis_7 : decode cX_basis 7 = .ok (.iload_n 2, 1) := by decide +kernel
theorem dX_basis_8 : decode cX_basis 8 = .ok (.invokevirtual 61, 3) := by decide +kernel
theorem dX_basis_11 : decode cX_basis 11 = .ok (.if_icmp .lt 5, 3) := by decide +kernel
theorem dX_basis_14 : decode cX_basis 14 = .ok (.iconst 0, 1) := by decide +kernel
theorem dX_basis_15 : decode cX_basis 15 = .ok (.ireturn, 1) := by decide +kernel
theorem dX_basis_16 : decode cX_basis 16 = .ok (.aload_n 0, 1) := by decide +kernel
theorem dX_basis_17 : decode cX_basis 17 = .ok (.getfield 31, 3) := by decide +kernel
theorem dX_basis_20 : decode cX_basis 20 = .ok (.iload_n 1, 1) := by decide +kernel
theorem dX_basis_21 : decode cX_basis 21 = .ok (.aaload, 1) := by decide +kernel
theorem dX_basis_22 : decode cX_basis 22 = .ok (.aload_n 0, 1) := by decide +kernel
theorem dX_basis_23 : decode cX_basis 23 = .ok (.getfield 31, 3) := by decide +kernel
theorem dX_basis_26 : decode cX_basis 26 = .ok (.iload_n 1, 1) := by decide +kernel
theorem dX_basis_27 : decode cX_basis 27 = .ok (.aaload, 1) := by decide +kernel
theorem dX_basis_28 : decode cX_basis 28 = .ok (.iload_n 2, 1) := by decide +kernel
theorem dX_basis_29 : decode cX_basis 29 = .ok (.invokevirtual 64, 3) := by decide +kernel
theorem dX_basis_32 : decode cX_basis 32 = .ok (.iload_n 3, 1) := by decide +kernel
theorem dX_basis_33 : decode cX_basis 33 = .ok (.invokevirtual 67, 3) := by decide +kernel
theorem dX_basis_36 : decode cX_basis 36 = .ok (.ireturn, 1) := by decide +kernel
theorem dX_target_0 : decode cX_target 0 = .ok (.aload_n 0, 1) := by decide +kernel
theorem dX_target_1 : decode cX_target 1 = .ok (.iload_n 1, 1) := by decide +kernel
theorem dX_target_2 : decode cX_target 2 = .ok (.invokevirtual 70, 3) := by decide +kernel
theorem dX_target_5 : decode cX_target 5 = .ok (.ifCond .eq 28, 3) := by decide +kernel
theorem dX_target_8 : decode cX_target 8 = .ok (.aload_n 0, 1) := by decide +kernel
theorem dX_target_9 : decode cX_target 9 = .ok (.iload_n 3, 1) := by decide +kernel
theorem dX_target_10 : decode cX_target 10 = .ok (.invokevirtual 43, 3) := by decide +kernel
theorem dX_target_13 : decode cX_target 13 = .ok (.ifCond .eq 20, 3) := by decide +kernel
theorem dX_target_16 : decode cX_target 16 = .ok (.iload_n 2, 1) := by decide +kernel
theorem dX_target_17 : decode cX_target 17 = .ok (.ifCond .lt 16, 3) := by decide +kernel
theorem dX_target_20 : decode cX_target 20 = .ok (.iload_n 2, 1) := by decide +kernel
theorem dX_target_21 : decode cX_target 21 = .ok (.aload_n 0, 1) := by decide +kernel
theorem dX_target_22 : decode cX_target 22 = .ok (.getfield 31, 3) := by decide +kernel
theorem dX_target_25 : decode cX_target 25 = .ok (.iload_n 1, 1) := by decide +kernel
theorem dX_target_26 : decode cX_target 26 = .ok (.aaload, 1) := by decide +kernel
theorem dX_target_27 : decode cX_target 27 = .ok (.getfield 73, 3) := by decide +kernel
theorem dX_target_30 : decode cX_target 30 = .ok (.if_icmp .lt 5, 3) := by decide +kernel
theorem dX_target_33 : decode cX_target 33 = .ok (.iconst (-1), 1) := by decide +kernel
theorem dX_target_34 : decode cX_target 34 = .ok (.ireturn, 1) := by decide +kernel
theorem dX_target_35 : decode cX_target 35 = .ok (.aload_n 0, 1) := by decide +kernel
theorem dX_target_36 : decode cX_target 36 = .ok (.getfield 31, 3) := by decide +kernel
theorem dX_target_39 : decode cX_target 39 = .ok (.iload_n 1, 1) := by decide +kernel
theorem dX_target_40 : decode cX_target 40 = .ok (.aaload, 1) := by decide +kernel
theorem dX_target_41 : decode cX_target 41 = .ok (.iload_n 2, 1) := by decide +kernel
theorem dX_target_42 : decode cX_target 42 = .ok (.iload_n 3, 1) := by decide +kernel
theorem dX_target_43 : decode cX_target 43 = .ok (.invokestatic 108, 3) := by decide +kernel
theorem dX_target_46 : decode cX_target 46 = .ok (.invokevirtual 111, 3) := by decide +kernel
theorem dX_target_49 : decode cX_target 49 = .ok (.ireturn, 1) := by decide +kernel
theorem dX_figure_0 : decode cX_figure 0 = .ok (.aload_n 0, 1) := by decide +kernel
theorem dX_figure_1 : decode cX_figure 1 = .ok (.iload_n 1, 1) := by decide +kernel
theorem dX_figure_2 : decode cX_figure 2 = .ok (.invokevirtual 70, 3) := by decide +kernel
theorem dX_figure_5 : decode cX_figure 5 = .ok (.ifCond .ne 5, 3) := by decide +kernel
theorem dX_figure_8 : decode cX_figure 8 = .ok (.iconst (-1), 1) := by decide +kernel
theorem dX_figure_9 : decode cX_figure 9 = .ok (.ireturn, 1) := by decide +kernel
theorem dX_figure_10 : decode cX_figure 10 = .ok (.aload_n 0, 1) := by decide +kernel
theorem dX_figure_11 : decode cX_figure 11 = .ok (.getfield 31, 3) := by decide +kernel
theorem dX_figure_14 : decode cX_figure 14 = .ok (.iload_n 1, 1) := by decide +kernel
theorem dX_figure_15 : decode cX_figure 15 = .ok (.aaload, 1) := by decide +kernel
theorem dX_figure_16 : decode cX_figure 16 = .ok (.astore_n 3, 1) := by decide +kernel
theorem dX_figure_17 : decode cX_figure 17 = .ok (.iload_n 2, 1) := by decide +kernel
theorem dX_figure_18 : decode cX_figure 18 = .ok (.tableswitch 62 0 3 #[30, 35, 40, 45], 30) := by decide +kernel
theorem dX_figure_48 : decode cX_figure 48 = .ok (.aload_n 3, 1) := by decide +kernel
theorem dX_figure_49 : decode cX_figure 49 = .ok (.getfield 73, 3) := by decide +kernel
theorem dX_figure_52 : decode cX_figure 52 = .ok (.ireturn, 1) := by decide +kernel
theorem dX_figure_53 : decode cX_figure 53 = .ok (.aload_n 3, 1) := by decide +kernel
theorem dX_figure_54 : decode cX_figure 54 = .ok (.getfield 123, 3) := by decide +kernel
theorem dX_figure_57 : decode cX_figure 57 = .ok (.ireturn, 1) := by decide +kernel
theorem dX_figure_58 : decode cX_figure 58 = .ok (.aload_n 3, 1) := by decide +kernel
theorem dX_figure_59 : decode cX_figure 59 = .ok (.getfield 126, 3) := by decide +kernel
theorem dX_figure_62 : decode cX_figure 62 = .ok (.ireturn, 1) := by decide +kernel
theorem dX_figure_63 : decode cX_figure 63 = .ok (.aload_n 0, 1) := by decide +kernel
theorem dX_figure_64 : decode cX_figure 64 = .ok (.aload_n 3, 1) := by decide +kernel
theorem dX_figure_65 : decode cX_figure 65 = .ok (.invokevirtual 129, 3) := by decide +kernel
theorem dX_figure_68 : decode cX_figure 68 = .ok (.ifCond .eq 10, 3) := by decide +kernel
theorem dX_figure_71 : decode cX_figure 71 = .ok (.aload_n 3, 1) := by decide +kernel
theorem dX_figure_72 : decode cX_figure 72 = .ok (.getfield 73, 3) := by decide +kernel
theorem dX_figure_75 : decode cX_figure 75 = .ok (.goto 4, 3) := by decide +kernel
theorem dX_figure_78 : decode cX_figure 78 = .ok (.iconst 0, 1) := by decide +kernel
theorem dX_figure_79 : decode cX_figure 79 = .ok (.ireturn, 1) := by decide +kernel
theorem dX_figure_80 : decode cX_figure 80 = .ok (.iconst (-1), 1) := by decide +kernel
theorem dX_figure_81 : decode cX_figure 81 = .ok (.ireturn, 1) := by decide +kernel
theorem dX_contains_0 : decode cX_contains 0 = .ok (.aload_n 0, 1) := by decide +kernel
theorem dX_contains_1 : decode cX_contains 1 = .ok (.iload_n 1, 1) := by decide +kernel
theorem dX_contains_2 : decode cX_contains 2 = .ok (.invokevirtual 70, 3) := by decide +kernel
theorem dX_contains_5 : decode cX_contains 5 = .ok (.ifCond .eq 34, 3) := by decide +kernel
theorem dX_contains_8 : decode cX_contains 8 = .ok (.aload_n 0, 1) := by decide +kernel
theorem dX_contains_9 : decode cX_contains 9 = .ok (.iload_n 2, 1) := by decide +kernel
theorem dX_contains_10 : decode cX_contains 10 = .ok (.invokevirtual 70, 3) := by decide +kernel
theorem dX_contains_13 : decode cX_contains 13 = .ok (.ifCond .eq 26, 3) := by decide +kernel
theorem dX_contains_16 : decode cX_contains 16 = .ok (.aload_n 0, 1) := by decide +kernel
theorem dX_contains_17 : decode cX_contains 17 = .ok (.getfield 31, 3) := by decide +kernel
theorem dX_contains_20 : decode cX_contains 20 = .ok (.iload_n 2, 1) := by decide +kernel
theorem dX_contains_21 : decode cX_contains 21 = .ok (.aaload, 1) := by decide +kernel
theorem dX_contains_22 : decode cX_contains 22 = .ok (.aload_n 0, 1) := by decide +kernel
theorem dX_contains_23 : decode cX_contains 23 = .ok (.getfield 31, 3) := by decide +kernel
theorem dX_contains_26 : decode cX_contains 26 = .ok (.iload_n 1, 1) := by decide +kernel
theorem dX_contains_27 : decode cX_contains 27 = .ok (.aaload, 1) := by decide +kernel
theorem dX_contains_28 : decode cX_contains 28 = .ok (.iconst 0, 1) := by decide +kernel
theorem dX_contains_29 : decode cX_contains 29 = .ok (.invokevirtual 133, 3) := by decide +kernel
theorem dX_contains_32 : decode cX_contains 32 = .ok (.ifCond .eq 7, 3) := by decide +kernel
theorem dX_contains_35 : decode cX_contains 35 = .ok (.iconst 1, 1) := by decide +kernel
theorem dX_contains_36 : decode cX_contains 36 = .ok (.goto 4, 3) := by decide +kernel
theorem dX_contains_39 : decode cX_contains 39 = .ok (.iconst 0, 1) := by decide +kernel
theorem dX_contains_40 : decode cX_contains 40 = .ok (.ireturn, 1) := by decide +kernel
theorem dX_normal_0 : decode cX_normal 0 = .ok (.aload_n 0, 1) := by decide +kernel
theorem dX_normal_1 : decode cX_normal 1 = .ok (.iload_n 1, 1) := by decide +kernel
theorem dX_normal_2 : decode cX_normal 2 = .ok (.invokevirtual 70, 3) := by decide +kernel
theorem dX_normal_5 : decode cX_normal 5 = .ok (.ifCond .ne 5, 3) := by decide +kernel
theorem dX_normal_8 : decode cX_normal 8 = .ok (.iconst 0, 1) := by decide +kernel
theorem dX_normal_9 : decode cX_normal 9 = .ok (.ireturn, 1) := by decide +kernel
theorem dX_normal_10 : decode cX_normal 10 = .ok (.aload_n 0, 1) := by decide +kernel
theorem dX_normal_11 : decode cX_normal 11 = .ok (.getfield 31, 3) := by decide +kernel
theorem dX_normal_14 : decode cX_normal 14 = .ok (.iload_n 1, 1) := by decide +kernel
theorem dX_normal_15 : decode cX_normal 15 = .ok (.aaload, 1) := by decide +kernel
theorem dX_normal_16 : decode cX_normal 16 = .ok (.astore_n 2, 1) := by decide +kernel
theorem dX_normal_17 : decode cX_normal 17 = .ok (.aload_n 2, 1) := by decide +kernel
theorem dX_normal_18 : decode cX_normal 18 = .ok (.getfield 123, 3) := by decide +kernel
theorem dX_normal_21 : decode cX_normal 21 = .ok (.ifCond .ne 5, 3) := by decide +kernel
theorem dX_normal_24 : decode cX_normal 24 = .ok (.iconst 1, 1) := by decide +kernel
theorem dX_normal_25 : decode cX_normal 25 = .ok (.ireturn, 1) := by decide +kernel
theorem dX_normal_26 : decode cX_normal 26 = .ok (.aload_n 0, 1) := by decide +kernel
theorem dX_normal_27 : decode cX_normal 27 = .ok (.aload_n 2, 1) := by decide +kernel
theorem dX_normal_28 : decode cX_normal 28 = .ok (.invokevirtual 129, 3) := by decide +kernel
theorem dX_normal_31 : decode cX_normal 31 = .ok (.ifCond .ne 5, 3) := by decide +kernel
theorem dX_normal_34 : decode cX_normal 34 = .ok (.iconst 0, 1) := by decide +kernel
theorem dX_normal_35 : decode cX_normal 35 = .ok (.ireturn, 1) := by decide +kernel
theorem dX_normal_36 : decode cX_normal 36 = .ok (.iconst 1, 1) := by decide +kernel
theorem dX_normal_37 : decode cX_normal 37 = .ok (.istore_n 3, 1) := by decide +kernel
theorem dX_normal_38 : decode cX_normal 38 = .ok (.iload_n 3, 1) := by decide +kernel
theorem dX_normal_39 : decode cX_normal 39 = .ok (.aload_n 0, 1) := by decide +kernel
theorem dX_normal_40 : decode cX_normal 40 = .ok (.getfield 18, 3) := by decide +kernel
theorem dX_normal_43 : decode cX_normal 43 = .ok (.if_icmp .gt 28, 3) := by decide +kernel
theorem dX_normal_46 : decode cX_normal 46 = .ok (.aload_n 2, 1) := by decide +kernel
theorem dX_normal_47 : decode cX_normal 47 = .ok (.aload_n 2, 1) := by decide +kernel
theorem dX_normal_48 : decode cX_normal 48 = .ok (.aload_n 2, 1) := by decide +kernel
theorem dX_normal_49 : decode cX_normal 49 = .ok (.iconst 0, 1) := by decide +kernel
theorem dX_normal_50 : decode cX_normal 50 = .ok (.iload_n 3, 1) := by decide +kernel
theorem dX_normal_51 : decode cX_normal 51 = .ok (.invokestatic 108, 3) := by decide +kernel
theorem dX_normal_54 : decode cX_normal 54 = .ok (.invokevirtual 111, 3) := by decide +kernel
theorem dX_normal_57 : decode cX_normal 57 = .ok (.invokevirtual 133, 3) := by decide +kernel
theorem dX_normal_60 : decode cX_normal 60 = .ok (.ifCond .ne 5, 3) := by decide +kernel
theorem dX_normal_63 : decode cX_normal 63 = .ok (.iconst 0, 1) := by decide +kernel
theorem dX_normal_64 : decode cX_normal 64 = .ok (.ireturn, 1) := by decide +kernel
theorem dX_normal_65 : decode cX_normal 65 = .ok (.iinc 3 1, 3) := by decide +kernel
theorem dX_normal_68 : decode cX_normal 68 = .ok (.goto (-30), 3) := by decide +kernel
theorem dX_normal_71 : decode cX_normal 71 = .ok (.iconst 1, 1) := by decide +kernel
theorem dX_normal_72 : decode cX_normal 72 = .ok (.ireturn, 1) := by decide +kernel
theorem dX_isSubgroup_0 : decode cX_isSubgroup 0 = .ok (.iload_n 1, 1) := by decide +kernel
theorem dX_isSubgroup_1 : decode cX_isSubgroup 1 = .ok (.ifCond .lt 12, 3) := by decide +kernel
theorem dX_isSubgroup_4 : decode cX_isSubgroup 4 = .ok (.iload_n 1, 1) := by decide +kernel
theorem dX_isSubgroup_5 : decode cX_isSubgroup 5 = .ok (.iconst 4, 1) := by decide +kernel
theorem dX_isSubgroup_6 : decode cX_isSubgroup 6 = .ok (.if_icmp .ge 7, 3) := by decide +kernel
theorem dX_isSubgroup_9 : decode cX_isSubgroup 9 = .ok (.iconst 1, 1) := by decide +kernel
theorem dX_isSubgroup_10 : decode cX_isSubgroup 10 = .ok (.goto 4, 3) := by decide +kernel
theorem dX_isSubgroup_13 : decode cX_isSubgroup 13 = .ok (.iconst 0, 1) := by decide +kernel
theorem dX_isSubgroup_14 : decode cX_isSubgroup 14 = .ok (.ireturn, 1) := by decide +kernel
theorem dX_isLetter_0 : decode cX_isLetter 0 = .ok (.iload_n 1, 1) := by decide +kernel
theorem dX_isLetter_1 : decode cX_isLetter 1 = .ok (.ifCond .eq 24, 3) := by decide +kernel
theorem dX_isLetter_4 : decode cX_isLetter 4 = .ok (.iload_n 1, 1) := by decide +kernel
theorem dX_isLetter_5 : decode cX_isLetter 5 = .ok (.aload_n 0, 1) := by decide +kernel
theorem dX_isLetter_6 : decode cX_isLetter 6 = .ok (.getfield 18, 3) := by decide +kernel
theorem dX_isLetter_9 : decode cX_isLetter 9 = .ok (.ineg, 1) := by decide +kernel
theorem dX_isLetter_10 : decode cX_isLetter 10 = .ok (.if_icmp .lt 15, 3) := by decide +kernel
theorem dX_isLetter_13 : decode cX_isLetter 13 = .ok (.iload_n 1, 1) := by decide +kernel
theorem dX_isLetter_14 : decode cX_isLetter 14 = .ok (.aload_n 0, 1) := by decide +kernel
theorem dX_isLetter_15 : decode cX_isLetter 15 = .ok (.getfield 18, 3) := by decide +kernel
theorem dX_isLetter_18 : decode cX_isLetter 18 = .ok (.if_icmp .gt 7, 3) := by decide +kernel
theorem dX_isLetter_21 : decode cX_isLetter 21 = .ok (.iconst 1, 1) := by decide +kernel
theorem dX_isLetter_22 : decode cX_isLetter 22 = .ok (.goto 4, 3) := by decide +kernel
theorem dX_isLetter_25 : decode cX_isLetter 25 = .ok (.iconst 0, 1) := by decide +kernel
theorem dX_isLetter_26 : decode cX_isLetter 26 = .ok (.ireturn, 1) := by decide +kernel
theorem dX_isComplete_0 : decode cX_isComplete 0 = .ok (.aload_n 1, 1) := by decide +kernel
theorem dX_isComplete_1 : decode cX_isComplete 1 = .ok (.getfield 123, 3) := by decide +kernel
theorem dX_isComplete_4 : decode cX_isComplete 4 = .ok (.aload_n 1, 1) := by decide +kernel
theorem dX_isComplete_5 : decode cX_isComplete 5 = .ok (.getfield 73, 3) := by decide +kernel
theorem dX_isComplete_8 : decode cX_isComplete 8 = .ok (.aload_n 0, 1) := by decide +kernel
theorem dX_isComplete_9 : decode cX_isComplete 9 = .ok (.getfield 18, 3) := by decide +kernel
theorem dX_isComplete_12 : decode cX_isComplete 12 = .ok (.imul, 1) := by decide +kernel
theorem dX_isComplete_13 : decode cX_isComplete 13 = .ok (.if_icmp .ne 7, 3) := by decide +kernel
theorem dX_isComplete_16 : decode cX_isComplete 16 = .ok (.iconst 1, 1) := by decide +kernel
theorem dX_isComplete_17 : decode cX_isComplete 17 = .ok (.goto 4, 3) := by decide +kernel
theorem dX_isComplete_20 : decode cX_isComplete 20 = .ok (.iconst 0, 1) := by decide +kernel
theorem dX_isComplete_21 : decode cX_isComplete 21 = .ok (.ireturn, 1) := by decide +kernel
theorem dX_codeOf_0 : decode cX_codeOf 0 = .ok (.iload_n 0, 1) := by decide +kernel
theorem dX_codeOf_1 : decode cX_codeOf 1 = .ok (.ifCond .le 11, 3) := by decide +kernel
theorem dX_codeOf_4 : decode cX_codeOf 4 = .ok (.iconst 2, 1) := by decide +kernel
theorem dX_codeOf_5 : decode cX_codeOf 5 = .ok (.iload_n 0, 1) := by decide +kernel
theorem dX_codeOf_6 : decode cX_codeOf 6 = .ok (.imul, 1) := by decide +kernel
theorem dX_codeOf_7 : decode cX_codeOf 7 = .ok (.iconst 2, 1) := by decide +kernel
theorem dX_codeOf_8 : decode cX_codeOf 8 = .ok (.isub, 1) := by decide +kernel
theorem dX_codeOf_9 : decode cX_codeOf 9 = .ok (.goto 9, 3) := by decide +kernel
theorem dX_codeOf_12 : decode cX_codeOf 12 = .ok (.bipush (-2), 2) := by decide +kernel
theorem dX_codeOf_14 : decode cX_codeOf 14 = .ok (.iload_n 0, 1) := by decide +kernel
theorem dX_codeOf_15 : decode cX_codeOf 15 = .ok (.imul, 1) := by decide +kernel
theorem dX_codeOf_16 : decode cX_codeOf 16 = .ok (.iconst 1, 1) := by decide +kernel
theorem dX_codeOf_17 : decode cX_codeOf 17 = .ok (.isub, 1) := by decide +kernel
theorem dX_codeOf_18 : decode cX_codeOf 18 = .ok (.ireturn, 1) := by decide +kernel
theorem dX_letterOf_0 : decode cX_letterOf 0 = .ok (.iload_n 0, 1) := by decide +kernel
theorem dX_letterOf_1 : decode cX_letterOf 1 = .ok (.iconst 1, 1) := by decide +kernel
theorem dX_letterOf_2 : decode cX_letterOf 2 = .ok (.ishr, 1) := by decide +kernel
theorem dX_letterOf_3 : decode cX_letterOf 3 = .ok (.iconst 1, 1) := by decide +kernel
theorem dX_letterOf_4 : decode cX_letterOf 4 = .ok (.iadd, 1) := by decide +kernel
theorem dX_letterOf_5 : decode cX_letterOf 5 = .ok (.istore_n 1, 1) := by decide +kernel
theorem dX_letterOf_6 : decode cX_letterOf 6 = .ok (.iload_n 0, 1) := by decide +kernel
theorem dX_letterOf_7 : decode cX_letterOf 7 = .ok (.iconst 1, 1) := by decide +kernel
theorem dX_letterOf_8 : decode cX_letterOf 8 = .ok (.iand, 1) := by decide +kernel
theorem dX_letterOf_9 : decode cX_letterOf 9 = .ok (.ifCond .ne 7, 3) := by decide +kernel
theorem dX_letterOf_12 : decode cX_letterOf 12 = .ok (.iload_n 1, 1) := by decide +kernel
theorem dX_letterOf_13 : decode cX_letterOf 13 = .ok (.goto 5, 3) := by decide +kernel
theorem dX_letterOf_16 : decode cX_letterOf 16 = .ok (.iload_n 1, 1) := by decide +kernel
theorem dX_letterOf_17 : decode cX_letterOf 17 = .ok (.ineg, 1) := by decide +kernel
theorem dX_letterOf_18 : decode cX_letterOf 18 = .ok (.ireturn, 1) := by decide +kernel
theorem dM_init_0 : decode cM_init 0 = .ok (.aload_n 0, 1) := by decide +kernel
theorem dM_init_1 : decode cM_init 1 = .ok (.invokespecial 1, 3) := by decide +kernel
theorem dM_init_4 : decode cM_init 4 = .ok (.aload_n 0, 1) := by decide +kernel
theorem dM_init_5 : decode cM_init 5 = .ok (.bipush 24, 2) := by decide +kernel
theorem dM_init_7 : decode cM_init 7 = .ok (.newarray .int, 2) := by decide +kernel
theorem dM_init_9 : decode cM_init 9 = .ok (.putfield 7, 3) := by decide +kernel
theorem dM_init_12 : decode cM_init 12 = .ok (.aload_n 0, 1) := by decide +kernel
theorem dM_init_13 : decode cM_init 13 = .ok (.iconst 4, 1) := by decide +kernel
theorem dM_init_14 : decode cM_init 14 = .ok (.newarray .int, 2) := by decide +kernel
theorem dM_init_16 : decode cM_init 16 = .ok (.putfield 13, 3) := by decide +kernel
theorem dM_init_19 : decode cM_init 19 = .ok (.aload_n 0, 1) := by decide +kernel
theorem dM_init_20 : decode cM_init 20 = .ok (.sipush 1536, 3) := by decide +kernel
