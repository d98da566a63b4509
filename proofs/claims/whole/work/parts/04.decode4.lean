theorem dM_put_48 : decode cM_put 48 = .ok (.getfield 146, 3) := by decide +kernel
theorem dM_put_51 : decode cM_put 51 = .ok (.iconst 1, 1) := by decide +kernel
theorem dM_put_52 : decode cM_put 52 = .ok (.iadd, 1) := by decide +kernel
theorem dM_put_53 : decode cM_put 53 = .ok (.putfield 146, 3) := by decide +kernel
theorem dM_put_56 : decode cM_put 56 = .ok (.return_, 1) := by decide +kernel
theorem dM_putWay_0 : decode cM_putWay 0 = .ok (.iconst 1, 1) := by decide +kernel
theorem dM_putWay_1 : decode cM_putWay 1 = .ok (.istore_n 3, 1) := by decide +kernel
theorem dM_putWay_2 : decode cM_putWay 2 = .ok (.iload_n 3, 1) := by decide +kernel
theorem dM_putWay_3 : decode cM_putWay 3 = .ok (.aload_n 0, 1) := by decide +kernel
theorem dM_putWay_4 : decode cM_putWay 4 = .ok (.getfield 25, 3) := by decide +kernel
theorem dM_putWay_7 : decode cM_putWay 7 = .ok (.bipush 64, 2) := by decide +kernel
theorem dM_putWay_9 : decode cM_putWay 9 = .ok (.iload_n 1, 1) := by decide +kernel
theorem dM_putWay_10 : decode cM_putWay 10 = .ok (.imul, 1) := by decide +kernel
theorem dM_putWay_11 : decode cM_putWay 11 = .ok (.iload_n 2, 1) := by decide +kernel
theorem dM_putWay_12 : decode cM_putWay 12 = .ok (.iadd, 1) := by decide +kernel
theorem dM_putWay_13 : decode cM_putWay 13 = .ok (.iaload, 1) := by decide +kernel
theorem dM_putWay_14 : decode cM_putWay 14 = .ok (.if_icmp .gt 64, 3) := by decide +kernel
theorem dM_putWay_17 : decode cM_putWay 17 = .ok (.iload_n 2, 1) := by decide +kernel
theorem dM_putWay_18 : decode cM_putWay 18 = .ok (.istore 4, 2) := by decide +kernel
theorem dM_putWay_20 : decode cM_putWay 20 = .ok (.aload_n 0, 1) := by decide +kernel
theorem dM_putWay_21 : decode cM_putWay 21 = .ok (.getfield 25, 3) := by decide +kernel
theorem dM_putWay_24 : decode cM_putWay 24 = .ok (.bipush 64, 2) := by decide +kernel
theorem dM_putWay_26 : decode cM_putWay 26 = .ok (.iload_n 1, 1) := by decide +kernel
theorem dM_putWay_27 : decode cM_putWay 27 = .ok (.imul, 1) := by decide +kernel
theorem dM_putWay_28 : decode cM_putWay 28 = .ok (.iload 4, 2) := by decide +kernel
theorem dM_putWay_30 : decode cM_putWay 30 = .ok (.iadd, 1) := by decide +kernel
theorem dM_putWay_31 : decode cM_putWay 31 = .ok (.iaload, 1) := by decide +kernel
theorem dM_putWay_32 : decode cM_putWay 32 = .ok (.iload_n 3, 1) := by decide +kernel
theorem dM_putWay_33 : decode cM_putWay 33 = .ok (.if_icmp .le 20, 3) := by decide +kernel
theorem dM_putWay_36 : decode cM_putWay 36 = .ok (.aload_n 0, 1) := by decide +kernel
theorem dM_putWay_37 : decode cM_putWay 37 = .ok (.getfield 19, 3) := by decide +kernel
theorem dM_putWay_40 : decode cM_putWay 40 = .ok (.bipush 64, 2) := by decide +kernel
theorem dM_putWay_42 : decode cM_putWay 42 = .ok (.iload_n 1, 1) := by decide +kernel
theorem dM_putWay_43 : decode cM_putWay 43 = .ok (.imul, 1) := by decide +kernel
theorem dM_putWay_44 : decode cM_putWay 44 = .ok (.iload 4, 2) := by decide +kernel
theorem dM_putWay_46 : decode cM_putWay 46 = .ok (.iadd, 1) := by decide +kernel
theorem dM_putWay_47 : decode cM_putWay 47 = .ok (.iaload, 1) := by decide +kernel
theorem dM_putWay_48 : decode cM_putWay 48 = .ok (.istore 4, 2) := by decide +kernel
theorem dM_putWay_50 : decode cM_putWay 50 = .ok (.goto (-30), 3) := by decide +kernel
theorem dM_putWay_53 : decode cM_putWay 53 = .ok (.aload_n 0, 1) := by decide +kernel
theorem dM_putWay_54 : decode cM_putWay 54 = .ok (.aload_n 0, 1) := by decide +kernel
theorem dM_putWay_55 : decode cM_putWay 55 = .ok (.getfield 22, 3) := by decide +kernel
theorem dM_putWay_58 : decode cM_putWay 58 = .ok (.bipush 64, 2) := by decide +kernel
theorem dM_putWay_60 : decode cM_putWay 60 = .ok (.iload_n 1, 1) := by decide +kernel
theorem dM_putWay_61 : decode cM_putWay 61 = .ok (.imul, 1) := by decide +kernel
theorem dM_putWay_62 : decode cM_putWay 62 = .ok (.iload 4, 2) := by decide +kernel
theorem dM_putWay_64 : decode cM_putWay 64 = .ok (.iadd, 1) := by decide +kernel
theorem dM_putWay_65 : decode cM_putWay 65 = .ok (.iaload, 1) := by decide +kernel
theorem dM_putWay_66 : decode cM_putWay 66 = .ok (.invokestatic 124, 3) := by decide +kernel
theorem dM_putWay_69 : decode cM_putWay 69 = .ok (.invokevirtual 149, 3) := by decide +kernel
theorem dM_putWay_72 : decode cM_putWay 72 = .ok (.iinc 3 1, 3) := by decide +kernel
theorem dM_putWay_75 : decode cM_putWay 75 = .ok (.goto (-73), 3) := by decide +kernel
theorem dM_putWay_78 : decode cM_putWay 78 = .ok (.return_, 1) := by decide +kernel
theorem dM_putElement_0 : decode cM_putElement 0 = .ok (.aload_n 0, 1) := by decide +kernel
theorem dM_putElement_1 : decode cM_putElement 1 = .ok (.iload_n 1, 1) := by decide +kernel
theorem dM_putElement_2 : decode cM_putElement 2 = .ok (.aload_n 0, 1) := by decide +kernel
theorem dM_putElement_3 : decode cM_putElement 3 = .ok (.getfield 137, 3) := by decide +kernel
theorem dM_putElement_6 : decode cM_putElement 6 = .ok (.invokevirtual 152, 3) := by decide +kernel
theorem dM_putElement_9 : decode cM_putElement 9 = .ok (.aload_n 0, 1) := by decide +kernel
theorem dM_putElement_10 : decode cM_putElement 10 = .ok (.aload_n 0, 1) := by decide +kernel
theorem dM_putElement_11 : decode cM_putElement 11 = .ok (.getfield 140, 3) := by decide +kernel
theorem dM_putElement_14 : decode cM_putElement 14 = .ok (.invokevirtual 149, 3) := by decide +kernel
theorem dM_putElement_17 : decode cM_putElement 17 = .ok (.aload_n 0, 1) := by decide +kernel
theorem dM_putElement_18 : decode cM_putElement 18 = .ok (.getfield 143, 3) := by decide +kernel
theorem dM_putElement_21 : decode cM_putElement 21 = .ok (.istore_n 2, 1) := by decide +kernel
theorem dM_putElement_22 : decode cM_putElement 22 = .ok (.iload_n 2, 1) := by decide +kernel
theorem dM_putElement_23 : decode cM_putElement 23 = .ok (.ifCond .le 37, 3) := by decide +kernel
theorem dM_putElement_26 : decode cM_putElement 26 = .ok (.aload_n 0, 1) := by decide +kernel
theorem dM_putElement_27 : decode cM_putElement 27 = .ok (.aload_n 0, 1) := by decide +kernel
theorem dM_putElement_28 : decode cM_putElement 28 = .ok (.getfield 22, 3) := by decide +kernel
theorem dM_putElement_31 : decode cM_putElement 31 = .ok (.bipush 64, 2) := by decide +kernel
theorem dM_putElement_33 : decode cM_putElement 33 = .ok (.iload_n 1, 1) := by decide +kernel
theorem dM_putElement_34 : decode cM_putElement 34 = .ok (.imul, 1) := by decide +kernel
theorem dM_putElement_35 : decode cM_putElement 35 = .ok (.iload_n 2, 1) := by decide +kernel
theorem dM_putElement_36 : decode cM_putElement 36 = .ok (.iadd, 1) := by decide +kernel
theorem dM_putElement_37 : decode cM_putElement 37 = .ok (.iaload, 1) := by decide +kernel
theorem dM_putElement_38 : decode cM_putElement 38 = .ok (.invokestatic 124, 3) := by decide +kernel
theorem dM_putElement_41 : decode cM_putElement 41 = .ok (.ineg, 1) := by decide +kernel
theorem dM_putElement_42 : decode cM_putElement 42 = .ok (.invokevirtual 149, 3) := by decide +kernel
theorem dM_putElement_45 : decode cM_putElement 45 = .ok (.aload_n 0, 1) := by decide +kernel
theorem dM_putElement_46 : decode cM_putElement 46 = .ok (.getfield 19, 3) := by decide +kernel
theorem dM_putElement_49 : decode cM_putElement 49 = .ok (.bipush 64, 2) := by decide +kernel
theorem dM_putElement_51 : decode cM_putElement 51 = .ok (.iload_n 1, 1) := by decide +kernel
theorem dM_putElement_52 : decode cM_putElement 52 = .ok (.imul, 1) := by decide +kernel
theorem dM_putElement_53 : decode cM_putElement 53 = .ok (.iload_n 2, 1) := by decide +kernel
theorem dM_putElement_54 : decode cM_putElement 54 = .ok (.iadd, 1) := by decide +kernel
theorem dM_putElement_55 : decode cM_putElement 55 = .ok (.iaload, 1) := by decide +kernel
theorem dM_putElement_56 : decode cM_putElement 56 = .ok (.istore_n 2, 1) := by decide +kernel
theorem dM_putElement_57 : decode cM_putElement 57 = .ok (.goto (-35), 3) := by decide +kernel
theorem dM_putElement_60 : decode cM_putElement 60 = .ok (.return_, 1) := by decide +kernel
theorem dM_leadsBack_0 : decode cM_leadsBack 0 = .ok (.iconst 0, 1) := by decide +kernel
theorem dM_leadsBack_1 : decode cM_leadsBack 1 = .ok (.istore_n 2, 1) := by decide +kernel
theorem dM_leadsBack_2 : decode cM_leadsBack 2 = .ok (.iconst 0, 1) := by decide +kernel
theorem dM_leadsBack_3 : decode cM_leadsBack 3 = .ok (.istore_n 3, 1) := by decide +kernel
theorem dM_leadsBack_4 : decode cM_leadsBack 4 = .ok (.iload_n 3, 1) := by decide +kernel
theorem dM_leadsBack_5 : decode cM_leadsBack 5 = .ok (.aload_n 0, 1) := by decide +kernel
theorem dM_leadsBack_6 : decode cM_leadsBack 6 = .ok (.getfield 146, 3) := by decide +kernel
theorem dM_leadsBack_9 : decode cM_leadsBack 9 = .ok (.if_icmp .ge 29, 3) := by decide +kernel
theorem dM_leadsBack_12 : decode cM_leadsBack 12 = .ok (.iload_n 2, 1) := by decide +kernel
theorem dM_leadsBack_13 : decode cM_leadsBack 13 = .ok (.ifCond .lt 25, 3) := by decide +kernel
theorem dM_leadsBack_16 : decode cM_leadsBack 16 = .ok (.aload_n 0, 1) := by decide +kernel
theorem dM_leadsBack_17 : decode cM_leadsBack 17 = .ok (.iload_n 1, 1) := by decide +kernel
theorem dM_leadsBack_18 : decode cM_leadsBack 18 = .ok (.iload_n 2, 1) := by decide +kernel
theorem dM_leadsBack_19 : decode cM_leadsBack 19 = .ok (.aload_n 0, 1) := by decide +kernel
theorem dM_leadsBack_20 : decode cM_leadsBack 20 = .ok (.getfield 55, 3) := by decide +kernel
theorem dM_leadsBack_23 : decode cM_leadsBack 23 = .ok (.iload_n 3, 1) := by decide +kernel
theorem dM_leadsBack_24 : decode cM_leadsBack 24 = .ok (.iaload, 1) := by decide +kernel
theorem dM_leadsBack_25 : decode cM_leadsBack 25 = .ok (.invokestatic 78, 3) := by decide +kernel
theorem dM_leadsBack_28 : decode cM_leadsBack 28 = .ok (.invokevirtual 82, 3) := by decide +kernel
theorem dM_leadsBack_31 : decode cM_leadsBack 31 = .ok (.istore_n 2, 1) := by decide +kernel
theorem dM_leadsBack_32 : decode cM_leadsBack 32 = .ok (.iinc 3 1, 3) := by decide +kernel
theorem dM_leadsBack_35 : decode cM_leadsBack 35 = .ok (.goto (-31), 3) := by decide +kernel
theorem dM_leadsBack_38 : decode cM_leadsBack 38 = .ok (.iload_n 2, 1) := by decide +kernel
theorem dM_leadsBack_39 : decode cM_leadsBack 39 = .ok (.ifCond .ne 7, 3) := by decide +kernel
theorem dM_leadsBack_42 : decode cM_leadsBack 42 = .ok (.iconst 1, 1) := by decide +kernel
theorem dM_leadsBack_43 : decode cM_leadsBack 43 = .ok (.goto 4, 3) := by decide +kernel
theorem dM_leadsBack_46 : decode cM_leadsBack 46 = .ok (.iconst 0, 1) := by decide +kernel
theorem dM_leadsBack_47 : decode cM_leadsBack 47 = .ok (.ireturn, 1) := by decide +kernel
theorem dM_take_0 : decode cM_take 0 = .ok (.iload_n 1, 1) := by decide +kernel
theorem dM_take_1 : decode cM_take 1 = .ok (.invokestatic 101, 3) := by decide +kernel
theorem dM_take_4 : decode cM_take 4 = .ok (.ifCond .eq 12, 3) := by decide +kernel
theorem dM_take_7 : decode cM_take 7 = .ok (.aload_n 0, 1) := by decide +kernel
theorem dM_take_8 : decode cM_take 8 = .ok (.iload_n 1, 1) := by decide +kernel
theorem dM_take_9 : decode cM_take 9 = .ok (.iload_n 2, 1) := by decide +kernel
theorem dM_take_10 : decode cM_take 10 = .ok (.invokevirtual 155, 3) := by decide +kernel
theorem dM_take_13 : decode cM_take 13 = .ok (.ifCond .ne 5, 3) := by decide +kernel
theorem dM_take_16 : decode cM_take 16 = .ok (.iconst (-1), 1) := by decide +kernel
theorem dM_take_17 : decode cM_take 17 = .ok (.ireturn, 1) := by decide +kernel
theorem dM_take_18 : decode cM_take 18 = .ok (.aload_n 0, 1) := by decide +kernel
theorem dM_take_19 : decode cM_take 19 = .ok (.iconst 0, 1) := by decide +kernel
theorem dM_take_20 : decode cM_take 20 = .ok (.putfield 146, 3) := by decide +kernel
theorem dM_take_23 : decode cM_take 23 = .ok (.aload_n 0, 1) := by decide +kernel
theorem dM_take_24 : decode cM_take 24 = .ok (.iload_n 1, 1) := by decide +kernel
theorem dM_take_25 : decode cM_take 25 = .ok (.invokevirtual 159, 3) := by decide +kernel
theorem dM_take_28 : decode cM_take 28 = .ok (.aload_n 0, 1) := by decide +kernel
theorem dM_take_29 : decode cM_take 29 = .ok (.getfield 146, 3) := by decide +kernel
theorem dM_take_32 : decode cM_take 32 = .ok (.bipush 24, 2) := by decide +kernel
theorem dM_take_34 : decode cM_take 34 = .ok (.if_icmp .le 6, 3) := by decide +kernel
theorem dM_take_37 : decode cM_take 37 = .ok (.bipush (-2), 2) := by decide +kernel
theorem dM_take_39 : decode cM_take 39 = .ok (.ireturn, 1) := by decide +kernel
theorem dM_take_40 : decode cM_take 40 = .ok (.aload_n 0, 1) := by decide +kernel
theorem dM_take_41 : decode cM_take 41 = .ok (.aload_n 0, 1) := by decide +kernel
theorem dM_take_42 : decode cM_take 42 = .ok (.getfield 146, 3) := by decide +kernel
theorem dM_take_45 : decode cM_take 45 = .ok (.putfield 66, 3) := by decide +kernel
theorem dM_take_48 : decode cM_take 48 = .ok (.iconst 0, 1) := by decide +kernel
theorem dM_take_49 : decode cM_take 49 = .ok (.istore_n 3, 1) := by decide +kernel
theorem dM_take_50 : decode cM_take 50 = .ok (.iload_n 3, 1) := by decide +kernel
theorem dM_take_51 : decode cM_take 51 = .ok (.aload_n 0, 1) := by decide +kernel
theorem dM_take_52 : decode cM_take 52 = .ok (.getfield 66, 3) := by decide +kernel
theorem dM_take_55 : decode cM_take 55 = .ok (.if_icmp .ge 21, 3) := by decide +kernel
theorem dM_take_58 : decode cM_take 58 = .ok (.aload_n 0, 1) := by decide +kernel
theorem dM_take_59 : decode cM_take 59 = .ok (.getfield 7, 3) := by decide +kernel
theorem dM_take_62 : decode cM_take 62 = .ok (.iload_n 3, 1) := by decide +kernel
theorem dM_take_63 : decode cM_take 63 = .ok (.aload_n 0, 1) := by decide +kernel
theorem dM_take_64 : decode cM_take 64 = .ok (.getfield 55, 3) := by decide +kernel
theorem dM_take_67 : decode cM_take 67 = .ok (.iload_n 3, 1) := by decide +kernel
theorem dM_take_68 : decode cM_take 68 = .ok (.iaload, 1) := by decide +kernel
theorem dM_take_69 : decode cM_take 69 = .ok (.iastore, 1) := by decide +kernel
theorem dM_take_70 : decode cM_take 70 = .ok (.iinc 3 1, 3) := by decide +kernel
theorem dM_take_73 : decode cM_take 73 = .ok (.goto (-23), 3) := by decide +kernel
theorem dM_take_76 : decode cM_take 76 = .ok (.aload_n 0, 1) := by decide +kernel
theorem dM_take_77 : decode cM_take 77 = .ok (.getfield 66, 3) := by decide +kernel
theorem dM_take_80 : decode cM_take 80 = .ok (.ireturn, 1) := by decide +kernel
theorem dM_length_0 : decode cM_length 0 = .ok (.iload_n 1, 1) := by decide +kernel
theorem dM_length_1 : decode cM_length 1 = .ok (.invokestatic 101, 3) := by decide +kernel
theorem dM_length_4 : decode cM_length 4 = .ok (.ifCond .eq 12, 3) := by decide +kernel
theorem dM_length_7 : decode cM_length 7 = .ok (.aload_n 0, 1) := by decide +kernel
theorem dM_length_8 : decode cM_length 8 = .ok (.iload_n 1, 1) := by decide +kernel
theorem dM_length_9 : decode cM_length 9 = .ok (.iload_n 2, 1) := by decide +kernel
theorem dM_length_10 : decode cM_length 10 = .ok (.invokevirtual 155, 3) := by decide +kernel
theorem dM_length_13 : decode cM_length 13 = .ok (.ifCond .ne 5, 3) := by decide +kernel
theorem dM_length_16 : decode cM_length 16 = .ok (.iconst (-1), 1) := by decide +kernel
theorem dM_length_17 : decode cM_length 17 = .ok (.ireturn, 1) := by decide +kernel
theorem dM_length_18 : decode cM_length 18 = .ok (.aload_n 0, 1) := by decide +kernel
theorem dM_length_19 : decode cM_length 19 = .ok (.iconst 0, 1) := by decide +kernel
theorem dM_length_20 : decode cM_length 20 = .ok (.putfield 146, 3) := by decide +kernel
theorem dM_length_23 : decode cM_length 23 = .ok (.aload_n 0, 1) := by decide +kernel
theorem dM_length_24 : decode cM_length 24 = .ok (.iload_n 1, 1) := by decide +kernel
theorem dM_length_25 : decode cM_length 25 = .ok (.invokevirtual 159, 3) := by decide +kernel
theorem dM_length_28 : decode cM_length 28 = .ok (.aload_n 0, 1) := by decide +kernel
theorem dM_length_29 : decode cM_length 29 = .ok (.getfield 146, 3) := by decide +kernel
theorem dM_length_32 : decode cM_length 32 = .ok (.ireturn, 1) := by decide +kernel
theorem dM_basis_0 : decode cM_basis 0 = .ok (.iload_n 1, 1) := by decide +kernel
theorem dM_basis_1 : decode cM_basis 1 = .ok (.invokestatic 101, 3) := by decide +kernel
theorem dM_basis_4 : decode cM_basis 4 = .ok (.ifCond .eq 12, 3) := by decide +kernel
theorem dM_basis_7 : decode cM_basis 7 = .ok (.aload_n 0, 1) := by decide +kernel
theorem dM_basis_8 : decode cM_basis 8 = .ok (.iload_n 1, 1) := by decide +kernel
theorem dM_basis_9 : decode cM_basis 9 = .ok (.iload_n 2, 1) := by decide +kernel
theorem dM_basis_10 : decode cM_basis 10 = .ok (.invokevirtual 155, 3) := by decide +kernel
theorem dM_basis_13 : decode cM_basis 13 = .ok (.ifCond .ne 5, 3) := by decide +kernel
theorem dM_basis_16 : decode cM_basis 16 = .ok (.iconst 0, 1) := by decide +kernel
theorem dM_basis_17 : decode cM_basis 17 = .ok (.ireturn, 1) := by decide +kernel
theorem dM_basis_18 : decode cM_basis 18 = .ok (.aload_n 0, 1) := by decide +kernel
theorem dM_basis_19 : decode cM_basis 19 = .ok (.iconst 0, 1) := by decide +kernel
theorem dM_basis_20 : decode cM_basis 20 = .ok (.putfield 146, 3) := by decide +kernel
theorem dM_basis_23 : decode cM_basis 23 = .ok (.aload_n 0, 1) := by decide +kernel
theorem dM_basis_24 : decode cM_basis 24 = .ok (.iload_n 1, 1) := by decide +kernel
theorem dM_basis_25 : decode cM_basis 25 = .ok (.invokevirtual 159, 3) := by decide +kernel
theorem dM_basis_28 : decode cM_basis 28 = .ok (.iload_n 3, 1) := by decide +kernel
theorem dM_basis_29 : decode cM_basis 29 = .ok (.ifCond .lt 20, 3) := by decide +kernel
theorem dM_basis_32 : decode cM_basis 32 = .ok (.iload_n 3, 1) := by decide +kernel
theorem dM_basis_33 : decode cM_basis 33 = .ok (.aload_n 0, 1) := by decide +kernel
theorem dM_basis_34 : decode cM_basis 34 = .ok (.getfield 146, 3) := by decide +kernel
theorem dM_basis_37 : decode cM_basis 37 = .ok (.if_icmp .ge 12, 3) := by decide +kernel
theorem dM_basis_40 : decode cM_basis 40 = .ok (.aload_n 0, 1) := by decide +kernel
theorem dM_basis_41 : decode cM_basis 41 = .ok (.getfield 55, 3) := by decide +kernel
theorem dM_basis_44 : decode cM_basis 44 = .ok (.iload_n 3, 1) := by decide +kernel
theorem dM_basis_45 : decode cM_basis 45 = .ok (.iaload, 1) := by decide +kernel
theorem dM_basis_46 : decode cM_basis 46 = .ok (.goto 4, 3) := by decide +kernel
theorem dM_basis_49 : decode cM_basis 49 = .ok (.iconst 0, 1) := by decide +kernel
theorem dM_basis_50 : decode cM_basis 50 = .ok (.ireturn, 1) := by decide +kernel
theorem dM_written_0 : decode cM_written 0 = .ok (.iload_n 1, 1) := by decide +kernel
theorem dM_written_1 : decode cM_written 1 = .ok (.invokestatic 101, 3) := by decide +kernel
theorem dM_written_4 : decode cM_written 4 = .ok (.ifCond .eq 11, 3) := by decide +kernel
theorem dM_written_7 : decode cM_written 7 = .ok (.aload_n 0, 1) := by decide +kernel
theorem dM_written_8 : decode cM_written 8 = .ok (.iload_n 1, 1) := by decide +kernel
theorem dM_written_9 : decode cM_written 9 = .ok (.invokevirtual 127, 3) := by decide +kernel
theorem dM_written_12 : decode cM_written 12 = .ok (.ifCond .eq 5, 3) := by decide +kernel
theorem dM_written_15 : decode cM_written 15 = .ok (.iconst 0, 1) := by decide +kernel
theorem dM_written_16 : decode cM_written 16 = .ok (.ireturn, 1) := by decide +kernel
theorem dM_written_17 : decode cM_written 17 = .ok (.iconst 0, 1) := by decide +kernel
theorem dM_written_18 : decode cM_written 18 = .ok (.istore_n 3, 1) := by decide +kernel
theorem dM_written_19 : decode cM_written 19 = .ok (.iconst 0, 1) := by decide +kernel
theorem dM_written_20 : decode cM_written 20 = .ok (.istore 4, 2) := by decide +kernel
theorem dM_written_22 : decode cM_written 22 = .ok (.iconst 0, 1) := by decide +kernel
theorem dM_written_23 : decode cM_written 23 = .ok (.istore 5, 2) := by decide +kernel
theorem dM_written_25 : decode cM_written 25 = .ok (.iload 5, 2) := by decide +kernel
theorem dM_written_27 : decode cM_written 27 = .ok (.aload_n 0, 1) := by decide +kernel
theorem dM_written_28 : decode cM_written 28 = .ok (.getfield 66, 3) := by decide +kernel
theorem dM_written_31 : decode cM_written 31 = .ok (.if_icmp .ge 103, 3) := by decide +kernel
theorem dM_written_34 : decode cM_written 34 = .ok (.aload_n 0, 1) := by decide +kernel
theorem dM_written_35 : decode cM_written 35 = .ok (.getfield 7, 3) := by decide +kernel
theorem dM_written_38 : decode cM_written 38 = .ok (.iload 5, 2) := by decide +kernel
theorem dM_written_40 : decode cM_written 40 = .ok (.iaload, 1) := by decide +kernel
theorem dM_written_41 : decode cM_written 41 = .ok (.invokestatic 78, 3) := by decide +kernel
theorem dM_written_44 : decode cM_written 44 = .ok (.istore 6, 2) := by decide +kernel
theorem dM_written_46 : decode cM_written 46 = .ok (.aload_n 0, 1) := by decide +kernel
theorem dM_written_47 : decode cM_written 47 = .ok (.iload_n 1, 1) := by decide +kernel
theorem dM_written_48 : decode cM_written 48 = .ok (.iload_n 3, 1) := by decide +kernel
theorem dM_written_49 : decode cM_written 49 = .ok (.iload 6, 2) := by decide +kernel
theorem dM_written_51 : decode cM_written 51 = .ok (.invokevirtual 82, 3) := by decide +kernel
theorem dM_written_54 : decode cM_written 54 = .ok (.istore 7, 2) := by decide +kernel
theorem dM_written_56 : decode cM_written 56 = .ok (.aload_n 0, 1) := by decide +kernel
theorem dM_written_57 : decode cM_written 57 = .ok (.iload_n 1, 1) := by decide +kernel
theorem dM_written_58 : decode cM_written 58 = .ok (.iload_n 3, 1) := by decide +kernel
theorem dM_written_59 : decode cM_written 59 = .ok (.iload 6, 2) := by decide +kernel
theorem dM_written_61 : decode cM_written 61 = .ok (.iload 7, 2) := by decide +kernel
theorem dM_written_63 : decode cM_written 63 = .ok (.invokevirtual 130, 3) := by decide +kernel
theorem dM_written_66 : decode cM_written 66 = .ok (.ifCond .ne 59, 3) := by decide +kernel
theorem dM_written_69 : decode cM_written 69 = .ok (.iload 4, 2) := by decide +kernel
theorem dM_written_71 : decode cM_written 71 = .ok (.iload_n 2, 1) := by decide +kernel
theorem dM_written_72 : decode cM_written 72 = .ok (.if_icmp .ne 50, 3) := by decide +kernel
theorem dM_written_75 : decode cM_written 75 = .ok (.aload_n 0, 1) := by decide +kernel
theorem dM_written_76 : decode cM_written 76 = .ok (.getfield 7, 3) := by decide +kernel
theorem dM_written_79 : decode cM_written 79 = .ok (.iload 5, 2) := by decide +kernel
theorem dM_written_81 : decode cM_written 81 = .ok (.iaload, 1) := by decide +kernel
theorem dM_written_82 : decode cM_written 82 = .ok (.ifCond .le 21, 3) := by decide +kernel
theorem dM_written_85 : decode cM_written 85 = .ok (.aload_n 0, 1) := by decide +kernel
theorem dM_written_86 : decode cM_written 86 = .ok (.iload_n 1, 1) := by decide +kernel
theorem dM_written_87 : decode cM_written 87 = .ok (.iload_n 3, 1) := by decide +kernel
theorem dM_written_88 : decode cM_written 88 = .ok (.aload_n 0, 1) := by decide +kernel
theorem dM_written_89 : decode cM_written 89 = .ok (.getfield 7, 3) := by decide +kernel
theorem dM_written_92 : decode cM_written 92 = .ok (.iload 5, 2) := by decide +kernel
theorem dM_written_94 : decode cM_written 94 = .ok (.iaload, 1) := by decide +kernel
theorem dM_written_95 : decode cM_written 95 = .ok (.invokevirtual 134, 3) := by decide +kernel
theorem dM_written_98 : decode cM_written 98 = .ok (.iconst 1, 1) := by decide +kernel
theorem dM_written_99 : decode cM_written 99 = .ok (.iadd, 1) := by decide +kernel
theorem dM_written_100 : decode cM_written 100 = .ok (.goto 21, 3) := by decide +kernel
theorem dM_written_103 : decode cM_written 103 = .ok (.aload_n 0, 1) := by decide +kernel
theorem dM_written_104 : decode cM_written 104 = .ok (.iload_n 1, 1) := by decide +kernel
theorem dM_written_105 : decode cM_written 105 = .ok (.iload 7, 2) := by decide +kernel
theorem dM_written_107 : decode cM_written 107 = .ok (.aload_n 0, 1) := by decide +kernel
theorem dM_written_108 : decode cM_written 108 = .ok (.getfield 7, 3) := by decide +kernel
theorem dM_written_111 : decode cM_written 111 = .ok (.iload 5, 2) := by decide +kernel
theorem dM_written_113 : decode cM_written 113 = .ok (.iaload, 1) := by decide +kernel
theorem dM_written_114 : decode cM_written 114 = .ok (.ineg, 1) := by decide +kernel
theorem dM_written_115 : decode cM_written 115 = .ok (.invokevirtual 134, 3) := by decide +kernel
theorem dM_written_118 : decode cM_written 118 = .ok (.ineg, 1) := by decide +kernel
theorem dM_written_119 : decode cM_written 119 = .ok (.iconst 1, 1) := by decide +kernel
theorem dM_written_120 : decode cM_written 120 = .ok (.isub, 1) := by decide +kernel
theorem dM_written_121 : decode cM_written 121 = .ok (.ireturn, 1) := by decide +kernel
theorem dM_written_122 : decode cM_written 122 = .ok (.iinc 4 1, 3) := by decide +kernel
theorem dM_written_125 : decode cM_written 125 = .ok (.iload 7, 2) := by decide +kernel
theorem dM_written_127 : decode cM_written 127 = .ok (.istore_n 3, 1) := by decide +kernel
theorem dM_written_128 : decode cM_written 128 = .ok (.iinc 5 1, 3) := by decide +kernel
theorem dM_written_131 : decode cM_written 131 = .ok (.goto (-106), 3) := by decide +kernel
theorem dM_written_134 : decode cM_written 134 = .ok (.iconst 0, 1) := by decide +kernel
theorem dM_written_135 : decode cM_written 135 = .ok (.ireturn, 1) := by decide +kernel
theorem dM_target_0 : decode cM_target 0 = .ok (.iload_n 1, 1) := by decide +kernel
theorem dM_target_1 : decode cM_target 1 = .ok (.invokestatic 101, 3) := by decide +kernel
theorem dM_target_4 : decode cM_target 4 = .ok (.ifCond .eq 38, 3) := by decide +kernel
theorem dM_target_7 : decode cM_target 7 = .ok (.iload_n 2, 1) := by decide +kernel
theorem dM_target_8 : decode cM_target 8 = .ok (.ifCond .lt 34, 3) := by decide +kernel
theorem dM_target_11 : decode cM_target 11 = .ok (.iload_n 2, 1) := by decide +kernel
theorem dM_target_12 : decode cM_target 12 = .ok (.aload_n 0, 1) := by decide +kernel
theorem dM_target_13 : decode cM_target 13 = .ok (.getfield 13, 3) := by decide +kernel
theorem dM_target_16 : decode cM_target 16 = .ok (.iload_n 1, 1) := by decide +kernel
theorem dM_target_17 : decode cM_target 17 = .ok (.iaload, 1) := by decide +kernel
theorem dM_target_18 : decode cM_target 18 = .ok (.if_icmp .ge 24, 3) := by decide +kernel
theorem dM_target_21 : decode cM_target 21 = .ok (.aload_n 0, 1) := by decide +kernel
theorem dM_target_22 : decode cM_target 22 = .ok (.iload_n 3, 1) := by decide +kernel
theorem dM_target_23 : decode cM_target 23 = .ok (.invokevirtual 62, 3) := by decide +kernel
theorem dM_target_26 : decode cM_target 26 = .ok (.ifCond .eq 16, 3) := by decide +kernel
theorem dM_target_29 : decode cM_target 29 = .ok (.aload_n 0, 1) := by decide +kernel
theorem dM_target_30 : decode cM_target 30 = .ok (.iload_n 1, 1) := by decide +kernel
theorem dM_target_31 : decode cM_target 31 = .ok (.iload_n 2, 1) := by decide +kernel
theorem dM_target_32 : decode cM_target 32 = .ok (.iload_n 3, 1) := by decide +kernel
theorem dM_target_33 : decode cM_target 33 = .ok (.invokestatic 78, 3) := by decide +kernel
theorem dM_target_36 : decode cM_target 36 = .ok (.invokevirtual 82, 3) := by decide +kernel
theorem dM_target_39 : decode cM_target 39 = .ok (.goto 4, 3) := by decide +kernel
theorem dM_target_42 : decode cM_target 42 = .ok (.iconst (-1), 1) := by decide +kernel
theorem dM_target_43 : decode cM_target 43 = .ok (.ireturn, 1) := by decide +kernel
theorem dM_figure_0 : decode cM_figure 0 = .ok (.iload_n 1, 1) := by decide +kernel
theorem dM_figure_1 : decode cM_figure 1 = .ok (.invokestatic 101, 3) := by decide +kernel
theorem dM_figure_4 : decode cM_figure 4 = .ok (.ifCond .eq 12, 3) := by decide +kernel
theorem dM_figure_7 : decode cM_figure 7 = .ok (.iload_n 2, 1) := by decide +kernel
theorem dM_figure_8 : decode cM_figure 8 = .ok (.ifCond .lt 8, 3) := by decide +kernel
theorem dM_figure_11 : decode cM_figure 11 = .ok (.iload_n 2, 1) := by decide +kernel
theorem dM_figure_12 : decode cM_figure 12 = .ok (.iconst 3, 1) := by decide +kernel
theorem dM_figure_13 : decode cM_figure 13 = .ok (.if_icmp .le 5, 3) := by decide +kernel
theorem dM_figure_16 : decode cM_figure 16 = .ok (.iconst (-1), 1) := by decide +kernel
theorem dM_figure_17 : decode cM_figure 17 = .ok (.ireturn, 1) := by decide +kernel
theorem dM_figure_18 : decode cM_figure 18 = .ok (.iconst 0, 1) := by decide +kernel
theorem dM_figure_19 : decode cM_figure 19 = .ok (.istore_n 3, 1) := by decide +kernel
theorem dM_figure_20 : decode cM_figure 20 = .ok (.iconst 0, 1) := by decide +kernel
theorem dM_figure_21 : decode cM_figure 21 = .ok (.istore 4, 2) := by decide +kernel
theorem dM_figure_23 : decode cM_figure 23 = .ok (.iload 4, 2) := by decide +kernel
theorem dM_figure_25 : decode cM_figure 25 = .ok (.aload_n 0, 1) := by decide +kernel
theorem dM_figure_26 : decode cM_figure 26 = .ok (.getfield 13, 3) := by decide +kernel
theorem dM_figure_29 : decode cM_figure 29 = .ok (.iload_n 1, 1) := by decide +kernel
theorem dM_figure_30 : decode cM_figure 30 = .ok (.iaload, 1) := by decide +kernel
theorem dM_figure_31 : decode cM_figure 31 = .ok (.if_icmp .ge 45, 3) := by decide +kernel
theorem dM_figure_34 : decode cM_figure 34 = .ok (.iconst 0, 1) := by decide +kernel
theorem dM_figure_35 : decode cM_figure 35 = .ok (.istore 5, 2) := by decide +kernel
theorem dM_figure_37 : decode cM_figure 37 = .ok (.iload 5, 2) := by decide +kernel
theorem dM_figure_39 : decode cM_figure 39 = .ok (.bipush 6, 2) := by decide +kernel
theorem dM_figure_41 : decode cM_figure 41 = .ok (.if_icmp .ge 29, 3) := by decide +kernel
theorem dM_figure_44 : decode cM_figure 44 = .ok (.aload_n 0, 1) := by decide +kernel
theorem dM_figure_45 : decode cM_figure 45 = .ok (.iload_n 1, 1) := by decide +kernel
theorem dM_figure_46 : decode cM_figure 46 = .ok (.iload 4, 2) := by decide +kernel
theorem dM_figure_48 : decode cM_figure 48 = .ok (.iload 5, 2) := by decide +kernel
theorem dM_figure_50 : decode cM_figure 50 = .ok (.invokevirtual 82, 3) := by decide +kernel
theorem dM_figure_53 : decode cM_figure 53 = .ok (.ifCond .lt 9, 3) := by decide +kernel
theorem dM_figure_56 : decode cM_figure 56 = .ok (.iload_n 3, 1) := by decide +kernel
theorem dM_figure_57 : decode cM_figure 57 = .ok (.iconst 1, 1) := by decide +kernel
theorem dM_figure_58 : decode cM_figure 58 = .ok (.iadd, 1) := by decide +kernel
theorem dM_figure_59 : decode cM_figure 59 = .ok (.goto 4, 3) := by decide +kernel
theorem dM_figure_62 : decode cM_figure 62 = .ok (.iload_n 3, 1) := by decide +kernel
theorem dM_figure_63 : decode cM_figure 63 = .ok (.istore_n 3, 1) := by decide +kernel
theorem dM_figure_64 : decode cM_figure 64 = .ok (.iinc 5 1, 3) := by decide +kernel
theorem dM_figure_67 : decode cM_figure 67 = .ok (.goto (-30), 3) := by decide +kernel
theorem dM_figure_70 : decode cM_figure 70 = .ok (.iinc 4 1, 3) := by decide +kernel
theorem dM_figure_73 : decode cM_figure 73 = .ok (.goto (-50), 3) := by decide +kernel
theorem dM_figure_76 : decode cM_figure 76 = .ok (.iload_n 2, 1) := by decide +kernel
theorem dM_figure_77 : decode cM_figure 77 = .ok (.ifCond .ne 12, 3) := by decide +kernel
theorem dM_figure_80 : decode cM_figure 80 = .ok (.aload_n 0, 1) := by decide +kernel
theorem dM_figure_81 : decode cM_figure 81 = .ok (.getfield 13, 3) := by decide +kernel
theorem dM_figure_84 : decode cM_figure 84 = .ok (.iload_n 1, 1) := by decide +kernel
theorem dM_figure_85 : decode cM_figure 85 = .ok (.iaload, 1) := by decide +kernel
theorem dM_figure_86 : decode cM_figure 86 = .ok (.goto 54, 3) := by decide +kernel
theorem dM_figure_89 : decode cM_figure 89 = .ok (.iload_n 2, 1) := by decide +kernel
theorem dM_figure_90 : decode cM_figure 90 = .ok (.iconst 1, 1) := by decide +kernel
theorem dM_figure_91 : decode cM_figure 91 = .ok (.if_icmp .ne 9, 3) := by decide +kernel
theorem dM_figure_94 : decode cM_figure 94 = .ok (.iload_n 3, 1) := by decide +kernel
theorem dM_figure_95 : decode cM_figure 95 = .ok (.iconst 2, 1) := by decide +kernel
theorem dM_figure_96 : decode cM_figure 96 = .ok (.idiv, 1) := by decide +kernel
theorem dM_figure_97 : decode cM_figure 97 = .ok (.goto 43, 3) := by decide +kernel
theorem dM_figure_100 : decode cM_figure 100 = .ok (.iload_n 2, 1) := by decide +kernel
theorem dM_figure_101 : decode cM_figure 101 = .ok (.iconst 2, 1) := by decide +kernel
theorem dM_figure_102 : decode cM_figure 102 = .ok (.if_icmp .ne 11, 3) := by decide +kernel
theorem dM_figure_105 : decode cM_figure 105 = .ok (.aload_n 0, 1) := by decide +kernel
theorem dM_figure_106 : decode cM_figure 106 = .ok (.iload_n 1, 1) := by decide +kernel
theorem dM_figure_107 : decode cM_figure 107 = .ok (.invokevirtual 162, 3) := by decide +kernel
theorem dM_figure_110 : decode cM_figure 110 = .ok (.goto 30, 3) := by decide +kernel
theorem dM_figure_113 : decode cM_figure 113 = .ok (.iload_n 3, 1) := by decide +kernel
theorem dM_figure_114 : decode cM_figure 114 = .ok (.iconst 2, 1) := by decide +kernel
theorem dM_figure_115 : decode cM_figure 115 = .ok (.aload_n 0, 1) := by decide +kernel
theorem dM_figure_116 : decode cM_figure 116 = .ok (.getfield 58, 3) := by decide +kernel
theorem dM_figure_119 : decode cM_figure 119 = .ok (.imul, 1) := by decide +kernel
theorem dM_figure_120 : decode cM_figure 120 = .ok (.aload_n 0, 1) := by decide +kernel
theorem dM_figure_121 : decode cM_figure 121 = .ok (.getfield 13, 3) := by decide +kernel
theorem dM_figure_124 : decode cM_figure 124 = .ok (.iload_n 1, 1) := by decide +kernel
theorem dM_figure_125 : decode cM_figure 125 = .ok (.iaload, 1) := by decide +kernel
theorem dM_figure_126 : decode cM_figure 126 = .ok (.imul, 1) := by decide +kernel
theorem dM_figure_127 : decode cM_figure 127 = .ok (.if_icmp .ne 12, 3) := by decide +kernel
theorem dM_figure_130 : decode cM_figure 130 = .ok (.aload_n 0, 1) := by decide +kernel
theorem dM_figure_131 : decode cM_figure 131 = .ok (.getfield 13, 3) := by decide +kernel
theorem dM_figure_134 : decode cM_figure 134 = .ok (.iload_n 1, 1) := by decide +kernel
theorem dM_figure_135 : decode cM_figure 135 = .ok (.iaload, 1) := by decide +kernel
theorem dM_figure_136 : decode cM_figure 136 = .ok (.goto 4, 3) := by decide +kernel
theorem dM_figure_139 : decode cM_figure 139 = .ok (.iconst 0, 1) := by decide +kernel
theorem dM_figure_140 : decode cM_figure 140 = .ok (.ireturn, 1) := by decide +kernel
theorem dM_contains_0 : decode cM_contains 0 = .ok (.iload_n 1, 1) := by decide +kernel
theorem dM_contains_1 : decode cM_contains 1 = .ok (.invokestatic 101, 3) := by decide +kernel
theorem dM_contains_4 : decode cM_contains 4 = .ok (.ifCond .eq 10, 3) := by decide +kernel
theorem dM_contains_7 : decode cM_contains 7 = .ok (.iload_n 2, 1) := by decide +kernel
theorem dM_contains_8 : decode cM_contains 8 = .ok (.invokestatic 101, 3) := by decide +kernel
theorem dM_contains_11 : decode cM_contains 11 = .ok (.ifCond .ne 5, 3) := by decide +kernel
theorem dM_contains_14 : decode cM_contains 14 = .ok (.iconst 0, 1) := by decide +kernel
theorem dM_contains_15 : decode cM_contains 15 = .ok (.ireturn, 1) := by decide +kernel
theorem dM_contains_16 : decode cM_contains 16 = .ok (.iconst 1, 1) := by decide +kernel
theorem dM_contains_17 : decode cM_contains 17 = .ok (.istore_n 3, 1) := by decide +kernel
theorem dM_contains_18 : decode cM_contains 18 = .ok (.aload_n 0, 1) := by decide +kernel
theorem dM_contains_19 : decode cM_contains 19 = .ok (.iload_n 2, 1) := by decide +kernel
theorem dM_contains_20 : decode cM_contains 20 = .ok (.invokevirtual 162, 3) := by decide +kernel
theorem dM_contains_23 : decode cM_contains 23 = .ok (.istore 4, 2) := by decide +kernel
theorem dM_contains_25 : decode cM_contains 25 = .ok (.iconst 0, 1) := by decide +kernel
theorem dM_contains_26 : decode cM_contains 26 = .ok (.istore 5, 2) := by decide +kernel
theorem dM_contains_28 : decode cM_contains 28 = .ok (.iload 5, 2) := by decide +kernel
theorem dM_contains_30 : decode cM_contains 30 = .ok (.iload 4, 2) := by decide +kernel
theorem dM_contains_32 : decode cM_contains 32 = .ok (.if_icmp .ge 51, 3) := by decide +kernel
theorem dM_contains_35 : decode cM_contains 35 = .ok (.iload_n 3, 1) := by decide +kernel
theorem dM_contains_36 : decode cM_contains 36 = .ok (.ifCond .eq 47, 3) := by decide +kernel
theorem dM_contains_39 : decode cM_contains 39 = .ok (.aload_n 0, 1) := by decide +kernel
theorem dM_contains_40 : decode cM_contains 40 = .ok (.iload_n 2, 1) := by decide +kernel
theorem dM_contains_41 : decode cM_contains 41 = .ok (.iload 5, 2) := by decide +kernel
theorem dM_contains_43 : decode cM_contains 43 = .ok (.invokevirtual 155, 3) := by decide +kernel
theorem dM_contains_46 : decode cM_contains 46 = .ok (.istore 6, 2) := by decide +kernel
theorem dM_contains_48 : decode cM_contains 48 = .ok (.aload_n 0, 1) := by decide +kernel
theorem dM_contains_49 : decode cM_contains 49 = .ok (.iconst 0, 1) := by decide +kernel
theorem dM_contains_50 : decode cM_contains 50 = .ok (.putfield 146, 3) := by decide +kernel
theorem dM_contains_53 : decode cM_contains 53 = .ok (.aload_n 0, 1) := by decide +kernel
theorem dM_contains_54 : decode cM_contains 54 = .ok (.iload_n 2, 1) := by decide +kernel
theorem dM_contains_55 : decode cM_contains 55 = .ok (.invokevirtual 159, 3) := by decide +kernel
theorem dM_contains_58 : decode cM_contains 58 = .ok (.iload 6, 2) := by decide +kernel
theorem dM_contains_60 : decode cM_contains 60 = .ok (.ifCond .eq 15, 3) := by decide +kernel
theorem dM_contains_63 : decode cM_contains 63 = .ok (.aload_n 0, 1) := by decide +kernel
theorem dM_contains_64 : decode cM_contains 64 = .ok (.iload_n 1, 1) := by decide +kernel
theorem dM_contains_65 : decode cM_contains 65 = .ok (.invokevirtual 165, 3) := by decide +kernel
theorem dM_contains_68 : decode cM_contains 68 = .ok (.ifCond .eq 7, 3) := by decide +kernel
theorem dM_contains_71 : decode cM_contains 71 = .ok (.iconst 1, 1) := by decide +kernel
theorem dM_contains_72 : decode cM_contains 72 = .ok (.goto 4, 3) := by decide +kernel
theorem dM_contains_75 : decode cM_contains 75 = .ok (.iconst 0, 1) := by decide +kernel
theorem dM_contains_76 : decode cM_contains 76 = .ok (.istore_n 3, 1) := by decide +kernel
theorem dM_contains_77 : decode cM_contains 77 = .ok (.iinc 5 1, 3) := by decide +kernel
theorem dM_contains_80 : decode cM_contains 80 = .ok (.goto (-52), 3) := by decide +kernel
theorem dM_contains_83 : decode cM_contains 83 = .ok (.iload_n 3, 1) := by decide +kernel
theorem dM_contains_84 : decode cM_contains 84 = .ok (.ireturn, 1) := by decide +kernel
theorem dM_normal_0 : decode cM_normal 0 = .ok (.iload_n 1, 1) := by decide +kernel
theorem dM_normal_1 : decode cM_normal 1 = .ok (.invokestatic 101, 3) := by decide +kernel
theorem dM_normal_4 : decode cM_normal 4 = .ok (.ifCond .ne 5, 3) := by decide +kernel
theorem dM_normal_7 : decode cM_normal 7 = .ok (.iconst 0, 1) := by decide +kernel
theorem dM_normal_8 : decode cM_normal 8 = .ok (.ireturn, 1) := by decide +kernel
theorem dM_normal_9 : decode cM_normal 9 = .ok (.iconst 1, 1) := by decide +kernel
theorem dM_normal_10 : decode cM_normal 10 = .ok (.istore_n 2, 1) := by decide +kernel
theorem dM_normal_11 : decode cM_normal 11 = .ok (.aload_n 0, 1) := by decide +kernel
theorem dM_normal_12 : decode cM_normal 12 = .ok (.iload_n 1, 1) := by decide +kernel
theorem dM_normal_13 : decode cM_normal 13 = .ok (.invokevirtual 162, 3) := by decide +kernel
theorem dM_normal_16 : decode cM_normal 16 = .ok (.istore_n 3, 1) := by decide +kernel
theorem dM_normal_17 : decode cM_normal 17 = .ok (.iconst 0, 1) := by decide +kernel
theorem dM_normal_18 : decode cM_normal 18 = .ok (.istore 4, 2) := by decide +kernel
theorem dM_normal_20 : decode cM_normal 20 = .ok (.iload 4, 2) := by decide +kernel
theorem dM_normal_22 : decode cM_normal 22 = .ok (.iconst 2, 1) := by decide +kernel
theorem dM_normal_23 : decode cM_normal 23 = .ok (.aload_n 0, 1) := by decide +kernel
theorem dM_normal_24 : decode cM_normal 24 = .ok (.getfield 58, 3) := by decide +kernel
theorem dM_normal_27 : decode cM_normal 27 = .ok (.imul, 1) := by decide +kernel
theorem dM_normal_28 : decode cM_normal 28 = .ok (.if_icmp .ge 89, 3) := by decide +kernel
theorem dM_normal_31 : decode cM_normal 31 = .ok (.iload_n 2, 1) := by decide +kernel
theorem dM_normal_32 : decode cM_normal 32 = .ok (.ifCond .eq 85, 3) := by decide +kernel
theorem dM_normal_35 : decode cM_normal 35 = .ok (.iconst 0, 1) := by decide +kernel
theorem dM_normal_36 : decode cM_normal 36 = .ok (.istore 5, 2) := by decide +kernel
theorem dM_normal_38 : decode cM_normal 38 = .ok (.iload 5, 2) := by decide +kernel
theorem dM_normal_40 : decode cM_normal 40 = .ok (.iload_n 3, 1) := by decide +kernel
theorem dM_normal_41 : decode cM_normal 41 = .ok (.if_icmp .ge 70, 3) := by decide +kernel
theorem dM_normal_44 : decode cM_normal 44 = .ok (.iload_n 2, 1) := by decide +kernel
theorem dM_normal_45 : decode cM_normal 45 = .ok (.ifCond .eq 66, 3) := by decide +kernel
theorem dM_normal_48 : decode cM_normal 48 = .ok (.aload_n 0, 1) := by decide +kernel
theorem dM_normal_49 : decode cM_normal 49 = .ok (.iload_n 1, 1) := by decide +kernel
theorem dM_normal_50 : decode cM_normal 50 = .ok (.iload 5, 2) := by decide +kernel
theorem dM_normal_52 : decode cM_normal 52 = .ok (.invokevirtual 155, 3) := by decide +kernel
theorem dM_normal_55 : decode cM_normal 55 = .ok (.istore 6, 2) := by decide +kernel
theorem dM_normal_57 : decode cM_normal 57 = .ok (.aload_n 0, 1) := by decide +kernel
theorem dM_normal_58 : decode cM_normal 58 = .ok (.iconst 0, 1) := by decide +kernel
theorem dM_normal_59 : decode cM_normal 59 = .ok (.putfield 146, 3) := by decide +kernel
theorem dM_normal_62 : decode cM_normal 62 = .ok (.aload_n 0, 1) := by decide +kernel
theorem dM_normal_63 : decode cM_normal 63 = .ok (.iload 4, 2) := by decide +kernel
theorem dM_normal_65 : decode cM_normal 65 = .ok (.invokestatic 124, 3) := by decide +kernel
theorem dM_normal_68 : decode cM_normal 68 = .ok (.ineg, 1) := by decide +kernel
theorem dM_normal_69 : decode cM_normal 69 = .ok (.invokevirtual 149, 3) := by decide +kernel
theorem dM_normal_72 : decode cM_normal 72 = .ok (.aload_n 0, 1) := by decide +kernel
theorem dM_normal_73 : decode cM_normal 73 = .ok (.iload_n 1, 1) := by decide +kernel
theorem dM_normal_74 : decode cM_normal 74 = .ok (.invokevirtual 159, 3) := by decide +kernel
theorem dM_normal_77 : decode cM_normal 77 = .ok (.aload_n 0, 1) := by decide +kernel
theorem dM_normal_78 : decode cM_normal 78 = .ok (.iload 4, 2) := by decide +kernel
theorem dM_normal_80 : decode cM_normal 80 = .ok (.invokestatic 124, 3) := by decide +kernel
theorem dM_normal_83 : decode cM_normal 83 = .ok (.invokevirtual 149, 3) := by decide +kernel
theorem dM_normal_86 : decode cM_normal 86 = .ok (.iload 6, 2) := by decide +kernel
theorem dM_normal_88 : decode cM_normal 88 = .ok (.ifCond .eq 15, 3) := by decide +kernel
theorem dM_normal_91 : decode cM_normal 91 = .ok (.aload_n 0, 1) := by decide +kernel
theorem dM_normal_92 : decode cM_normal 92 = .ok (.iload_n 1, 1) := by decide +kernel
theorem dM_normal_93 : decode cM_normal 93 = .ok (.invokevirtual 165, 3) := by decide +kernel
theorem dM_normal_96 : decode cM_normal 96 = .ok (.ifCond .eq 7, 3) := by decide +kernel
theorem dM_normal_99 : decode cM_normal 99 = .ok (.iconst 1, 1) := by decide +kernel
theorem dM_normal_100 : decode cM_normal 100 = .ok (.goto 4, 3) := by decide +kernel
theorem dM_normal_103 : decode cM_normal 103 = .ok (.iconst 0, 1) := by decide +kernel
theorem dM_normal_104 : decode cM_normal 104 = .ok (.istore_n 2, 1) := by decide +kernel
theorem dM_normal_105 : decode cM_normal 105 = .ok (.iinc 5 1, 3) := by decide +kernel
theorem dM_normal_108 : decode cM_normal 108 = .ok (.goto (-70), 3) := by decide +kernel
theorem dM_normal_111 : decode cM_normal 111 = .ok (.iinc 4 1, 3) := by decide +kernel
theorem dM_normal_114 : decode cM_normal 114 = .ok (.goto (-94), 3) := by decide +kernel
theorem dM_normal_117 : decode cM_normal 117 = .ok (.iload_n 2, 1) := by decide +kernel
theorem dM_normal_118 : decode cM_normal 118 = .ok (.ireturn, 1) := by decide +kernel
theorem dD_init_0 : decode cD_init 0 = .ok (.aload_n 0, 1) := by decide +kernel
theorem dD_init_1 : decode cD_init 1 = .ok (.invokespecial 3, 3) := by decide +kernel
theorem dD_init_4 : decode cD_init 4 = .ok (.aload_n 0, 1) := by decide +kernel
theorem dD_init_5 : decode cD_init 5 = .ok (.sipush 195, 3) := by decide +kernel
theorem dD_init_8 : decode cD_init 8 = .ok (.newarray .int, 2) := by decide +kernel
theorem dD_init_10 : decode cD_init 10 = .ok (.putfield 9, 3) := by decide +kernel
theorem dD_init_13 : decode cD_init 13 = .ok (.aload_n 0, 1) := by decide +kernel
theorem dD_init_14 : decode cD_init 14 = .ok (.sipush 195, 3) := by decide +kernel
theorem dD_init_17 : decode cD_init 17 = .ok (.newarray .int, 2) := by decide +kernel
theorem dD_init_19 : decode cD_init 19 = .ok (.putfield 15, 3) := by decide +kernel
theorem dD_init_22 : decode cD_init 22 = .ok (.aload_n 0, 1) := by decide +kernel
theorem dD_init_23 : decode cD_init 23 = .ok (.sipush 195, 3) := by decide +kernel
theorem dD_init_26 : decode cD_init 26 = .ok (.newarray .int, 2) := by decide +kernel
theorem dD_init_28 : decode cD_init 28 = .ok (.putfield 18, 3) := by decide +kernel
theorem dD_init_31 : decode cD_init 31 = .ok (.aload_n 0, 1) := by decide +kernel
theorem dD_init_32 : decode cD_init 32 = .ok (.bipush 64, 2) := by decide +kernel
theorem dD_init_34 : decode cD_init 34 = .ok (.newarray .int, 2) := by decide +kernel
theorem dD_init_36 : decode cD_init 36 = .ok (.putfield 21, 3) := by decide +kernel
theorem dD_init_39 : decode cD_init 39 = .ok (.aload_n 0, 1) := by decide +kernel
theorem dD_init_40 : decode cD_init 40 = .ok (.sipush 384, 3) := by decide +kernel
theorem dD_init_43 : decode cD_init 43 = .ok (.newarray .int, 2) := by decide +kernel
theorem dD_init_45 : decode cD_init 45 = .ok (.putfield 24, 3) := by decide +kernel
theorem dD_init_48 : decode cD_init 48 = .ok (.aload_n 0, 1) := by decide +kernel
theorem dD_init_49 : decode cD_init 49 = .ok (.bipush 64, 2) := by decide +kernel
theorem dD_init_51 : decode cD_init 51 = .ok (.newarray .int, 2) := by decide +kernel
theorem dD_init_53 : decode cD_init 53 = .ok (.putfield 27, 3) := by decide +kernel
theorem dD_init_56 : decode cD_init 56 = .ok (.aload_n 0, 1) := by decide +kernel
theorem dD_init_57 : decode cD_init 57 = .ok (.bipush 64, 2) := by decide +kernel
theorem dD_init_59 : decode cD_init 59 = .ok (.newarray .int, 2) := by decide +kernel
theorem dD_init_61 : decode cD_init 61 = .ok (.putfield 30, 3) := by decide +kernel
theorem dD_init_64 : decode cD_init 64 = .ok (.aload_n 0, 1) := by decide +kernel
theorem dD_init_65 : decode cD_init 65 = .ok (.bipush 64, 2) := by decide +kernel
theorem dD_init_67 : decode cD_init 67 = .ok (.newarray .int, 2) := by decide +kernel
theorem dD_init_69 : decode cD_init 69 = .ok (.putfield 33, 3) := by decide +kernel
theorem dD_init_72 : decode cD_init 72 = .ok (.aload_n 0, 1) := by decide +kernel
theorem dD_init_73 : decode cD_init 73 = .ok (.bipush 64, 2) := by decide +kernel
theorem dD_init_75 : decode cD_init 75 = .ok (.newarray .int, 2) := by decide +kernel
theorem dD_init_77 : decode cD_init 77 = .ok (.putfield 36, 3) := by decide +kernel
theorem dD_init_80 : decode cD_init 80 = .ok (.return_, 1) := by decide +kernel
theorem dD_begin_0 : decode cD_begin 0 = .ok (.aload_n 0, 1) := by decide +kernel
theorem dD_begin_1 : decode cD_begin 1 = .ok (.iconst 1, 1) := by decide +kernel
theorem dD_begin_2 : decode cD_begin 2 = .ok (.putfield 39, 3) := by decide +kernel
theorem dD_begin_5 : decode cD_begin 5 = .ok (.aload_n 0, 1) := by decide +kernel
theorem dD_begin_6 : decode cD_begin 6 = .ok (.iconst 0, 1) := by decide +kernel
theorem dD_begin_7 : decode cD_begin 7 = .ok (.putfield 43, 3) := by decide +kernel
theorem dD_begin_10 : decode cD_begin 10 = .ok (.aload_n 0, 1) := by decide +kernel
theorem dD_begin_11 : decode cD_begin 11 = .ok (.iconst 0, 1) := by decide +kernel
theorem dD_begin_12 : decode cD_begin 12 = .ok (.putfield 46, 3) := by decide +kernel
theorem dD_begin_15 : decode cD_begin 15 = .ok (.aload_n 0, 1) := by decide +kernel
theorem dD_begin_16 : decode cD_begin 16 = .ok (.getfield 24, 3) := by decide +kernel
theorem dD_begin_19 : decode cD_begin 19 = .ok (.iconst (-1), 1) := by decide +kernel
theorem dD_begin_20 : decode cD_begin 20 = .ok (.invokestatic 49, 3) := by decide +kernel
theorem dD_begin_23 : decode cD_begin 23 = .ok (.return_, 1) := by decide +kernel
theorem dD_addEdge_0 : decode cD_addEdge 0 = .ok (.aload_n 0, 1) := by decide +kernel
theorem dD_addEdge_1 : decode cD_addEdge 1 = .ok (.getfield 46, 3) := by decide +kernel
theorem dD_addEdge_4 : decode cD_addEdge 4 = .ok (.sipush 195, 3) := by decide +kernel
theorem dD_addEdge_7 : decode cD_addEdge 7 = .ok (.if_icmp .ge 43, 3) := by decide +kernel
theorem dD_addEdge_10 : decode cD_addEdge 10 = .ok (.aload_n 0, 1) := by decide +kernel
theorem dD_addEdge_11 : decode cD_addEdge 11 = .ok (.getfield 9, 3) := by decide +kernel
theorem dD_addEdge_14 : decode cD_addEdge 14 = .ok (.aload_n 0, 1) := by decide +kernel
theorem dD_addEdge_15 : decode cD_addEdge 15 = .ok (.getfield 46, 3) := by decide +kernel
theorem dD_addEdge_18 : decode cD_addEdge 18 = .ok (.iload_n 1, 1) := by decide +kernel
theorem dD_addEdge_19 : decode cD_addEdge 19 = .ok (.iastore, 1) := by decide +kernel
theorem dD_addEdge_20 : decode cD_addEdge 20 = .ok (.aload_n 0, 1) := by decide +kernel
theorem dD_addEdge_21 : decode cD_addEdge 21 = .ok (.getfield 15, 3) := by decide +kernel
theorem dD_addEdge_24 : decode cD_addEdge 24 = .ok (.aload_n 0, 1) := by decide +kernel
theorem dD_addEdge_25 : decode cD_addEdge 25 = .ok (.getfield 46, 3) := by decide +kernel
theorem dD_addEdge_28 : decode cD_addEdge 28 = .ok (.iload_n 2, 1) := by decide +kernel
theorem dD_addEdge_29 : decode cD_addEdge 29 = .ok (.iastore, 1) := by decide +kernel
theorem dD_addEdge_30 : decode cD_addEdge 30 = .ok (.aload_n 0, 1) := by decide +kernel
theorem dD_addEdge_31 : decode cD_addEdge 31 = .ok (.getfield 18, 3) := by decide +kernel
theorem dD_addEdge_34 : decode cD_addEdge 34 = .ok (.aload_n 0, 1) := by decide +kernel
theorem dD_addEdge_35 : decode cD_addEdge 35 = .ok (.getfield 46, 3) := by decide +kernel
theorem dD_addEdge_38 : decode cD_addEdge 38 = .ok (.iload_n 3, 1) := by decide +kernel
theorem dD_addEdge_39 : decode cD_addEdge 39 = .ok (.iastore, 1) := by decide +kernel
theorem dD_addEdge_40 : decode cD_addEdge 40 = .ok (.aload_n 0, 1) := by decide +kernel
theorem dD_addEdge_41 : decode cD_addEdge 41 = .ok (.dup, 1) := by decide +kernel
theorem dD_addEdge_42 : decode cD_addEdge 42 = .ok (.getfield 46, 3) := by decide +kernel
theorem dD_addEdge_45 : decode cD_addEdge 45 = .ok (.iconst 1, 1) := by decide +kernel
theorem dD_addEdge_46 : decode cD_addEdge 46 = .ok (.iadd, 1) := by decide +kernel
theorem dD_addEdge_47 : decode cD_addEdge 47 = .ok (.putfield 46, 3) := by decide +kernel
theorem dD_addEdge_50 : decode cD_addEdge 50 = .ok (.return_, 1) := by decide +kernel
theorem dD_addCopy_0 : decode cD_addCopy 0 = .ok (.aload_n 0, 1) := by decide +kernel
theorem dD_addCopy_1 : decode cD_addCopy 1 = .ok (.getfield 39, 3) := by decide +kernel
theorem dD_addCopy_4 : decode cD_addCopy 4 = .ok (.iconst 1, 1) := by decide +kernel
theorem dD_addCopy_5 : decode cD_addCopy 5 = .ok (.isub, 1) := by decide +kernel
theorem dD_addCopy_6 : decode cD_addCopy 6 = .ok (.istore_n 2, 1) := by decide +kernel
theorem dD_addCopy_7 : decode cD_addCopy 7 = .ok (.iconst 0, 1) := by decide +kernel
theorem dD_addCopy_8 : decode cD_addCopy 8 = .ok (.istore_n 3, 1) := by decide +kernel
theorem dD_addCopy_9 : decode cD_addCopy 9 = .ok (.iload_n 3, 1) := by decide +kernel
theorem dD_addCopy_10 : decode cD_addCopy 10 = .ok (.aload_n 1, 1) := by decide +kernel
theorem dD_addCopy_11 : decode cD_addCopy 11 = .ok (.getfield 55, 3) := by decide +kernel
theorem dD_addCopy_14 : decode cD_addCopy 14 = .ok (.if_icmp .ge 70, 3) := by decide +kernel
theorem dD_addCopy_17 : decode cD_addCopy 17 = .ok (.iconst 0, 1) := by decide +kernel
theorem dD_addCopy_18 : decode cD_addCopy 18 = .ok (.istore 4, 2) := by decide +kernel
theorem dD_addCopy_20 : decode cD_addCopy 20 = .ok (.iload 4, 2) := by decide +kernel
theorem dD_addCopy_22 : decode cD_addCopy 22 = .ok (.bipush 6, 2) := by decide +kernel
theorem dD_addCopy_24 : decode cD_addCopy 24 = .ok (.if_icmp .ge 54, 3) := by decide +kernel
theorem dD_addCopy_27 : decode cD_addCopy 27 = .ok (.aload_n 1, 1) := by decide +kernel
theorem dD_addCopy_28 : decode cD_addCopy 28 = .ok (.iload_n 3, 1) := by decide +kernel
theorem dD_addCopy_29 : decode cD_addCopy 29 = .ok (.iload 4, 2) := by decide +kernel
theorem dD_addCopy_31 : decode cD_addCopy 31 = .ok (.invokevirtual 58, 3) := by decide +kernel
theorem dD_addCopy_34 : decode cD_addCopy 34 = .ok (.istore 5, 2) := by decide +kernel
theorem dD_addCopy_36 : decode cD_addCopy 36 = .ok (.iload 5, 2) := by decide +kernel
theorem dD_addCopy_38 : decode cD_addCopy 38 = .ok (.iconst (-1), 1) := by decide +kernel
theorem dD_addCopy_39 : decode cD_addCopy 39 = .ok (.if_icmp .eq 33, 3) := by decide +kernel
theorem dD_addCopy_42 : decode cD_addCopy 42 = .ok (.aload_n 0, 1) := by decide +kernel
theorem dD_addCopy_43 : decode cD_addCopy 43 = .ok (.iload_n 3, 1) := by decide +kernel
theorem dD_addCopy_44 : decode cD_addCopy 44 = .ok (.ifCond .ne 7, 3) := by decide +kernel
theorem dD_addCopy_47 : decode cD_addCopy 47 = .ok (.iconst 0, 1) := by decide +kernel
theorem dD_addCopy_48 : decode cD_addCopy 48 = .ok (.goto 6, 3) := by decide +kernel
theorem dD_addCopy_51 : decode cD_addCopy 51 = .ok (.iload_n 3, 1) := by decide +kernel
theorem dD_addCopy_52 : decode cD_addCopy 52 = .ok (.iload_n 2, 1) := by decide +kernel
theorem dD_addCopy_53 : decode cD_addCopy 53 = .ok (.iadd, 1) := by decide +kernel
theorem dD_addCopy_54 : decode cD_addCopy 54 = .ok (.iload 4, 2) := by decide +kernel
theorem dD_addCopy_56 : decode cD_addCopy 56 = .ok (.iload 5, 2) := by decide +kernel
theorem dD_addCopy_58 : decode cD_addCopy 58 = .ok (.ifCond .ne 7, 3) := by decide +kernel
theorem dD_addCopy_61 : decode cD_addCopy 61 = .ok (.iconst 0, 1) := by decide +kernel
theorem dD_addCopy_62 : decode cD_addCopy 62 = .ok (.goto 7, 3) := by decide +kernel
theorem dD_addCopy_65 : decode cD_addCopy 65 = .ok (.iload 5, 2) := by decide +kernel
theorem dD_addCopy_67 : decode cD_addCopy 67 = .ok (.iload_n 2, 1) := by decide +kernel
theorem dD_addCopy_68 : decode cD_addCopy 68 = .ok (.iadd, 1) := by decide +kernel
theorem dD_addCopy_69 : decode cD_addCopy 69 = .ok (.invokevirtual 62, 3) := by decide +kernel
theorem dD_addCopy_72 : decode cD_addCopy 72 = .ok (.iinc 4 2, 3) := by decide +kernel
theorem dD_addCopy_75 : decode cD_addCopy 75 = .ok (.goto (-55), 3) := by decide +kernel
theorem dD_addCopy_78 : decode cD_addCopy 78 = .ok (.iinc 3 1, 3) := by decide +kernel
theorem dD_addCopy_81 : decode cD_addCopy 81 = .ok (.goto (-72), 3) := by decide +kernel
theorem dD_addCopy_84 : decode cD_addCopy 84 = .ok (.aload_n 0, 1) := by decide +kernel
theorem dD_addCopy_85 : decode cD_addCopy 85 = .ok (.dup, 1) := by decide +kernel
theorem dD_addCopy_86 : decode cD_addCopy 86 = .ok (.getfield 39, 3) := by decide +kernel
theorem dD_addCopy_89 : decode cD_addCopy 89 = .ok (.aload_n 1, 1) := by decide +kernel
theorem dD_addCopy_90 : decode cD_addCopy 90 = .ok (.getfield 55, 3) := by decide +kernel
theorem dD_addCopy_93 : decode cD_addCopy 93 = .ok (.iconst 1, 1) := by decide +kernel
theorem dD_addCopy_94 : decode cD_addCopy 94 = .ok (.isub, 1) := by decide +kernel
theorem dD_addCopy_95 : decode cD_addCopy 95 = .ok (.iadd, 1) := by decide +kernel
theorem dD_addCopy_96 : decode cD_addCopy 96 = .ok (.putfield 39, 3) := by decide +kernel
theorem dD_addCopy_99 : decode cD_addCopy 99 = .ok (.return_, 1) := by decide +kernel
theorem dD_addRing_0 : decode cD_addRing 0 = .ok (.aload_n 1, 1) := by decide +kernel
theorem dD_addRing_1 : decode cD_addRing 1 = .ok (.getfield 66, 3) := by decide +kernel
theorem dD_addRing_4 : decode cD_addRing 4 = .ok (.ifCond .le 35, 3) := by decide +kernel
theorem dD_addRing_7 : decode cD_addRing 7 = .ok (.aload_n 0, 1) := by decide +kernel
theorem dD_addRing_8 : decode cD_addRing 8 = .ok (.aload_n 1, 1) := by decide +kernel
theorem dD_addRing_9 : decode cD_addRing 9 = .ok (.aload_n 1, 1) := by decide +kernel
theorem dD_addRing_10 : decode cD_addRing 10 = .ok (.getfield 66, 3) := by decide +kernel
theorem dD_addRing_13 : decode cD_addRing 13 = .ok (.iconst 1, 1) := by decide +kernel
theorem dD_addRing_14 : decode cD_addRing 14 = .ok (.isub, 1) := by decide +kernel
theorem dD_addRing_15 : decode cD_addRing 15 = .ok (.invokevirtual 69, 3) := by decide +kernel
theorem dD_addRing_18 : decode cD_addRing 18 = .ok (.istore_n 2, 1) := by decide +kernel
theorem dD_addRing_19 : decode cD_addRing 19 = .ok (.aload_n 0, 1) := by decide +kernel
theorem dD_addRing_20 : decode cD_addRing 20 = .ok (.iload_n 2, 1) := by decide +kernel
theorem dD_addRing_21 : decode cD_addRing 21 = .ok (.aload_n 1, 1) := by decide +kernel
theorem dD_addRing_22 : decode cD_addRing 22 = .ok (.getfield 73, 3) := by decide +kernel
theorem dD_addRing_25 : decode cD_addRing 25 = .ok (.aload_n 1, 1) := by decide +kernel
theorem dD_addRing_26 : decode cD_addRing 26 = .ok (.getfield 66, 3) := by decide +kernel
theorem dD_addRing_29 : decode cD_addRing 29 = .ok (.iconst 1, 1) := by decide +kernel
theorem dD_addRing_30 : decode cD_addRing 30 = .ok (.isub, 1) := by decide +kernel
theorem dD_addRing_31 : decode cD_addRing 31 = .ok (.iaload, 1) := by decide +kernel
theorem dD_addRing_32 : decode cD_addRing 32 = .ok (.invokestatic 76, 3) := by decide +kernel
theorem dD_addRing_35 : decode cD_addRing 35 = .ok (.iconst 0, 1) := by decide +kernel
theorem dD_addRing_36 : decode cD_addRing 36 = .ok (.invokevirtual 62, 3) := by decide +kernel
theorem dD_addRing_39 : decode cD_addRing 39 = .ok (.return_, 1) := by decide +kernel
theorem dD_moveBaseAlong_0 : decode cD_moveBaseAlong 0 = .ok (.aload_n 0, 1) := by decide +kernel
theorem dD_moveBaseAlong_1 : decode cD_moveBaseAlong 1 = .ok (.aload_n 0, 1) := by decide +kernel
theorem dD_moveBaseAlong_2 : decode cD_moveBaseAlong 2 = .ok (.aload_n 1, 1) := by decide +kernel
theorem dD_moveBaseAlong_3 : decode cD_moveBaseAlong 3 = .ok (.aload_n 1, 1) := by decide +kernel
theorem dD_moveBaseAlong_4 : decode cD_moveBaseAlong 4 = .ok (.getfield 66, 3) := by decide +kernel
theorem dD_moveBaseAlong_7 : decode cD_moveBaseAlong 7 = .ok (.invokevirtual 69, 3) := by decide +kernel
theorem dD_moveBaseAlong_10 : decode cD_moveBaseAlong 10 = .ok (.putfield 43, 3) := by decide +kernel
theorem dD_moveBaseAlong_13 : decode cD_moveBaseAlong 13 = .ok (.return_, 1) := by decide +kernel
theorem dD_addRow_0 : decode cD_addRow 0 = .ok (.iconst 0, 1) := by decide +kernel
theorem dD_addRow_1 : decode cD_addRow 1 = .ok (.istore_n 3, 1) := by decide +kernel
theorem dD_addRow_2 : decode cD_addRow 2 = .ok (.iconst 0, 1) := by decide +kernel
theorem dD_addRow_3 : decode cD_addRow 3 = .ok (.istore 4, 2) := by decide +kernel
theorem dD_addRow_5 : decode cD_addRow 5 = .ok (.iload 4, 2) := by decide +kernel
theorem dD_addRow_7 : decode cD_addRow 7 = .ok (.iload_n 2, 1) := by decide +kernel
theorem dD_addRow_8 : decode cD_addRow 8 = .ok (.if_icmp .ge 43, 3) := by decide +kernel
theorem dD_addRow_11 : decode cD_addRow 11 = .ok (.aload_n 0, 1) := by decide +kernel
theorem dD_addRow_12 : decode cD_addRow 12 = .ok (.iload_n 3, 1) := by decide +kernel
theorem dD_addRow_13 : decode cD_addRow 13 = .ok (.aload_n 1, 1) := by decide +kernel
theorem dD_addRow_14 : decode cD_addRow 14 = .ok (.getfield 73, 3) := by decide +kernel
theorem dD_addRow_17 : decode cD_addRow 17 = .ok (.iload 4, 2) := by decide +kernel
theorem dD_addRow_19 : decode cD_addRow 19 = .ok (.iaload, 1) := by decide +kernel
theorem dD_addRow_20 : decode cD_addRow 20 = .ok (.invokestatic 76, 3) := by decide +kernel
theorem dD_addRow_23 : decode cD_addRow 23 = .ok (.aload_n 0, 1) := by decide +kernel
theorem dD_addRow_24 : decode cD_addRow 24 = .ok (.getfield 39, 3) := by decide +kernel
theorem dD_addRow_27 : decode cD_addRow 27 = .ok (.invokevirtual 62, 3) := by decide +kernel
theorem dD_addRow_30 : decode cD_addRow 30 = .ok (.aload_n 0, 1) := by decide +kernel
theorem dD_addRow_31 : decode cD_addRow 31 = .ok (.getfield 39, 3) := by decide +kernel
theorem dD_addRow_34 : decode cD_addRow 34 = .ok (.istore_n 3, 1) := by decide +kernel
theorem dD_addRow_35 : decode cD_addRow 35 = .ok (.aload_n 0, 1) := by decide +kernel
theorem dD_addRow_36 : decode cD_addRow 36 = .ok (.dup, 1) := by decide +kernel
theorem dD_addRow_37 : decode cD_addRow 37 = .ok (.getfield 39, 3) := by decide +kernel
theorem dD_addRow_40 : decode cD_addRow 40 = .ok (.iconst 1, 1) := by decide +kernel
theorem dD_addRow_41 : decode cD_addRow 41 = .ok (.iadd, 1) := by decide +kernel
theorem dD_addRow_42 : decode cD_addRow 42 = .ok (.putfield 39, 3) := by decide +kernel
theorem dD_addRow_45 : decode cD_addRow 45 = .ok (.iinc 4 1, 3) := by decide +kernel
theorem dD_addRow_48 : decode cD_addRow 48 = .ok (.goto (-43), 3) := by decide +kernel
theorem dD_addRow_51 : decode cD_addRow 51 = .ok (.iload_n 3, 1) := by decide +kernel
