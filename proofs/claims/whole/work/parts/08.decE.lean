theorem dX10_paysOf_32 : decode cX10_paysOf 32 = .ok (.ifCond .eq 29, 3) := by decide +kernel
theorem dX10_paysOf_35 : decode cX10_paysOf 35 = .ok (.aload_n 0, 1) := by decide +kernel
theorem dX10_paysOf_36 : decode cX10_paysOf 36 = .ok (.iload_n 1, 1) := by decide +kernel
theorem dX10_paysOf_37 : decode cX10_paysOf 37 = .ok (.iload_n 3, 1) := by decide +kernel
theorem dX10_paysOf_38 : decode cX10_paysOf 38 = .ok (.invokevirtual 263, 3) := by decide +kernel
theorem dX10_paysOf_41 : decode cX10_paysOf 41 = .ok (.iload_n 1, 1) := by decide +kernel
theorem dX10_paysOf_42 : decode cX10_paysOf 42 = .ok (.if_icmp .ne 19, 3) := by decide +kernel
theorem dX10_paysOf_45 : decode cX10_paysOf 45 = .ok (.iload_n 2, 1) := by decide +kernel
theorem dX10_paysOf_46 : decode cX10_paysOf 46 = .ok (.aload_n 0, 1) := by decide +kernel
theorem dX10_paysOf_47 : decode cX10_paysOf 47 = .ok (.getfield 13, 3) := by decide +kernel
theorem dX10_paysOf_50 : decode cX10_paysOf 50 = .ok (.iconst 4, 1) := by decide +kernel
theorem dX10_paysOf_51 : decode cX10_paysOf 51 = .ok (.iaload, 1) := by decide +kernel
theorem dX10_paysOf_52 : decode cX10_paysOf 52 = .ok (.aload_n 0, 1) := by decide +kernel
theorem dX10_paysOf_53 : decode cX10_paysOf 53 = .ok (.iload_n 1, 1) := by decide +kernel
theorem dX10_paysOf_54 : decode cX10_paysOf 54 = .ok (.iload_n 3, 1) := by decide +kernel
theorem dX10_paysOf_55 : decode cX10_paysOf 55 = .ok (.invokevirtual 254, 3) := by decide +kernel
theorem dX10_paysOf_58 : decode cX10_paysOf 58 = .ok (.imul, 1) := by decide +kernel
theorem dX10_paysOf_59 : decode cX10_paysOf 59 = .ok (.iadd, 1) := by decide +kernel
theorem dX10_paysOf_60 : decode cX10_paysOf 60 = .ok (.istore_n 2, 1) := by decide +kernel
theorem dX10_paysOf_61 : decode cX10_paysOf 61 = .ok (.iinc 3 1, 3) := by decide +kernel
theorem dX10_paysOf_64 : decode cX10_paysOf 64 = .ok (.goto (-60), 3) := by decide +kernel
theorem dX10_paysOf_67 : decode cX10_paysOf 67 = .ok (.iload_n 2, 1) := by decide +kernel
theorem dX10_paysOf_68 : decode cX10_paysOf 68 = .ok (.ireturn, 1) := by decide +kernel
theorem dX10_paysAll_0 : decode cX10_paysAll 0 = .ok (.aload_n 0, 1) := by decide +kernel
theorem dX10_paysAll_1 : decode cX10_paysAll 1 = .ok (.invokevirtual 226, 3) := by decide +kernel
theorem dX10_paysAll_4 : decode cX10_paysAll 4 = .ok (.iconst 0, 1) := by decide +kernel
theorem dX10_paysAll_5 : decode cX10_paysAll 5 = .ok (.istore_n 1, 1) := by decide +kernel
theorem dX10_paysAll_6 : decode cX10_paysAll 6 = .ok (.iconst 0, 1) := by decide +kernel
theorem dX10_paysAll_7 : decode cX10_paysAll 7 = .ok (.istore_n 2, 1) := by decide +kernel
theorem dX10_paysAll_8 : decode cX10_paysAll 8 = .ok (.iload_n 2, 1) := by decide +kernel
theorem dX10_paysAll_9 : decode cX10_paysAll 9 = .ok (.aload_n 0, 1) := by decide +kernel
theorem dX10_paysAll_10 : decode cX10_paysAll 10 = .ok (.getfield 13, 3) := by decide +kernel
theorem dX10_paysAll_13 : decode cX10_paysAll 13 = .ok (.iconst 0, 1) := by decide +kernel
theorem dX10_paysAll_14 : decode cX10_paysAll 14 = .ok (.iaload, 1) := by decide +kernel
theorem dX10_paysAll_15 : decode cX10_paysAll 15 = .ok (.if_icmp .ge 17, 3) := by decide +kernel
theorem dX10_paysAll_18 : decode cX10_paysAll 18 = .ok (.iload_n 1, 1) := by decide +kernel
theorem dX10_paysAll_19 : decode cX10_paysAll 19 = .ok (.aload_n 0, 1) := by decide +kernel
theorem dX10_paysAll_20 : decode cX10_paysAll 20 = .ok (.iload_n 2, 1) := by decide +kernel
theorem dX10_paysAll_21 : decode cX10_paysAll 21 = .ok (.invokevirtual 266, 3) := by decide +kernel
theorem dX10_paysAll_24 : decode cX10_paysAll 24 = .ok (.iadd, 1) := by decide +kernel
theorem dX10_paysAll_25 : decode cX10_paysAll 25 = .ok (.istore_n 1, 1) := by decide +kernel
theorem dX10_paysAll_26 : decode cX10_paysAll 26 = .ok (.iinc 2 1, 3) := by decide +kernel
theorem dX10_paysAll_29 : decode cX10_paysAll 29 = .ok (.goto (-21), 3) := by decide +kernel
theorem dX10_paysAll_32 : decode cX10_paysAll 32 = .ok (.iload_n 1, 1) := by decide +kernel
theorem dX10_paysAll_33 : decode cX10_paysAll 33 = .ok (.ireturn, 1) := by decide +kernel
theorem dX10_pays_0 : decode cX10_pays 0 = .ok (.aload_n 0, 1) := by decide +kernel
theorem dX10_pays_1 : decode cX10_pays 1 = .ok (.iconst 0, 1) := by decide +kernel
theorem dX10_pays_2 : decode cX10_pays 2 = .ok (.putfield 1, 3) := by decide +kernel
theorem dX10_pays_5 : decode cX10_pays 5 = .ok (.aload_n 0, 1) := by decide +kernel
theorem dX10_pays_6 : decode cX10_pays 6 = .ok (.iload_n 1, 1) := by decide +kernel
theorem dX10_pays_7 : decode cX10_pays 7 = .ok (.i2l, 1) := by decide +kernel
theorem dX10_pays_8 : decode cX10_pays 8 = .ok (.invokevirtual 173, 3) := by decide +kernel
theorem dX10_pays_11 : decode cX10_pays 11 = .ok (.ifCond .ne 6, 3) := by decide +kernel
theorem dX10_pays_14 : decode cX10_pays 14 = .ok (.bipush (-2), 2) := by decide +kernel
theorem dX10_pays_16 : decode cX10_pays 16 = .ok (.ireturn, 1) := by decide +kernel
theorem dX10_pays_17 : decode cX10_pays 17 = .ok (.aload_n 0, 1) := by decide +kernel
theorem dX10_pays_18 : decode cX10_pays 18 = .ok (.invokevirtual 226, 3) := by decide +kernel
theorem dX10_pays_21 : decode cX10_pays 21 = .ok (.aload_n 0, 1) := by decide +kernel
theorem dX10_pays_22 : decode cX10_pays 22 = .ok (.iload_n 1, 1) := by decide +kernel
theorem dX10_pays_23 : decode cX10_pays 23 = .ok (.invokevirtual 266, 3) := by decide +kernel
theorem dX10_pays_26 : decode cX10_pays 26 = .ok (.ireturn, 1) := by decide +kernel
theorem dX10_sootOf_0 : decode cX10_sootOf 0 = .ok (.iconst 0, 1) := by decide +kernel
theorem dX10_sootOf_1 : decode cX10_sootOf 1 = .ok (.istore_n 3, 1) := by decide +kernel
theorem dX10_sootOf_2 : decode cX10_sootOf 2 = .ok (.iconst 0, 1) := by decide +kernel
theorem dX10_sootOf_3 : decode cX10_sootOf 3 = .ok (.istore 4, 2) := by decide +kernel
theorem dX10_sootOf_5 : decode cX10_sootOf 5 = .ok (.iload 4, 2) := by decide +kernel
theorem dX10_sootOf_7 : decode cX10_sootOf 7 = .ok (.aload_n 0, 1) := by decide +kernel
theorem dX10_sootOf_8 : decode cX10_sootOf 8 = .ok (.getfield 39, 3) := by decide +kernel
theorem dX10_sootOf_11 : decode cX10_sootOf 11 = .ok (.iload_n 1, 1) := by decide +kernel
theorem dX10_sootOf_12 : decode cX10_sootOf 12 = .ok (.iaload, 1) := by decide +kernel
theorem dX10_sootOf_13 : decode cX10_sootOf 13 = .ok (.if_icmp .ge 47, 3) := by decide +kernel
theorem dX10_sootOf_16 : decode cX10_sootOf 16 = .ok (.iload_n 3, 1) := by decide +kernel
theorem dX10_sootOf_17 : decode cX10_sootOf 17 = .ok (.aload_n 0, 1) := by decide +kernel
theorem dX10_sootOf_18 : decode cX10_sootOf 18 = .ok (.iload_n 1, 1) := by decide +kernel
theorem dX10_sootOf_19 : decode cX10_sootOf 19 = .ok (.iload 4, 2) := by decide +kernel
theorem dX10_sootOf_21 : decode cX10_sootOf 21 = .ok (.invokevirtual 195, 3) := by decide +kernel
theorem dX10_sootOf_24 : decode cX10_sootOf 24 = .ok (.bipush 10, 2) := by decide +kernel
theorem dX10_sootOf_26 : decode cX10_sootOf 26 = .ok (.idiv, 1) := by decide +kernel
theorem dX10_sootOf_27 : decode cX10_sootOf 27 = .ok (.sipush 1000, 3) := by decide +kernel
theorem dX10_sootOf_30 : decode cX10_sootOf 30 = .ok (.irem, 1) := by decide +kernel
theorem dX10_sootOf_31 : decode cX10_sootOf 31 = .ok (.bipush 25, 2) := by decide +kernel
theorem dX10_sootOf_33 : decode cX10_sootOf 33 = .ok (.idiv, 1) := by decide +kernel
theorem dX10_sootOf_34 : decode cX10_sootOf 34 = .ok (.iload_n 2, 1) := by decide +kernel
theorem dX10_sootOf_35 : decode cX10_sootOf 35 = .ok (.if_icmp .ne 16, 3) := by decide +kernel
theorem dX10_sootOf_38 : decode cX10_sootOf 38 = .ok (.aload_n 0, 1) := by decide +kernel
theorem dX10_sootOf_39 : decode cX10_sootOf 39 = .ok (.iload_n 1, 1) := by decide +kernel
theorem dX10_sootOf_40 : decode cX10_sootOf 40 = .ok (.iload 4, 2) := by decide +kernel
theorem dX10_sootOf_42 : decode cX10_sootOf 42 = .ok (.invokevirtual 195, 3) := by decide +kernel
theorem dX10_sootOf_45 : decode cX10_sootOf 45 = .ok (.bipush 10, 2) := by decide +kernel
theorem dX10_sootOf_47 : decode cX10_sootOf 47 = .ok (.irem, 1) := by decide +kernel
theorem dX10_sootOf_48 : decode cX10_sootOf 48 = .ok (.goto 4, 3) := by decide +kernel
theorem dX10_sootOf_51 : decode cX10_sootOf 51 = .ok (.iconst 0, 1) := by decide +kernel
theorem dX10_sootOf_52 : decode cX10_sootOf 52 = .ok (.iadd, 1) := by decide +kernel
theorem dX10_sootOf_53 : decode cX10_sootOf 53 = .ok (.istore_n 3, 1) := by decide +kernel
theorem dX10_sootOf_54 : decode cX10_sootOf 54 = .ok (.iinc 4 1, 3) := by decide +kernel
theorem dX10_sootOf_57 : decode cX10_sootOf 57 = .ok (.goto (-52), 3) := by decide +kernel
theorem dX10_sootOf_60 : decode cX10_sootOf 60 = .ok (.iload_n 3, 1) := by decide +kernel
theorem dX10_sootOf_61 : decode cX10_sootOf 61 = .ok (.ireturn, 1) := by decide +kernel
theorem dX10_sootAll_0 : decode cX10_sootAll 0 = .ok (.iconst 0, 1) := by decide +kernel
theorem dX10_sootAll_1 : decode cX10_sootAll 1 = .ok (.istore_n 2, 1) := by decide +kernel
theorem dX10_sootAll_2 : decode cX10_sootAll 2 = .ok (.iconst 0, 1) := by decide +kernel
theorem dX10_sootAll_3 : decode cX10_sootAll 3 = .ok (.istore_n 3, 1) := by decide +kernel
theorem dX10_sootAll_4 : decode cX10_sootAll 4 = .ok (.iload_n 3, 1) := by decide +kernel
theorem dX10_sootAll_5 : decode cX10_sootAll 5 = .ok (.aload_n 0, 1) := by decide +kernel
theorem dX10_sootAll_6 : decode cX10_sootAll 6 = .ok (.getfield 13, 3) := by decide +kernel
theorem dX10_sootAll_9 : decode cX10_sootAll 9 = .ok (.iconst 0, 1) := by decide +kernel
theorem dX10_sootAll_10 : decode cX10_sootAll 10 = .ok (.iaload, 1) := by decide +kernel
theorem dX10_sootAll_11 : decode cX10_sootAll 11 = .ok (.if_icmp .ge 18, 3) := by decide +kernel
theorem dX10_sootAll_14 : decode cX10_sootAll 14 = .ok (.iload_n 2, 1) := by decide +kernel
theorem dX10_sootAll_15 : decode cX10_sootAll 15 = .ok (.aload_n 0, 1) := by decide +kernel
theorem dX10_sootAll_16 : decode cX10_sootAll 16 = .ok (.iload_n 3, 1) := by decide +kernel
theorem dX10_sootAll_17 : decode cX10_sootAll 17 = .ok (.iload_n 1, 1) := by decide +kernel
theorem dX10_sootAll_18 : decode cX10_sootAll 18 = .ok (.invokevirtual 269, 3) := by decide +kernel
theorem dX10_sootAll_21 : decode cX10_sootAll 21 = .ok (.iadd, 1) := by decide +kernel
theorem dX10_sootAll_22 : decode cX10_sootAll 22 = .ok (.istore_n 2, 1) := by decide +kernel
theorem dX10_sootAll_23 : decode cX10_sootAll 23 = .ok (.iinc 3 1, 3) := by decide +kernel
theorem dX10_sootAll_26 : decode cX10_sootAll 26 = .ok (.goto (-22), 3) := by decide +kernel
theorem dX10_sootAll_29 : decode cX10_sootAll 29 = .ok (.iload_n 2, 1) := by decide +kernel
theorem dX10_sootAll_30 : decode cX10_sootAll 30 = .ok (.ireturn, 1) := by decide +kernel
theorem dX10_soot_0 : decode cX10_soot 0 = .ok (.aload_n 0, 1) := by decide +kernel
theorem dX10_soot_1 : decode cX10_soot 1 = .ok (.iconst 0, 1) := by decide +kernel
theorem dX10_soot_2 : decode cX10_soot 2 = .ok (.putfield 1, 3) := by decide +kernel
theorem dX10_soot_5 : decode cX10_soot 5 = .ok (.iload_n 1, 1) := by decide +kernel
theorem dX10_soot_6 : decode cX10_soot 6 = .ok (.i2l, 1) := by decide +kernel
theorem dX10_soot_7 : decode cX10_soot 7 = .ok (.lconst 0, 1) := by decide +kernel
theorem dX10_soot_8 : decode cX10_soot 8 = .ok (.ldc2_w 193, 3) := by decide +kernel
theorem dX10_soot_11 : decode cX10_soot 11 = .ok (.invokestatic 149, 3) := by decide +kernel
theorem dX10_soot_14 : decode cX10_soot 14 = .ok (.ifCond .ne 6, 3) := by decide +kernel
theorem dX10_soot_17 : decode cX10_soot 17 = .ok (.bipush (-2), 2) := by decide +kernel
theorem dX10_soot_19 : decode cX10_soot 19 = .ok (.ireturn, 1) := by decide +kernel
theorem dX10_soot_20 : decode cX10_soot 20 = .ok (.aload_n 0, 1) := by decide +kernel
theorem dX10_soot_21 : decode cX10_soot 21 = .ok (.invokevirtual 226, 3) := by decide +kernel
theorem dX10_soot_24 : decode cX10_soot 24 = .ok (.aload_n 0, 1) := by decide +kernel
theorem dX10_soot_25 : decode cX10_soot 25 = .ok (.iload_n 1, 1) := by decide +kernel
theorem dX10_soot_26 : decode cX10_soot 26 = .ok (.invokevirtual 272, 3) := by decide +kernel
theorem dX10_soot_29 : decode cX10_soot 29 = .ok (.ireturn, 1) := by decide +kernel
theorem dX10_blackest_0 : decode cX10_blackest 0 = .ok (.aload_n 0, 1) := by decide +kernel
theorem dX10_blackest_1 : decode cX10_blackest 1 = .ok (.iconst 0, 1) := by decide +kernel
theorem dX10_blackest_2 : decode cX10_blackest 2 = .ok (.putfield 1, 3) := by decide +kernel
theorem dX10_blackest_5 : decode cX10_blackest 5 = .ok (.aload_n 0, 1) := by decide +kernel
theorem dX10_blackest_6 : decode cX10_blackest 6 = .ok (.invokevirtual 226, 3) := by decide +kernel
theorem dX10_blackest_9 : decode cX10_blackest 9 = .ok (.iconst 0, 1) := by decide +kernel
theorem dX10_blackest_10 : decode cX10_blackest 10 = .ok (.istore_n 1, 1) := by decide +kernel
theorem dX10_blackest_11 : decode cX10_blackest 11 = .ok (.iconst 1, 1) := by decide +kernel
theorem dX10_blackest_12 : decode cX10_blackest 12 = .ok (.istore_n 2, 1) := by decide +kernel
theorem dX10_blackest_13 : decode cX10_blackest 13 = .ok (.iload_n 2, 1) := by decide +kernel
theorem dX10_blackest_14 : decode cX10_blackest 14 = .ok (.bipush 40, 2) := by decide +kernel
theorem dX10_blackest_16 : decode cX10_blackest 16 = .ok (.if_icmp .ge 24, 3) := by decide +kernel
theorem dX10_blackest_19 : decode cX10_blackest 19 = .ok (.aload_n 0, 1) := by decide +kernel
theorem dX10_blackest_20 : decode cX10_blackest 20 = .ok (.iload_n 2, 1) := by decide +kernel
theorem dX10_blackest_21 : decode cX10_blackest 21 = .ok (.invokevirtual 272, 3) := by decide +kernel
theorem dX10_blackest_24 : decode cX10_blackest 24 = .ok (.aload_n 0, 1) := by decide +kernel
theorem dX10_blackest_25 : decode cX10_blackest 25 = .ok (.iload_n 1, 1) := by decide +kernel
theorem dX10_blackest_26 : decode cX10_blackest 26 = .ok (.invokevirtual 272, 3) := by decide +kernel
theorem dX10_blackest_29 : decode cX10_blackest 29 = .ok (.if_icmp .le 5, 3) := by decide +kernel
theorem dX10_blackest_32 : decode cX10_blackest 32 = .ok (.iload_n 2, 1) := by decide +kernel
theorem dX10_blackest_33 : decode cX10_blackest 33 = .ok (.istore_n 1, 1) := by decide +kernel
theorem dX10_blackest_34 : decode cX10_blackest 34 = .ok (.iinc 2 1, 3) := by decide +kernel
theorem dX10_blackest_37 : decode cX10_blackest 37 = .ok (.goto (-24), 3) := by decide +kernel
theorem dX10_blackest_40 : decode cX10_blackest 40 = .ok (.iload_n 1, 1) := by decide +kernel
theorem dX10_blackest_41 : decode cX10_blackest 41 = .ok (.ireturn, 1) := by decide +kernel
theorem dX10_freeFor_0 : decode cX10_freeFor 0 = .ok (.iconst 0, 1) := by decide +kernel
theorem dX10_freeFor_1 : decode cX10_freeFor 1 = .ok (.istore_n 2, 1) := by decide +kernel
theorem dX10_freeFor_2 : decode cX10_freeFor 2 = .ok (.aload_n 0, 1) := by decide +kernel
theorem dX10_freeFor_3 : decode cX10_freeFor 3 = .ok (.getfield 13, 3) := by decide +kernel
theorem dX10_freeFor_6 : decode cX10_freeFor 6 = .ok (.bipush 26, 2) := by decide +kernel
theorem dX10_freeFor_8 : decode cX10_freeFor 8 = .ok (.iload_n 1, 1) := by decide +kernel
theorem dX10_freeFor_9 : decode cX10_freeFor 9 = .ok (.iadd, 1) := by decide +kernel
theorem dX10_freeFor_10 : decode cX10_freeFor 10 = .ok (.iaload, 1) := by decide +kernel
theorem dX10_freeFor_11 : decode cX10_freeFor 11 = .ok (.istore_n 3, 1) := by decide +kernel
theorem dX10_freeFor_12 : decode cX10_freeFor 12 = .ok (.iload_n 3, 1) := by decide +kernel
theorem dX10_freeFor_13 : decode cX10_freeFor 13 = .ok (.aload_n 0, 1) := by decide +kernel
theorem dX10_freeFor_14 : decode cX10_freeFor 14 = .ok (.getfield 13, 3) := by decide +kernel
theorem dX10_freeFor_17 : decode cX10_freeFor 17 = .ok (.bipush 36, 2) := by decide +kernel
theorem dX10_freeFor_19 : decode cX10_freeFor 19 = .ok (.iload_n 1, 1) := by decide +kernel
theorem dX10_freeFor_20 : decode cX10_freeFor 20 = .ok (.iadd, 1) := by decide +kernel
theorem dX10_freeFor_21 : decode cX10_freeFor 21 = .ok (.iaload, 1) := by decide +kernel
theorem dX10_freeFor_22 : decode cX10_freeFor 22 = .ok (.if_icmp .gt 46, 3) := by decide +kernel
theorem dX10_freeFor_25 : decode cX10_freeFor 25 = .ok (.aload_n 0, 1) := by decide +kernel
theorem dX10_freeFor_26 : decode cX10_freeFor 26 = .ok (.sipush 130, 3) := by decide +kernel
theorem dX10_freeFor_29 : decode cX10_freeFor 29 = .ok (.iload_n 1, 1) := by decide +kernel
theorem dX10_freeFor_30 : decode cX10_freeFor 30 = .ok (.iload_n 3, 1) := by decide +kernel
theorem dX10_freeFor_31 : decode cX10_freeFor 31 = .ok (.iconst 0, 1) := by decide +kernel
theorem dX10_freeFor_32 : decode cX10_freeFor 32 = .ok (.invokevirtual 205, 3) := by decide +kernel
theorem dX10_freeFor_35 : decode cX10_freeFor 35 = .ok (.iload_n 2, 1) := by decide +kernel
theorem dX10_freeFor_36 : decode cX10_freeFor 36 = .ok (.aload_n 0, 1) := by decide +kernel
theorem dX10_freeFor_37 : decode cX10_freeFor 37 = .ok (.sipush 130, 3) := by decide +kernel
theorem dX10_freeFor_40 : decode cX10_freeFor 40 = .ok (.iload_n 1, 1) := by decide +kernel
theorem dX10_freeFor_41 : decode cX10_freeFor 41 = .ok (.aload_n 0, 1) := by decide +kernel
theorem dX10_freeFor_42 : decode cX10_freeFor 42 = .ok (.getfield 13, 3) := by decide +kernel
theorem dX10_freeFor_45 : decode cX10_freeFor 45 = .ok (.iconst 3, 1) := by decide +kernel
theorem dX10_freeFor_46 : decode cX10_freeFor 46 = .ok (.iaload, 1) := by decide +kernel
theorem dX10_freeFor_47 : decode cX10_freeFor 47 = .ok (.invokevirtual 229, 3) := by decide +kernel
theorem dX10_freeFor_50 : decode cX10_freeFor 50 = .ok (.ifCond .eq 7, 3) := by decide +kernel
theorem dX10_freeFor_53 : decode cX10_freeFor 53 = .ok (.iconst 0, 1) := by decide +kernel
theorem dX10_freeFor_54 : decode cX10_freeFor 54 = .ok (.goto 6, 3) := by decide +kernel
theorem dX10_freeFor_57 : decode cX10_freeFor 57 = .ok (.iconst 1, 1) := by decide +kernel
theorem dX10_freeFor_58 : decode cX10_freeFor 58 = .ok (.iload_n 3, 1) := by decide +kernel
theorem dX10_freeFor_59 : decode cX10_freeFor 59 = .ok (.ishl, 1) := by decide +kernel
theorem dX10_freeFor_60 : decode cX10_freeFor 60 = .ok (.ior, 1) := by decide +kernel
theorem dX10_freeFor_61 : decode cX10_freeFor 61 = .ok (.istore_n 2, 1) := by decide +kernel
theorem dX10_freeFor_62 : decode cX10_freeFor 62 = .ok (.iinc 3 1, 3) := by decide +kernel
theorem dX10_freeFor_65 : decode cX10_freeFor 65 = .ok (.goto (-53), 3) := by decide +kernel
theorem dX10_freeFor_68 : decode cX10_freeFor 68 = .ok (.iload_n 2, 1) := by decide +kernel
theorem dX10_freeFor_69 : decode cX10_freeFor 69 = .ok (.ireturn, 1) := by decide +kernel
theorem dX10_free_0 : decode cX10_free 0 = .ok (.aload_n 0, 1) := by decide +kernel
theorem dX10_free_1 : decode cX10_free 1 = .ok (.iconst 0, 1) := by decide +kernel
theorem dX10_free_2 : decode cX10_free 2 = .ok (.putfield 1, 3) := by decide +kernel
theorem dX10_free_5 : decode cX10_free 5 = .ok (.aload_n 0, 1) := by decide +kernel
theorem dX10_free_6 : decode cX10_free 6 = .ok (.iload_n 1, 1) := by decide +kernel
theorem dX10_free_7 : decode cX10_free 7 = .ok (.i2l, 1) := by decide +kernel
theorem dX10_free_8 : decode cX10_free 8 = .ok (.invokevirtual 173, 3) := by decide +kernel
theorem dX10_free_11 : decode cX10_free 11 = .ok (.ifCond .ne 6, 3) := by decide +kernel
theorem dX10_free_14 : decode cX10_free 14 = .ok (.bipush (-2), 2) := by decide +kernel
theorem dX10_free_16 : decode cX10_free 16 = .ok (.ireturn, 1) := by decide +kernel
theorem dX10_free_17 : decode cX10_free 17 = .ok (.aload_n 0, 1) := by decide +kernel
theorem dX10_free_18 : decode cX10_free 18 = .ok (.invokevirtual 226, 3) := by decide +kernel
theorem dX10_free_21 : decode cX10_free 21 = .ok (.aload_n 0, 1) := by decide +kernel
theorem dX10_free_22 : decode cX10_free 22 = .ok (.iload_n 1, 1) := by decide +kernel
theorem dX10_free_23 : decode cX10_free 23 = .ok (.invokevirtual 275, 3) := by decide +kernel
theorem dX10_free_26 : decode cX10_free 26 = .ok (.ireturn, 1) := by decide +kernel
theorem dX10_laysFew_0 : decode cX10_laysFew 0 = .ok (.aload_n 0, 1) := by decide +kernel
theorem dX10_laysFew_1 : decode cX10_laysFew 1 = .ok (.getfield 13, 3) := by decide +kernel
theorem dX10_laysFew_4 : decode cX10_laysFew 4 = .ok (.iconst 0, 1) := by decide +kernel
theorem dX10_laysFew_5 : decode cX10_laysFew 5 = .ok (.iaload, 1) := by decide +kernel
theorem dX10_laysFew_6 : decode cX10_laysFew 6 = .ok (.aload_n 0, 1) := by decide +kernel
theorem dX10_laysFew_7 : decode cX10_laysFew 7 = .ok (.invokevirtual 246, 3) := by decide +kernel
theorem dX10_laysFew_10 : decode cX10_laysFew 10 = .ok (.isub, 1) := by decide +kernel
theorem dX10_laysFew_11 : decode cX10_laysFew 11 = .ok (.iconst 5, 1) := by decide +kernel
theorem dX10_laysFew_12 : decode cX10_laysFew 12 = .ok (.if_icmp .le 5, 3) := by decide +kernel
theorem dX10_laysFew_15 : decode cX10_laysFew 15 = .ok (.iconst 0, 1) := by decide +kernel
theorem dX10_laysFew_16 : decode cX10_laysFew 16 = .ok (.ireturn, 1) := by decide +kernel
theorem dX10_laysFew_17 : decode cX10_laysFew 17 = .ok (.aload_n 0, 1) := by decide +kernel
theorem dX10_laysFew_18 : decode cX10_laysFew 18 = .ok (.invokevirtual 226, 3) := by decide +kernel
theorem dX10_laysFew_21 : decode cX10_laysFew 21 = .ok (.aload_n 0, 1) := by decide +kernel
theorem dX10_laysFew_22 : decode cX10_laysFew 22 = .ok (.iconst 0, 1) := by decide +kernel
theorem dX10_laysFew_23 : decode cX10_laysFew 23 = .ok (.putfield 278, 3) := by decide +kernel
theorem dX10_laysFew_26 : decode cX10_laysFew 26 = .ok (.iconst 0, 1) := by decide +kernel
theorem dX10_laysFew_27 : decode cX10_laysFew 27 = .ok (.istore_n 1, 1) := by decide +kernel
theorem dX10_laysFew_28 : decode cX10_laysFew 28 = .ok (.iload_n 1, 1) := by decide +kernel
theorem dX10_laysFew_29 : decode cX10_laysFew 29 = .ok (.aload_n 0, 1) := by decide +kernel
theorem dX10_laysFew_30 : decode cX10_laysFew 30 = .ok (.getfield 13, 3) := by decide +kernel
theorem dX10_laysFew_33 : decode cX10_laysFew 33 = .ok (.iconst 0, 1) := by decide +kernel
theorem dX10_laysFew_34 : decode cX10_laysFew 34 = .ok (.iaload, 1) := by decide +kernel
theorem dX10_laysFew_35 : decode cX10_laysFew 35 = .ok (.if_icmp .ge 87, 3) := by decide +kernel
theorem dX10_laysFew_38 : decode cX10_laysFew 38 = .ok (.aload_n 0, 1) := by decide +kernel
theorem dX10_laysFew_39 : decode cX10_laysFew 39 = .ok (.iload_n 1, 1) := by decide +kernel
theorem dX10_laysFew_40 : decode cX10_laysFew 40 = .ok (.invokevirtual 202, 3) := by decide +kernel
theorem dX10_laysFew_43 : decode cX10_laysFew 43 = .ok (.ifCond .eq 6, 3) := by decide +kernel
theorem dX10_laysFew_46 : decode cX10_laysFew 46 = .ok (.goto 70, 3) := by decide +kernel
theorem dX10_laysFew_49 : decode cX10_laysFew 49 = .ok (.aload_n 0, 1) := by decide +kernel
theorem dX10_laysFew_50 : decode cX10_laysFew 50 = .ok (.getfield 51, 3) := by decide +kernel
theorem dX10_laysFew_53 : decode cX10_laysFew 53 = .ok (.aload_n 0, 1) := by decide +kernel
theorem dX10_laysFew_54 : decode cX10_laysFew 54 = .ok (.getfield 278, 3) := by decide +kernel
theorem dX10_laysFew_57 : decode cX10_laysFew 57 = .ok (.iload_n 1, 1) := by decide +kernel
theorem dX10_laysFew_58 : decode cX10_laysFew 58 = .ok (.iastore, 1) := by decide +kernel
theorem dX10_laysFew_59 : decode cX10_laysFew 59 = .ok (.aload_n 0, 1) := by decide +kernel
theorem dX10_laysFew_60 : decode cX10_laysFew 60 = .ok (.getfield 54, 3) := by decide +kernel
theorem dX10_laysFew_63 : decode cX10_laysFew 63 = .ok (.aload_n 0, 1) := by decide +kernel
theorem dX10_laysFew_64 : decode cX10_laysFew 64 = .ok (.getfield 278, 3) := by decide +kernel
theorem dX10_laysFew_67 : decode cX10_laysFew 67 = .ok (.aload_n 0, 1) := by decide +kernel
theorem dX10_laysFew_68 : decode cX10_laysFew 68 = .ok (.iload_n 1, 1) := by decide +kernel
theorem dX10_laysFew_69 : decode cX10_laysFew 69 = .ok (.invokevirtual 275, 3) := by decide +kernel
theorem dX10_laysFew_72 : decode cX10_laysFew 72 = .ok (.iastore, 1) := by decide +kernel
theorem dX10_laysFew_73 : decode cX10_laysFew 73 = .ok (.iconst 0, 1) := by decide +kernel
theorem dX10_laysFew_74 : decode cX10_laysFew 74 = .ok (.istore_n 2, 1) := by decide +kernel
theorem dX10_laysFew_75 : decode cX10_laysFew 75 = .ok (.iload_n 2, 1) := by decide +kernel
theorem dX10_laysFew_76 : decode cX10_laysFew 76 = .ok (.bipush 24, 2) := by decide +kernel
theorem dX10_laysFew_78 : decode cX10_laysFew 78 = .ok (.if_icmp .ge 28, 3) := by decide +kernel
theorem dX10_laysFew_81 : decode cX10_laysFew 81 = .ok (.aload_n 0, 1) := by decide +kernel
theorem dX10_laysFew_82 : decode cX10_laysFew 82 = .ok (.bipush 10, 2) := by decide +kernel
theorem dX10_laysFew_84 : decode cX10_laysFew 84 = .ok (.bipush 24, 2) := by decide +kernel
theorem dX10_laysFew_86 : decode cX10_laysFew 86 = .ok (.aload_n 0, 1) := by decide +kernel
theorem dX10_laysFew_87 : decode cX10_laysFew 87 = .ok (.getfield 278, 3) := by decide +kernel
theorem dX10_laysFew_90 : decode cX10_laysFew 90 = .ok (.imul, 1) := by decide +kernel
theorem dX10_laysFew_91 : decode cX10_laysFew 91 = .ok (.iadd, 1) := by decide +kernel
theorem dX10_laysFew_92 : decode cX10_laysFew 92 = .ok (.iload_n 2, 1) := by decide +kernel
theorem dX10_laysFew_93 : decode cX10_laysFew 93 = .ok (.iadd, 1) := by decide +kernel
theorem dX10_laysFew_94 : decode cX10_laysFew 94 = .ok (.iload_n 1, 1) := by decide +kernel
theorem dX10_laysFew_95 : decode cX10_laysFew 95 = .ok (.iload_n 2, 1) := by decide +kernel
theorem dX10_laysFew_96 : decode cX10_laysFew 96 = .ok (.iconst 0, 1) := by decide +kernel
theorem dX10_laysFew_97 : decode cX10_laysFew 97 = .ok (.invokevirtual 205, 3) := by decide +kernel
theorem dX10_laysFew_100 : decode cX10_laysFew 100 = .ok (.iinc 2 1, 3) := by decide +kernel
theorem dX10_laysFew_103 : decode cX10_laysFew 103 = .ok (.goto (-28), 3) := by decide +kernel
theorem dX10_laysFew_106 : decode cX10_laysFew 106 = .ok (.aload_n 0, 1) := by decide +kernel
theorem dX10_laysFew_107 : decode cX10_laysFew 107 = .ok (.dup, 1) := by decide +kernel
theorem dX10_laysFew_108 : decode cX10_laysFew 108 = .ok (.getfield 278, 3) := by decide +kernel
theorem dX10_laysFew_111 : decode cX10_laysFew 111 = .ok (.iconst 1, 1) := by decide +kernel
theorem dX10_laysFew_112 : decode cX10_laysFew 112 = .ok (.iadd, 1) := by decide +kernel
theorem dX10_laysFew_113 : decode cX10_laysFew 113 = .ok (.putfield 278, 3) := by decide +kernel
theorem dX10_laysFew_116 : decode cX10_laysFew 116 = .ok (.iinc 1 1, 3) := by decide +kernel
theorem dX10_laysFew_119 : decode cX10_laysFew 119 = .ok (.goto (-91), 3) := by decide +kernel
theorem dX10_laysFew_122 : decode cX10_laysFew 122 = .ok (.iconst 0, 1) := by decide +kernel
theorem dX10_laysFew_123 : decode cX10_laysFew 123 = .ok (.istore_n 1, 1) := by decide +kernel
theorem dX10_laysFew_124 : decode cX10_laysFew 124 = .ok (.iload_n 1, 1) := by decide +kernel
theorem dX10_laysFew_125 : decode cX10_laysFew 125 = .ok (.bipush 24, 2) := by decide +kernel
theorem dX10_laysFew_127 : decode cX10_laysFew 127 = .ok (.aload_n 0, 1) := by decide +kernel
theorem dX10_laysFew_128 : decode cX10_laysFew 128 = .ok (.getfield 278, 3) := by decide +kernel
theorem dX10_laysFew_131 : decode cX10_laysFew 131 = .ok (.imul, 1) := by decide +kernel
theorem dX10_laysFew_132 : decode cX10_laysFew 132 = .ok (.if_icmp .ge 108, 3) := by decide +kernel
theorem dX10_laysFew_135 : decode cX10_laysFew 135 = .ok (.iconst 0, 1) := by decide +kernel
theorem dX10_laysFew_136 : decode cX10_laysFew 136 = .ok (.istore_n 2, 1) := by decide +kernel
theorem dX10_laysFew_137 : decode cX10_laysFew 137 = .ok (.iload_n 2, 1) := by decide +kernel
theorem dX10_laysFew_138 : decode cX10_laysFew 138 = .ok (.iload_n 1, 1) := by decide +kernel
theorem dX10_laysFew_139 : decode cX10_laysFew 139 = .ok (.if_icmp .ge 95, 3) := by decide +kernel
theorem dX10_laysFew_142 : decode cX10_laysFew 142 = .ok (.aload_n 0, 1) := by decide +kernel
theorem dX10_laysFew_143 : decode cX10_laysFew 143 = .ok (.getfield 63, 3) := by decide +kernel
theorem dX10_laysFew_146 : decode cX10_laysFew 146 = .ok (.bipush 120, 2) := by decide +kernel
theorem dX10_laysFew_148 : decode cX10_laysFew 148 = .ok (.iload_n 1, 1) := by decide +kernel
theorem dX10_laysFew_149 : decode cX10_laysFew 149 = .ok (.imul, 1) := by decide +kernel
theorem dX10_laysFew_150 : decode cX10_laysFew 150 = .ok (.iload_n 2, 1) := by decide +kernel
theorem dX10_laysFew_151 : decode cX10_laysFew 151 = .ok (.iadd, 1) := by decide +kernel
theorem dX10_laysFew_152 : decode cX10_laysFew 152 = .ok (.iload_n 1, 1) := by decide +kernel
theorem dX10_laysFew_153 : decode cX10_laysFew 153 = .ok (.bipush 24, 2) := by decide +kernel
theorem dX10_laysFew_155 : decode cX10_laysFew 155 = .ok (.idiv, 1) := by decide +kernel
theorem dX10_laysFew_156 : decode cX10_laysFew 156 = .ok (.iload_n 2, 1) := by decide +kernel
theorem dX10_laysFew_157 : decode cX10_laysFew 157 = .ok (.bipush 24, 2) := by decide +kernel
theorem dX10_laysFew_159 : decode cX10_laysFew 159 = .ok (.idiv, 1) := by decide +kernel
theorem dX10_laysFew_160 : decode cX10_laysFew 160 = .ok (.if_icmp .eq 66, 3) := by decide +kernel
theorem dX10_laysFew_163 : decode cX10_laysFew 163 = .ok (.aload_n 0, 1) := by decide +kernel
theorem dX10_laysFew_164 : decode cX10_laysFew 164 = .ok (.getfield 54, 3) := by decide +kernel
theorem dX10_laysFew_167 : decode cX10_laysFew 167 = .ok (.iload_n 1, 1) := by decide +kernel
theorem dX10_laysFew_168 : decode cX10_laysFew 168 = .ok (.bipush 24, 2) := by decide +kernel
theorem dX10_laysFew_170 : decode cX10_laysFew 170 = .ok (.idiv, 1) := by decide +kernel
theorem dX10_laysFew_171 : decode cX10_laysFew 171 = .ok (.iaload, 1) := by decide +kernel
theorem dX10_laysFew_172 : decode cX10_laysFew 172 = .ok (.iload_n 1, 1) := by decide +kernel
theorem dX10_laysFew_173 : decode cX10_laysFew 173 = .ok (.bipush 24, 2) := by decide +kernel
theorem dX10_laysFew_175 : decode cX10_laysFew 175 = .ok (.irem, 1) := by decide +kernel
theorem dX10_laysFew_176 : decode cX10_laysFew 176 = .ok (.invokestatic 281, 3) := by decide +kernel
theorem dX10_laysFew_179 : decode cX10_laysFew 179 = .ok (.ifCond .eq 47, 3) := by decide +kernel
theorem dX10_laysFew_182 : decode cX10_laysFew 182 = .ok (.aload_n 0, 1) := by decide +kernel
theorem dX10_laysFew_183 : decode cX10_laysFew 183 = .ok (.getfield 54, 3) := by decide +kernel
theorem dX10_laysFew_186 : decode cX10_laysFew 186 = .ok (.iload_n 2, 1) := by decide +kernel
theorem dX10_laysFew_187 : decode cX10_laysFew 187 = .ok (.bipush 24, 2) := by decide +kernel
theorem dX10_laysFew_189 : decode cX10_laysFew 189 = .ok (.idiv, 1) := by decide +kernel
theorem dX10_laysFew_190 : decode cX10_laysFew 190 = .ok (.iaload, 1) := by decide +kernel
theorem dX10_laysFew_191 : decode cX10_laysFew 191 = .ok (.iload_n 2, 1) := by decide +kernel
theorem dX10_laysFew_192 : decode cX10_laysFew 192 = .ok (.bipush 24, 2) := by decide +kernel
theorem dX10_laysFew_194 : decode cX10_laysFew 194 = .ok (.irem, 1) := by decide +kernel
theorem dX10_laysFew_195 : decode cX10_laysFew 195 = .ok (.invokestatic 281, 3) := by decide +kernel
theorem dX10_laysFew_198 : decode cX10_laysFew 198 = .ok (.ifCond .eq 28, 3) := by decide +kernel
theorem dX10_laysFew_201 : decode cX10_laysFew 201 = .ok (.aload_n 0, 1) := by decide +kernel
theorem dX10_laysFew_202 : decode cX10_laysFew 202 = .ok (.bipush 10, 2) := by decide +kernel
theorem dX10_laysFew_204 : decode cX10_laysFew 204 = .ok (.iload_n 1, 1) := by decide +kernel
theorem dX10_laysFew_205 : decode cX10_laysFew 205 = .ok (.iadd, 1) := by decide +kernel
theorem dX10_laysFew_206 : decode cX10_laysFew 206 = .ok (.bipush 10, 2) := by decide +kernel
theorem dX10_laysFew_208 : decode cX10_laysFew 208 = .ok (.iload_n 2, 1) := by decide +kernel
theorem dX10_laysFew_209 : decode cX10_laysFew 209 = .ok (.iadd, 1) := by decide +kernel
theorem dX10_laysFew_210 : decode cX10_laysFew 210 = .ok (.aload_n 0, 1) := by decide +kernel
theorem dX10_laysFew_211 : decode cX10_laysFew 211 = .ok (.getfield 13, 3) := by decide +kernel
theorem dX10_laysFew_214 : decode cX10_laysFew 214 = .ok (.iconst 3, 1) := by decide +kernel
theorem dX10_laysFew_215 : decode cX10_laysFew 215 = .ok (.iaload, 1) := by decide +kernel
theorem dX10_laysFew_216 : decode cX10_laysFew 216 = .ok (.invokevirtual 215, 3) := by decide +kernel
theorem dX10_laysFew_219 : decode cX10_laysFew 219 = .ok (.ifCond .ne 7, 3) := by decide +kernel
theorem dX10_laysFew_222 : decode cX10_laysFew 222 = .ok (.iconst 1, 1) := by decide +kernel
theorem dX10_laysFew_223 : decode cX10_laysFew 223 = .ok (.goto 4, 3) := by decide +kernel
theorem dX10_laysFew_226 : decode cX10_laysFew 226 = .ok (.iconst 0, 1) := by decide +kernel
theorem dX10_laysFew_227 : decode cX10_laysFew 227 = .ok (.bastore, 1) := by decide +kernel
theorem dX10_laysFew_228 : decode cX10_laysFew 228 = .ok (.iinc 2 1, 3) := by decide +kernel
theorem dX10_laysFew_231 : decode cX10_laysFew 231 = .ok (.goto (-94), 3) := by decide +kernel
theorem dX10_laysFew_234 : decode cX10_laysFew 234 = .ok (.iinc 1 1, 3) := by decide +kernel
theorem dX10_laysFew_237 : decode cX10_laysFew 237 = .ok (.goto (-113), 3) := by decide +kernel
theorem dX10_laysFew_240 : decode cX10_laysFew 240 = .ok (.iconst 1, 1) := by decide +kernel
theorem dX10_laysFew_241 : decode cX10_laysFew 241 = .ok (.ireturn, 1) := by decide +kernel
theorem dX10_isIn_0 : decode cX10_isIn 0 = .ok (.iload_n 0, 1) := by decide +kernel
theorem dX10_isIn_1 : decode cX10_isIn 1 = .ok (.iload_n 1, 1) := by decide +kernel
theorem dX10_isIn_2 : decode cX10_isIn 2 = .ok (.ishr, 1) := by decide +kernel
theorem dX10_isIn_3 : decode cX10_isIn 3 = .ok (.iconst 1, 1) := by decide +kernel
theorem dX10_isIn_4 : decode cX10_isIn 4 = .ok (.iand, 1) := by decide +kernel
theorem dX10_isIn_5 : decode cX10_isIn 5 = .ok (.iconst 1, 1) := by decide +kernel
theorem dX10_isIn_6 : decode cX10_isIn 6 = .ok (.if_icmp .ne 7, 3) := by decide +kernel
theorem dX10_isIn_9 : decode cX10_isIn 9 = .ok (.iconst 1, 1) := by decide +kernel
theorem dX10_isIn_10 : decode cX10_isIn 10 = .ok (.goto 4, 3) := by decide +kernel
theorem dX10_isIn_13 : decode cX10_isIn 13 = .ok (.iconst 0, 1) := by decide +kernel
theorem dX10_isIn_14 : decode cX10_isIn 14 = .ok (.ireturn, 1) := by decide +kernel
theorem dX10_goesWith_0 : decode cX10_goesWith 0 = .ok (.aload_n 0, 1) := by decide +kernel
theorem dX10_goesWith_1 : decode cX10_goesWith 1 = .ok (.getfield 54, 3) := by decide +kernel
theorem dX10_goesWith_4 : decode cX10_goesWith 4 = .ok (.iload_n 1, 1) := by decide +kernel
theorem dX10_goesWith_5 : decode cX10_goesWith 5 = .ok (.iaload, 1) := by decide +kernel
theorem dX10_goesWith_6 : decode cX10_goesWith 6 = .ok (.iload_n 2, 1) := by decide +kernel
theorem dX10_goesWith_7 : decode cX10_goesWith 7 = .ok (.invokestatic 281, 3) := by decide +kernel
theorem dX10_goesWith_10 : decode cX10_goesWith 10 = .ok (.ifCond .ne 5, 3) := by decide +kernel
theorem dX10_goesWith_13 : decode cX10_goesWith 13 = .ok (.iconst 0, 1) := by decide +kernel
theorem dX10_goesWith_14 : decode cX10_goesWith 14 = .ok (.ireturn, 1) := by decide +kernel
theorem dX10_goesWith_15 : decode cX10_goesWith 15 = .ok (.iconst 0, 1) := by decide +kernel
theorem dX10_goesWith_16 : decode cX10_goesWith 16 = .ok (.istore 4, 2) := by decide +kernel
theorem dX10_goesWith_18 : decode cX10_goesWith 18 = .ok (.iload 4, 2) := by decide +kernel
theorem dX10_goesWith_20 : decode cX10_goesWith 20 = .ok (.iload_n 1, 1) := by decide +kernel
theorem dX10_goesWith_21 : decode cX10_goesWith 21 = .ok (.if_icmp .ge 51, 3) := by decide +kernel
theorem dX10_goesWith_24 : decode cX10_goesWith 24 = .ok (.iload_n 3, 1) := by decide +kernel
theorem dX10_goesWith_25 : decode cX10_goesWith 25 = .ok (.iload 4, 2) := by decide +kernel
theorem dX10_goesWith_27 : decode cX10_goesWith 27 = .ok (.invokestatic 281, 3) := by decide +kernel
theorem dX10_goesWith_30 : decode cX10_goesWith 30 = .ok (.ifCond .eq 36, 3) := by decide +kernel
theorem dX10_goesWith_33 : decode cX10_goesWith 33 = .ok (.aload_n 0, 1) := by decide +kernel
theorem dX10_goesWith_34 : decode cX10_goesWith 34 = .ok (.getfield 63, 3) := by decide +kernel
theorem dX10_goesWith_37 : decode cX10_goesWith 37 = .ok (.bipush 120, 2) := by decide +kernel
theorem dX10_goesWith_39 : decode cX10_goesWith 39 = .ok (.bipush 24, 2) := by decide +kernel
theorem dX10_goesWith_41 : decode cX10_goesWith 41 = .ok (.iload_n 1, 1) := by decide +kernel
theorem dX10_goesWith_42 : decode cX10_goesWith 42 = .ok (.imul, 1) := by decide +kernel
theorem dX10_goesWith_43 : decode cX10_goesWith 43 = .ok (.iload_n 2, 1) := by decide +kernel
theorem dX10_goesWith_44 : decode cX10_goesWith 44 = .ok (.iadd, 1) := by decide +kernel
theorem dX10_goesWith_45 : decode cX10_goesWith 45 = .ok (.imul, 1) := by decide +kernel
theorem dX10_goesWith_46 : decode cX10_goesWith 46 = .ok (.bipush 24, 2) := by decide +kernel
theorem dX10_goesWith_48 : decode cX10_goesWith 48 = .ok (.iload 4, 2) := by decide +kernel
theorem dX10_goesWith_50 : decode cX10_goesWith 50 = .ok (.imul, 1) := by decide +kernel
theorem dX10_goesWith_51 : decode cX10_goesWith 51 = .ok (.iadd, 1) := by decide +kernel
theorem dX10_goesWith_52 : decode cX10_goesWith 52 = .ok (.aload_n 0, 1) := by decide +kernel
theorem dX10_goesWith_53 : decode cX10_goesWith 53 = .ok (.getfield 57, 3) := by decide +kernel
theorem dX10_goesWith_56 : decode cX10_goesWith 56 = .ok (.iload 4, 2) := by decide +kernel
theorem dX10_goesWith_58 : decode cX10_goesWith 58 = .ok (.iaload, 1) := by decide +kernel
theorem dX10_goesWith_59 : decode cX10_goesWith 59 = .ok (.iadd, 1) := by decide +kernel
theorem dX10_goesWith_60 : decode cX10_goesWith 60 = .ok (.baload, 1) := by decide +kernel
theorem dX10_goesWith_61 : decode cX10_goesWith 61 = .ok (.ifCond .ne 5, 3) := by decide +kernel
theorem dX10_goesWith_64 : decode cX10_goesWith 64 = .ok (.iconst 0, 1) := by decide +kernel
theorem dX10_goesWith_65 : decode cX10_goesWith 65 = .ok (.ireturn, 1) := by decide +kernel
theorem dX10_goesWith_66 : decode cX10_goesWith 66 = .ok (.iinc 4 1, 3) := by decide +kernel
theorem dX10_goesWith_69 : decode cX10_goesWith 69 = .ok (.goto (-51), 3) := by decide +kernel
theorem dX10_goesWith_72 : decode cX10_goesWith 72 = .ok (.iconst 1, 1) := by decide +kernel
theorem dX10_goesWith_73 : decode cX10_goesWith 73 = .ok (.ireturn, 1) := by decide +kernel
theorem dX10_plansFrom_0 : decode cX10_plansFrom 0 = .ok (.aload_n 0, 1) := by decide +kernel
theorem dX10_plansFrom_1 : decode cX10_plansFrom 1 = .ok (.getfield 284, 3) := by decide +kernel
theorem dX10_plansFrom_4 : decode cX10_plansFrom 4 = .ok (.iconst (-1), 1) := by decide +kernel
theorem dX10_plansFrom_5 : decode cX10_plansFrom 5 = .ok (.if_icmp .eq 28, 3) := by decide +kernel
theorem dX10_plansFrom_8 : decode cX10_plansFrom 8 = .ok (.iload_n 2, 1) := by decide +kernel
theorem dX10_plansFrom_9 : decode cX10_plansFrom 9 = .ok (.aload_n 0, 1) := by decide +kernel
theorem dX10_plansFrom_10 : decode cX10_plansFrom 10 = .ok (.getfield 284, 3) := by decide +kernel
theorem dX10_plansFrom_13 : decode cX10_plansFrom 13 = .ok (.if_icmp .gt 19, 3) := by decide +kernel
theorem dX10_plansFrom_16 : decode cX10_plansFrom 16 = .ok (.iload_n 2, 1) := by decide +kernel
theorem dX10_plansFrom_17 : decode cX10_plansFrom 17 = .ok (.aload_n 0, 1) := by decide +kernel
theorem dX10_plansFrom_18 : decode cX10_plansFrom 18 = .ok (.getfield 284, 3) := by decide +kernel
theorem dX10_plansFrom_21 : decode cX10_plansFrom 21 = .ok (.if_icmp .ne 12, 3) := by decide +kernel
theorem dX10_plansFrom_24 : decode cX10_plansFrom 24 = .ok (.iload_n 3, 1) := by decide +kernel
theorem dX10_plansFrom_25 : decode cX10_plansFrom 25 = .ok (.aload_n 0, 1) := by decide +kernel
theorem dX10_plansFrom_26 : decode cX10_plansFrom 26 = .ok (.getfield 287, 3) := by decide +kernel
theorem dX10_plansFrom_29 : decode cX10_plansFrom 29 = .ok (.if_icmp .lt 4, 3) := by decide +kernel
theorem dX10_plansFrom_32 : decode cX10_plansFrom 32 = .ok (.return_, 1) := by decide +kernel
theorem dX10_plansFrom_33 : decode cX10_plansFrom 33 = .ok (.iload_n 1, 1) := by decide +kernel
theorem dX10_plansFrom_34 : decode cX10_plansFrom 34 = .ok (.aload_n 0, 1) := by decide +kernel
theorem dX10_plansFrom_35 : decode cX10_plansFrom 35 = .ok (.getfield 278, 3) := by decide +kernel
theorem dX10_plansFrom_38 : decode cX10_plansFrom 38 = .ok (.if_icmp .ne 43, 3) := by decide +kernel
theorem dX10_plansFrom_41 : decode cX10_plansFrom 41 = .ok (.aload_n 0, 1) := by decide +kernel
theorem dX10_plansFrom_42 : decode cX10_plansFrom 42 = .ok (.iload_n 2, 1) := by decide +kernel
theorem dX10_plansFrom_43 : decode cX10_plansFrom 43 = .ok (.putfield 284, 3) := by decide +kernel
theorem dX10_plansFrom_46 : decode cX10_plansFrom 46 = .ok (.aload_n 0, 1) := by decide +kernel
theorem dX10_plansFrom_47 : decode cX10_plansFrom 47 = .ok (.iload_n 3, 1) := by decide +kernel
theorem dX10_plansFrom_48 : decode cX10_plansFrom 48 = .ok (.putfield 287, 3) := by decide +kernel
theorem dX10_plansFrom_51 : decode cX10_plansFrom 51 = .ok (.iconst 0, 1) := by decide +kernel
theorem dX10_plansFrom_52 : decode cX10_plansFrom 52 = .ok (.istore 4, 2) := by decide +kernel
theorem dX10_plansFrom_54 : decode cX10_plansFrom 54 = .ok (.iload 4, 2) := by decide +kernel
theorem dX10_plansFrom_56 : decode cX10_plansFrom 56 = .ok (.iload_n 1, 1) := by decide +kernel
theorem dX10_plansFrom_57 : decode cX10_plansFrom 57 = .ok (.if_icmp .ge 23, 3) := by decide +kernel
theorem dX10_plansFrom_60 : decode cX10_plansFrom 60 = .ok (.aload_n 0, 1) := by decide +kernel
theorem dX10_plansFrom_61 : decode cX10_plansFrom 61 = .ok (.getfield 60, 3) := by decide +kernel
theorem dX10_plansFrom_64 : decode cX10_plansFrom 64 = .ok (.iload 4, 2) := by decide +kernel
theorem dX10_plansFrom_66 : decode cX10_plansFrom 66 = .ok (.aload_n 0, 1) := by decide +kernel
theorem dX10_plansFrom_67 : decode cX10_plansFrom 67 = .ok (.getfield 57, 3) := by decide +kernel
theorem dX10_plansFrom_70 : decode cX10_plansFrom 70 = .ok (.iload 4, 2) := by decide +kernel
theorem dX10_plansFrom_72 : decode cX10_plansFrom 72 = .ok (.iaload, 1) := by decide +kernel
theorem dX10_plansFrom_73 : decode cX10_plansFrom 73 = .ok (.iastore, 1) := by decide +kernel
theorem dX10_plansFrom_74 : decode cX10_plansFrom 74 = .ok (.iinc 4 1, 3) := by decide +kernel
theorem dX10_plansFrom_77 : decode cX10_plansFrom 77 = .ok (.goto (-23), 3) := by decide +kernel
theorem dX10_plansFrom_80 : decode cX10_plansFrom 80 = .ok (.return_, 1) := by decide +kernel
theorem dX10_plansFrom_81 : decode cX10_plansFrom 81 = .ok (.iconst 0, 1) := by decide +kernel
theorem dX10_plansFrom_82 : decode cX10_plansFrom 82 = .ok (.istore 4, 2) := by decide +kernel
theorem dX10_plansFrom_84 : decode cX10_plansFrom 84 = .ok (.iload 4, 2) := by decide +kernel
theorem dX10_plansFrom_86 : decode cX10_plansFrom 86 = .ok (.bipush 24, 2) := by decide +kernel
theorem dX10_plansFrom_88 : decode cX10_plansFrom 88 = .ok (.if_icmp .ge 55, 3) := by decide +kernel
theorem dX10_plansFrom_91 : decode cX10_plansFrom 91 = .ok (.aload_n 0, 1) := by decide +kernel
theorem dX10_plansFrom_92 : decode cX10_plansFrom 92 = .ok (.iload_n 1, 1) := by decide +kernel
theorem dX10_plansFrom_93 : decode cX10_plansFrom 93 = .ok (.iload 4, 2) := by decide +kernel
theorem dX10_plansFrom_95 : decode cX10_plansFrom 95 = .ok (.bipush 31, 2) := by decide +kernel
theorem dX10_plansFrom_97 : decode cX10_plansFrom 97 = .ok (.invokevirtual 290, 3) := by decide +kernel
theorem dX10_plansFrom_100 : decode cX10_plansFrom 100 = .ok (.ifCond .ne 6, 3) := by decide +kernel
theorem dX10_plansFrom_103 : decode cX10_plansFrom 103 = .ok (.goto 34, 3) := by decide +kernel
theorem dX10_plansFrom_106 : decode cX10_plansFrom 106 = .ok (.aload_n 0, 1) := by decide +kernel
theorem dX10_plansFrom_107 : decode cX10_plansFrom 107 = .ok (.getfield 57, 3) := by decide +kernel
theorem dX10_plansFrom_110 : decode cX10_plansFrom 110 = .ok (.iload_n 1, 1) := by decide +kernel
theorem dX10_plansFrom_111 : decode cX10_plansFrom 111 = .ok (.iload 4, 2) := by decide +kernel
theorem dX10_plansFrom_113 : decode cX10_plansFrom 113 = .ok (.iastore, 1) := by decide +kernel
theorem dX10_plansFrom_114 : decode cX10_plansFrom 114 = .ok (.aload_n 0, 1) := by decide +kernel
theorem dX10_plansFrom_115 : decode cX10_plansFrom 115 = .ok (.iload_n 1, 1) := by decide +kernel
theorem dX10_plansFrom_116 : decode cX10_plansFrom 116 = .ok (.iconst 1, 1) := by decide +kernel
theorem dX10_plansFrom_117 : decode cX10_plansFrom 117 = .ok (.iadd, 1) := by decide +kernel
theorem dX10_plansFrom_118 : decode cX10_plansFrom 118 = .ok (.iload 4, 2) := by decide +kernel
theorem dX10_plansFrom_120 : decode cX10_plansFrom 120 = .ok (.iload_n 2, 1) := by decide +kernel
theorem dX10_plansFrom_121 : decode cX10_plansFrom 121 = .ok (.if_icmp .le 8, 3) := by decide +kernel
theorem dX10_plansFrom_124 : decode cX10_plansFrom 124 = .ok (.iload 4, 2) := by decide +kernel
theorem dX10_plansFrom_126 : decode cX10_plansFrom 126 = .ok (.goto 4, 3) := by decide +kernel
theorem dX10_plansFrom_129 : decode cX10_plansFrom 129 = .ok (.iload_n 2, 1) := by decide +kernel
theorem dX10_plansFrom_130 : decode cX10_plansFrom 130 = .ok (.iload_n 3, 1) := by decide +kernel
theorem dX10_plansFrom_131 : decode cX10_plansFrom 131 = .ok (.iload 4, 2) := by decide +kernel
theorem dX10_plansFrom_133 : decode cX10_plansFrom 133 = .ok (.iadd, 1) := by decide +kernel
theorem dX10_plansFrom_134 : decode cX10_plansFrom 134 = .ok (.invokevirtual 293, 3) := by decide +kernel
theorem dX10_plansFrom_137 : decode cX10_plansFrom 137 = .ok (.iinc 4 1, 3) := by decide +kernel
theorem dX10_plansFrom_140 : decode cX10_plansFrom 140 = .ok (.goto (-56), 3) := by decide +kernel
theorem dX10_plansFrom_143 : decode cX10_plansFrom 143 = .ok (.return_, 1) := by decide +kernel
theorem dX10_plan_0 : decode cX10_plan 0 = .ok (.aload_n 0, 1) := by decide +kernel
theorem dX10_plan_1 : decode cX10_plan 1 = .ok (.iconst 0, 1) := by decide +kernel
theorem dX10_plan_2 : decode cX10_plan 2 = .ok (.putfield 1, 3) := by decide +kernel
theorem dX10_plan_5 : decode cX10_plan 5 = .ok (.iload_n 1, 1) := by decide +kernel
theorem dX10_plan_6 : decode cX10_plan 6 = .ok (.i2l, 1) := by decide +kernel
theorem dX10_plan_7 : decode cX10_plan 7 = .ok (.lconst 0, 1) := by decide +kernel
theorem dX10_plan_8 : decode cX10_plan 8 = .ok (.lconst 1, 1) := by decide +kernel
theorem dX10_plan_9 : decode cX10_plan 9 = .ok (.invokestatic 149, 3) := by decide +kernel
theorem dX10_plan_12 : decode cX10_plan 12 = .ok (.ifCond .ne 27, 3) := by decide +kernel
theorem dX10_plan_15 : decode cX10_plan 15 = .ok (.iload_n 1, 1) := by decide +kernel
theorem dX10_plan_16 : decode cX10_plan 16 = .ok (.i2l, 1) := by decide +kernel
theorem dX10_plan_17 : decode cX10_plan 17 = .ok (.ldc2_w 297, 3) := by decide +kernel
theorem dX10_plan_20 : decode cX10_plan 20 = .ok (.bipush 9, 2) := by decide +kernel
theorem dX10_plan_22 : decode cX10_plan 22 = .ok (.aload_n 0, 1) := by decide +kernel
theorem dX10_plan_23 : decode cX10_plan 23 = .ok (.getfield 13, 3) := by decide +kernel
theorem dX10_plan_26 : decode cX10_plan 26 = .ok (.iconst 0, 1) := by decide +kernel
theorem dX10_plan_27 : decode cX10_plan 27 = .ok (.iaload, 1) := by decide +kernel
theorem dX10_plan_28 : decode cX10_plan 28 = .ok (.iadd, 1) := by decide +kernel
theorem dX10_plan_29 : decode cX10_plan 29 = .ok (.i2l, 1) := by decide +kernel
theorem dX10_plan_30 : decode cX10_plan 30 = .ok (.invokestatic 149, 3) := by decide +kernel
theorem dX10_plan_33 : decode cX10_plan 33 = .ok (.ifCond .ne 6, 3) := by decide +kernel
theorem dX10_plan_36 : decode cX10_plan 36 = .ok (.bipush (-2), 2) := by decide +kernel
theorem dX10_plan_38 : decode cX10_plan 38 = .ok (.ireturn, 1) := by decide +kernel
theorem dX10_plan_39 : decode cX10_plan 39 = .ok (.aload_n 0, 1) := by decide +kernel
theorem dX10_plan_40 : decode cX10_plan 40 = .ok (.invokevirtual 299, 3) := by decide +kernel
theorem dX10_plan_43 : decode cX10_plan 43 = .ok (.ifCond .ne 6, 3) := by decide +kernel
theorem dX10_plan_46 : decode cX10_plan 46 = .ok (.bipush (-4), 2) := by decide +kernel
theorem dX10_plan_48 : decode cX10_plan 48 = .ok (.ireturn, 1) := by decide +kernel
theorem dX10_plan_49 : decode cX10_plan 49 = .ok (.aload_n 0, 1) := by decide +kernel
theorem dX10_plan_50 : decode cX10_plan 50 = .ok (.iconst (-1), 1) := by decide +kernel
theorem dX10_plan_51 : decode cX10_plan 51 = .ok (.putfield 284, 3) := by decide +kernel
theorem dX10_plan_54 : decode cX10_plan 54 = .ok (.aload_n 0, 1) := by decide +kernel
theorem dX10_plan_55 : decode cX10_plan 55 = .ok (.iconst 0, 1) := by decide +kernel
theorem dX10_plan_56 : decode cX10_plan 56 = .ok (.iconst 0, 1) := by decide +kernel
theorem dX10_plan_57 : decode cX10_plan 57 = .ok (.iconst 0, 1) := by decide +kernel
theorem dX10_plan_58 : decode cX10_plan 58 = .ok (.invokevirtual 293, 3) := by decide +kernel
theorem dX10_plan_61 : decode cX10_plan 61 = .ok (.aload_n 0, 1) := by decide +kernel
theorem dX10_plan_62 : decode cX10_plan 62 = .ok (.getfield 284, 3) := by decide +kernel
theorem dX10_plan_65 : decode cX10_plan 65 = .ok (.iconst (-1), 1) := by decide +kernel
theorem dX10_plan_66 : decode cX10_plan 66 = .ok (.if_icmp .eq 7, 3) := by decide +kernel
theorem dX10_plan_69 : decode cX10_plan 69 = .ok (.iload_n 1, 1) := by decide +kernel
theorem dX10_plan_70 : decode cX10_plan 70 = .ok (.ifCond .ne 8, 3) := by decide +kernel
theorem dX10_plan_73 : decode cX10_plan 73 = .ok (.aload_n 0, 1) := by decide +kernel
theorem dX10_plan_74 : decode cX10_plan 74 = .ok (.getfield 284, 3) := by decide +kernel
theorem dX10_plan_77 : decode cX10_plan 77 = .ok (.ireturn, 1) := by decide +kernel
theorem dX10_plan_78 : decode cX10_plan 78 = .ok (.iload_n 1, 1) := by decide +kernel
theorem dX10_plan_79 : decode cX10_plan 79 = .ok (.iconst 1, 1) := by decide +kernel
theorem dX10_plan_80 : decode cX10_plan 80 = .ok (.if_icmp .ne 8, 3) := by decide +kernel
theorem dX10_plan_83 : decode cX10_plan 83 = .ok (.aload_n 0, 1) := by decide +kernel
theorem dX10_plan_84 : decode cX10_plan 84 = .ok (.getfield 287, 3) := by decide +kernel
theorem dX10_plan_87 : decode cX10_plan 87 = .ok (.ireturn, 1) := by decide +kernel
theorem dX10_plan_88 : decode cX10_plan 88 = .ok (.iconst 0, 1) := by decide +kernel
theorem dX10_plan_89 : decode cX10_plan 89 = .ok (.istore_n 2, 1) := by decide +kernel
theorem dX10_plan_90 : decode cX10_plan 90 = .ok (.iload_n 2, 1) := by decide +kernel
theorem dX10_plan_91 : decode cX10_plan 91 = .ok (.aload_n 0, 1) := by decide +kernel
theorem dX10_plan_92 : decode cX10_plan 92 = .ok (.getfield 278, 3) := by decide +kernel
theorem dX10_plan_95 : decode cX10_plan 95 = .ok (.if_icmp .ge 29, 3) := by decide +kernel
theorem dX10_plan_98 : decode cX10_plan 98 = .ok (.aload_n 0, 1) := by decide +kernel
theorem dX10_plan_99 : decode cX10_plan 99 = .ok (.getfield 51, 3) := by decide +kernel
theorem dX10_plan_102 : decode cX10_plan 102 = .ok (.iload_n 2, 1) := by decide +kernel
theorem dX10_plan_103 : decode cX10_plan 103 = .ok (.iaload, 1) := by decide +kernel
theorem dX10_plan_104 : decode cX10_plan 104 = .ok (.iload_n 1, 1) := by decide +kernel
theorem dX10_plan_105 : decode cX10_plan 105 = .ok (.bipush 10, 2) := by decide +kernel
theorem dX10_plan_107 : decode cX10_plan 107 = .ok (.isub, 1) := by decide +kernel
theorem dX10_plan_108 : decode cX10_plan 108 = .ok (.if_icmp .ne 10, 3) := by decide +kernel
theorem dX10_plan_111 : decode cX10_plan 111 = .ok (.aload_n 0, 1) := by decide +kernel
theorem dX10_plan_112 : decode cX10_plan 112 = .ok (.getfield 60, 3) := by decide +kernel
theorem dX10_plan_115 : decode cX10_plan 115 = .ok (.iload_n 2, 1) := by decide +kernel
theorem dX10_plan_116 : decode cX10_plan 116 = .ok (.iaload, 1) := by decide +kernel
theorem dX10_plan_117 : decode cX10_plan 117 = .ok (.ireturn, 1) := by decide +kernel
theorem dX10_plan_118 : decode cX10_plan 118 = .ok (.iinc 2 1, 3) := by decide +kernel
theorem dX10_plan_121 : decode cX10_plan 121 = .ok (.goto (-31), 3) := by decide +kernel
theorem dX10_plan_124 : decode cX10_plan 124 = .ok (.aload_n 0, 1) := by decide +kernel
theorem dX10_plan_125 : decode cX10_plan 125 = .ok (.iload_n 1, 1) := by decide +kernel
theorem dX10_plan_126 : decode cX10_plan 126 = .ok (.bipush 10, 2) := by decide +kernel
theorem dX10_plan_128 : decode cX10_plan 128 = .ok (.isub, 1) := by decide +kernel
theorem dX10_plan_129 : decode cX10_plan 129 = .ok (.invokevirtual 179, 3) := by decide +kernel
theorem dX10_plan_132 : decode cX10_plan 132 = .ok (.ireturn, 1) := by decide +kernel
theorem dX10_waysFrom_0 : decode cX10_waysFrom 0 = .ok (.iload_n 1, 1) := by decide +kernel
theorem dX10_waysFrom_1 : decode cX10_waysFrom 1 = .ok (.aload_n 0, 1) := by decide +kernel
theorem dX10_waysFrom_2 : decode cX10_waysFrom 2 = .ok (.getfield 278, 3) := by decide +kernel
theorem dX10_waysFrom_5 : decode cX10_waysFrom 5 = .ok (.if_icmp .ne 5, 3) := by decide +kernel
theorem dX10_waysFrom_8 : decode cX10_waysFrom 8 = .ok (.iconst 1, 1) := by decide +kernel
theorem dX10_waysFrom_9 : decode cX10_waysFrom 9 = .ok (.ireturn, 1) := by decide +kernel
theorem dX10_waysFrom_10 : decode cX10_waysFrom 10 = .ok (.iload_n 2, 1) := by decide +kernel
theorem dX10_waysFrom_11 : decode cX10_waysFrom 11 = .ok (.iload_n 1, 1) := by decide +kernel
theorem dX10_waysFrom_12 : decode cX10_waysFrom 12 = .ok (.invokestatic 281, 3) := by decide +kernel
theorem dX10_waysFrom_15 : decode cX10_waysFrom 15 = .ok (.ifCond .ne 15, 3) := by decide +kernel
theorem dX10_waysFrom_18 : decode cX10_waysFrom 18 = .ok (.aload_n 0, 1) := by decide +kernel
theorem dX10_waysFrom_19 : decode cX10_waysFrom 19 = .ok (.iload_n 1, 1) := by decide +kernel
theorem dX10_waysFrom_20 : decode cX10_waysFrom 20 = .ok (.iconst 1, 1) := by decide +kernel
theorem dX10_waysFrom_21 : decode cX10_waysFrom 21 = .ok (.iadd, 1) := by decide +kernel
theorem dX10_waysFrom_22 : decode cX10_waysFrom 22 = .ok (.iload_n 2, 1) := by decide +kernel
theorem dX10_waysFrom_23 : decode cX10_waysFrom 23 = .ok (.iload_n 3, 1) := by decide +kernel
theorem dX10_waysFrom_24 : decode cX10_waysFrom 24 = .ok (.iload 4, 2) := by decide +kernel
theorem dX10_waysFrom_26 : decode cX10_waysFrom 26 = .ok (.invokevirtual 303, 3) := by decide +kernel
theorem dX10_waysFrom_29 : decode cX10_waysFrom 29 = .ok (.ireturn, 1) := by decide +kernel
theorem dX10_waysFrom_30 : decode cX10_waysFrom 30 = .ok (.iconst 0, 1) := by decide +kernel
theorem dX10_waysFrom_31 : decode cX10_waysFrom 31 = .ok (.istore 5, 2) := by decide +kernel
theorem dX10_waysFrom_33 : decode cX10_waysFrom 33 = .ok (.iconst 0, 1) := by decide +kernel
theorem dX10_waysFrom_34 : decode cX10_waysFrom 34 = .ok (.istore 6, 2) := by decide +kernel
theorem dX10_waysFrom_36 : decode cX10_waysFrom 36 = .ok (.iload 6, 2) := by decide +kernel
theorem dX10_waysFrom_38 : decode cX10_waysFrom 38 = .ok (.iload_n 3, 1) := by decide +kernel
theorem dX10_waysFrom_39 : decode cX10_waysFrom 39 = .ok (.if_icmp .gt 57, 3) := by decide +kernel
theorem dX10_waysFrom_42 : decode cX10_waysFrom 42 = .ok (.iload 5, 2) := by decide +kernel
theorem dX10_waysFrom_44 : decode cX10_waysFrom 44 = .ok (.iload 4, 2) := by decide +kernel
theorem dX10_waysFrom_46 : decode cX10_waysFrom 46 = .ok (.if_icmp .ge 50, 3) := by decide +kernel
theorem dX10_waysFrom_49 : decode cX10_waysFrom 49 = .ok (.aload_n 0, 1) := by decide +kernel
theorem dX10_waysFrom_50 : decode cX10_waysFrom 50 = .ok (.iload_n 1, 1) := by decide +kernel
theorem dX10_waysFrom_51 : decode cX10_waysFrom 51 = .ok (.iload 6, 2) := by decide +kernel
theorem dX10_waysFrom_53 : decode cX10_waysFrom 53 = .ok (.iload_n 2, 1) := by decide +kernel
theorem dX10_waysFrom_54 : decode cX10_waysFrom 54 = .ok (.invokevirtual 290, 3) := by decide +kernel
theorem dX10_waysFrom_57 : decode cX10_waysFrom 57 = .ok (.ifCond .ne 6, 3) := by decide +kernel
theorem dX10_waysFrom_60 : decode cX10_waysFrom 60 = .ok (.goto 30, 3) := by decide +kernel
theorem dX10_waysFrom_63 : decode cX10_waysFrom 63 = .ok (.aload_n 0, 1) := by decide +kernel
theorem dX10_waysFrom_64 : decode cX10_waysFrom 64 = .ok (.getfield 57, 3) := by decide +kernel
theorem dX10_waysFrom_67 : decode cX10_waysFrom 67 = .ok (.iload_n 1, 1) := by decide +kernel
theorem dX10_waysFrom_68 : decode cX10_waysFrom 68 = .ok (.iload 6, 2) := by decide +kernel
theorem dX10_waysFrom_70 : decode cX10_waysFrom 70 = .ok (.iastore, 1) := by decide +kernel
theorem dX10_waysFrom_71 : decode cX10_waysFrom 71 = .ok (.iload 5, 2) := by decide +kernel
theorem dX10_waysFrom_73 : decode cX10_waysFrom 73 = .ok (.aload_n 0, 1) := by decide +kernel
theorem dX10_waysFrom_74 : decode cX10_waysFrom 74 = .ok (.iload_n 1, 1) := by decide +kernel
theorem dX10_waysFrom_75 : decode cX10_waysFrom 75 = .ok (.iconst 1, 1) := by decide +kernel
theorem dX10_waysFrom_76 : decode cX10_waysFrom 76 = .ok (.iadd, 1) := by decide +kernel
theorem dX10_waysFrom_77 : decode cX10_waysFrom 77 = .ok (.iload_n 2, 1) := by decide +kernel
theorem dX10_waysFrom_78 : decode cX10_waysFrom 78 = .ok (.iload_n 3, 1) := by decide +kernel
theorem dX10_waysFrom_79 : decode cX10_waysFrom 79 = .ok (.iload 4, 2) := by decide +kernel
theorem dX10_waysFrom_81 : decode cX10_waysFrom 81 = .ok (.iload 5, 2) := by decide +kernel
theorem dX10_waysFrom_83 : decode cX10_waysFrom 83 = .ok (.isub, 1) := by decide +kernel
theorem dX10_waysFrom_84 : decode cX10_waysFrom 84 = .ok (.invokevirtual 303, 3) := by decide +kernel
theorem dX10_waysFrom_87 : decode cX10_waysFrom 87 = .ok (.iadd, 1) := by decide +kernel
theorem dX10_waysFrom_88 : decode cX10_waysFrom 88 = .ok (.istore 5, 2) := by decide +kernel
theorem dX10_waysFrom_90 : decode cX10_waysFrom 90 = .ok (.iinc 6 1, 3) := by decide +kernel
theorem dX10_waysFrom_93 : decode cX10_waysFrom 93 = .ok (.goto (-57), 3) := by decide +kernel
theorem dX10_waysFrom_96 : decode cX10_waysFrom 96 = .ok (.iload 5, 2) := by decide +kernel
theorem dX10_waysFrom_98 : decode cX10_waysFrom 98 = .ok (.ireturn, 1) := by decide +kernel
theorem dX10_plans_0 : decode cX10_plans 0 = .ok (.aload_n 0, 1) := by decide +kernel
theorem dX10_plans_1 : decode cX10_plans 1 = .ok (.iconst 0, 1) := by decide +kernel
theorem dX10_plans_2 : decode cX10_plans 2 = .ok (.putfield 1, 3) := by decide +kernel
theorem dX10_plans_5 : decode cX10_plans 5 = .ok (.aload_n 0, 1) := by decide +kernel
theorem dX10_plans_6 : decode cX10_plans 6 = .ok (.invokevirtual 299, 3) := by decide +kernel
theorem dX10_plans_9 : decode cX10_plans 9 = .ok (.ifCond .eq 24, 3) := by decide +kernel
theorem dX10_plans_12 : decode cX10_plans 12 = .ok (.aload_n 0, 1) := by decide +kernel
theorem dX10_plans_13 : decode cX10_plans 13 = .ok (.iconst 0, 1) := by decide +kernel
theorem dX10_plans_14 : decode cX10_plans 14 = .ok (.iconst 1, 1) := by decide +kernel
theorem dX10_plans_15 : decode cX10_plans 15 = .ok (.aload_n 0, 1) := by decide +kernel
theorem dX10_plans_16 : decode cX10_plans 16 = .ok (.getfield 278, 3) := by decide +kernel
theorem dX10_plans_19 : decode cX10_plans 19 = .ok (.ishl, 1) := by decide +kernel
theorem dX10_plans_20 : decode cX10_plans 20 = .ok (.iconst 1, 1) := by decide +kernel
theorem dX10_plans_21 : decode cX10_plans 21 = .ok (.isub, 1) := by decide +kernel
theorem dX10_plans_22 : decode cX10_plans 22 = .ok (.bipush 23, 2) := by decide +kernel
theorem dX10_plans_24 : decode cX10_plans 24 = .ok (.ldc_w 307, 3) := by decide +kernel
theorem dX10_plans_27 : decode cX10_plans 27 = .ok (.invokevirtual 303, 3) := by decide +kernel
theorem dX10_plans_30 : decode cX10_plans 30 = .ok (.goto 5, 3) := by decide +kernel
theorem dX10_plans_33 : decode cX10_plans 33 = .ok (.bipush (-4), 2) := by decide +kernel
theorem dX10_plans_35 : decode cX10_plans 35 = .ok (.ireturn, 1) := by decide +kernel
theorem dX10_bitsOf_0 : decode cX10_bitsOf 0 = .ok (.iconst 0, 1) := by decide +kernel
theorem dX10_bitsOf_1 : decode cX10_bitsOf 1 = .ok (.istore_n 1, 1) := by decide +kernel
theorem dX10_bitsOf_2 : decode cX10_bitsOf 2 = .ok (.iconst 0, 1) := by decide +kernel
theorem dX10_bitsOf_3 : decode cX10_bitsOf 3 = .ok (.istore_n 2, 1) := by decide +kernel
theorem dX10_bitsOf_4 : decode cX10_bitsOf 4 = .ok (.iload_n 2, 1) := by decide +kernel
theorem dX10_bitsOf_5 : decode cX10_bitsOf 5 = .ok (.bipush 10, 2) := by decide +kernel
theorem dX10_bitsOf_7 : decode cX10_bitsOf 7 = .ok (.if_icmp .ge 25, 3) := by decide +kernel
theorem dX10_bitsOf_10 : decode cX10_bitsOf 10 = .ok (.iload_n 1, 1) := by decide +kernel
theorem dX10_bitsOf_11 : decode cX10_bitsOf 11 = .ok (.iload_n 0, 1) := by decide +kernel
theorem dX10_bitsOf_12 : decode cX10_bitsOf 12 = .ok (.iload_n 2, 1) := by decide +kernel
theorem dX10_bitsOf_13 : decode cX10_bitsOf 13 = .ok (.invokestatic 281, 3) := by decide +kernel
theorem dX10_bitsOf_16 : decode cX10_bitsOf 16 = .ok (.ifCond .eq 7, 3) := by decide +kernel
theorem dX10_bitsOf_19 : decode cX10_bitsOf 19 = .ok (.iconst 1, 1) := by decide +kernel
theorem dX10_bitsOf_20 : decode cX10_bitsOf 20 = .ok (.goto 4, 3) := by decide +kernel
theorem dX10_bitsOf_23 : decode cX10_bitsOf 23 = .ok (.iconst 0, 1) := by decide +kernel
theorem dX10_bitsOf_24 : decode cX10_bitsOf 24 = .ok (.iadd, 1) := by decide +kernel
theorem dX10_bitsOf_25 : decode cX10_bitsOf 25 = .ok (.istore_n 1, 1) := by decide +kernel
theorem dX10_bitsOf_26 : decode cX10_bitsOf 26 = .ok (.iinc 2 1, 3) := by decide +kernel
theorem dX10_bitsOf_29 : decode cX10_bitsOf 29 = .ok (.goto (-25), 3) := by decide +kernel
theorem dX10_bitsOf_32 : decode cX10_bitsOf 32 = .ok (.iload_n 1, 1) := by decide +kernel
theorem dX10_bitsOf_33 : decode cX10_bitsOf 33 = .ok (.ireturn, 1) := by decide +kernel
theorem dX10_asChimneys_0 : decode cX10_asChimneys 0 = .ok (.iconst 0, 1) := by decide +kernel
theorem dX10_asChimneys_1 : decode cX10_asChimneys 1 = .ok (.istore_n 2, 1) := by decide +kernel
theorem dX10_asChimneys_2 : decode cX10_asChimneys 2 = .ok (.iconst 0, 1) := by decide +kernel
theorem dX10_asChimneys_3 : decode cX10_asChimneys 3 = .ok (.istore_n 3, 1) := by decide +kernel
theorem dX10_asChimneys_4 : decode cX10_asChimneys 4 = .ok (.iload_n 3, 1) := by decide +kernel
theorem dX10_asChimneys_5 : decode cX10_asChimneys 5 = .ok (.aload_n 0, 1) := by decide +kernel
theorem dX10_asChimneys_6 : decode cX10_asChimneys 6 = .ok (.getfield 278, 3) := by decide +kernel
theorem dX10_asChimneys_9 : decode cX10_asChimneys 9 = .ok (.if_icmp .ge 32, 3) := by decide +kernel
theorem dX10_asChimneys_12 : decode cX10_asChimneys 12 = .ok (.iload_n 2, 1) := by decide +kernel
theorem dX10_asChimneys_13 : decode cX10_asChimneys 13 = .ok (.iload_n 1, 1) := by decide +kernel
theorem dX10_asChimneys_14 : decode cX10_asChimneys 14 = .ok (.iload_n 3, 1) := by decide +kernel
theorem dX10_asChimneys_15 : decode cX10_asChimneys 15 = .ok (.invokestatic 281, 3) := by decide +kernel
theorem dX10_asChimneys_18 : decode cX10_asChimneys 18 = .ok (.ifCond .eq 14, 3) := by decide +kernel
theorem dX10_asChimneys_21 : decode cX10_asChimneys 21 = .ok (.iconst 1, 1) := by decide +kernel
theorem dX10_asChimneys_22 : decode cX10_asChimneys 22 = .ok (.aload_n 0, 1) := by decide +kernel
theorem dX10_asChimneys_23 : decode cX10_asChimneys 23 = .ok (.getfield 51, 3) := by decide +kernel
theorem dX10_asChimneys_26 : decode cX10_asChimneys 26 = .ok (.iload_n 3, 1) := by decide +kernel
theorem dX10_asChimneys_27 : decode cX10_asChimneys 27 = .ok (.iaload, 1) := by decide +kernel
theorem dX10_asChimneys_28 : decode cX10_asChimneys 28 = .ok (.ishl, 1) := by decide +kernel
theorem dX10_asChimneys_29 : decode cX10_asChimneys 29 = .ok (.goto 4, 3) := by decide +kernel
theorem dX10_asChimneys_32 : decode cX10_asChimneys 32 = .ok (.iconst 0, 1) := by decide +kernel
theorem dX10_asChimneys_33 : decode cX10_asChimneys 33 = .ok (.ior, 1) := by decide +kernel
theorem dX10_asChimneys_34 : decode cX10_asChimneys 34 = .ok (.istore_n 2, 1) := by decide +kernel
theorem dX10_asChimneys_35 : decode cX10_asChimneys 35 = .ok (.iinc 3 1, 3) := by decide +kernel
theorem dX10_asChimneys_38 : decode cX10_asChimneys 38 = .ok (.goto (-34), 3) := by decide +kernel
theorem dX10_asChimneys_41 : decode cX10_asChimneys 41 = .ok (.iload_n 2, 1) := by decide +kernel
theorem dX10_asChimneys_42 : decode cX10_asChimneys 42 = .ok (.ireturn, 1) := by decide +kernel
theorem dX10_shut_0 : decode cX10_shut 0 = .ok (.aload_n 0, 1) := by decide +kernel
theorem dX10_shut_1 : decode cX10_shut 1 = .ok (.iconst 0, 1) := by decide +kernel
theorem dX10_shut_2 : decode cX10_shut 2 = .ok (.putfield 1, 3) := by decide +kernel
theorem dX10_shut_5 : decode cX10_shut 5 = .ok (.aload_n 0, 1) := by decide +kernel
theorem dX10_shut_6 : decode cX10_shut 6 = .ok (.invokevirtual 299, 3) := by decide +kernel
theorem dX10_shut_9 : decode cX10_shut 9 = .ok (.ifCond .ne 6, 3) := by decide +kernel
theorem dX10_shut_12 : decode cX10_shut 12 = .ok (.bipush (-4), 2) := by decide +kernel
theorem dX10_shut_14 : decode cX10_shut 14 = .ok (.ireturn, 1) := by decide +kernel
theorem dX10_shut_15 : decode cX10_shut 15 = .ok (.iconst (-1), 1) := by decide +kernel
theorem dX10_shut_16 : decode cX10_shut 16 = .ok (.istore_n 1, 1) := by decide +kernel
theorem dX10_shut_17 : decode cX10_shut 17 = .ok (.iconst 1, 1) := by decide +kernel
theorem dX10_shut_18 : decode cX10_shut 18 = .ok (.istore_n 2, 1) := by decide +kernel
theorem dX10_shut_19 : decode cX10_shut 19 = .ok (.iload_n 2, 1) := by decide +kernel
theorem dX10_shut_20 : decode cX10_shut 20 = .ok (.iconst 1, 1) := by decide +kernel
theorem dX10_shut_21 : decode cX10_shut 21 = .ok (.aload_n 0, 1) := by decide +kernel
theorem dX10_shut_22 : decode cX10_shut 22 = .ok (.getfield 278, 3) := by decide +kernel
theorem dX10_shut_25 : decode cX10_shut 25 = .ok (.ishl, 1) := by decide +kernel
theorem dX10_shut_26 : decode cX10_shut 26 = .ok (.if_icmp .ge 39, 3) := by decide +kernel
theorem dX10_shut_29 : decode cX10_shut 29 = .ok (.iload_n 1, 1) := by decide +kernel
theorem dX10_shut_30 : decode cX10_shut 30 = .ok (.iconst (-1), 1) := by decide +kernel
theorem dX10_shut_31 : decode cX10_shut 31 = .ok (.if_icmp .eq 14, 3) := by decide +kernel
theorem dX10_shut_34 : decode cX10_shut 34 = .ok (.iload_n 2, 1) := by decide +kernel
theorem dX10_shut_35 : decode cX10_shut 35 = .ok (.invokestatic 308, 3) := by decide +kernel
theorem dX10_shut_38 : decode cX10_shut 38 = .ok (.iload_n 1, 1) := by decide +kernel
theorem dX10_shut_39 : decode cX10_shut 39 = .ok (.invokestatic 308, 3) := by decide +kernel
theorem dX10_shut_42 : decode cX10_shut 42 = .ok (.if_icmp .ge 17, 3) := by decide +kernel
theorem dX10_shut_45 : decode cX10_shut 45 = .ok (.aload_n 0, 1) := by decide +kernel
theorem dX10_shut_46 : decode cX10_shut 46 = .ok (.iconst 0, 1) := by decide +kernel
theorem dX10_shut_47 : decode cX10_shut 47 = .ok (.iload_n 2, 1) := by decide +kernel
theorem dX10_shut_48 : decode cX10_shut 48 = .ok (.bipush 23, 2) := by decide +kernel
theorem dX10_shut_50 : decode cX10_shut 50 = .ok (.iconst 1, 1) := by decide +kernel
theorem dX10_shut_51 : decode cX10_shut 51 = .ok (.invokevirtual 303, 3) := by decide +kernel
theorem dX10_shut_54 : decode cX10_shut 54 = .ok (.ifCond .ne 5, 3) := by decide +kernel
theorem dX10_shut_57 : decode cX10_shut 57 = .ok (.iload_n 2, 1) := by decide +kernel
theorem dX10_shut_58 : decode cX10_shut 58 = .ok (.istore_n 1, 1) := by decide +kernel
theorem dX10_shut_59 : decode cX10_shut 59 = .ok (.iinc 2 1, 3) := by decide +kernel
theorem dX10_shut_62 : decode cX10_shut 62 = .ok (.goto (-43), 3) := by decide +kernel
theorem dX10_shut_65 : decode cX10_shut 65 = .ok (.iload_n 1, 1) := by decide +kernel
theorem dX10_shut_66 : decode cX10_shut 66 = .ok (.iconst (-1), 1) := by decide +kernel
theorem dX10_shut_67 : decode cX10_shut 67 = .ok (.if_icmp .ne 7, 3) := by decide +kernel
theorem dX10_shut_70 : decode cX10_shut 70 = .ok (.iconst 0, 1) := by decide +kernel
theorem dX10_shut_71 : decode cX10_shut 71 = .ok (.goto 8, 3) := by decide +kernel
theorem dX10_shut_74 : decode cX10_shut 74 = .ok (.aload_n 0, 1) := by decide +kernel
theorem dX10_shut_75 : decode cX10_shut 75 = .ok (.iload_n 1, 1) := by decide +kernel
theorem dX10_shut_76 : decode cX10_shut 76 = .ok (.invokevirtual 311, 3) := by decide +kernel
theorem dX10_shut_79 : decode cX10_shut 79 = .ok (.ireturn, 1) := by decide +kernel
theorem dX10_most_0 : decode cX10_most 0 = .ok (.aload_n 0, 1) := by decide +kernel
theorem dX10_most_1 : decode cX10_most 1 = .ok (.iconst 0, 1) := by decide +kernel
theorem dX10_most_2 : decode cX10_most 2 = .ok (.putfield 1, 3) := by decide +kernel
theorem dX10_most_5 : decode cX10_most 5 = .ok (.iload_n 2, 1) := by decide +kernel
theorem dX10_most_6 : decode cX10_most 6 = .ok (.i2l, 1) := by decide +kernel
theorem dX10_most_7 : decode cX10_most 7 = .ok (.lconst 0, 1) := by decide +kernel
theorem dX10_most_8 : decode cX10_most 8 = .ok (.lconst 1, 1) := by decide +kernel
theorem dX10_most_9 : decode cX10_most 9 = .ok (.invokestatic 149, 3) := by decide +kernel
theorem dX10_most_12 : decode cX10_most 12 = .ok (.ifCond .ne 6, 3) := by decide +kernel
theorem dX10_most_15 : decode cX10_most 15 = .ok (.bipush (-2), 2) := by decide +kernel
theorem dX10_most_17 : decode cX10_most 17 = .ok (.ireturn, 1) := by decide +kernel
theorem dX10_most_18 : decode cX10_most 18 = .ok (.iload_n 1, 1) := by decide +kernel
theorem dX10_most_19 : decode cX10_most 19 = .ok (.i2l, 1) := by decide +kernel
theorem dX10_most_20 : decode cX10_most 20 = .ok (.lconst 0, 1) := by decide +kernel
theorem dX10_most_21 : decode cX10_most 21 = .ok (.ldc2_w 224, 3) := by decide +kernel
theorem dX10_most_24 : decode cX10_most 24 = .ok (.invokestatic 149, 3) := by decide +kernel
theorem dX10_most_27 : decode cX10_most 27 = .ok (.ifCond .ne 6, 3) := by decide +kernel
theorem dX10_most_30 : decode cX10_most 30 = .ok (.bipush (-3), 2) := by decide +kernel
theorem dX10_most_32 : decode cX10_most 32 = .ok (.ireturn, 1) := by decide +kernel
theorem dX10_most_33 : decode cX10_most 33 = .ok (.aload_n 0, 1) := by decide +kernel
theorem dX10_most_34 : decode cX10_most 34 = .ok (.invokevirtual 299, 3) := by decide +kernel
theorem dX10_most_37 : decode cX10_most 37 = .ok (.ifCond .ne 6, 3) := by decide +kernel
theorem dX10_most_40 : decode cX10_most 40 = .ok (.bipush (-4), 2) := by decide +kernel
theorem dX10_most_42 : decode cX10_most 42 = .ok (.ireturn, 1) := by decide +kernel
theorem dX10_most_43 : decode cX10_most 43 = .ok (.iconst 0, 1) := by decide +kernel
theorem dX10_most_44 : decode cX10_most 44 = .ok (.istore_n 3, 1) := by decide +kernel
theorem dX10_most_45 : decode cX10_most 45 = .ok (.iconst 1, 1) := by decide +kernel
theorem dX10_most_46 : decode cX10_most 46 = .ok (.istore 4, 2) := by decide +kernel
theorem dX10_most_48 : decode cX10_most 48 = .ok (.iload 4, 2) := by decide +kernel
theorem dX10_most_50 : decode cX10_most 50 = .ok (.iconst 1, 1) := by decide +kernel
theorem dX10_most_51 : decode cX10_most 51 = .ok (.aload_n 0, 1) := by decide +kernel
theorem dX10_most_52 : decode cX10_most 52 = .ok (.getfield 278, 3) := by decide +kernel
theorem dX10_most_55 : decode cX10_most 55 = .ok (.ishl, 1) := by decide +kernel
theorem dX10_most_56 : decode cX10_most 56 = .ok (.if_icmp .ge 36, 3) := by decide +kernel
theorem dX10_most_59 : decode cX10_most 59 = .ok (.iload 4, 2) := by decide +kernel
theorem dX10_most_61 : decode cX10_most 61 = .ok (.invokestatic 308, 3) := by decide +kernel
theorem dX10_most_64 : decode cX10_most 64 = .ok (.iload_n 3, 1) := by decide +kernel
theorem dX10_most_65 : decode cX10_most 65 = .ok (.invokestatic 308, 3) := by decide +kernel
theorem dX10_most_68 : decode cX10_most 68 = .ok (.if_icmp .le 18, 3) := by decide +kernel
theorem dX10_most_71 : decode cX10_most 71 = .ok (.aload_n 0, 1) := by decide +kernel
theorem dX10_most_72 : decode cX10_most 72 = .ok (.iconst 0, 1) := by decide +kernel
theorem dX10_most_73 : decode cX10_most 73 = .ok (.iload 4, 2) := by decide +kernel
theorem dX10_most_75 : decode cX10_most 75 = .ok (.iload_n 1, 1) := by decide +kernel
theorem dX10_most_76 : decode cX10_most 76 = .ok (.iconst 1, 1) := by decide +kernel
theorem dX10_most_77 : decode cX10_most 77 = .ok (.invokevirtual 303, 3) := by decide +kernel
theorem dX10_most_80 : decode cX10_most 80 = .ok (.ifCond .le 6, 3) := by decide +kernel
theorem dX10_most_83 : decode cX10_most 83 = .ok (.iload 4, 2) := by decide +kernel
theorem dX10_most_85 : decode cX10_most 85 = .ok (.istore_n 3, 1) := by decide +kernel
theorem dX10_most_86 : decode cX10_most 86 = .ok (.iinc 4 1, 3) := by decide +kernel
theorem dX10_most_89 : decode cX10_most 89 = .ok (.goto (-41), 3) := by decide +kernel
theorem dX10_most_92 : decode cX10_most 92 = .ok (.iload_n 2, 1) := by decide +kernel
theorem dX10_most_93 : decode cX10_most 93 = .ok (.ifCond .ne 10, 3) := by decide +kernel
theorem dX10_most_96 : decode cX10_most 96 = .ok (.iload_n 3, 1) := by decide +kernel
theorem dX10_most_97 : decode cX10_most 97 = .ok (.invokestatic 308, 3) := by decide +kernel
theorem dX10_most_100 : decode cX10_most 100 = .ok (.goto 8, 3) := by decide +kernel
theorem dX10_most_103 : decode cX10_most 103 = .ok (.aload_n 0, 1) := by decide +kernel
theorem dX10_most_104 : decode cX10_most 104 = .ok (.iload_n 3, 1) := by decide +kernel
theorem dX10_most_105 : decode cX10_most 105 = .ok (.invokevirtual 311, 3) := by decide +kernel
theorem dX10_most_108 : decode cX10_most 108 = .ok (.ireturn, 1) := by decide +kernel
theorem dX10_priceOf_0 : decode cX10_priceOf 0 = .ok (.aload_n 0, 1) := by decide +kernel
theorem dX10_priceOf_1 : decode cX10_priceOf 1 = .ok (.invokevirtual 314, 3) := by decide +kernel
theorem dX10_priceOf_4 : decode cX10_priceOf 4 = .ok (.istore_n 3, 1) := by decide +kernel
theorem dX10_priceOf_5 : decode cX10_priceOf 5 = .ok (.aload_n 0, 1) := by decide +kernel
theorem dX10_priceOf_6 : decode cX10_priceOf 6 = .ok (.getfield 13, 3) := by decide +kernel
theorem dX10_priceOf_9 : decode cX10_priceOf 9 = .ok (.bipush 56, 2) := by decide +kernel
theorem dX10_priceOf_11 : decode cX10_priceOf 11 = .ok (.iload_n 1, 1) := by decide +kernel
theorem dX10_priceOf_12 : decode cX10_priceOf 12 = .ok (.iadd, 1) := by decide +kernel
theorem dX10_priceOf_13 : decode cX10_priceOf 13 = .ok (.iload_n 2, 1) := by decide +kernel
theorem dX10_priceOf_14 : decode cX10_priceOf 14 = .ok (.iconst 1, 1) := by decide +kernel
theorem dX10_priceOf_15 : decode cX10_priceOf 15 = .ok (.iadd, 1) := by decide +kernel
theorem dX10_priceOf_16 : decode cX10_priceOf 16 = .ok (.iastore, 1) := by decide +kernel
theorem dX10_priceOf_17 : decode cX10_priceOf 17 = .ok (.aload_n 0, 1) := by decide +kernel
theorem dX10_priceOf_18 : decode cX10_priceOf 18 = .ok (.invokevirtual 314, 3) := by decide +kernel
theorem dX10_priceOf_21 : decode cX10_priceOf 21 = .ok (.istore 4, 2) := by decide +kernel
theorem dX10_priceOf_23 : decode cX10_priceOf 23 = .ok (.aload_n 0, 1) := by decide +kernel
theorem dX10_priceOf_24 : decode cX10_priceOf 24 = .ok (.getfield 13, 3) := by decide +kernel
theorem dX10_priceOf_27 : decode cX10_priceOf 27 = .ok (.bipush 56, 2) := by decide +kernel
theorem dX10_priceOf_29 : decode cX10_priceOf 29 = .ok (.iload_n 1, 1) := by decide +kernel
theorem dX10_priceOf_30 : decode cX10_priceOf 30 = .ok (.iadd, 1) := by decide +kernel
theorem dX10_priceOf_31 : decode cX10_priceOf 31 = .ok (.iconst 0, 1) := by decide +kernel
theorem dX10_priceOf_32 : decode cX10_priceOf 32 = .ok (.iastore, 1) := by decide +kernel
theorem dX10_priceOf_33 : decode cX10_priceOf 33 = .ok (.iload 4, 2) := by decide +kernel
theorem dX10_priceOf_35 : decode cX10_priceOf 35 = .ok (.iload_n 3, 1) := by decide +kernel
theorem dX10_priceOf_36 : decode cX10_priceOf 36 = .ok (.isub, 1) := by decide +kernel
theorem dX10_priceOf_37 : decode cX10_priceOf 37 = .ok (.ireturn, 1) := by decide +kernel
theorem dX10_price_0 : decode cX10_price 0 = .ok (.aload_n 0, 1) := by decide +kernel
theorem dX10_price_1 : decode cX10_price 1 = .ok (.iconst 0, 1) := by decide +kernel
theorem dX10_price_2 : decode cX10_price 2 = .ok (.putfield 1, 3) := by decide +kernel
theorem dX10_price_5 : decode cX10_price 5 = .ok (.aload_n 0, 1) := by decide +kernel
theorem dX10_price_6 : decode cX10_price 6 = .ok (.iload_n 1, 1) := by decide +kernel
theorem dX10_price_7 : decode cX10_price 7 = .ok (.i2l, 1) := by decide +kernel
theorem dX10_price_8 : decode cX10_price 8 = .ok (.invokevirtual 173, 3) := by decide +kernel
theorem dX10_price_11 : decode cX10_price 11 = .ok (.ifCond .ne 6, 3) := by decide +kernel
theorem dX10_price_14 : decode cX10_price 14 = .ok (.bipush (-2), 2) := by decide +kernel
theorem dX10_price_16 : decode cX10_price 16 = .ok (.ireturn, 1) := by decide +kernel
theorem dX10_price_17 : decode cX10_price 17 = .ok (.aload_n 0, 1) := by decide +kernel
theorem dX10_price_18 : decode cX10_price 18 = .ok (.iload_n 1, 1) := by decide +kernel
theorem dX10_price_19 : decode cX10_price 19 = .ok (.invokevirtual 202, 3) := by decide +kernel
theorem dX10_price_22 : decode cX10_price 22 = .ok (.ifCond .eq 6, 3) := by decide +kernel
theorem dX10_price_25 : decode cX10_price 25 = .ok (.bipush (-5), 2) := by decide +kernel
theorem dX10_price_27 : decode cX10_price 27 = .ok (.ireturn, 1) := by decide +kernel
theorem dX10_price_28 : decode cX10_price 28 = .ok (.aload_n 0, 1) := by decide +kernel
theorem dX10_price_29 : decode cX10_price 29 = .ok (.iload_n 1, 1) := by decide +kernel
theorem dX10_price_30 : decode cX10_price 30 = .ok (.iload_n 2, 1) := by decide +kernel
theorem dX10_price_31 : decode cX10_price 31 = .ok (.invokevirtual 218, 3) := by decide +kernel
theorem dX10_price_34 : decode cX10_price 34 = .ok (.ifCond .eq 12, 3) := by decide +kernel
theorem dX10_price_37 : decode cX10_price 37 = .ok (.aload_n 0, 1) := by decide +kernel
theorem dX10_price_38 : decode cX10_price 38 = .ok (.iload_n 1, 1) := by decide +kernel
theorem dX10_price_39 : decode cX10_price 39 = .ok (.iload_n 2, 1) := by decide +kernel
theorem dX10_price_40 : decode cX10_price 40 = .ok (.invokevirtual 317, 3) := by decide +kernel
theorem dX10_price_43 : decode cX10_price 43 = .ok (.goto 4, 3) := by decide +kernel
theorem dX10_price_46 : decode cX10_price 46 = .ok (.iconst (-1), 1) := by decide +kernel
theorem dX10_price_47 : decode cX10_price 47 = .ok (.ireturn, 1) := by decide +kernel
theorem dX10_cheapest_0 : decode cX10_cheapest 0 = .ok (.aload_n 0, 1) := by decide +kernel
theorem dX10_cheapest_1 : decode cX10_cheapest 1 = .ok (.iconst 0, 1) := by decide +kernel
theorem dX10_cheapest_2 : decode cX10_cheapest 2 = .ok (.putfield 1, 3) := by decide +kernel
theorem dX10_cheapest_5 : decode cX10_cheapest 5 = .ok (.aload_n 0, 1) := by decide +kernel
theorem dX10_cheapest_6 : decode cX10_cheapest 6 = .ok (.iload_n 1, 1) := by decide +kernel
theorem dX10_cheapest_7 : decode cX10_cheapest 7 = .ok (.i2l, 1) := by decide +kernel
theorem dX10_cheapest_8 : decode cX10_cheapest 8 = .ok (.invokevirtual 173, 3) := by decide +kernel
theorem dX10_cheapest_11 : decode cX10_cheapest 11 = .ok (.ifCond .ne 6, 3) := by decide +kernel
theorem dX10_cheapest_14 : decode cX10_cheapest 14 = .ok (.bipush (-2), 2) := by decide +kernel
theorem dX10_cheapest_16 : decode cX10_cheapest 16 = .ok (.ireturn, 1) := by decide +kernel
theorem dX10_cheapest_17 : decode cX10_cheapest 17 = .ok (.aload_n 0, 1) := by decide +kernel
theorem dX10_cheapest_18 : decode cX10_cheapest 18 = .ok (.iload_n 1, 1) := by decide +kernel
theorem dX10_cheapest_19 : decode cX10_cheapest 19 = .ok (.invokevirtual 202, 3) := by decide +kernel
theorem dX10_cheapest_22 : decode cX10_cheapest 22 = .ok (.ifCond .eq 6, 3) := by decide +kernel
theorem dX10_cheapest_25 : decode cX10_cheapest 25 = .ok (.bipush (-5), 2) := by decide +kernel
theorem dX10_cheapest_27 : decode cX10_cheapest 27 = .ok (.ireturn, 1) := by decide +kernel
theorem dX10_cheapest_28 : decode cX10_cheapest 28 = .ok (.aload_n 0, 1) := by decide +kernel
theorem dX10_cheapest_29 : decode cX10_cheapest 29 = .ok (.getfield 13, 3) := by decide +kernel
theorem dX10_cheapest_32 : decode cX10_cheapest 32 = .ok (.bipush 26, 2) := by decide +kernel
theorem dX10_cheapest_34 : decode cX10_cheapest 34 = .ok (.iload_n 1, 1) := by decide +kernel
theorem dX10_cheapest_35 : decode cX10_cheapest 35 = .ok (.iadd, 1) := by decide +kernel
theorem dX10_cheapest_36 : decode cX10_cheapest 36 = .ok (.iaload, 1) := by decide +kernel
theorem dX10_cheapest_37 : decode cX10_cheapest 37 = .ok (.istore_n 2, 1) := by decide +kernel
theorem dX10_cheapest_38 : decode cX10_cheapest 38 = .ok (.aload_n 0, 1) := by decide +kernel
theorem dX10_cheapest_39 : decode cX10_cheapest 39 = .ok (.iload_n 1, 1) := by decide +kernel
theorem dX10_cheapest_40 : decode cX10_cheapest 40 = .ok (.iload_n 2, 1) := by decide +kernel
theorem dX10_cheapest_41 : decode cX10_cheapest 41 = .ok (.invokevirtual 317, 3) := by decide +kernel
theorem dX10_cheapest_44 : decode cX10_cheapest 44 = .ok (.istore_n 3, 1) := by decide +kernel
theorem dX10_cheapest_45 : decode cX10_cheapest 45 = .ok (.iload_n 2, 1) := by decide +kernel
theorem dX10_cheapest_46 : decode cX10_cheapest 46 = .ok (.iconst 1, 1) := by decide +kernel
theorem dX10_cheapest_47 : decode cX10_cheapest 47 = .ok (.iadd, 1) := by decide +kernel
theorem dX10_cheapest_48 : decode cX10_cheapest 48 = .ok (.istore 4, 2) := by decide +kernel
theorem dX10_cheapest_50 : decode cX10_cheapest 50 = .ok (.iload 4, 2) := by decide +kernel
theorem dX10_cheapest_52 : decode cX10_cheapest 52 = .ok (.aload_n 0, 1) := by decide +kernel
theorem dX10_cheapest_53 : decode cX10_cheapest 53 = .ok (.getfield 13, 3) := by decide +kernel
theorem dX10_cheapest_56 : decode cX10_cheapest 56 = .ok (.bipush 36, 2) := by decide +kernel
theorem dX10_cheapest_58 : decode cX10_cheapest 58 = .ok (.iload_n 1, 1) := by decide +kernel
theorem dX10_cheapest_59 : decode cX10_cheapest 59 = .ok (.iadd, 1) := by decide +kernel
theorem dX10_cheapest_60 : decode cX10_cheapest 60 = .ok (.iaload, 1) := by decide +kernel
theorem dX10_cheapest_61 : decode cX10_cheapest 61 = .ok (.if_icmp .gt 33, 3) := by decide +kernel
theorem dX10_cheapest_64 : decode cX10_cheapest 64 = .ok (.aload_n 0, 1) := by decide +kernel
theorem dX10_cheapest_65 : decode cX10_cheapest 65 = .ok (.iload_n 1, 1) := by decide +kernel
theorem dX10_cheapest_66 : decode cX10_cheapest 66 = .ok (.iload 4, 2) := by decide +kernel
theorem dX10_cheapest_68 : decode cX10_cheapest 68 = .ok (.invokevirtual 317, 3) := by decide +kernel
theorem dX10_cheapest_71 : decode cX10_cheapest 71 = .ok (.istore 5, 2) := by decide +kernel
theorem dX10_cheapest_73 : decode cX10_cheapest 73 = .ok (.iload 5, 2) := by decide +kernel
theorem dX10_cheapest_75 : decode cX10_cheapest 75 = .ok (.iload_n 3, 1) := by decide +kernel
theorem dX10_cheapest_76 : decode cX10_cheapest 76 = .ok (.if_icmp .lt 6, 3) := by decide +kernel
theorem dX10_cheapest_79 : decode cX10_cheapest 79 = .ok (.goto 9, 3) := by decide +kernel
theorem dX10_cheapest_82 : decode cX10_cheapest 82 = .ok (.iload 4, 2) := by decide +kernel
theorem dX10_cheapest_84 : decode cX10_cheapest 84 = .ok (.istore_n 2, 1) := by decide +kernel
theorem dX10_cheapest_85 : decode cX10_cheapest 85 = .ok (.iload 5, 2) := by decide +kernel
theorem dX10_cheapest_87 : decode cX10_cheapest 87 = .ok (.istore_n 3, 1) := by decide +kernel
theorem dX10_cheapest_88 : decode cX10_cheapest 88 = .ok (.iinc 4 1, 3) := by decide +kernel
theorem dX10_cheapest_91 : decode cX10_cheapest 91 = .ok (.goto (-41), 3) := by decide +kernel
theorem dX10_cheapest_94 : decode cX10_cheapest 94 = .ok (.iload_n 2, 1) := by decide +kernel
theorem dX10_cheapest_95 : decode cX10_cheapest 95 = .ok (.ireturn, 1) := by decide +kernel
theorem dX10_higher_0 : decode cX10_higher 0 = .ok (.aload_n 0, 1) := by decide +kernel
theorem dX10_higher_1 : decode cX10_higher 1 = .ok (.iconst 0, 1) := by decide +kernel
theorem dX10_higher_2 : decode cX10_higher 2 = .ok (.putfield 1, 3) := by decide +kernel
theorem dX10_higher_5 : decode cX10_higher 5 = .ok (.aload_n 0, 1) := by decide +kernel
theorem dX10_higher_6 : decode cX10_higher 6 = .ok (.iload_n 1, 1) := by decide +kernel
theorem dX10_higher_7 : decode cX10_higher 7 = .ok (.i2l, 1) := by decide +kernel
theorem dX10_higher_8 : decode cX10_higher 8 = .ok (.invokevirtual 173, 3) := by decide +kernel
theorem dX10_higher_11 : decode cX10_higher 11 = .ok (.ifCond .ne 6, 3) := by decide +kernel
theorem dX10_higher_14 : decode cX10_higher 14 = .ok (.bipush (-2), 2) := by decide +kernel
theorem dX10_higher_16 : decode cX10_higher 16 = .ok (.ireturn, 1) := by decide +kernel
theorem dX10_higher_17 : decode cX10_higher 17 = .ok (.aload_n 0, 1) := by decide +kernel
theorem dX10_higher_18 : decode cX10_higher 18 = .ok (.iload_n 1, 1) := by decide +kernel
theorem dX10_higher_19 : decode cX10_higher 19 = .ok (.invokevirtual 202, 3) := by decide +kernel
theorem dX10_higher_22 : decode cX10_higher 22 = .ok (.ifCond .ne 6, 3) := by decide +kernel
theorem dX10_higher_25 : decode cX10_higher 25 = .ok (.bipush (-5), 2) := by decide +kernel
theorem dX10_higher_27 : decode cX10_higher 27 = .ok (.ireturn, 1) := by decide +kernel
theorem dX10_higher_28 : decode cX10_higher 28 = .ok (.aload_n 0, 1) := by decide +kernel
theorem dX10_higher_29 : decode cX10_higher 29 = .ok (.invokevirtual 226, 3) := by decide +kernel
theorem dX10_higher_32 : decode cX10_higher 32 = .ok (.iconst 0, 1) := by decide +kernel
theorem dX10_higher_33 : decode cX10_higher 33 = .ok (.istore_n 2, 1) := by decide +kernel
theorem dX10_higher_34 : decode cX10_higher 34 = .ok (.iload_n 2, 1) := by decide +kernel
theorem dX10_higher_35 : decode cX10_higher 35 = .ok (.bipush 12, 2) := by decide +kernel
theorem dX10_higher_37 : decode cX10_higher 37 = .ok (.if_icmp .gt 42, 3) := by decide +kernel
theorem dX10_higher_40 : decode cX10_higher 40 = .ok (.aload_n 0, 1) := by decide +kernel
theorem dX10_higher_41 : decode cX10_higher 41 = .ok (.sipush 130, 3) := by decide +kernel
theorem dX10_higher_44 : decode cX10_higher 44 = .ok (.iload_n 1, 1) := by decide +kernel
theorem dX10_higher_45 : decode cX10_higher 45 = .ok (.aload_n 0, 1) := by decide +kernel
theorem dX10_higher_46 : decode cX10_higher 46 = .ok (.iload_n 1, 1) := by decide +kernel
theorem dX10_higher_47 : decode cX10_higher 47 = .ok (.invokevirtual 179, 3) := by decide +kernel
theorem dX10_higher_50 : decode cX10_higher 50 = .ok (.iload_n 2, 1) := by decide +kernel
theorem dX10_higher_51 : decode cX10_higher 51 = .ok (.invokevirtual 205, 3) := by decide +kernel
theorem dX10_higher_54 : decode cX10_higher 54 = .ok (.aload_n 0, 1) := by decide +kernel
theorem dX10_higher_55 : decode cX10_higher 55 = .ok (.sipush 130, 3) := by decide +kernel
theorem dX10_higher_58 : decode cX10_higher 58 = .ok (.iload_n 1, 1) := by decide +kernel
theorem dX10_higher_59 : decode cX10_higher 59 = .ok (.aload_n 0, 1) := by decide +kernel
theorem dX10_higher_60 : decode cX10_higher 60 = .ok (.getfield 13, 3) := by decide +kernel
theorem dX10_higher_63 : decode cX10_higher 63 = .ok (.iconst 3, 1) := by decide +kernel
theorem dX10_higher_64 : decode cX10_higher 64 = .ok (.iaload, 1) := by decide +kernel
theorem dX10_higher_65 : decode cX10_higher 65 = .ok (.invokevirtual 229, 3) := by decide +kernel
theorem dX10_higher_68 : decode cX10_higher 68 = .ok (.ifCond .ne 5, 3) := by decide +kernel
theorem dX10_higher_71 : decode cX10_higher 71 = .ok (.iload_n 2, 1) := by decide +kernel
theorem dX10_higher_72 : decode cX10_higher 72 = .ok (.ireturn, 1) := by decide +kernel
theorem dX10_higher_73 : decode cX10_higher 73 = .ok (.iinc 2 1, 3) := by decide +kernel
theorem dX10_higher_76 : decode cX10_higher 76 = .ok (.goto (-42), 3) := by decide +kernel
theorem dX10_higher_79 : decode cX10_higher 79 = .ok (.iconst (-1), 1) := by decide +kernel
theorem dX10_higher_80 : decode cX10_higher 80 = .ok (.ireturn, 1) := by decide +kernel
theorem dX10_anyTouch_0 : decode cX10_anyTouch 0 = .ok (.iconst 0, 1) := by decide +kernel
theorem dX10_anyTouch_1 : decode cX10_anyTouch 1 = .ok (.istore_n 2, 1) := by decide +kernel
theorem dX10_anyTouch_2 : decode cX10_anyTouch 2 = .ok (.iload_n 2, 1) := by decide +kernel
theorem dX10_anyTouch_3 : decode cX10_anyTouch 3 = .ok (.aload_n 0, 1) := by decide +kernel
theorem dX10_anyTouch_4 : decode cX10_anyTouch 4 = .ok (.getfield 13, 3) := by decide +kernel
theorem dX10_anyTouch_7 : decode cX10_anyTouch 7 = .ok (.iconst 0, 1) := by decide +kernel
theorem dX10_anyTouch_8 : decode cX10_anyTouch 8 = .ok (.iaload, 1) := by decide +kernel
theorem dX10_anyTouch_9 : decode cX10_anyTouch 9 = .ok (.if_icmp .ge 29, 3) := by decide +kernel
theorem dX10_anyTouch_12 : decode cX10_anyTouch 12 = .ok (.aload_n 0, 1) := by decide +kernel
theorem dX10_anyTouch_13 : decode cX10_anyTouch 13 = .ok (.iload_n 2, 1) := by decide +kernel
theorem dX10_anyTouch_14 : decode cX10_anyTouch 14 = .ok (.invokevirtual 202, 3) := by decide +kernel
theorem dX10_anyTouch_17 : decode cX10_anyTouch 17 = .ok (.ifCond .eq 15, 3) := by decide +kernel
theorem dX10_anyTouch_20 : decode cX10_anyTouch 20 = .ok (.aload_n 0, 1) := by decide +kernel
theorem dX10_anyTouch_21 : decode cX10_anyTouch 21 = .ok (.iload_n 2, 1) := by decide +kernel
theorem dX10_anyTouch_22 : decode cX10_anyTouch 22 = .ok (.iload_n 2, 1) := by decide +kernel
theorem dX10_anyTouch_23 : decode cX10_anyTouch 23 = .ok (.iload_n 1, 1) := by decide +kernel
theorem dX10_anyTouch_24 : decode cX10_anyTouch 24 = .ok (.invokevirtual 229, 3) := by decide +kernel
theorem dX10_anyTouch_27 : decode cX10_anyTouch 27 = .ok (.ifCond .eq 5, 3) := by decide +kernel
theorem dX10_anyTouch_30 : decode cX10_anyTouch 30 = .ok (.iconst 1, 1) := by decide +kernel
theorem dX10_anyTouch_31 : decode cX10_anyTouch 31 = .ok (.ireturn, 1) := by decide +kernel
theorem dX10_anyTouch_32 : decode cX10_anyTouch 32 = .ok (.iinc 2 1, 3) := by decide +kernel
theorem dX10_anyTouch_35 : decode cX10_anyTouch 35 = .ok (.goto (-33), 3) := by decide +kernel
theorem dX10_anyTouch_38 : decode cX10_anyTouch 38 = .ok (.iconst 0, 1) := by decide +kernel
theorem dX10_anyTouch_39 : decode cX10_anyTouch 39 = .ok (.ireturn, 1) := by decide +kernel
theorem dX10_thickness_0 : decode cX10_thickness 0 = .ok (.aload_n 0, 1) := by decide +kernel
theorem dX10_thickness_1 : decode cX10_thickness 1 = .ok (.iconst 0, 1) := by decide +kernel
theorem dX10_thickness_2 : decode cX10_thickness 2 = .ok (.putfield 1, 3) := by decide +kernel
theorem dX10_thickness_5 : decode cX10_thickness 5 = .ok (.aload_n 0, 1) := by decide +kernel
theorem dX10_thickness_6 : decode cX10_thickness 6 = .ok (.invokevirtual 226, 3) := by decide +kernel
theorem dX10_thickness_9 : decode cX10_thickness 9 = .ok (.iconst 1, 1) := by decide +kernel
theorem dX10_thickness_10 : decode cX10_thickness 10 = .ok (.istore_n 1, 1) := by decide +kernel
theorem dX10_thickness_11 : decode cX10_thickness 11 = .ok (.aload_n 0, 1) := by decide +kernel
theorem dX10_thickness_12 : decode cX10_thickness 12 = .ok (.iload_n 1, 1) := by decide +kernel
theorem dX10_thickness_13 : decode cX10_thickness 13 = .ok (.invokevirtual 320, 3) := by decide +kernel
theorem dX10_thickness_16 : decode cX10_thickness 16 = .ok (.ifCond .eq 9, 3) := by decide +kernel
theorem dX10_thickness_19 : decode cX10_thickness 19 = .ok (.iinc 1 1, 3) := by decide +kernel
theorem dX10_thickness_22 : decode cX10_thickness 22 = .ok (.goto (-11), 3) := by decide +kernel
theorem dX10_thickness_25 : decode cX10_thickness 25 = .ok (.iload_n 1, 1) := by decide +kernel
theorem dX10_thickness_26 : decode cX10_thickness 26 = .ok (.ireturn, 1) := by decide +kernel
theorem dX10_refusesSheets_0 : decode cX10_refusesSheets 0 = .ok (.aload_n 0, 1) := by decide +kernel
theorem dX10_refusesSheets_1 : decode cX10_refusesSheets 1 = .ok (.getfield 75, 3) := by decide +kernel
theorem dX10_refusesSheets_4 : decode cX10_refusesSheets 4 = .ok (.iload_n 1, 1) := by decide +kernel
theorem dX10_refusesSheets_5 : decode cX10_refusesSheets 5 = .ok (.iaload, 1) := by decide +kernel
theorem dX10_refusesSheets_6 : decode cX10_refusesSheets 6 = .ok (.iconst (-1), 1) := by decide +kernel
theorem dX10_refusesSheets_7 : decode cX10_refusesSheets 7 = .ok (.if_icmp .ne 6, 3) := by decide +kernel
theorem dX10_refusesSheets_10 : decode cX10_refusesSheets 10 = .ok (.bipush (-6), 2) := by decide +kernel
theorem dX10_refusesSheets_12 : decode cX10_refusesSheets 12 = .ok (.ireturn, 1) := by decide +kernel
theorem dX10_refusesSheets_13 : decode cX10_refusesSheets 13 = .ok (.aload_n 0, 1) := by decide +kernel
theorem dX10_refusesSheets_14 : decode cX10_refusesSheets 14 = .ok (.getfield 13, 3) := by decide +kernel
theorem dX10_refusesSheets_17 : decode cX10_refusesSheets 17 = .ok (.iconst 0, 1) := by decide +kernel
theorem dX10_refusesSheets_18 : decode cX10_refusesSheets 18 = .ok (.iaload, 1) := by decide +kernel
theorem dX10_refusesSheets_19 : decode cX10_refusesSheets 19 = .ok (.iconst 3, 1) := by decide +kernel
theorem dX10_refusesSheets_20 : decode cX10_refusesSheets 20 = .ok (.if_icmp .le 6, 3) := by decide +kernel
theorem dX10_refusesSheets_23 : decode cX10_refusesSheets 23 = .ok (.bipush (-4), 2) := by decide +kernel
theorem dX10_refusesSheets_25 : decode cX10_refusesSheets 25 = .ok (.ireturn, 1) := by decide +kernel
theorem dX10_refusesSheets_26 : decode cX10_refusesSheets 26 = .ok (.aload_n 0, 1) := by decide +kernel
theorem dX10_refusesSheets_27 : decode cX10_refusesSheets 27 = .ok (.getfield 78, 3) := by decide +kernel
theorem dX10_refusesSheets_30 : decode cX10_refusesSheets 30 = .ok (.iload_n 1, 1) := by decide +kernel
theorem dX10_refusesSheets_31 : decode cX10_refusesSheets 31 = .ok (.iaload, 1) := by decide +kernel
theorem dX10_refusesSheets_32 : decode cX10_refusesSheets 32 = .ok (.iconst 2, 1) := by decide +kernel
theorem dX10_refusesSheets_33 : decode cX10_refusesSheets 33 = .ok (.irem, 1) := by decide +kernel
theorem dX10_refusesSheets_34 : decode cX10_refusesSheets 34 = .ok (.iconst 1, 1) := by decide +kernel
theorem dX10_refusesSheets_35 : decode cX10_refusesSheets 35 = .ok (.if_icmp .ne 6, 3) := by decide +kernel
theorem dX10_refusesSheets_38 : decode cX10_refusesSheets 38 = .ok (.bipush (-3), 2) := by decide +kernel
theorem dX10_refusesSheets_40 : decode cX10_refusesSheets 40 = .ok (.ireturn, 1) := by decide +kernel
theorem dX10_refusesSheets_41 : decode cX10_refusesSheets 41 = .ok (.iconst 0, 1) := by decide +kernel
theorem dX10_refusesSheets_42 : decode cX10_refusesSheets 42 = .ok (.istore_n 2, 1) := by decide +kernel
theorem dX10_refusesSheets_43 : decode cX10_refusesSheets 43 = .ok (.iload_n 2, 1) := by decide +kernel
theorem dX10_refusesSheets_44 : decode cX10_refusesSheets 44 = .ok (.aload_n 0, 1) := by decide +kernel
theorem dX10_refusesSheets_45 : decode cX10_refusesSheets 45 = .ok (.getfield 78, 3) := by decide +kernel
theorem dX10_refusesSheets_48 : decode cX10_refusesSheets 48 = .ok (.iload_n 1, 1) := by decide +kernel
theorem dX10_refusesSheets_49 : decode cX10_refusesSheets 49 = .ok (.iaload, 1) := by decide +kernel
theorem dX10_refusesSheets_50 : decode cX10_refusesSheets 50 = .ok (.if_icmp .ge 51, 3) := by decide +kernel
theorem dX10_refusesSheets_53 : decode cX10_refusesSheets 53 = .ok (.aload_n 0, 1) := by decide +kernel
theorem dX10_refusesSheets_54 : decode cX10_refusesSheets 54 = .ok (.getfield 81, 3) := by decide +kernel
theorem dX10_refusesSheets_57 : decode cX10_refusesSheets 57 = .ok (.bipush 40, 2) := by decide +kernel
theorem dX10_refusesSheets_59 : decode cX10_refusesSheets 59 = .ok (.iload_n 1, 1) := by decide +kernel
theorem dX10_refusesSheets_60 : decode cX10_refusesSheets 60 = .ok (.imul, 1) := by decide +kernel
theorem dX10_refusesSheets_61 : decode cX10_refusesSheets 61 = .ok (.iload_n 2, 1) := by decide +kernel
theorem dX10_refusesSheets_62 : decode cX10_refusesSheets 62 = .ok (.iadd, 1) := by decide +kernel
theorem dX10_refusesSheets_63 : decode cX10_refusesSheets 63 = .ok (.laload, 1) := by decide +kernel
theorem dX10_refusesSheets_64 : decode cX10_refusesSheets 64 = .ok (.lconst 0, 1) := by decide +kernel
theorem dX10_refusesSheets_65 : decode cX10_refusesSheets 65 = .ok (.ldc2_w 193, 3) := by decide +kernel
theorem dX10_refusesSheets_68 : decode cX10_refusesSheets 68 = .ok (.invokestatic 149, 3) := by decide +kernel
theorem dX10_refusesSheets_71 : decode cX10_refusesSheets 71 = .ok (.ifCond .eq 21, 3) := by decide +kernel
theorem dX10_refusesSheets_74 : decode cX10_refusesSheets 74 = .ok (.aload_n 0, 1) := by decide +kernel
theorem dX10_refusesSheets_75 : decode cX10_refusesSheets 75 = .ok (.getfield 81, 3) := by decide +kernel
theorem dX10_refusesSheets_78 : decode cX10_refusesSheets 78 = .ok (.bipush 40, 2) := by decide +kernel
theorem dX10_refusesSheets_80 : decode cX10_refusesSheets 80 = .ok (.iload_n 1, 1) := by decide +kernel
theorem dX10_refusesSheets_81 : decode cX10_refusesSheets 81 = .ok (.imul, 1) := by decide +kernel
theorem dX10_refusesSheets_82 : decode cX10_refusesSheets 82 = .ok (.iload_n 2, 1) := by decide +kernel
theorem dX10_refusesSheets_83 : decode cX10_refusesSheets 83 = .ok (.iadd, 1) := by decide +kernel
theorem dX10_refusesSheets_84 : decode cX10_refusesSheets 84 = .ok (.iconst 1, 1) := by decide +kernel
theorem dX10_refusesSheets_85 : decode cX10_refusesSheets 85 = .ok (.iadd, 1) := by decide +kernel
theorem dX10_refusesSheets_86 : decode cX10_refusesSheets 86 = .ok (.laload, 1) := by decide +kernel
theorem dX10_refusesSheets_87 : decode cX10_refusesSheets 87 = .ok (.lconst 0, 1) := by decide +kernel
theorem dX10_refusesSheets_88 : decode cX10_refusesSheets 88 = .ok (.lcmp, 1) := by decide +kernel
theorem dX10_refusesSheets_89 : decode cX10_refusesSheets 89 = .ok (.ifCond .ge 6, 3) := by decide +kernel
theorem dX10_refusesSheets_92 : decode cX10_refusesSheets 92 = .ok (.bipush (-3), 2) := by decide +kernel
theorem dX10_refusesSheets_94 : decode cX10_refusesSheets 94 = .ok (.ireturn, 1) := by decide +kernel
theorem dX10_refusesSheets_95 : decode cX10_refusesSheets 95 = .ok (.iinc 2 2, 3) := by decide +kernel
theorem dX10_refusesSheets_98 : decode cX10_refusesSheets 98 = .ok (.goto (-55), 3) := by decide +kernel
theorem dX10_refusesSheets_101 : decode cX10_refusesSheets 101 = .ok (.iconst 0, 1) := by decide +kernel
theorem dX10_refusesSheets_102 : decode cX10_refusesSheets 102 = .ok (.ireturn, 1) := by decide +kernel
theorem dX10_laysSheets_0 : decode cX10_laysSheets 0 = .ok (.aload_n 0, 1) := by decide +kernel
theorem dX10_laysSheets_1 : decode cX10_laysSheets 1 = .ok (.invokevirtual 209, 3) := by decide +kernel
theorem dX10_laysSheets_4 : decode cX10_laysSheets 4 = .ok (.iconst 0, 1) := by decide +kernel
theorem dX10_laysSheets_5 : decode cX10_laysSheets 5 = .ok (.istore_n 1, 1) := by decide +kernel
theorem dX10_laysSheets_6 : decode cX10_laysSheets 6 = .ok (.iload_n 1, 1) := by decide +kernel
theorem dX10_laysSheets_7 : decode cX10_laysSheets 7 = .ok (.aload_n 0, 1) := by decide +kernel
theorem dX10_laysSheets_8 : decode cX10_laysSheets 8 = .ok (.getfield 13, 3) := by decide +kernel
theorem dX10_laysSheets_11 : decode cX10_laysSheets 11 = .ok (.iconst 0, 1) := by decide +kernel
theorem dX10_laysSheets_12 : decode cX10_laysSheets 12 = .ok (.iaload, 1) := by decide +kernel
theorem dX10_laysSheets_13 : decode cX10_laysSheets 13 = .ok (.if_icmp .ge 87, 3) := by decide +kernel
theorem dX10_laysSheets_16 : decode cX10_laysSheets 16 = .ok (.iconst 0, 1) := by decide +kernel
theorem dX10_laysSheets_17 : decode cX10_laysSheets 17 = .ok (.istore_n 2, 1) := by decide +kernel
theorem dX10_laysSheets_18 : decode cX10_laysSheets 18 = .ok (.iload_n 2, 1) := by decide +kernel
theorem dX10_laysSheets_19 : decode cX10_laysSheets 19 = .ok (.bipush 25, 2) := by decide +kernel
theorem dX10_laysSheets_21 : decode cX10_laysSheets 21 = .ok (.if_icmp .ge 73, 3) := by decide +kernel
theorem dX10_laysSheets_24 : decode cX10_laysSheets 24 = .ok (.aload_n 0, 1) := by decide +kernel
theorem dX10_laysSheets_25 : decode cX10_laysSheets 25 = .ok (.getfield 39, 3) := by decide +kernel
theorem dX10_laysSheets_28 : decode cX10_laysSheets 28 = .ok (.sipush 131, 3) := by decide +kernel
theorem dX10_laysSheets_31 : decode cX10_laysSheets 31 = .ok (.iconst 0, 1) := by decide +kernel
theorem dX10_laysSheets_32 : decode cX10_laysSheets 32 = .ok (.iastore, 1) := by decide +kernel
theorem dX10_laysSheets_33 : decode cX10_laysSheets 33 = .ok (.iload_n 2, 1) := by decide +kernel
theorem dX10_laysSheets_34 : decode cX10_laysSheets 34 = .ok (.ifCond .le 15, 3) := by decide +kernel
theorem dX10_laysSheets_37 : decode cX10_laysSheets 37 = .ok (.aload_n 0, 1) := by decide +kernel
theorem dX10_laysSheets_38 : decode cX10_laysSheets 38 = .ok (.sipush 131, 3) := by decide +kernel
theorem dX10_laysSheets_41 : decode cX10_laysSheets 41 = .ok (.iload_n 1, 1) := by decide +kernel
theorem dX10_laysSheets_42 : decode cX10_laysSheets 42 = .ok (.iload_n 2, 1) := by decide +kernel
theorem dX10_laysSheets_43 : decode cX10_laysSheets 43 = .ok (.iconst 1, 1) := by decide +kernel
theorem dX10_laysSheets_44 : decode cX10_laysSheets 44 = .ok (.isub, 1) := by decide +kernel
theorem dX10_laysSheets_45 : decode cX10_laysSheets 45 = .ok (.iconst 0, 1) := by decide +kernel
theorem dX10_laysSheets_46 : decode cX10_laysSheets 46 = .ok (.invokevirtual 205, 3) := by decide +kernel
theorem dX10_laysSheets_49 : decode cX10_laysSheets 49 = .ok (.iconst 0, 1) := by decide +kernel
theorem dX10_laysSheets_50 : decode cX10_laysSheets 50 = .ok (.istore_n 3, 1) := by decide +kernel
theorem dX10_laysSheets_51 : decode cX10_laysSheets 51 = .ok (.iload_n 3, 1) := by decide +kernel
theorem dX10_laysSheets_52 : decode cX10_laysSheets 52 = .ok (.bipush 40, 2) := by decide +kernel
theorem dX10_laysSheets_54 : decode cX10_laysSheets 54 = .ok (.if_icmp .ge 34, 3) := by decide +kernel
theorem dX10_laysSheets_57 : decode cX10_laysSheets 57 = .ok (.aload_n 0, 1) := by decide +kernel
theorem dX10_laysSheets_58 : decode cX10_laysSheets 58 = .ok (.getfield 66, 3) := by decide +kernel
theorem dX10_laysSheets_61 : decode cX10_laysSheets 61 = .ok (.sipush 1000, 3) := by decide +kernel
theorem dX10_laysSheets_64 : decode cX10_laysSheets 64 = .ok (.iload_n 1, 1) := by decide +kernel
theorem dX10_laysSheets_65 : decode cX10_laysSheets 65 = .ok (.imul, 1) := by decide +kernel
theorem dX10_laysSheets_66 : decode cX10_laysSheets 66 = .ok (.bipush 40, 2) := by decide +kernel
theorem dX10_laysSheets_68 : decode cX10_laysSheets 68 = .ok (.iload_n 2, 1) := by decide +kernel
theorem dX10_laysSheets_69 : decode cX10_laysSheets 69 = .ok (.imul, 1) := by decide +kernel
theorem dX10_laysSheets_70 : decode cX10_laysSheets 70 = .ok (.iadd, 1) := by decide +kernel
theorem dX10_laysSheets_71 : decode cX10_laysSheets 71 = .ok (.iload_n 3, 1) := by decide +kernel
theorem dX10_laysSheets_72 : decode cX10_laysSheets 72 = .ok (.iadd, 1) := by decide +kernel
theorem dX10_laysSheets_73 : decode cX10_laysSheets 73 = .ok (.aload_n 0, 1) := by decide +kernel
theorem dX10_laysSheets_74 : decode cX10_laysSheets 74 = .ok (.sipush 131, 3) := by decide +kernel
theorem dX10_laysSheets_77 : decode cX10_laysSheets 77 = .ok (.iload_n 3, 1) := by decide +kernel
theorem dX10_laysSheets_78 : decode cX10_laysSheets 78 = .ok (.invokevirtual 269, 3) := by decide +kernel
theorem dX10_laysSheets_81 : decode cX10_laysSheets 81 = .ok (.iastore, 1) := by decide +kernel
theorem dX10_laysSheets_82 : decode cX10_laysSheets 82 = .ok (.iinc 3 1, 3) := by decide +kernel
theorem dX10_laysSheets_85 : decode cX10_laysSheets 85 = .ok (.goto (-34), 3) := by decide +kernel
theorem dX10_laysSheets_88 : decode cX10_laysSheets 88 = .ok (.iinc 2 1, 3) := by decide +kernel
theorem dX10_laysSheets_91 : decode cX10_laysSheets 91 = .ok (.goto (-73), 3) := by decide +kernel
theorem dX10_laysSheets_94 : decode cX10_laysSheets 94 = .ok (.iinc 1 1, 3) := by decide +kernel
theorem dX10_laysSheets_97 : decode cX10_laysSheets 97 = .ok (.goto (-91), 3) := by decide +kernel
theorem dX10_laysSheets_100 : decode cX10_laysSheets 100 = .ok (.return_, 1) := by decide +kernel
theorem dX10_fits_0 : decode cX10_fits 0 = .ok (.iconst 0, 1) := by decide +kernel
theorem dX10_fits_1 : decode cX10_fits 1 = .ok (.istore_n 3, 1) := by decide +kernel
theorem dX10_fits_2 : decode cX10_fits 2 = .ok (.iload_n 3, 1) := by decide +kernel
theorem dX10_fits_3 : decode cX10_fits 3 = .ok (.aload_n 0, 1) := by decide +kernel
theorem dX10_fits_4 : decode cX10_fits 4 = .ok (.getfield 78, 3) := by decide +kernel
theorem dX10_fits_7 : decode cX10_fits 7 = .ok (.iload_n 1, 1) := by decide +kernel
theorem dX10_fits_8 : decode cX10_fits 8 = .ok (.iaload, 1) := by decide +kernel
theorem dX10_fits_9 : decode cX10_fits 9 = .ok (.if_icmp .ge 94, 3) := by decide +kernel
theorem dX10_fits_12 : decode cX10_fits 12 = .ok (.aload_n 0, 1) := by decide +kernel
theorem dX10_fits_13 : decode cX10_fits 13 = .ok (.getfield 81, 3) := by decide +kernel
theorem dX10_fits_16 : decode cX10_fits 16 = .ok (.bipush 40, 2) := by decide +kernel
theorem dX10_fits_18 : decode cX10_fits 18 = .ok (.iload_n 1, 1) := by decide +kernel
theorem dX10_fits_19 : decode cX10_fits 19 = .ok (.imul, 1) := by decide +kernel
theorem dX10_fits_20 : decode cX10_fits 20 = .ok (.iload_n 3, 1) := by decide +kernel
theorem dX10_fits_21 : decode cX10_fits 21 = .ok (.iadd, 1) := by decide +kernel
theorem dX10_fits_22 : decode cX10_fits 22 = .ok (.iconst 1, 1) := by decide +kernel
theorem dX10_fits_23 : decode cX10_fits 23 = .ok (.iadd, 1) := by decide +kernel
theorem dX10_fits_24 : decode cX10_fits 24 = .ok (.laload, 1) := by decide +kernel
theorem dX10_fits_25 : decode cX10_fits 25 = .ok (.lstore 4, 2) := by decide +kernel
theorem dX10_fits_27 : decode cX10_fits 27 = .ok (.iconst 0, 1) := by decide +kernel
theorem dX10_fits_28 : decode cX10_fits 28 = .ok (.istore 6, 2) := by decide +kernel
theorem dX10_fits_30 : decode cX10_fits 30 = .ok (.iload 6, 2) := by decide +kernel
theorem dX10_fits_32 : decode cX10_fits 32 = .ok (.aload_n 0, 1) := by decide +kernel
theorem dX10_fits_33 : decode cX10_fits 33 = .ok (.getfield 13, 3) := by decide +kernel
theorem dX10_fits_36 : decode cX10_fits 36 = .ok (.iconst 0, 1) := by decide +kernel
theorem dX10_fits_37 : decode cX10_fits 37 = .ok (.iaload, 1) := by decide +kernel
theorem dX10_fits_38 : decode cX10_fits 38 = .ok (.if_icmp .ge 50, 3) := by decide +kernel
theorem dX10_fits_41 : decode cX10_fits 41 = .ok (.lload 4, 2) := by decide +kernel
theorem dX10_fits_43 : decode cX10_fits 43 = .ok (.aload_n 0, 1) := by decide +kernel
theorem dX10_fits_44 : decode cX10_fits 44 = .ok (.getfield 66, 3) := by decide +kernel
theorem dX10_fits_47 : decode cX10_fits 47 = .ok (.sipush 1000, 3) := by decide +kernel
theorem dX10_fits_50 : decode cX10_fits 50 = .ok (.iload 6, 2) := by decide +kernel
theorem dX10_fits_52 : decode cX10_fits 52 = .ok (.imul, 1) := by decide +kernel
theorem dX10_fits_53 : decode cX10_fits 53 = .ok (.bipush 40, 2) := by decide +kernel
theorem dX10_fits_55 : decode cX10_fits 55 = .ok (.aload_n 0, 1) := by decide +kernel
theorem dX10_fits_56 : decode cX10_fits 56 = .ok (.iload_n 2, 1) := by decide +kernel
theorem dX10_fits_57 : decode cX10_fits 57 = .ok (.iload 6, 2) := by decide +kernel
theorem dX10_fits_59 : decode cX10_fits 59 = .ok (.invokevirtual 323, 3) := by decide +kernel
theorem dX10_fits_62 : decode cX10_fits 62 = .ok (.imul, 1) := by decide +kernel
theorem dX10_fits_63 : decode cX10_fits 63 = .ok (.iadd, 1) := by decide +kernel
theorem dX10_fits_64 : decode cX10_fits 64 = .ok (.aload_n 0, 1) := by decide +kernel
theorem dX10_fits_65 : decode cX10_fits 65 = .ok (.getfield 81, 3) := by decide +kernel
theorem dX10_fits_68 : decode cX10_fits 68 = .ok (.bipush 40, 2) := by decide +kernel
theorem dX10_fits_70 : decode cX10_fits 70 = .ok (.iload_n 1, 1) := by decide +kernel
theorem dX10_fits_71 : decode cX10_fits 71 = .ok (.imul, 1) := by decide +kernel
theorem dX10_fits_72 : decode cX10_fits 72 = .ok (.iload_n 3, 1) := by decide +kernel
theorem dX10_fits_73 : decode cX10_fits 73 = .ok (.iadd, 1) := by decide +kernel
theorem dX10_fits_74 : decode cX10_fits 74 = .ok (.laload, 1) := by decide +kernel
theorem dX10_fits_75 : decode cX10_fits 75 = .ok (.l2i, 1) := by decide +kernel
theorem dX10_fits_76 : decode cX10_fits 76 = .ok (.iadd, 1) := by decide +kernel
theorem dX10_fits_77 : decode cX10_fits 77 = .ok (.iaload, 1) := by decide +kernel
theorem dX10_fits_78 : decode cX10_fits 78 = .ok (.i2l, 1) := by decide +kernel
theorem dX10_fits_79 : decode cX10_fits 79 = .ok (.lsub, 1) := by decide +kernel
theorem dX10_fits_80 : decode cX10_fits 80 = .ok (.lstore 4, 2) := by decide +kernel
theorem dX10_fits_82 : decode cX10_fits 82 = .ok (.iinc 6 1, 3) := by decide +kernel
theorem dX10_fits_85 : decode cX10_fits 85 = .ok (.goto (-55), 3) := by decide +kernel
theorem dX10_fits_88 : decode cX10_fits 88 = .ok (.lload 4, 2) := by decide +kernel
theorem dX10_fits_90 : decode cX10_fits 90 = .ok (.lconst 0, 1) := by decide +kernel
theorem dX10_fits_91 : decode cX10_fits 91 = .ok (.lcmp, 1) := by decide +kernel
theorem dX10_fits_92 : decode cX10_fits 92 = .ok (.ifCond .eq 5, 3) := by decide +kernel
theorem dX10_fits_95 : decode cX10_fits 95 = .ok (.iconst 0, 1) := by decide +kernel
theorem dX10_fits_96 : decode cX10_fits 96 = .ok (.ireturn, 1) := by decide +kernel
theorem dX10_fits_97 : decode cX10_fits 97 = .ok (.iinc 3 2, 3) := by decide +kernel
theorem dX10_fits_100 : decode cX10_fits 100 = .ok (.goto (-98), 3) := by decide +kernel
theorem dX10_fits_103 : decode cX10_fits 103 = .ok (.iconst 1, 1) := by decide +kernel
theorem dX10_fits_104 : decode cX10_fits 104 = .ok (.ireturn, 1) := by decide +kernel
theorem dX10_quarterIn_0 : decode cX10_quarterIn 0 = .ok (.iload_n 1, 1) := by decide +kernel
theorem dX10_quarterIn_1 : decode cX10_quarterIn 1 = .ok (.istore_n 3, 1) := by decide +kernel
theorem dX10_quarterIn_2 : decode cX10_quarterIn 2 = .ok (.iload_n 2, 1) := by decide +kernel
theorem dX10_quarterIn_3 : decode cX10_quarterIn 3 = .ok (.iconst 1, 1) := by decide +kernel
theorem dX10_quarterIn_4 : decode cX10_quarterIn 4 = .ok (.iadd, 1) := by decide +kernel
theorem dX10_quarterIn_5 : decode cX10_quarterIn 5 = .ok (.istore 4, 2) := by decide +kernel
theorem dX10_quarterIn_7 : decode cX10_quarterIn 7 = .ok (.iload 4, 2) := by decide +kernel
theorem dX10_quarterIn_9 : decode cX10_quarterIn 9 = .ok (.aload_n 0, 1) := by decide +kernel
theorem dX10_quarterIn_10 : decode cX10_quarterIn 10 = .ok (.getfield 13, 3) := by decide +kernel
theorem dX10_quarterIn_13 : decode cX10_quarterIn 13 = .ok (.iconst 0, 1) := by decide +kernel
theorem dX10_quarterIn_14 : decode cX10_quarterIn 14 = .ok (.iaload, 1) := by decide +kernel
theorem dX10_quarterIn_15 : decode cX10_quarterIn 15 = .ok (.if_icmp .ge 14, 3) := by decide +kernel
theorem dX10_quarterIn_18 : decode cX10_quarterIn 18 = .ok (.iload_n 3, 1) := by decide +kernel
theorem dX10_quarterIn_19 : decode cX10_quarterIn 19 = .ok (.bipush 25, 2) := by decide +kernel
theorem dX10_quarterIn_21 : decode cX10_quarterIn 21 = .ok (.idiv, 1) := by decide +kernel
theorem dX10_quarterIn_22 : decode cX10_quarterIn 22 = .ok (.istore_n 3, 1) := by decide +kernel
theorem dX10_quarterIn_23 : decode cX10_quarterIn 23 = .ok (.iinc 4 1, 3) := by decide +kernel
theorem dX10_quarterIn_26 : decode cX10_quarterIn 26 = .ok (.goto (-19), 3) := by decide +kernel
theorem dX10_quarterIn_29 : decode cX10_quarterIn 29 = .ok (.iload_n 3, 1) := by decide +kernel
theorem dX10_quarterIn_30 : decode cX10_quarterIn 30 = .ok (.bipush 25, 2) := by decide +kernel
theorem dX10_quarterIn_32 : decode cX10_quarterIn 32 = .ok (.irem, 1) := by decide +kernel
theorem dX10_quarterIn_33 : decode cX10_quarterIn 33 = .ok (.ireturn, 1) := by decide +kernel
theorem dX10_isDay_0 : decode cX10_isDay 0 = .ok (.iconst 0, 1) := by decide +kernel
theorem dX10_isDay_1 : decode cX10_isDay 1 = .ok (.istore_n 2, 1) := by decide +kernel
theorem dX10_isDay_2 : decode cX10_isDay 2 = .ok (.iload_n 2, 1) := by decide +kernel
theorem dX10_isDay_3 : decode cX10_isDay 3 = .ok (.aload_n 0, 1) := by decide +kernel
theorem dX10_isDay_4 : decode cX10_isDay 4 = .ok (.getfield 13, 3) := by decide +kernel
theorem dX10_isDay_7 : decode cX10_isDay 7 = .ok (.iconst 0, 1) := by decide +kernel
theorem dX10_isDay_8 : decode cX10_isDay 8 = .ok (.iaload, 1) := by decide +kernel
theorem dX10_isDay_9 : decode cX10_isDay 9 = .ok (.if_icmp .ge 36, 3) := by decide +kernel
theorem dX10_isDay_12 : decode cX10_isDay 12 = .ok (.aload_n 0, 1) := by decide +kernel
theorem dX10_isDay_13 : decode cX10_isDay 13 = .ok (.iload_n 1, 1) := by decide +kernel
theorem dX10_isDay_14 : decode cX10_isDay 14 = .ok (.iload_n 2, 1) := by decide +kernel
theorem dX10_isDay_15 : decode cX10_isDay 15 = .ok (.invokevirtual 323, 3) := by decide +kernel
theorem dX10_isDay_18 : decode cX10_isDay 18 = .ok (.ifCond .le 21, 3) := by decide +kernel
theorem dX10_isDay_21 : decode cX10_isDay 21 = .ok (.aload_n 0, 1) := by decide +kernel
theorem dX10_isDay_22 : decode cX10_isDay 22 = .ok (.iload_n 2, 1) := by decide +kernel
theorem dX10_isDay_23 : decode cX10_isDay 23 = .ok (.aload_n 0, 1) := by decide +kernel
theorem dX10_isDay_24 : decode cX10_isDay 24 = .ok (.iload_n 1, 1) := by decide +kernel
theorem dX10_isDay_25 : decode cX10_isDay 25 = .ok (.iload_n 2, 1) := by decide +kernel
theorem dX10_isDay_26 : decode cX10_isDay 26 = .ok (.invokevirtual 323, 3) := by decide +kernel
theorem dX10_isDay_29 : decode cX10_isDay 29 = .ok (.iconst 1, 1) := by decide +kernel
theorem dX10_isDay_30 : decode cX10_isDay 30 = .ok (.isub, 1) := by decide +kernel
theorem dX10_isDay_31 : decode cX10_isDay 31 = .ok (.invokevirtual 218, 3) := by decide +kernel
theorem dX10_isDay_34 : decode cX10_isDay 34 = .ok (.ifCond .ne 5, 3) := by decide +kernel
theorem dX10_isDay_37 : decode cX10_isDay 37 = .ok (.iconst 0, 1) := by decide +kernel
theorem dX10_isDay_38 : decode cX10_isDay 38 = .ok (.ireturn, 1) := by decide +kernel
theorem dX10_isDay_39 : decode cX10_isDay 39 = .ok (.iinc 2 1, 3) := by decide +kernel
theorem dX10_isDay_42 : decode cX10_isDay 42 = .ok (.goto (-40), 3) := by decide +kernel
theorem dX10_isDay_45 : decode cX10_isDay 45 = .ok (.iconst 1, 1) := by decide +kernel
theorem dX10_isDay_46 : decode cX10_isDay 46 = .ok (.ireturn, 1) := by decide +kernel
theorem dX10_daysOf_0 : decode cX10_daysOf 0 = .ok (.aload_n 0, 1) := by decide +kernel
theorem dX10_daysOf_1 : decode cX10_daysOf 1 = .ok (.invokevirtual 326, 3) := by decide +kernel
theorem dX10_daysOf_4 : decode cX10_daysOf 4 = .ok (.iconst 1, 1) := by decide +kernel
theorem dX10_daysOf_5 : decode cX10_daysOf 5 = .ok (.istore_n 3, 1) := by decide +kernel
theorem dX10_daysOf_6 : decode cX10_daysOf 6 = .ok (.iconst 0, 1) := by decide +kernel
theorem dX10_daysOf_7 : decode cX10_daysOf 7 = .ok (.istore 4, 2) := by decide +kernel
theorem dX10_daysOf_9 : decode cX10_daysOf 9 = .ok (.iload 4, 2) := by decide +kernel
theorem dX10_daysOf_11 : decode cX10_daysOf 11 = .ok (.aload_n 0, 1) := by decide +kernel
theorem dX10_daysOf_12 : decode cX10_daysOf 12 = .ok (.getfield 13, 3) := by decide +kernel
theorem dX10_daysOf_15 : decode cX10_daysOf 15 = .ok (.iconst 0, 1) := by decide +kernel
theorem dX10_daysOf_16 : decode cX10_daysOf 16 = .ok (.iaload, 1) := by decide +kernel
theorem dX10_daysOf_17 : decode cX10_daysOf 17 = .ok (.if_icmp .ge 14, 3) := by decide +kernel
theorem dX10_daysOf_20 : decode cX10_daysOf 20 = .ok (.iload_n 3, 1) := by decide +kernel
theorem dX10_daysOf_21 : decode cX10_daysOf 21 = .ok (.bipush 25, 2) := by decide +kernel
theorem dX10_daysOf_23 : decode cX10_daysOf 23 = .ok (.imul, 1) := by decide +kernel
theorem dX10_daysOf_24 : decode cX10_daysOf 24 = .ok (.istore_n 3, 1) := by decide +kernel
theorem dX10_daysOf_25 : decode cX10_daysOf 25 = .ok (.iinc 4 1, 3) := by decide +kernel
theorem dX10_daysOf_28 : decode cX10_daysOf 28 = .ok (.goto (-19), 3) := by decide +kernel
theorem dX10_daysOf_31 : decode cX10_daysOf 31 = .ok (.iconst 0, 1) := by decide +kernel
theorem dX10_daysOf_32 : decode cX10_daysOf 32 = .ok (.istore 4, 2) := by decide +kernel
theorem dX10_daysOf_34 : decode cX10_daysOf 34 = .ok (.aload_n 0, 1) := by decide +kernel
theorem dX10_daysOf_35 : decode cX10_daysOf 35 = .ok (.iconst 1, 1) := by decide +kernel
theorem dX10_daysOf_36 : decode cX10_daysOf 36 = .ok (.aload_n 0, 1) := by decide +kernel
theorem dX10_daysOf_37 : decode cX10_daysOf 37 = .ok (.getfield 13, 3) := by decide +kernel
theorem dX10_daysOf_40 : decode cX10_daysOf 40 = .ok (.iconst 0, 1) := by decide +kernel
theorem dX10_daysOf_41 : decode cX10_daysOf 41 = .ok (.iaload, 1) := by decide +kernel
theorem dX10_daysOf_42 : decode cX10_daysOf 42 = .ok (.ishl, 1) := by decide +kernel
theorem dX10_daysOf_43 : decode cX10_daysOf 43 = .ok (.iconst 1, 1) := by decide +kernel
theorem dX10_daysOf_44 : decode cX10_daysOf 44 = .ok (.isub, 1) := by decide +kernel
theorem dX10_daysOf_45 : decode cX10_daysOf 45 = .ok (.putfield 329, 3) := by decide +kernel
theorem dX10_daysOf_48 : decode cX10_daysOf 48 = .ok (.aload_n 0, 1) := by decide +kernel
theorem dX10_daysOf_49 : decode cX10_daysOf 49 = .ok (.iconst (-1), 1) := by decide +kernel
theorem dX10_daysOf_50 : decode cX10_daysOf 50 = .ok (.putfield 332, 3) := by decide +kernel
theorem dX10_daysOf_53 : decode cX10_daysOf 53 = .ok (.iconst 0, 1) := by decide +kernel
theorem dX10_daysOf_54 : decode cX10_daysOf 54 = .ok (.istore 5, 2) := by decide +kernel
theorem dX10_daysOf_56 : decode cX10_daysOf 56 = .ok (.iload 5, 2) := by decide +kernel
theorem dX10_daysOf_58 : decode cX10_daysOf 58 = .ok (.iload_n 3, 1) := by decide +kernel
theorem dX10_daysOf_59 : decode cX10_daysOf 59 = .ok (.if_icmp .ge 92, 3) := by decide +kernel
theorem dX10_daysOf_62 : decode cX10_daysOf 62 = .ok (.aload_n 0, 1) := by decide +kernel
theorem dX10_daysOf_63 : decode cX10_daysOf 63 = .ok (.iload 5, 2) := by decide +kernel
theorem dX10_daysOf_65 : decode cX10_daysOf 65 = .ok (.invokevirtual 335, 3) := by decide +kernel
theorem dX10_daysOf_68 : decode cX10_daysOf 68 = .ok (.ifCond .eq 77, 3) := by decide +kernel
theorem dX10_daysOf_71 : decode cX10_daysOf 71 = .ok (.aload_n 0, 1) := by decide +kernel
theorem dX10_daysOf_72 : decode cX10_daysOf 72 = .ok (.iload_n 1, 1) := by decide +kernel
theorem dX10_daysOf_73 : decode cX10_daysOf 73 = .ok (.iload 5, 2) := by decide +kernel
theorem dX10_daysOf_75 : decode cX10_daysOf 75 = .ok (.invokevirtual 338, 3) := by decide +kernel
theorem dX10_daysOf_78 : decode cX10_daysOf 78 = .ok (.ifCond .ne 6, 3) := by decide +kernel
theorem dX10_daysOf_81 : decode cX10_daysOf 81 = .ok (.goto 64, 3) := by decide +kernel
theorem dX10_daysOf_84 : decode cX10_daysOf 84 = .ok (.iload 4, 2) := by decide +kernel
theorem dX10_daysOf_86 : decode cX10_daysOf 86 = .ok (.iload_n 2, 1) := by decide +kernel
theorem dX10_daysOf_87 : decode cX10_daysOf 87 = .ok (.if_icmp .ne 9, 3) := by decide +kernel
theorem dX10_daysOf_90 : decode cX10_daysOf 90 = .ok (.aload_n 0, 1) := by decide +kernel
theorem dX10_daysOf_91 : decode cX10_daysOf 91 = .ok (.iload 5, 2) := by decide +kernel
theorem dX10_daysOf_93 : decode cX10_daysOf 93 = .ok (.putfield 332, 3) := by decide +kernel
theorem dX10_daysOf_96 : decode cX10_daysOf 96 = .ok (.iinc 4 1, 3) := by decide +kernel
theorem dX10_daysOf_99 : decode cX10_daysOf 99 = .ok (.iconst 0, 1) := by decide +kernel
theorem dX10_daysOf_100 : decode cX10_daysOf 100 = .ok (.istore 6, 2) := by decide +kernel
theorem dX10_daysOf_102 : decode cX10_daysOf 102 = .ok (.iload 6, 2) := by decide +kernel
theorem dX10_daysOf_104 : decode cX10_daysOf 104 = .ok (.aload_n 0, 1) := by decide +kernel
theorem dX10_daysOf_105 : decode cX10_daysOf 105 = .ok (.getfield 13, 3) := by decide +kernel
theorem dX10_daysOf_108 : decode cX10_daysOf 108 = .ok (.iconst 0, 1) := by decide +kernel
theorem dX10_daysOf_109 : decode cX10_daysOf 109 = .ok (.iaload, 1) := by decide +kernel
theorem dX10_daysOf_110 : decode cX10_daysOf 110 = .ok (.if_icmp .ge 35, 3) := by decide +kernel
theorem dX10_daysOf_113 : decode cX10_daysOf 113 = .ok (.aload_n 0, 1) := by decide +kernel
theorem dX10_daysOf_114 : decode cX10_daysOf 114 = .ok (.iload 5, 2) := by decide +kernel
theorem dX10_daysOf_116 : decode cX10_daysOf 116 = .ok (.iload 6, 2) := by decide +kernel
theorem dX10_daysOf_118 : decode cX10_daysOf 118 = .ok (.invokevirtual 323, 3) := by decide +kernel
theorem dX10_daysOf_121 : decode cX10_daysOf 121 = .ok (.ifCond .ne 18, 3) := by decide +kernel
theorem dX10_daysOf_124 : decode cX10_daysOf 124 = .ok (.aload_n 0, 1) := by decide +kernel
theorem dX10_daysOf_125 : decode cX10_daysOf 125 = .ok (.dup, 1) := by decide +kernel
theorem dX10_daysOf_126 : decode cX10_daysOf 126 = .ok (.getfield 329, 3) := by decide +kernel
theorem dX10_daysOf_129 : decode cX10_daysOf 129 = .ok (.iconst 1, 1) := by decide +kernel
theorem dX10_daysOf_130 : decode cX10_daysOf 130 = .ok (.iload 6, 2) := by decide +kernel
theorem dX10_daysOf_132 : decode cX10_daysOf 132 = .ok (.ishl, 1) := by decide +kernel
theorem dX10_daysOf_133 : decode cX10_daysOf 133 = .ok (.iconst (-1), 1) := by decide +kernel
theorem dX10_daysOf_134 : decode cX10_daysOf 134 = .ok (.ixor, 1) := by decide +kernel
theorem dX10_daysOf_135 : decode cX10_daysOf 135 = .ok (.iand, 1) := by decide +kernel
theorem dX10_daysOf_136 : decode cX10_daysOf 136 = .ok (.putfield 329, 3) := by decide +kernel
theorem dX10_daysOf_139 : decode cX10_daysOf 139 = .ok (.iinc 6 1, 3) := by decide +kernel
theorem dX10_daysOf_142 : decode cX10_daysOf 142 = .ok (.goto (-40), 3) := by decide +kernel
theorem dX10_daysOf_145 : decode cX10_daysOf 145 = .ok (.iinc 5 1, 3) := by decide +kernel
theorem dX10_daysOf_148 : decode cX10_daysOf 148 = .ok (.goto (-92), 3) := by decide +kernel
theorem dX10_daysOf_151 : decode cX10_daysOf 151 = .ok (.iload 4, 2) := by decide +kernel
theorem dX10_daysOf_153 : decode cX10_daysOf 153 = .ok (.ireturn, 1) := by decide +kernel
theorem dX10_sheets_0 : decode cX10_sheets 0 = .ok (.aload_n 0, 1) := by decide +kernel
theorem dX10_sheets_1 : decode cX10_sheets 1 = .ok (.iconst 0, 1) := by decide +kernel
theorem dX10_sheets_2 : decode cX10_sheets 2 = .ok (.putfield 1, 3) := by decide +kernel
theorem dX10_sheets_5 : decode cX10_sheets 5 = .ok (.iload_n 1, 1) := by decide +kernel
theorem dX10_sheets_6 : decode cX10_sheets 6 = .ok (.i2l, 1) := by decide +kernel
theorem dX10_sheets_7 : decode cX10_sheets 7 = .ok (.lconst 0, 1) := by decide +kernel
theorem dX10_sheets_8 : decode cX10_sheets 8 = .ok (.ldc2_w 239, 3) := by decide +kernel
theorem dX10_sheets_11 : decode cX10_sheets 11 = .ok (.invokestatic 149, 3) := by decide +kernel
theorem dX10_sheets_14 : decode cX10_sheets 14 = .ok (.ifCond .ne 6, 3) := by decide +kernel
theorem dX10_sheets_17 : decode cX10_sheets 17 = .ok (.bipush (-2), 2) := by decide +kernel
theorem dX10_sheets_19 : decode cX10_sheets 19 = .ok (.ireturn, 1) := by decide +kernel
theorem dX10_sheets_20 : decode cX10_sheets 20 = .ok (.aload_n 0, 1) := by decide +kernel
theorem dX10_sheets_21 : decode cX10_sheets 21 = .ok (.iload_n 1, 1) := by decide +kernel
theorem dX10_sheets_22 : decode cX10_sheets 22 = .ok (.invokevirtual 341, 3) := by decide +kernel
theorem dX10_sheets_25 : decode cX10_sheets 25 = .ok (.istore_n 2, 1) := by decide +kernel
theorem dX10_sheets_26 : decode cX10_sheets 26 = .ok (.iload_n 2, 1) := by decide +kernel
theorem dX10_sheets_27 : decode cX10_sheets 27 = .ok (.ifCond .eq 7, 3) := by decide +kernel
theorem dX10_sheets_30 : decode cX10_sheets 30 = .ok (.iload_n 2, 1) := by decide +kernel
theorem dX10_sheets_31 : decode cX10_sheets 31 = .ok (.goto 9, 3) := by decide +kernel
theorem dX10_sheets_34 : decode cX10_sheets 34 = .ok (.aload_n 0, 1) := by decide +kernel
theorem dX10_sheets_35 : decode cX10_sheets 35 = .ok (.iload_n 1, 1) := by decide +kernel
theorem dX10_sheets_36 : decode cX10_sheets 36 = .ok (.iconst (-1), 1) := by decide +kernel
theorem dX10_sheets_37 : decode cX10_sheets 37 = .ok (.invokevirtual 344, 3) := by decide +kernel
theorem dX10_sheets_40 : decode cX10_sheets 40 = .ok (.ireturn, 1) := by decide +kernel
theorem dX10_sheet_0 : decode cX10_sheet 0 = .ok (.aload_n 0, 1) := by decide +kernel
theorem dX10_sheet_1 : decode cX10_sheet 1 = .ok (.iconst 0, 1) := by decide +kernel
theorem dX10_sheet_2 : decode cX10_sheet 2 = .ok (.putfield 1, 3) := by decide +kernel
theorem dX10_sheet_5 : decode cX10_sheet 5 = .ok (.iload_n 1, 1) := by decide +kernel
theorem dX10_sheet_6 : decode cX10_sheet 6 = .ok (.i2l, 1) := by decide +kernel
theorem dX10_sheet_7 : decode cX10_sheet 7 = .ok (.lconst 0, 1) := by decide +kernel
theorem dX10_sheet_8 : decode cX10_sheet 8 = .ok (.ldc2_w 239, 3) := by decide +kernel
theorem dX10_sheet_11 : decode cX10_sheet 11 = .ok (.invokestatic 149, 3) := by decide +kernel
theorem dX10_sheet_14 : decode cX10_sheet 14 = .ok (.ifCond .eq 12, 3) := by decide +kernel
theorem dX10_sheet_17 : decode cX10_sheet 17 = .ok (.aload_n 0, 1) := by decide +kernel
theorem dX10_sheet_18 : decode cX10_sheet 18 = .ok (.iload_n 3, 1) := by decide +kernel
theorem dX10_sheet_19 : decode cX10_sheet 19 = .ok (.i2l, 1) := by decide +kernel
theorem dX10_sheet_20 : decode cX10_sheet 20 = .ok (.invokevirtual 173, 3) := by decide +kernel
theorem dX10_sheet_23 : decode cX10_sheet 23 = .ok (.ifCond .ne 6, 3) := by decide +kernel
theorem dX10_sheet_26 : decode cX10_sheet 26 = .ok (.bipush (-2), 2) := by decide +kernel
theorem dX10_sheet_28 : decode cX10_sheet 28 = .ok (.ireturn, 1) := by decide +kernel
theorem dX10_sheet_29 : decode cX10_sheet 29 = .ok (.aload_n 0, 1) := by decide +kernel
theorem dX10_sheet_30 : decode cX10_sheet 30 = .ok (.iload_n 1, 1) := by decide +kernel
theorem dX10_sheet_31 : decode cX10_sheet 31 = .ok (.invokevirtual 341, 3) := by decide +kernel
theorem dX10_sheet_34 : decode cX10_sheet 34 = .ok (.istore 4, 2) := by decide +kernel
theorem dX10_sheet_36 : decode cX10_sheet 36 = .ok (.iload 4, 2) := by decide +kernel
theorem dX10_sheet_38 : decode cX10_sheet 38 = .ok (.ifCond .eq 6, 3) := by decide +kernel
theorem dX10_sheet_41 : decode cX10_sheet 41 = .ok (.iload 4, 2) := by decide +kernel
theorem dX10_sheet_43 : decode cX10_sheet 43 = .ok (.ireturn, 1) := by decide +kernel
theorem dX10_sheet_44 : decode cX10_sheet 44 = .ok (.aload_n 0, 1) := by decide +kernel
theorem dX10_sheet_45 : decode cX10_sheet 45 = .ok (.iload_n 1, 1) := by decide +kernel
theorem dX10_sheet_46 : decode cX10_sheet 46 = .ok (.iload_n 2, 1) := by decide +kernel
theorem dX10_sheet_47 : decode cX10_sheet 47 = .ok (.invokevirtual 344, 3) := by decide +kernel
theorem dX10_sheet_50 : decode cX10_sheet 50 = .ok (.pop, 1) := by decide +kernel
theorem dX10_sheet_51 : decode cX10_sheet 51 = .ok (.aload_n 0, 1) := by decide +kernel
theorem dX10_sheet_52 : decode cX10_sheet 52 = .ok (.getfield 332, 3) := by decide +kernel
theorem dX10_sheet_55 : decode cX10_sheet 55 = .ok (.iconst (-1), 1) := by decide +kernel
theorem dX10_sheet_56 : decode cX10_sheet 56 = .ok (.if_icmp .ne 8, 3) := by decide +kernel
theorem dX10_sheet_59 : decode cX10_sheet 59 = .ok (.bipush (-5), 2) := by decide +kernel
theorem dX10_sheet_61 : decode cX10_sheet 61 = .ok (.goto 14, 3) := by decide +kernel
theorem dX10_sheet_64 : decode cX10_sheet 64 = .ok (.aload_n 0, 1) := by decide +kernel
theorem dX10_sheet_65 : decode cX10_sheet 65 = .ok (.aload_n 0, 1) := by decide +kernel
theorem dX10_sheet_66 : decode cX10_sheet 66 = .ok (.getfield 332, 3) := by decide +kernel
theorem dX10_sheet_69 : decode cX10_sheet 69 = .ok (.iload_n 3, 1) := by decide +kernel
theorem dX10_sheet_70 : decode cX10_sheet 70 = .ok (.invokevirtual 323, 3) := by decide +kernel
theorem dX10_sheet_73 : decode cX10_sheet 73 = .ok (.iconst 1, 1) := by decide +kernel
theorem dX10_sheet_74 : decode cX10_sheet 74 = .ok (.isub, 1) := by decide +kernel
theorem dX10_sheet_75 : decode cX10_sheet 75 = .ok (.ireturn, 1) := by decide +kernel
theorem dX10_sure_0 : decode cX10_sure 0 = .ok (.aload_n 0, 1) := by decide +kernel
theorem dX10_sure_1 : decode cX10_sure 1 = .ok (.iconst 0, 1) := by decide +kernel
theorem dX10_sure_2 : decode cX10_sure 2 = .ok (.putfield 1, 3) := by decide +kernel
theorem dX10_sure_5 : decode cX10_sure 5 = .ok (.iload_n 1, 1) := by decide +kernel
theorem dX10_sure_6 : decode cX10_sure 6 = .ok (.i2l, 1) := by decide +kernel
theorem dX10_sure_7 : decode cX10_sure 7 = .ok (.lconst 0, 1) := by decide +kernel
theorem dX10_sure_8 : decode cX10_sure 8 = .ok (.ldc2_w 239, 3) := by decide +kernel
theorem dX10_sure_11 : decode cX10_sure 11 = .ok (.invokestatic 149, 3) := by decide +kernel
theorem dX10_sure_14 : decode cX10_sure 14 = .ok (.ifCond .ne 6, 3) := by decide +kernel
theorem dX10_sure_17 : decode cX10_sure 17 = .ok (.bipush (-2), 2) := by decide +kernel
theorem dX10_sure_19 : decode cX10_sure 19 = .ok (.ireturn, 1) := by decide +kernel
theorem dX10_sure_20 : decode cX10_sure 20 = .ok (.aload_n 0, 1) := by decide +kernel
theorem dX10_sure_21 : decode cX10_sure 21 = .ok (.iload_n 1, 1) := by decide +kernel
theorem dX10_sure_22 : decode cX10_sure 22 = .ok (.invokevirtual 341, 3) := by decide +kernel
theorem dX10_sure_25 : decode cX10_sure 25 = .ok (.istore_n 2, 1) := by decide +kernel
theorem dX10_sure_26 : decode cX10_sure 26 = .ok (.iload_n 2, 1) := by decide +kernel
theorem dX10_sure_27 : decode cX10_sure 27 = .ok (.ifCond .eq 5, 3) := by decide +kernel
theorem dX10_sure_30 : decode cX10_sure 30 = .ok (.iload_n 2, 1) := by decide +kernel
theorem dX10_sure_31 : decode cX10_sure 31 = .ok (.ireturn, 1) := by decide +kernel
theorem dX10_sure_32 : decode cX10_sure 32 = .ok (.aload_n 0, 1) := by decide +kernel
theorem dX10_sure_33 : decode cX10_sure 33 = .ok (.iload_n 1, 1) := by decide +kernel
theorem dX10_sure_34 : decode cX10_sure 34 = .ok (.iconst (-1), 1) := by decide +kernel
theorem dX10_sure_35 : decode cX10_sure 35 = .ok (.invokevirtual 344, 3) := by decide +kernel
theorem dX10_sure_38 : decode cX10_sure 38 = .ok (.ifCond .ne 7, 3) := by decide +kernel
theorem dX10_sure_41 : decode cX10_sure 41 = .ok (.iconst 0, 1) := by decide +kernel
theorem dX10_sure_42 : decode cX10_sure 42 = .ok (.goto 7, 3) := by decide +kernel
theorem dX10_sure_45 : decode cX10_sure 45 = .ok (.aload_n 0, 1) := by decide +kernel
theorem dX10_sure_46 : decode cX10_sure 46 = .ok (.getfield 329, 3) := by decide +kernel
theorem dX10_sure_49 : decode cX10_sure 49 = .ok (.ireturn, 1) := by decide +kernel
theorem dX10_gusts_0 : decode cX10_gusts 0 = .ok (.aload_n 0, 1) := by decide +kernel
theorem dX10_gusts_1 : decode cX10_gusts 1 = .ok (.iconst 0, 1) := by decide +kernel
theorem dX10_gusts_2 : decode cX10_gusts 2 = .ok (.putfield 1, 3) := by decide +kernel
theorem dX10_gusts_5 : decode cX10_gusts 5 = .ok (.aload_n 0, 1) := by decide +kernel
theorem dX10_gusts_6 : decode cX10_gusts 6 = .ok (.iload_n 1, 1) := by decide +kernel
theorem dX10_gusts_7 : decode cX10_gusts 7 = .ok (.invokevirtual 347, 3) := by decide +kernel
theorem dX10_gusts_10 : decode cX10_gusts 10 = .ok (.aload_n 0, 1) := by decide +kernel
theorem dX10_gusts_11 : decode cX10_gusts 11 = .ok (.invokevirtual 212, 3) := by decide +kernel
theorem dX10_gusts_14 : decode cX10_gusts 14 = .ok (.aload_n 0, 1) := by decide +kernel
theorem dX10_gusts_15 : decode cX10_gusts 15 = .ok (.invokevirtual 260, 3) := by decide +kernel
theorem dX10_gusts_18 : decode cX10_gusts 18 = .ok (.ireturn, 1) := by decide +kernel
theorem dX10_isCalm_0 : decode cX10_isCalm 0 = .ok (.aload_n 0, 1) := by decide +kernel
theorem dX10_isCalm_1 : decode cX10_isCalm 1 = .ok (.iload_n 1, 1) := by decide +kernel
theorem dX10_isCalm_2 : decode cX10_isCalm 2 = .ok (.invokevirtual 347, 3) := by decide +kernel
theorem dX10_isCalm_5 : decode cX10_isCalm 5 = .ok (.aload_n 0, 1) := by decide +kernel
theorem dX10_isCalm_6 : decode cX10_isCalm 6 = .ok (.invokevirtual 212, 3) := by decide +kernel
theorem dX10_isCalm_9 : decode cX10_isCalm 9 = .ok (.aload_n 0, 1) := by decide +kernel
theorem dX10_isCalm_10 : decode cX10_isCalm 10 = .ok (.aload_n 0, 1) := by decide +kernel
theorem dX10_isCalm_11 : decode cX10_isCalm 11 = .ok (.getfield 13, 3) := by decide +kernel
theorem dX10_isCalm_14 : decode cX10_isCalm 14 = .ok (.iconst 3, 1) := by decide +kernel
theorem dX10_isCalm_15 : decode cX10_isCalm 15 = .ok (.iaload, 1) := by decide +kernel
theorem dX10_isCalm_16 : decode cX10_isCalm 16 = .ok (.invokevirtual 320, 3) := by decide +kernel
theorem dX10_isCalm_19 : decode cX10_isCalm 19 = .ok (.ifCond .ne 7, 3) := by decide +kernel
theorem dX10_isCalm_22 : decode cX10_isCalm 22 = .ok (.iconst 1, 1) := by decide +kernel
theorem dX10_isCalm_23 : decode cX10_isCalm 23 = .ok (.goto 4, 3) := by decide +kernel
theorem dX10_isCalm_26 : decode cX10_isCalm 26 = .ok (.iconst 0, 1) := by decide +kernel
theorem dX10_isCalm_27 : decode cX10_isCalm 27 = .ok (.ireturn, 1) := by decide +kernel
theorem dX10_calm_0 : decode cX10_calm 0 = .ok (.aload_n 0, 1) := by decide +kernel
theorem dX10_calm_1 : decode cX10_calm 1 = .ok (.iconst 0, 1) := by decide +kernel
theorem dX10_calm_2 : decode cX10_calm 2 = .ok (.putfield 1, 3) := by decide +kernel
theorem dX10_calm_5 : decode cX10_calm 5 = .ok (.iload_n 1, 1) := by decide +kernel
theorem dX10_calm_6 : decode cX10_calm 6 = .ok (.i2l, 1) := by decide +kernel
theorem dX10_calm_7 : decode cX10_calm 7 = .ok (.lconst 1, 1) := by decide +kernel
theorem dX10_calm_8 : decode cX10_calm 8 = .ok (.ldc2_w 350, 3) := by decide +kernel
theorem dX10_calm_11 : decode cX10_calm 11 = .ok (.invokestatic 149, 3) := by decide +kernel
theorem dX10_calm_14 : decode cX10_calm 14 = .ok (.ifCond .ne 6, 3) := by decide +kernel
theorem dX10_calm_17 : decode cX10_calm 17 = .ok (.bipush (-3), 2) := by decide +kernel
theorem dX10_calm_19 : decode cX10_calm 19 = .ok (.ireturn, 1) := by decide +kernel
theorem dX10_calm_20 : decode cX10_calm 20 = .ok (.iconst 0, 1) := by decide +kernel
theorem dX10_calm_21 : decode cX10_calm 21 = .ok (.istore_n 2, 1) := by decide +kernel
theorem dX10_calm_22 : decode cX10_calm 22 = .ok (.iconst 1, 1) := by decide +kernel
theorem dX10_calm_23 : decode cX10_calm 23 = .ok (.istore_n 3, 1) := by decide +kernel
theorem dX10_calm_24 : decode cX10_calm 24 = .ok (.iload_n 3, 1) := by decide +kernel
theorem dX10_calm_25 : decode cX10_calm 25 = .ok (.iload_n 1, 1) := by decide +kernel
theorem dX10_calm_26 : decode cX10_calm 26 = .ok (.if_icmp .gt 25, 3) := by decide +kernel
theorem dX10_calm_29 : decode cX10_calm 29 = .ok (.iload_n 2, 1) := by decide +kernel
theorem dX10_calm_30 : decode cX10_calm 30 = .ok (.aload_n 0, 1) := by decide +kernel
theorem dX10_calm_31 : decode cX10_calm 31 = .ok (.iload_n 3, 1) := by decide +kernel
theorem dX10_calm_32 : decode cX10_calm 32 = .ok (.invokevirtual 352, 3) := by decide +kernel
theorem dX10_calm_35 : decode cX10_calm 35 = .ok (.ifCond .eq 7, 3) := by decide +kernel
theorem dX10_calm_38 : decode cX10_calm 38 = .ok (.iconst 1, 1) := by decide +kernel
theorem dX10_calm_39 : decode cX10_calm 39 = .ok (.goto 4, 3) := by decide +kernel
theorem dX10_calm_42 : decode cX10_calm 42 = .ok (.iconst 0, 1) := by decide +kernel
theorem dX10_calm_43 : decode cX10_calm 43 = .ok (.iadd, 1) := by decide +kernel
theorem dX10_calm_44 : decode cX10_calm 44 = .ok (.istore_n 2, 1) := by decide +kernel
theorem dX10_calm_45 : decode cX10_calm 45 = .ok (.iinc 3 1, 3) := by decide +kernel
theorem dX10_calm_48 : decode cX10_calm 48 = .ok (.goto (-24), 3) := by decide +kernel
theorem dX10_calm_51 : decode cX10_calm 51 = .ok (.iload_n 2, 1) := by decide +kernel
theorem dX10_calm_52 : decode cX10_calm 52 = .ok (.ireturn, 1) := by decide +kernel
theorem dX10_steady_0 : decode cX10_steady 0 = .ok (.aload_n 0, 1) := by decide +kernel
theorem dX10_steady_1 : decode cX10_steady 1 = .ok (.iconst 0, 1) := by decide +kernel
theorem dX10_steady_2 : decode cX10_steady 2 = .ok (.putfield 1, 3) := by decide +kernel
theorem dX10_steady_5 : decode cX10_steady 5 = .ok (.iconst 0, 1) := by decide +kernel
theorem dX10_steady_6 : decode cX10_steady 6 = .ok (.istore_n 2, 1) := by decide +kernel
theorem dX10_steady_7 : decode cX10_steady 7 = .ok (.iconst 0, 1) := by decide +kernel
theorem dX10_steady_8 : decode cX10_steady 8 = .ok (.istore_n 3, 1) := by decide +kernel
theorem dX10_steady_9 : decode cX10_steady 9 = .ok (.iload_n 3, 1) := by decide +kernel
theorem dX10_steady_10 : decode cX10_steady 10 = .ok (.bipush 49, 2) := by decide +kernel
theorem dX10_steady_12 : decode cX10_steady 12 = .ok (.if_icmp .ge 77, 3) := by decide +kernel
theorem dX10_steady_15 : decode cX10_steady 15 = .ok (.iconst 0, 1) := by decide +kernel
theorem dX10_steady_16 : decode cX10_steady 16 = .ok (.istore 4, 2) := by decide +kernel
theorem dX10_steady_18 : decode cX10_steady 18 = .ok (.iload 4, 2) := by decide +kernel
theorem dX10_steady_20 : decode cX10_steady 20 = .ok (.bipush 48, 2) := by decide +kernel
theorem dX10_steady_22 : decode cX10_steady 22 = .ok (.if_icmp .ge 31, 3) := by decide +kernel
theorem dX10_steady_25 : decode cX10_steady 25 = .ok (.aload_n 0, 1) := by decide +kernel
theorem dX10_steady_26 : decode cX10_steady 26 = .ok (.getfield 30, 3) := by decide +kernel
theorem dX10_steady_29 : decode cX10_steady 29 = .ok (.iload 4, 2) := by decide +kernel
theorem dX10_steady_31 : decode cX10_steady 31 = .ok (.iload_n 3, 1) := by decide +kernel
theorem dX10_steady_32 : decode cX10_steady 32 = .ok (.bipush 7, 2) := by decide +kernel
theorem dX10_steady_34 : decode cX10_steady 34 = .ok (.idiv, 1) := by decide +kernel
theorem dX10_steady_35 : decode cX10_steady 35 = .ok (.iastore, 1) := by decide +kernel
theorem dX10_steady_36 : decode cX10_steady 36 = .ok (.aload_n 0, 1) := by decide +kernel
theorem dX10_steady_37 : decode cX10_steady 37 = .ok (.getfield 33, 3) := by decide +kernel
theorem dX10_steady_40 : decode cX10_steady 40 = .ok (.iload 4, 2) := by decide +kernel
theorem dX10_steady_42 : decode cX10_steady 42 = .ok (.iload_n 3, 1) := by decide +kernel
theorem dX10_steady_43 : decode cX10_steady 43 = .ok (.bipush 7, 2) := by decide +kernel
theorem dX10_steady_45 : decode cX10_steady 45 = .ok (.irem, 1) := by decide +kernel
theorem dX10_steady_46 : decode cX10_steady 46 = .ok (.iastore, 1) := by decide +kernel
theorem dX10_steady_47 : decode cX10_steady 47 = .ok (.iinc 4 1, 3) := by decide +kernel
theorem dX10_steady_50 : decode cX10_steady 50 = .ok (.goto (-32), 3) := by decide +kernel
theorem dX10_steady_53 : decode cX10_steady 53 = .ok (.aload_n 0, 1) := by decide +kernel
theorem dX10_steady_54 : decode cX10_steady 54 = .ok (.invokevirtual 212, 3) := by decide +kernel
theorem dX10_steady_57 : decode cX10_steady 57 = .ok (.aload_n 0, 1) := by decide +kernel
theorem dX10_steady_58 : decode cX10_steady 58 = .ok (.aload_n 0, 1) := by decide +kernel
theorem dX10_steady_59 : decode cX10_steady 59 = .ok (.getfield 13, 3) := by decide +kernel
theorem dX10_steady_62 : decode cX10_steady 62 = .ok (.iconst 3, 1) := by decide +kernel
theorem dX10_steady_63 : decode cX10_steady 63 = .ok (.iaload, 1) := by decide +kernel
theorem dX10_steady_64 : decode cX10_steady 64 = .ok (.invokevirtual 320, 3) := by decide +kernel
theorem dX10_steady_67 : decode cX10_steady 67 = .ok (.ifCond .eq 6, 3) := by decide +kernel
theorem dX10_steady_70 : decode cX10_steady 70 = .ok (.goto 13, 3) := by decide +kernel
theorem dX10_steady_73 : decode cX10_steady 73 = .ok (.iload_n 2, 1) := by decide +kernel
theorem dX10_steady_74 : decode cX10_steady 74 = .ok (.iload_n 1, 1) := by decide +kernel
theorem dX10_steady_75 : decode cX10_steady 75 = .ok (.if_icmp .ne 5, 3) := by decide +kernel
theorem dX10_steady_78 : decode cX10_steady 78 = .ok (.iload_n 3, 1) := by decide +kernel
theorem dX10_steady_79 : decode cX10_steady 79 = .ok (.ireturn, 1) := by decide +kernel
theorem dX10_steady_80 : decode cX10_steady 80 = .ok (.iinc 2 1, 3) := by decide +kernel
theorem dX10_steady_83 : decode cX10_steady 83 = .ok (.iinc 3 1, 3) := by decide +kernel
theorem dX10_steady_86 : decode cX10_steady 86 = .ok (.goto (-77), 3) := by decide +kernel
theorem dX10_steady_89 : decode cX10_steady 89 = .ok (.iload_n 1, 1) := by decide +kernel
theorem dX10_steady_90 : decode cX10_steady 90 = .ok (.iconst (-1), 1) := by decide +kernel
theorem dX10_steady_91 : decode cX10_steady 91 = .ok (.if_icmp .ne 7, 3) := by decide +kernel
theorem dX10_steady_94 : decode cX10_steady 94 = .ok (.iload_n 2, 1) := by decide +kernel
theorem dX10_steady_95 : decode cX10_steady 95 = .ok (.goto 4, 3) := by decide +kernel
theorem dX10_steady_98 : decode cX10_steady 98 = .ok (.iconst (-1), 1) := by decide +kernel
theorem dX10_steady_99 : decode cX10_steady 99 = .ok (.ireturn, 1) := by decide +kernel
theorem dX10_bestBy_0 : decode cX10_bestBy 0 = .ok (.iconst 0, 1) := by decide +kernel
theorem dX10_bestBy_1 : decode cX10_bestBy 1 = .ok (.istore_n 3, 1) := by decide +kernel
theorem dX10_bestBy_2 : decode cX10_bestBy 2 = .ok (.iload_n 3, 1) := by decide +kernel
theorem dX10_bestBy_3 : decode cX10_bestBy 3 = .ok (.bipush 24, 2) := by decide +kernel
theorem dX10_bestBy_5 : decode cX10_bestBy 5 = .ok (.if_icmp .ge 16, 3) := by decide +kernel
theorem dX10_bestBy_8 : decode cX10_bestBy 8 = .ok (.aload_n 0, 1) := by decide +kernel
theorem dX10_bestBy_9 : decode cX10_bestBy 9 = .ok (.getfield 69, 3) := by decide +kernel
theorem dX10_bestBy_12 : decode cX10_bestBy 12 = .ok (.iload_n 3, 1) := by decide +kernel
theorem dX10_bestBy_13 : decode cX10_bestBy 13 = .ok (.iconst 0, 1) := by decide +kernel
theorem dX10_bestBy_14 : decode cX10_bestBy 14 = .ok (.iastore, 1) := by decide +kernel
theorem dX10_bestBy_15 : decode cX10_bestBy 15 = .ok (.iinc 3 1, 3) := by decide +kernel
theorem dX10_bestBy_18 : decode cX10_bestBy 18 = .ok (.goto (-16), 3) := by decide +kernel
theorem dX10_bestBy_21 : decode cX10_bestBy 21 = .ok (.aload_n 0, 1) := by decide +kernel
theorem dX10_bestBy_22 : decode cX10_bestBy 22 = .ok (.iconst 0, 1) := by decide +kernel
theorem dX10_bestBy_23 : decode cX10_bestBy 23 = .ok (.putfield 355, 3) := by decide +kernel
theorem dX10_bestBy_26 : decode cX10_bestBy 26 = .ok (.iconst 1, 1) := by decide +kernel
theorem dX10_bestBy_27 : decode cX10_bestBy 27 = .ok (.istore_n 3, 1) := by decide +kernel
theorem dX10_bestBy_28 : decode cX10_bestBy 28 = .ok (.iload_n 3, 1) := by decide +kernel
theorem dX10_bestBy_29 : decode cX10_bestBy 29 = .ok (.iload_n 2, 1) := by decide +kernel
theorem dX10_bestBy_30 : decode cX10_bestBy 30 = .ok (.if_icmp .gt 85, 3) := by decide +kernel
theorem dX10_bestBy_33 : decode cX10_bestBy 33 = .ok (.aload_n 0, 1) := by decide +kernel
theorem dX10_bestBy_34 : decode cX10_bestBy 34 = .ok (.iload_n 3, 1) := by decide +kernel
theorem dX10_bestBy_35 : decode cX10_bestBy 35 = .ok (.invokevirtual 347, 3) := by decide +kernel
theorem dX10_bestBy_38 : decode cX10_bestBy 38 = .ok (.aload_n 0, 1) := by decide +kernel
theorem dX10_bestBy_39 : decode cX10_bestBy 39 = .ok (.invokevirtual 212, 3) := by decide +kernel
theorem dX10_bestBy_42 : decode cX10_bestBy 42 = .ok (.aload_n 0, 1) := by decide +kernel
theorem dX10_bestBy_43 : decode cX10_bestBy 43 = .ok (.iload_n 1, 1) := by decide +kernel
theorem dX10_bestBy_44 : decode cX10_bestBy 44 = .ok (.invokevirtual 275, 3) := by decide +kernel
theorem dX10_bestBy_47 : decode cX10_bestBy 47 = .ok (.istore 4, 2) := by decide +kernel
theorem dX10_bestBy_49 : decode cX10_bestBy 49 = .ok (.iconst 0, 1) := by decide +kernel
theorem dX10_bestBy_50 : decode cX10_bestBy 50 = .ok (.istore 5, 2) := by decide +kernel
theorem dX10_bestBy_52 : decode cX10_bestBy 52 = .ok (.iload 5, 2) := by decide +kernel
theorem dX10_bestBy_54 : decode cX10_bestBy 54 = .ok (.bipush 24, 2) := by decide +kernel
theorem dX10_bestBy_56 : decode cX10_bestBy 56 = .ok (.if_icmp .ge 34, 3) := by decide +kernel
theorem dX10_bestBy_59 : decode cX10_bestBy 59 = .ok (.aload_n 0, 1) := by decide +kernel
theorem dX10_bestBy_60 : decode cX10_bestBy 60 = .ok (.getfield 69, 3) := by decide +kernel
theorem dX10_bestBy_63 : decode cX10_bestBy 63 = .ok (.iload 5, 2) := by decide +kernel
theorem dX10_bestBy_65 : decode cX10_bestBy 65 = .ok (.dup2, 1) := by decide +kernel
theorem dX10_bestBy_66 : decode cX10_bestBy 66 = .ok (.iaload, 1) := by decide +kernel
theorem dX10_bestBy_67 : decode cX10_bestBy 67 = .ok (.iload 4, 2) := by decide +kernel
theorem dX10_bestBy_69 : decode cX10_bestBy 69 = .ok (.iload 5, 2) := by decide +kernel
theorem dX10_bestBy_71 : decode cX10_bestBy 71 = .ok (.invokestatic 281, 3) := by decide +kernel
theorem dX10_bestBy_74 : decode cX10_bestBy 74 = .ok (.ifCond .eq 7, 3) := by decide +kernel
theorem dX10_bestBy_77 : decode cX10_bestBy 77 = .ok (.iconst 1, 1) := by decide +kernel
theorem dX10_bestBy_78 : decode cX10_bestBy 78 = .ok (.goto 4, 3) := by decide +kernel
theorem dX10_bestBy_81 : decode cX10_bestBy 81 = .ok (.iconst 0, 1) := by decide +kernel
theorem dX10_bestBy_82 : decode cX10_bestBy 82 = .ok (.iadd, 1) := by decide +kernel
theorem dX10_bestBy_83 : decode cX10_bestBy 83 = .ok (.iastore, 1) := by decide +kernel
theorem dX10_bestBy_84 : decode cX10_bestBy 84 = .ok (.iinc 5 1, 3) := by decide +kernel
theorem dX10_bestBy_87 : decode cX10_bestBy 87 = .ok (.goto (-35), 3) := by decide +kernel
theorem dX10_bestBy_90 : decode cX10_bestBy 90 = .ok (.aload_n 0, 1) := by decide +kernel
theorem dX10_bestBy_91 : decode cX10_bestBy 91 = .ok (.dup, 1) := by decide +kernel
theorem dX10_bestBy_92 : decode cX10_bestBy 92 = .ok (.getfield 355, 3) := by decide +kernel
theorem dX10_bestBy_95 : decode cX10_bestBy 95 = .ok (.iload 4, 2) := by decide +kernel
theorem dX10_bestBy_97 : decode cX10_bestBy 97 = .ok (.ifCond .ne 7, 3) := by decide +kernel
theorem dX10_bestBy_100 : decode cX10_bestBy 100 = .ok (.iconst 0, 1) := by decide +kernel
theorem dX10_bestBy_101 : decode cX10_bestBy 101 = .ok (.goto 4, 3) := by decide +kernel
theorem dX10_bestBy_104 : decode cX10_bestBy 104 = .ok (.iconst 1, 1) := by decide +kernel
theorem dX10_bestBy_105 : decode cX10_bestBy 105 = .ok (.iadd, 1) := by decide +kernel
theorem dX10_bestBy_106 : decode cX10_bestBy 106 = .ok (.putfield 355, 3) := by decide +kernel
theorem dX10_bestBy_109 : decode cX10_bestBy 109 = .ok (.iinc 3 1, 3) := by decide +kernel
theorem dX10_bestBy_112 : decode cX10_bestBy 112 = .ok (.goto (-84), 3) := by decide +kernel
theorem dX10_bestBy_115 : decode cX10_bestBy 115 = .ok (.aload_n 0, 1) := by decide +kernel
theorem dX10_bestBy_116 : decode cX10_bestBy 116 = .ok (.getfield 13, 3) := by decide +kernel
theorem dX10_bestBy_119 : decode cX10_bestBy 119 = .ok (.bipush 26, 2) := by decide +kernel
theorem dX10_bestBy_121 : decode cX10_bestBy 121 = .ok (.iload_n 1, 1) := by decide +kernel
theorem dX10_bestBy_122 : decode cX10_bestBy 122 = .ok (.iadd, 1) := by decide +kernel
theorem dX10_bestBy_123 : decode cX10_bestBy 123 = .ok (.iaload, 1) := by decide +kernel
theorem dX10_bestBy_124 : decode cX10_bestBy 124 = .ok (.istore_n 3, 1) := by decide +kernel
theorem dX10_bestBy_125 : decode cX10_bestBy 125 = .ok (.iload_n 3, 1) := by decide +kernel
theorem dX10_bestBy_126 : decode cX10_bestBy 126 = .ok (.iconst 1, 1) := by decide +kernel
theorem dX10_bestBy_127 : decode cX10_bestBy 127 = .ok (.iadd, 1) := by decide +kernel
theorem dX10_bestBy_128 : decode cX10_bestBy 128 = .ok (.istore 4, 2) := by decide +kernel
theorem dX10_bestBy_130 : decode cX10_bestBy 130 = .ok (.iload 4, 2) := by decide +kernel
theorem dX10_bestBy_132 : decode cX10_bestBy 132 = .ok (.aload_n 0, 1) := by decide +kernel
theorem dX10_bestBy_133 : decode cX10_bestBy 133 = .ok (.getfield 13, 3) := by decide +kernel
theorem dX10_bestBy_136 : decode cX10_bestBy 136 = .ok (.bipush 36, 2) := by decide +kernel
theorem dX10_bestBy_138 : decode cX10_bestBy 138 = .ok (.iload_n 1, 1) := by decide +kernel
theorem dX10_bestBy_139 : decode cX10_bestBy 139 = .ok (.iadd, 1) := by decide +kernel
theorem dX10_bestBy_140 : decode cX10_bestBy 140 = .ok (.iaload, 1) := by decide +kernel
theorem dX10_bestBy_141 : decode cX10_bestBy 141 = .ok (.if_icmp .gt 28, 3) := by decide +kernel
theorem dX10_bestBy_144 : decode cX10_bestBy 144 = .ok (.aload_n 0, 1) := by decide +kernel
theorem dX10_bestBy_145 : decode cX10_bestBy 145 = .ok (.getfield 69, 3) := by decide +kernel
theorem dX10_bestBy_148 : decode cX10_bestBy 148 = .ok (.iload 4, 2) := by decide +kernel
theorem dX10_bestBy_150 : decode cX10_bestBy 150 = .ok (.iaload, 1) := by decide +kernel
theorem dX10_bestBy_151 : decode cX10_bestBy 151 = .ok (.aload_n 0, 1) := by decide +kernel
theorem dX10_bestBy_152 : decode cX10_bestBy 152 = .ok (.getfield 69, 3) := by decide +kernel
theorem dX10_bestBy_155 : decode cX10_bestBy 155 = .ok (.iload_n 3, 1) := by decide +kernel
theorem dX10_bestBy_156 : decode cX10_bestBy 156 = .ok (.iaload, 1) := by decide +kernel
theorem dX10_bestBy_157 : decode cX10_bestBy 157 = .ok (.if_icmp .le 6, 3) := by decide +kernel
theorem dX10_bestBy_160 : decode cX10_bestBy 160 = .ok (.iload 4, 2) := by decide +kernel
theorem dX10_bestBy_162 : decode cX10_bestBy 162 = .ok (.istore_n 3, 1) := by decide +kernel
theorem dX10_bestBy_163 : decode cX10_bestBy 163 = .ok (.iinc 4 1, 3) := by decide +kernel
theorem dX10_bestBy_166 : decode cX10_bestBy 166 = .ok (.goto (-36), 3) := by decide +kernel
theorem dX10_bestBy_169 : decode cX10_bestBy 169 = .ok (.iload_n 3, 1) := by decide +kernel
theorem dX10_bestBy_170 : decode cX10_bestBy 170 = .ok (.ireturn, 1) := by decide +kernel
theorem dX10_refusesBest_0 : decode cX10_refusesBest 0 = .ok (.aload_n 0, 1) := by decide +kernel
theorem dX10_refusesBest_1 : decode cX10_refusesBest 1 = .ok (.iload_n 1, 1) := by decide +kernel
theorem dX10_refusesBest_2 : decode cX10_refusesBest 2 = .ok (.i2l, 1) := by decide +kernel
theorem dX10_refusesBest_3 : decode cX10_refusesBest 3 = .ok (.invokevirtual 173, 3) := by decide +kernel
theorem dX10_refusesBest_6 : decode cX10_refusesBest 6 = .ok (.ifCond .ne 8, 3) := by decide +kernel
theorem dX10_refusesBest_9 : decode cX10_refusesBest 9 = .ok (.bipush (-2), 2) := by decide +kernel
theorem dX10_refusesBest_11 : decode cX10_refusesBest 11 = .ok (.goto 34, 3) := by decide +kernel
theorem dX10_refusesBest_14 : decode cX10_refusesBest 14 = .ok (.aload_n 0, 1) := by decide +kernel
theorem dX10_refusesBest_15 : decode cX10_refusesBest 15 = .ok (.iload_n 1, 1) := by decide +kernel
theorem dX10_refusesBest_16 : decode cX10_refusesBest 16 = .ok (.invokevirtual 202, 3) := by decide +kernel
theorem dX10_refusesBest_19 : decode cX10_refusesBest 19 = .ok (.ifCond .eq 8, 3) := by decide +kernel
theorem dX10_refusesBest_22 : decode cX10_refusesBest 22 = .ok (.bipush (-5), 2) := by decide +kernel
theorem dX10_refusesBest_24 : decode cX10_refusesBest 24 = .ok (.goto 21, 3) := by decide +kernel
theorem dX10_refusesBest_27 : decode cX10_refusesBest 27 = .ok (.iload_n 2, 1) := by decide +kernel
theorem dX10_refusesBest_28 : decode cX10_refusesBest 28 = .ok (.i2l, 1) := by decide +kernel
theorem dX10_refusesBest_29 : decode cX10_refusesBest 29 = .ok (.lconst 1, 1) := by decide +kernel
theorem dX10_refusesBest_30 : decode cX10_refusesBest 30 = .ok (.ldc2_w 358, 3) := by decide +kernel
theorem dX10_refusesBest_33 : decode cX10_refusesBest 33 = .ok (.invokestatic 149, 3) := by decide +kernel
theorem dX10_refusesBest_36 : decode cX10_refusesBest 36 = .ok (.ifCond .eq 7, 3) := by decide +kernel
theorem dX10_refusesBest_39 : decode cX10_refusesBest 39 = .ok (.iconst 0, 1) := by decide +kernel
theorem dX10_refusesBest_40 : decode cX10_refusesBest 40 = .ok (.goto 5, 3) := by decide +kernel
theorem dX10_refusesBest_43 : decode cX10_refusesBest 43 = .ok (.bipush (-3), 2) := by decide +kernel
theorem dX10_refusesBest_45 : decode cX10_refusesBest 45 = .ok (.ireturn, 1) := by decide +kernel
theorem dX10_best_0 : decode cX10_best 0 = .ok (.aload_n 0, 1) := by decide +kernel
theorem dX10_best_1 : decode cX10_best 1 = .ok (.iconst 0, 1) := by decide +kernel
theorem dX10_best_2 : decode cX10_best 2 = .ok (.putfield 1, 3) := by decide +kernel
theorem dX10_best_5 : decode cX10_best 5 = .ok (.aload_n 0, 1) := by decide +kernel
theorem dX10_best_6 : decode cX10_best 6 = .ok (.iload_n 1, 1) := by decide +kernel
theorem dX10_best_7 : decode cX10_best 7 = .ok (.iload_n 2, 1) := by decide +kernel
theorem dX10_best_8 : decode cX10_best 8 = .ok (.invokevirtual 360, 3) := by decide +kernel
theorem dX10_best_11 : decode cX10_best 11 = .ok (.istore_n 3, 1) := by decide +kernel
theorem dX10_best_12 : decode cX10_best 12 = .ok (.iload_n 3, 1) := by decide +kernel
theorem dX10_best_13 : decode cX10_best 13 = .ok (.ifCond .eq 7, 3) := by decide +kernel
theorem dX10_best_16 : decode cX10_best 16 = .ok (.iload_n 3, 1) := by decide +kernel
theorem dX10_best_17 : decode cX10_best 17 = .ok (.goto 9, 3) := by decide +kernel
theorem dX10_best_20 : decode cX10_best 20 = .ok (.aload_n 0, 1) := by decide +kernel
theorem dX10_best_21 : decode cX10_best 21 = .ok (.iload_n 1, 1) := by decide +kernel
theorem dX10_best_22 : decode cX10_best 22 = .ok (.iload_n 2, 1) := by decide +kernel
theorem dX10_best_23 : decode cX10_best 23 = .ok (.invokevirtual 363, 3) := by decide +kernel
theorem dX10_best_26 : decode cX10_best 26 = .ok (.ireturn, 1) := by decide +kernel
theorem dX10_breaks_0 : decode cX10_breaks 0 = .ok (.aload_n 0, 1) := by decide +kernel
theorem dX10_breaks_1 : decode cX10_breaks 1 = .ok (.iconst 0, 1) := by decide +kernel
theorem dX10_breaks_2 : decode cX10_breaks 2 = .ok (.putfield 1, 3) := by decide +kernel
theorem dX10_breaks_5 : decode cX10_breaks 5 = .ok (.iload_n 1, 1) := by decide +kernel
theorem dX10_breaks_6 : decode cX10_breaks 6 = .ok (.i2l, 1) := by decide +kernel
theorem dX10_breaks_7 : decode cX10_breaks 7 = .ok (.lconst 1, 1) := by decide +kernel
theorem dX10_breaks_8 : decode cX10_breaks 8 = .ok (.ldc2_w 366, 3) := by decide +kernel
theorem dX10_breaks_11 : decode cX10_breaks 11 = .ok (.invokestatic 149, 3) := by decide +kernel
theorem dX10_breaks_14 : decode cX10_breaks 14 = .ok (.ifCond .ne 6, 3) := by decide +kernel
theorem dX10_breaks_17 : decode cX10_breaks 17 = .ok (.bipush (-3), 2) := by decide +kernel
theorem dX10_breaks_19 : decode cX10_breaks 19 = .ok (.ireturn, 1) := by decide +kernel
theorem dX10_breaks_20 : decode cX10_breaks 20 = .ok (.iconst 1, 1) := by decide +kernel
theorem dX10_breaks_21 : decode cX10_breaks 21 = .ok (.istore_n 2, 1) := by decide +kernel
theorem dX10_breaks_22 : decode cX10_breaks 22 = .ok (.iload_n 2, 1) := by decide +kernel
theorem dX10_breaks_23 : decode cX10_breaks 23 = .ok (.iload_n 1, 1) := by decide +kernel
theorem dX10_breaks_24 : decode cX10_breaks 24 = .ok (.if_icmp .gt 19, 3) := by decide +kernel
theorem dX10_breaks_27 : decode cX10_breaks 27 = .ok (.aload_n 0, 1) := by decide +kernel
theorem dX10_breaks_28 : decode cX10_breaks 28 = .ok (.iload_n 2, 1) := by decide +kernel
theorem dX10_breaks_29 : decode cX10_breaks 29 = .ok (.invokevirtual 352, 3) := by decide +kernel
theorem dX10_breaks_32 : decode cX10_breaks 32 = .ok (.ifCond .ne 5, 3) := by decide +kernel
theorem dX10_breaks_35 : decode cX10_breaks 35 = .ok (.iload_n 2, 1) := by decide +kernel
theorem dX10_breaks_36 : decode cX10_breaks 36 = .ok (.ireturn, 1) := by decide +kernel
theorem dX10_breaks_37 : decode cX10_breaks 37 = .ok (.iinc 2 1, 3) := by decide +kernel
theorem dX10_breaks_40 : decode cX10_breaks 40 = .ok (.goto (-18), 3) := by decide +kernel
theorem dX10_breaks_43 : decode cX10_breaks 43 = .ok (.iconst (-1), 1) := by decide +kernel
theorem dX10_breaks_44 : decode cX10_breaks 44 = .ok (.ireturn, 1) := by decide +kernel
theorem dX10_worth_0 : decode cX10_worth 0 = .ok (.aload_n 0, 1) := by decide +kernel
theorem dX10_worth_1 : decode cX10_worth 1 = .ok (.iconst 0, 1) := by decide +kernel
theorem dX10_worth_2 : decode cX10_worth 2 = .ok (.putfield 1, 3) := by decide +kernel
theorem dX10_worth_5 : decode cX10_worth 5 = .ok (.aload_n 0, 1) := by decide +kernel
theorem dX10_worth_6 : decode cX10_worth 6 = .ok (.iload_n 1, 1) := by decide +kernel
theorem dX10_worth_7 : decode cX10_worth 7 = .ok (.iload_n 2, 1) := by decide +kernel
theorem dX10_worth_8 : decode cX10_worth 8 = .ok (.invokevirtual 360, 3) := by decide +kernel
theorem dX10_worth_11 : decode cX10_worth 11 = .ok (.istore_n 3, 1) := by decide +kernel
theorem dX10_worth_12 : decode cX10_worth 12 = .ok (.iload_n 3, 1) := by decide +kernel
theorem dX10_worth_13 : decode cX10_worth 13 = .ok (.ifCond .eq 5, 3) := by decide +kernel
theorem dX10_worth_16 : decode cX10_worth 16 = .ok (.iload_n 3, 1) := by decide +kernel
theorem dX10_worth_17 : decode cX10_worth 17 = .ok (.ireturn, 1) := by decide +kernel
theorem dX10_worth_18 : decode cX10_worth 18 = .ok (.aload_n 0, 1) := by decide +kernel
theorem dX10_worth_19 : decode cX10_worth 19 = .ok (.iload_n 1, 1) := by decide +kernel
theorem dX10_worth_20 : decode cX10_worth 20 = .ok (.iload_n 2, 1) := by decide +kernel
theorem dX10_worth_21 : decode cX10_worth 21 = .ok (.invokevirtual 363, 3) := by decide +kernel
theorem dX10_worth_24 : decode cX10_worth 24 = .ok (.istore 4, 2) := by decide +kernel
theorem dX10_worth_26 : decode cX10_worth 26 = .ok (.aload_n 0, 1) := by decide +kernel
theorem dX10_worth_27 : decode cX10_worth 27 = .ok (.getfield 355, 3) := by decide +kernel
theorem dX10_worth_30 : decode cX10_worth 30 = .ok (.aload_n 0, 1) := by decide +kernel
theorem dX10_worth_31 : decode cX10_worth 31 = .ok (.getfield 69, 3) := by decide +kernel
theorem dX10_worth_34 : decode cX10_worth 34 = .ok (.iload 4, 2) := by decide +kernel
theorem dX10_worth_36 : decode cX10_worth 36 = .ok (.iaload, 1) := by decide +kernel
theorem dX10_worth_37 : decode cX10_worth 37 = .ok (.isub, 1) := by decide +kernel
theorem dX10_worth_38 : decode cX10_worth 38 = .ok (.ireturn, 1) := by decide +kernel
theorem dX10_sky_0 : decode cX10_sky 0 = .ok (.aload_n 0, 1) := by decide +kernel
theorem dX10_sky_1 : decode cX10_sky 1 = .ok (.iconst 0, 1) := by decide +kernel
theorem dX10_sky_2 : decode cX10_sky 2 = .ok (.putfield 1, 3) := by decide +kernel
theorem dX10_sky_5 : decode cX10_sky 5 = .ok (.aload_n 0, 1) := by decide +kernel
theorem dX10_sky_6 : decode cX10_sky 6 = .ok (.invokevirtual 226, 3) := by decide +kernel
theorem dX10_sky_9 : decode cX10_sky 9 = .ok (.iconst 0, 1) := by decide +kernel
theorem dX10_sky_10 : decode cX10_sky 10 = .ok (.istore_n 1, 1) := by decide +kernel
theorem dX10_sky_11 : decode cX10_sky 11 = .ok (.iload_n 1, 1) := by decide +kernel
theorem dX10_sky_12 : decode cX10_sky 12 = .ok (.sipush 1000, 3) := by decide +kernel
theorem dX10_sky_15 : decode cX10_sky 15 = .ok (.if_icmp .ge 16, 3) := by decide +kernel
theorem dX10_sky_18 : decode cX10_sky 18 = .ok (.aload_n 0, 1) := by decide +kernel
theorem dX10_sky_19 : decode cX10_sky 19 = .ok (.getfield 72, 3) := by decide +kernel
theorem dX10_sky_22 : decode cX10_sky 22 = .ok (.iload_n 1, 1) := by decide +kernel
theorem dX10_sky_23 : decode cX10_sky 23 = .ok (.iconst 0, 1) := by decide +kernel
theorem dX10_sky_24 : decode cX10_sky 24 = .ok (.bastore, 1) := by decide +kernel
theorem dX10_sky_25 : decode cX10_sky 25 = .ok (.iinc 1 1, 3) := by decide +kernel
theorem dX10_sky_28 : decode cX10_sky 28 = .ok (.goto (-17), 3) := by decide +kernel
theorem dX10_sky_31 : decode cX10_sky 31 = .ok (.iconst 0, 1) := by decide +kernel
theorem dX10_sky_32 : decode cX10_sky 32 = .ok (.istore_n 1, 1) := by decide +kernel
theorem dX10_sky_33 : decode cX10_sky 33 = .ok (.iload_n 1, 1) := by decide +kernel
theorem dX10_sky_34 : decode cX10_sky 34 = .ok (.aload_n 0, 1) := by decide +kernel
theorem dX10_sky_35 : decode cX10_sky 35 = .ok (.getfield 13, 3) := by decide +kernel
theorem dX10_sky_38 : decode cX10_sky 38 = .ok (.iconst 0, 1) := by decide +kernel
theorem dX10_sky_39 : decode cX10_sky 39 = .ok (.iaload, 1) := by decide +kernel
theorem dX10_sky_40 : decode cX10_sky 40 = .ok (.if_icmp .ge 46, 3) := by decide +kernel
theorem dX10_sky_43 : decode cX10_sky 43 = .ok (.iconst 0, 1) := by decide +kernel
theorem dX10_sky_44 : decode cX10_sky 44 = .ok (.istore_n 2, 1) := by decide +kernel
theorem dX10_sky_45 : decode cX10_sky 45 = .ok (.iload_n 2, 1) := by decide +kernel
theorem dX10_sky_46 : decode cX10_sky 46 = .ok (.aload_n 0, 1) := by decide +kernel
theorem dX10_sky_47 : decode cX10_sky 47 = .ok (.getfield 39, 3) := by decide +kernel
theorem dX10_sky_50 : decode cX10_sky 50 = .ok (.iload_n 1, 1) := by decide +kernel
theorem dX10_sky_51 : decode cX10_sky 51 = .ok (.iaload, 1) := by decide +kernel
theorem dX10_sky_52 : decode cX10_sky 52 = .ok (.if_icmp .ge 28, 3) := by decide +kernel
theorem dX10_sky_55 : decode cX10_sky 55 = .ok (.aload_n 0, 1) := by decide +kernel
theorem dX10_sky_56 : decode cX10_sky 56 = .ok (.getfield 72, 3) := by decide +kernel
theorem dX10_sky_59 : decode cX10_sky 59 = .ok (.aload_n 0, 1) := by decide +kernel
theorem dX10_sky_60 : decode cX10_sky 60 = .ok (.iload_n 1, 1) := by decide +kernel
theorem dX10_sky_61 : decode cX10_sky 61 = .ok (.iload_n 2, 1) := by decide +kernel
theorem dX10_sky_62 : decode cX10_sky 62 = .ok (.invokevirtual 195, 3) := by decide +kernel
theorem dX10_sky_65 : decode cX10_sky 65 = .ok (.bipush 10, 2) := by decide +kernel
theorem dX10_sky_67 : decode cX10_sky 67 = .ok (.idiv, 1) := by decide +kernel
theorem dX10_sky_68 : decode cX10_sky 68 = .ok (.sipush 1000, 3) := by decide +kernel
theorem dX10_sky_71 : decode cX10_sky 71 = .ok (.irem, 1) := by decide +kernel
theorem dX10_sky_72 : decode cX10_sky 72 = .ok (.iconst 1, 1) := by decide +kernel
theorem dX10_sky_73 : decode cX10_sky 73 = .ok (.bastore, 1) := by decide +kernel
theorem dX10_sky_74 : decode cX10_sky 74 = .ok (.iinc 2 1, 3) := by decide +kernel
theorem dX10_sky_77 : decode cX10_sky 77 = .ok (.goto (-32), 3) := by decide +kernel
theorem dX10_sky_80 : decode cX10_sky 80 = .ok (.iinc 1 1, 3) := by decide +kernel
theorem dX10_sky_83 : decode cX10_sky 83 = .ok (.goto (-50), 3) := by decide +kernel
theorem dX10_sky_86 : decode cX10_sky 86 = .ok (.iconst 0, 1) := by decide +kernel
theorem dX10_sky_87 : decode cX10_sky 87 = .ok (.istore_n 1, 1) := by decide +kernel
theorem dX10_sky_88 : decode cX10_sky 88 = .ok (.iconst 0, 1) := by decide +kernel
theorem dX10_sky_89 : decode cX10_sky 89 = .ok (.istore_n 2, 1) := by decide +kernel
theorem dX10_sky_90 : decode cX10_sky 90 = .ok (.iload_n 2, 1) := by decide +kernel
theorem dX10_sky_91 : decode cX10_sky 91 = .ok (.sipush 1000, 3) := by decide +kernel
theorem dX10_sky_94 : decode cX10_sky 94 = .ok (.if_icmp .ge 26, 3) := by decide +kernel
theorem dX10_sky_97 : decode cX10_sky 97 = .ok (.iload_n 1, 1) := by decide +kernel
theorem dX10_sky_98 : decode cX10_sky 98 = .ok (.aload_n 0, 1) := by decide +kernel
theorem dX10_sky_99 : decode cX10_sky 99 = .ok (.getfield 72, 3) := by decide +kernel
theorem dX10_sky_102 : decode cX10_sky 102 = .ok (.iload_n 2, 1) := by decide +kernel
theorem dX10_sky_103 : decode cX10_sky 103 = .ok (.baload, 1) := by decide +kernel
theorem dX10_sky_104 : decode cX10_sky 104 = .ok (.ifCond .eq 7, 3) := by decide +kernel
theorem dX10_sky_107 : decode cX10_sky 107 = .ok (.iconst 1, 1) := by decide +kernel
theorem dX10_sky_108 : decode cX10_sky 108 = .ok (.goto 4, 3) := by decide +kernel
theorem dX10_sky_111 : decode cX10_sky 111 = .ok (.iconst 0, 1) := by decide +kernel
theorem dX10_sky_112 : decode cX10_sky 112 = .ok (.iadd, 1) := by decide +kernel
theorem dX10_sky_113 : decode cX10_sky 113 = .ok (.istore_n 1, 1) := by decide +kernel
theorem dX10_sky_114 : decode cX10_sky 114 = .ok (.iinc 2 1, 3) := by decide +kernel
theorem dX10_sky_117 : decode cX10_sky 117 = .ok (.goto (-27), 3) := by decide +kernel
theorem dX10_sky_120 : decode cX10_sky 120 = .ok (.iload_n 1, 1) := by decide +kernel
theorem dX10_sky_121 : decode cX10_sky 121 = .ok (.bipush 100, 2) := by decide +kernel
theorem dX10_sky_123 : decode cX10_sky 123 = .ok (.imul, 1) := by decide +kernel
theorem dX10_sky_124 : decode cX10_sky 124 = .ok (.sipush 1000, 3) := by decide +kernel
theorem dX10_sky_127 : decode cX10_sky 127 = .ok (.idiv, 1) := by decide +kernel
theorem dX10_sky_128 : decode cX10_sky 128 = .ok (.ireturn, 1) := by decide +kernel
theorem dX10_cut_0 : decode cX10_cut 0 = .ok (.iload_n 2, 1) := by decide +kernel
theorem dX10_cut_1 : decode cX10_cut 1 = .ok (.ifCond .ne 10, 3) := by decide +kernel
theorem dX10_cut_4 : decode cX10_cut 4 = .ok (.lload_n 0, 1) := by decide +kernel
theorem dX10_cut_5 : decode cX10_cut 5 = .ok (.l2i, 1) := by decide +kernel
theorem dX10_cut_6 : decode cX10_cut 6 = .ok (.i2b, 1) := by decide +kernel
theorem dX10_cut_7 : decode cX10_cut 7 = .ok (.i2l, 1) := by decide +kernel
theorem dX10_cut_8 : decode cX10_cut 8 = .ok (.goto 27, 3) := by decide +kernel
theorem dX10_cut_11 : decode cX10_cut 11 = .ok (.iload_n 2, 1) := by decide +kernel
theorem dX10_cut_12 : decode cX10_cut 12 = .ok (.iconst 1, 1) := by decide +kernel
theorem dX10_cut_13 : decode cX10_cut 13 = .ok (.if_icmp .ne 10, 3) := by decide +kernel
theorem dX10_cut_16 : decode cX10_cut 16 = .ok (.lload_n 0, 1) := by decide +kernel
theorem dX10_cut_17 : decode cX10_cut 17 = .ok (.l2i, 1) := by decide +kernel
theorem dX10_cut_18 : decode cX10_cut 18 = .ok (.i2s, 1) := by decide +kernel
theorem dX10_cut_19 : decode cX10_cut 19 = .ok (.i2l, 1) := by decide +kernel
theorem dX10_cut_20 : decode cX10_cut 20 = .ok (.goto 15, 3) := by decide +kernel
theorem dX10_cut_23 : decode cX10_cut 23 = .ok (.iload_n 2, 1) := by decide +kernel
theorem dX10_cut_24 : decode cX10_cut 24 = .ok (.iconst 2, 1) := by decide +kernel
theorem dX10_cut_25 : decode cX10_cut 25 = .ok (.if_icmp .ne 9, 3) := by decide +kernel
theorem dX10_cut_28 : decode cX10_cut 28 = .ok (.lload_n 0, 1) := by decide +kernel
theorem dX10_cut_29 : decode cX10_cut 29 = .ok (.l2i, 1) := by decide +kernel
theorem dX10_cut_30 : decode cX10_cut 30 = .ok (.i2l, 1) := by decide +kernel
theorem dX10_cut_31 : decode cX10_cut 31 = .ok (.goto 4, 3) := by decide +kernel
theorem dX10_cut_34 : decode cX10_cut 34 = .ok (.lload_n 0, 1) := by decide +kernel
theorem dX10_cut_35 : decode cX10_cut 35 = .ok (.lreturn, 1) := by decide +kernel
theorem dX10_numbers_0 : decode cX10_numbers 0 = .ok (.aload_n 0, 1) := by decide +kernel
theorem dX10_numbers_1 : decode cX10_numbers 1 = .ok (.iconst 0, 1) := by decide +kernel
theorem dX10_numbers_2 : decode cX10_numbers 2 = .ok (.putfield 1, 3) := by decide +kernel
theorem dX10_numbers_5 : decode cX10_numbers 5 = .ok (.iload_n 1, 1) := by decide +kernel
theorem dX10_numbers_6 : decode cX10_numbers 6 = .ok (.i2l, 1) := by decide +kernel
theorem dX10_numbers_7 : decode cX10_numbers 7 = .ok (.lconst 0, 1) := by decide +kernel
theorem dX10_numbers_8 : decode cX10_numbers 8 = .ok (.ldc2_w 239, 3) := by decide +kernel
theorem dX10_numbers_11 : decode cX10_numbers 11 = .ok (.invokestatic 149, 3) := by decide +kernel
theorem dX10_numbers_14 : decode cX10_numbers 14 = .ok (.ifCond .eq 15, 3) := by decide +kernel
theorem dX10_numbers_17 : decode cX10_numbers 17 = .ok (.iload_n 2, 1) := by decide +kernel
theorem dX10_numbers_18 : decode cX10_numbers 18 = .ok (.i2l, 1) := by decide +kernel
theorem dX10_numbers_19 : decode cX10_numbers 19 = .ok (.lconst 0, 1) := by decide +kernel
theorem dX10_numbers_20 : decode cX10_numbers 20 = .ok (.ldc2_w 239, 3) := by decide +kernel
theorem dX10_numbers_23 : decode cX10_numbers 23 = .ok (.invokestatic 149, 3) := by decide +kernel
theorem dX10_numbers_26 : decode cX10_numbers 26 = .ok (.ifCond .ne 6, 3) := by decide +kernel
theorem dX10_numbers_29 : decode cX10_numbers 29 = .ok (.bipush (-2), 2) := by decide +kernel
theorem dX10_numbers_31 : decode cX10_numbers 31 = .ok (.ireturn, 1) := by decide +kernel
theorem dX10_numbers_32 : decode cX10_numbers 32 = .ok (.iload_n 3, 1) := by decide +kernel
theorem dX10_numbers_33 : decode cX10_numbers 33 = .ok (.i2l, 1) := by decide +kernel
theorem dX10_numbers_34 : decode cX10_numbers 34 = .ok (.lconst 0, 1) := by decide +kernel
theorem dX10_numbers_35 : decode cX10_numbers 35 = .ok (.ldc2_w 368, 3) := by decide +kernel
theorem dX10_numbers_38 : decode cX10_numbers 38 = .ok (.invokestatic 149, 3) := by decide +kernel
theorem dX10_numbers_41 : decode cX10_numbers 41 = .ok (.ifCond .ne 6, 3) := by decide +kernel
theorem dX10_numbers_44 : decode cX10_numbers 44 = .ok (.bipush (-3), 2) := by decide +kernel
theorem dX10_numbers_46 : decode cX10_numbers 46 = .ok (.ireturn, 1) := by decide +kernel
theorem dX10_numbers_47 : decode cX10_numbers 47 = .ok (.aload_n 0, 1) := by decide +kernel
theorem dX10_numbers_48 : decode cX10_numbers 48 = .ok (.getfield 75, 3) := by decide +kernel
theorem dX10_numbers_51 : decode cX10_numbers 51 = .ok (.iload_n 1, 1) := by decide +kernel
theorem dX10_numbers_52 : decode cX10_numbers 52 = .ok (.iload_n 2, 1) := by decide +kernel
theorem dX10_numbers_53 : decode cX10_numbers 53 = .ok (.iastore, 1) := by decide +kernel
theorem dX10_numbers_54 : decode cX10_numbers 54 = .ok (.aload_n 0, 1) := by decide +kernel
theorem dX10_numbers_55 : decode cX10_numbers 55 = .ok (.getfield 78, 3) := by decide +kernel
theorem dX10_numbers_58 : decode cX10_numbers 58 = .ok (.iload_n 1, 1) := by decide +kernel
theorem dX10_numbers_59 : decode cX10_numbers 59 = .ok (.iload_n 3, 1) := by decide +kernel
theorem dX10_numbers_60 : decode cX10_numbers 60 = .ok (.iastore, 1) := by decide +kernel
theorem dX10_numbers_61 : decode cX10_numbers 61 = .ok (.iconst 0, 1) := by decide +kernel
theorem dX10_numbers_62 : decode cX10_numbers 62 = .ok (.istore 4, 2) := by decide +kernel
theorem dX10_numbers_64 : decode cX10_numbers 64 = .ok (.iload 4, 2) := by decide +kernel
theorem dX10_numbers_66 : decode cX10_numbers 66 = .ok (.iload_n 3, 1) := by decide +kernel
theorem dX10_numbers_67 : decode cX10_numbers 67 = .ok (.if_icmp .ge 22, 3) := by decide +kernel
theorem dX10_numbers_70 : decode cX10_numbers 70 = .ok (.aload_n 0, 1) := by decide +kernel
theorem dX10_numbers_71 : decode cX10_numbers 71 = .ok (.getfield 81, 3) := by decide +kernel
theorem dX10_numbers_74 : decode cX10_numbers 74 = .ok (.bipush 40, 2) := by decide +kernel
theorem dX10_numbers_76 : decode cX10_numbers 76 = .ok (.iload_n 1, 1) := by decide +kernel
theorem dX10_numbers_77 : decode cX10_numbers 77 = .ok (.imul, 1) := by decide +kernel
theorem dX10_numbers_78 : decode cX10_numbers 78 = .ok (.iload 4, 2) := by decide +kernel
theorem dX10_numbers_80 : decode cX10_numbers 80 = .ok (.iadd, 1) := by decide +kernel
theorem dX10_numbers_81 : decode cX10_numbers 81 = .ok (.lconst 0, 1) := by decide +kernel
theorem dX10_numbers_82 : decode cX10_numbers 82 = .ok (.lastore, 1) := by decide +kernel
theorem dX10_numbers_83 : decode cX10_numbers 83 = .ok (.iinc 4 1, 3) := by decide +kernel
theorem dX10_numbers_86 : decode cX10_numbers 86 = .ok (.goto (-22), 3) := by decide +kernel
theorem dX10_numbers_89 : decode cX10_numbers 89 = .ok (.iconst 0, 1) := by decide +kernel
theorem dX10_numbers_90 : decode cX10_numbers 90 = .ok (.ireturn, 1) := by decide +kernel
theorem dX10_write_0 : decode cX10_write 0 = .ok (.aload_n 0, 1) := by decide +kernel
theorem dX10_write_1 : decode cX10_write 1 = .ok (.iconst 0, 1) := by decide +kernel
theorem dX10_write_2 : decode cX10_write 2 = .ok (.putfield 1, 3) := by decide +kernel
theorem dX10_write_5 : decode cX10_write 5 = .ok (.iload_n 1, 1) := by decide +kernel
theorem dX10_write_6 : decode cX10_write 6 = .ok (.i2l, 1) := by decide +kernel
theorem dX10_write_7 : decode cX10_write 7 = .ok (.lconst 0, 1) := by decide +kernel
theorem dX10_write_8 : decode cX10_write 8 = .ok (.ldc2_w 239, 3) := by decide +kernel
theorem dX10_write_11 : decode cX10_write 11 = .ok (.invokestatic 149, 3) := by decide +kernel
theorem dX10_write_14 : decode cX10_write 14 = .ok (.ifCond .ne 7, 3) := by decide +kernel
theorem dX10_write_17 : decode cX10_write 17 = .ok (.ldc2_w 370, 3) := by decide +kernel
theorem dX10_write_20 : decode cX10_write 20 = .ok (.lreturn, 1) := by decide +kernel
theorem dX10_write_21 : decode cX10_write 21 = .ok (.aload_n 0, 1) := by decide +kernel
theorem dX10_write_22 : decode cX10_write 22 = .ok (.getfield 75, 3) := by decide +kernel
theorem dX10_write_25 : decode cX10_write 25 = .ok (.iload_n 1, 1) := by decide +kernel
theorem dX10_write_26 : decode cX10_write 26 = .ok (.iaload, 1) := by decide +kernel
theorem dX10_write_27 : decode cX10_write 27 = .ok (.iconst (-1), 1) := by decide +kernel
theorem dX10_write_28 : decode cX10_write 28 = .ok (.if_icmp .ne 7, 3) := by decide +kernel
theorem dX10_write_31 : decode cX10_write 31 = .ok (.ldc2_w 372, 3) := by decide +kernel
theorem dX10_write_34 : decode cX10_write 34 = .ok (.lreturn, 1) := by decide +kernel
theorem dX10_write_35 : decode cX10_write 35 = .ok (.iload_n 2, 1) := by decide +kernel
theorem dX10_write_36 : decode cX10_write 36 = .ok (.i2l, 1) := by decide +kernel
theorem dX10_write_37 : decode cX10_write 37 = .ok (.lconst 0, 1) := by decide +kernel
theorem dX10_write_38 : decode cX10_write 38 = .ok (.aload_n 0, 1) := by decide +kernel
theorem dX10_write_39 : decode cX10_write 39 = .ok (.getfield 78, 3) := by decide +kernel
theorem dX10_write_42 : decode cX10_write 42 = .ok (.iload_n 1, 1) := by decide +kernel
theorem dX10_write_43 : decode cX10_write 43 = .ok (.iaload, 1) := by decide +kernel
theorem dX10_write_44 : decode cX10_write 44 = .ok (.iconst 1, 1) := by decide +kernel
theorem dX10_write_45 : decode cX10_write 45 = .ok (.isub, 1) := by decide +kernel
theorem dX10_write_46 : decode cX10_write 46 = .ok (.i2l, 1) := by decide +kernel
theorem dX10_write_47 : decode cX10_write 47 = .ok (.invokestatic 149, 3) := by decide +kernel
theorem dX10_write_50 : decode cX10_write 50 = .ok (.ifCond .ne 7, 3) := by decide +kernel
theorem dX10_write_53 : decode cX10_write 53 = .ok (.ldc2_w 374, 3) := by decide +kernel
theorem dX10_write_56 : decode cX10_write 56 = .ok (.lreturn, 1) := by decide +kernel
theorem dX10_write_57 : decode cX10_write 57 = .ok (.aload_n 0, 1) := by decide +kernel
theorem dX10_write_58 : decode cX10_write 58 = .ok (.getfield 81, 3) := by decide +kernel
theorem dX10_write_61 : decode cX10_write 61 = .ok (.bipush 40, 2) := by decide +kernel
theorem dX10_write_63 : decode cX10_write 63 = .ok (.iload_n 1, 1) := by decide +kernel
theorem dX10_write_64 : decode cX10_write 64 = .ok (.imul, 1) := by decide +kernel
theorem dX10_write_65 : decode cX10_write 65 = .ok (.iload_n 2, 1) := by decide +kernel
theorem dX10_write_66 : decode cX10_write 66 = .ok (.iadd, 1) := by decide +kernel
theorem dX10_write_67 : decode cX10_write 67 = .ok (.lload_n 3, 1) := by decide +kernel
theorem dX10_write_68 : decode cX10_write 68 = .ok (.aload_n 0, 1) := by decide +kernel
theorem dX10_write_69 : decode cX10_write 69 = .ok (.getfield 75, 3) := by decide +kernel
theorem dX10_write_72 : decode cX10_write 72 = .ok (.iload_n 1, 1) := by decide +kernel
theorem dX10_write_73 : decode cX10_write 73 = .ok (.iaload, 1) := by decide +kernel
theorem dX10_write_74 : decode cX10_write 74 = .ok (.invokestatic 376, 3) := by decide +kernel
theorem dX10_write_77 : decode cX10_write 77 = .ok (.lastore, 1) := by decide +kernel
theorem dX10_write_78 : decode cX10_write 78 = .ok (.aload_n 0, 1) := by decide +kernel
theorem dX10_write_79 : decode cX10_write 79 = .ok (.getfield 81, 3) := by decide +kernel
theorem dX10_write_82 : decode cX10_write 82 = .ok (.bipush 40, 2) := by decide +kernel
theorem dX10_write_84 : decode cX10_write 84 = .ok (.iload_n 1, 1) := by decide +kernel
theorem dX10_write_85 : decode cX10_write 85 = .ok (.imul, 1) := by decide +kernel
theorem dX10_write_86 : decode cX10_write 86 = .ok (.iload_n 2, 1) := by decide +kernel
theorem dX10_write_87 : decode cX10_write 87 = .ok (.iadd, 1) := by decide +kernel
theorem dX10_write_88 : decode cX10_write 88 = .ok (.laload, 1) := by decide +kernel
theorem dX10_write_89 : decode cX10_write 89 = .ok (.lreturn, 1) := by decide +kernel
theorem dX10_copy_0 : decode cX10_copy 0 = .ok (.aload_n 0, 1) := by decide +kernel
theorem dX10_copy_1 : decode cX10_copy 1 = .ok (.iconst 0, 1) := by decide +kernel
theorem dX10_copy_2 : decode cX10_copy 2 = .ok (.putfield 1, 3) := by decide +kernel
theorem dX10_copy_5 : decode cX10_copy 5 = .ok (.iload_n 1, 1) := by decide +kernel
theorem dX10_copy_6 : decode cX10_copy 6 = .ok (.i2l, 1) := by decide +kernel
theorem dX10_copy_7 : decode cX10_copy 7 = .ok (.lconst 0, 1) := by decide +kernel
theorem dX10_copy_8 : decode cX10_copy 8 = .ok (.ldc2_w 239, 3) := by decide +kernel
theorem dX10_copy_11 : decode cX10_copy 11 = .ok (.invokestatic 149, 3) := by decide +kernel
theorem dX10_copy_14 : decode cX10_copy 14 = .ok (.ifCond .ne 6, 3) := by decide +kernel
theorem dX10_copy_17 : decode cX10_copy 17 = .ok (.bipush (-2), 2) := by decide +kernel
theorem dX10_copy_19 : decode cX10_copy 19 = .ok (.ireturn, 1) := by decide +kernel
theorem dX10_copy_20 : decode cX10_copy 20 = .ok (.aload_n 0, 1) := by decide +kernel
theorem dX10_copy_21 : decode cX10_copy 21 = .ok (.getfield 75, 3) := by decide +kernel
theorem dX10_copy_24 : decode cX10_copy 24 = .ok (.iload_n 1, 1) := by decide +kernel
theorem dX10_copy_25 : decode cX10_copy 25 = .ok (.iaload, 1) := by decide +kernel
theorem dX10_copy_26 : decode cX10_copy 26 = .ok (.iconst (-1), 1) := by decide +kernel
theorem dX10_copy_27 : decode cX10_copy 27 = .ok (.if_icmp .ne 6, 3) := by decide +kernel
theorem dX10_copy_30 : decode cX10_copy 30 = .ok (.bipush (-6), 2) := by decide +kernel
theorem dX10_copy_32 : decode cX10_copy 32 = .ok (.ireturn, 1) := by decide +kernel
theorem dX10_copy_33 : decode cX10_copy 33 = .ok (.aload_n 0, 1) := by decide +kernel
theorem dX10_copy_34 : decode cX10_copy 34 = .ok (.getfield 78, 3) := by decide +kernel
theorem dX10_copy_37 : decode cX10_copy 37 = .ok (.iload_n 1, 1) := by decide +kernel
theorem dX10_copy_38 : decode cX10_copy 38 = .ok (.iaload, 1) := by decide +kernel
theorem dX10_copy_39 : decode cX10_copy 39 = .ok (.aload_n 0, 1) := by decide +kernel
theorem dX10_copy_40 : decode cX10_copy 40 = .ok (.getfield 13, 3) := by decide +kernel
theorem dX10_copy_43 : decode cX10_copy 43 = .ok (.iconst 0, 1) := by decide +kernel
theorem dX10_copy_44 : decode cX10_copy 44 = .ok (.iaload, 1) := by decide +kernel
theorem dX10_copy_45 : decode cX10_copy 45 = .ok (.if_icmp .ge 6, 3) := by decide +kernel
theorem dX10_copy_48 : decode cX10_copy 48 = .ok (.bipush (-7), 2) := by decide +kernel
theorem dX10_copy_50 : decode cX10_copy 50 = .ok (.ireturn, 1) := by decide +kernel
theorem dX10_copy_51 : decode cX10_copy 51 = .ok (.iconst 0, 1) := by decide +kernel
theorem dX10_copy_52 : decode cX10_copy 52 = .ok (.istore_n 2, 1) := by decide +kernel
theorem dX10_copy_53 : decode cX10_copy 53 = .ok (.iload_n 2, 1) := by decide +kernel
theorem dX10_copy_54 : decode cX10_copy 54 = .ok (.aload_n 0, 1) := by decide +kernel
theorem dX10_copy_55 : decode cX10_copy 55 = .ok (.getfield 13, 3) := by decide +kernel
theorem dX10_copy_58 : decode cX10_copy 58 = .ok (.iconst 0, 1) := by decide +kernel
theorem dX10_copy_59 : decode cX10_copy 59 = .ok (.iaload, 1) := by decide +kernel
theorem dX10_copy_60 : decode cX10_copy 60 = .ok (.if_icmp .ge 26, 3) := by decide +kernel
theorem dX10_copy_63 : decode cX10_copy 63 = .ok (.aload_n 0, 1) := by decide +kernel
theorem dX10_copy_64 : decode cX10_copy 64 = .ok (.getfield 81, 3) := by decide +kernel
theorem dX10_copy_67 : decode cX10_copy 67 = .ok (.bipush 40, 2) := by decide +kernel
theorem dX10_copy_69 : decode cX10_copy 69 = .ok (.iload_n 1, 1) := by decide +kernel
theorem dX10_copy_70 : decode cX10_copy 70 = .ok (.imul, 1) := by decide +kernel
theorem dX10_copy_71 : decode cX10_copy 71 = .ok (.iload_n 2, 1) := by decide +kernel
theorem dX10_copy_72 : decode cX10_copy 72 = .ok (.iadd, 1) := by decide +kernel
theorem dX10_copy_73 : decode cX10_copy 73 = .ok (.aload_n 0, 1) := by decide +kernel
theorem dX10_copy_74 : decode cX10_copy 74 = .ok (.iload_n 2, 1) := by decide +kernel
theorem dX10_copy_75 : decode cX10_copy 75 = .ok (.invokevirtual 179, 3) := by decide +kernel
theorem dX10_copy_78 : decode cX10_copy 78 = .ok (.i2l, 1) := by decide +kernel
theorem dX10_copy_79 : decode cX10_copy 79 = .ok (.lastore, 1) := by decide +kernel
theorem dX10_copy_80 : decode cX10_copy 80 = .ok (.iinc 2 1, 3) := by decide +kernel
theorem dX10_copy_83 : decode cX10_copy 83 = .ok (.goto (-30), 3) := by decide +kernel
theorem dX10_copy_86 : decode cX10_copy 86 = .ok (.aload_n 0, 1) := by decide +kernel
theorem dX10_copy_87 : decode cX10_copy 87 = .ok (.getfield 13, 3) := by decide +kernel
theorem dX10_copy_90 : decode cX10_copy 90 = .ok (.iconst 0, 1) := by decide +kernel
theorem dX10_copy_91 : decode cX10_copy 91 = .ok (.iaload, 1) := by decide +kernel
theorem dX10_copy_92 : decode cX10_copy 92 = .ok (.ireturn, 1) := by decide +kernel
theorem dX10_image_0 : decode cX10_image 0 = .ok (.aload_n 0, 1) := by decide +kernel
theorem dX10_image_1 : decode cX10_image 1 = .ok (.iconst 0, 1) := by decide +kernel
theorem dX10_image_2 : decode cX10_image 2 = .ok (.putfield 1, 3) := by decide +kernel
theorem dX10_image_5 : decode cX10_image 5 = .ok (.iload_n 1, 1) := by decide +kernel
theorem dX10_image_6 : decode cX10_image 6 = .ok (.i2l, 1) := by decide +kernel
theorem dX10_image_7 : decode cX10_image 7 = .ok (.lconst 0, 1) := by decide +kernel
theorem dX10_image_8 : decode cX10_image 8 = .ok (.lconst 1, 1) := by decide +kernel
theorem dX10_image_9 : decode cX10_image 9 = .ok (.invokestatic 149, 3) := by decide +kernel
theorem dX10_image_12 : decode cX10_image 12 = .ok (.ifCond .ne 6, 3) := by decide +kernel
theorem dX10_image_15 : decode cX10_image 15 = .ok (.bipush (-2), 2) := by decide +kernel
theorem dX10_image_17 : decode cX10_image 17 = .ok (.ireturn, 1) := by decide +kernel
theorem dX10_image_18 : decode cX10_image 18 = .ok (.iconst 0, 1) := by decide +kernel
theorem dX10_image_19 : decode cX10_image 19 = .ok (.istore_n 2, 1) := by decide +kernel
theorem dX10_image_20 : decode cX10_image 20 = .ok (.iload_n 2, 1) := by decide +kernel
theorem dX10_image_21 : decode cX10_image 21 = .ok (.sipush 162, 3) := by decide +kernel
theorem dX10_image_24 : decode cX10_image 24 = .ok (.if_icmp .ge 29, 3) := by decide +kernel
theorem dX10_image_27 : decode cX10_image 27 = .ok (.aload_n 0, 1) := by decide +kernel
theorem dX10_image_28 : decode cX10_image 28 = .ok (.getfield 13, 3) := by decide +kernel
theorem dX10_image_31 : decode cX10_image 31 = .ok (.sipush 162, 3) := by decide +kernel
theorem dX10_image_34 : decode cX10_image 34 = .ok (.iload_n 1, 1) := by decide +kernel
theorem dX10_image_35 : decode cX10_image 35 = .ok (.iconst 1, 1) := by decide +kernel
theorem dX10_image_36 : decode cX10_image 36 = .ok (.iadd, 1) := by decide +kernel
theorem dX10_image_37 : decode cX10_image 37 = .ok (.imul, 1) := by decide +kernel
theorem dX10_image_38 : decode cX10_image 38 = .ok (.iload_n 2, 1) := by decide +kernel
theorem dX10_image_39 : decode cX10_image 39 = .ok (.iadd, 1) := by decide +kernel
theorem dX10_image_40 : decode cX10_image 40 = .ok (.aload_n 0, 1) := by decide +kernel
theorem dX10_image_41 : decode cX10_image 41 = .ok (.getfield 13, 3) := by decide +kernel
theorem dX10_image_44 : decode cX10_image 44 = .ok (.iload_n 2, 1) := by decide +kernel
theorem dX10_image_45 : decode cX10_image 45 = .ok (.iaload, 1) := by decide +kernel
theorem dX10_image_46 : decode cX10_image 46 = .ok (.iastore, 1) := by decide +kernel
theorem dX10_image_47 : decode cX10_image 47 = .ok (.iinc 2 1, 3) := by decide +kernel
theorem dX10_image_50 : decode cX10_image 50 = .ok (.goto (-30), 3) := by decide +kernel
theorem dX10_image_53 : decode cX10_image 53 = .ok (.aload_n 0, 1) := by decide +kernel
theorem dX10_image_54 : decode cX10_image 54 = .ok (.getfield 17, 3) := by decide +kernel
theorem dX10_image_57 : decode cX10_image 57 = .ok (.iload_n 1, 1) := by decide +kernel
theorem dX10_image_58 : decode cX10_image 58 = .ok (.iconst 1, 1) := by decide +kernel
theorem dX10_image_59 : decode cX10_image 59 = .ok (.bastore, 1) := by decide +kernel
theorem dX10_image_60 : decode cX10_image 60 = .ok (.iconst 0, 1) := by decide +kernel
theorem dX10_image_61 : decode cX10_image 61 = .ok (.ireturn, 1) := by decide +kernel
theorem dX10_restore_0 : decode cX10_restore 0 = .ok (.aload_n 0, 1) := by decide +kernel
theorem dX10_restore_1 : decode cX10_restore 1 = .ok (.iconst 0, 1) := by decide +kernel
theorem dX10_restore_2 : decode cX10_restore 2 = .ok (.putfield 1, 3) := by decide +kernel
theorem dX10_restore_5 : decode cX10_restore 5 = .ok (.iload_n 1, 1) := by decide +kernel
theorem dX10_restore_6 : decode cX10_restore 6 = .ok (.i2l, 1) := by decide +kernel
theorem dX10_restore_7 : decode cX10_restore 7 = .ok (.lconst 0, 1) := by decide +kernel
theorem dX10_restore_8 : decode cX10_restore 8 = .ok (.lconst 1, 1) := by decide +kernel
theorem dX10_restore_9 : decode cX10_restore 9 = .ok (.invokestatic 149, 3) := by decide +kernel
theorem dX10_restore_12 : decode cX10_restore 12 = .ok (.ifCond .ne 6, 3) := by decide +kernel
theorem dX10_restore_15 : decode cX10_restore 15 = .ok (.bipush (-2), 2) := by decide +kernel
theorem dX10_restore_17 : decode cX10_restore 17 = .ok (.ireturn, 1) := by decide +kernel
theorem dX10_restore_18 : decode cX10_restore 18 = .ok (.aload_n 0, 1) := by decide +kernel
theorem dX10_restore_19 : decode cX10_restore 19 = .ok (.getfield 17, 3) := by decide +kernel
theorem dX10_restore_22 : decode cX10_restore 22 = .ok (.iload_n 1, 1) := by decide +kernel
theorem dX10_restore_23 : decode cX10_restore 23 = .ok (.baload, 1) := by decide +kernel
theorem dX10_restore_24 : decode cX10_restore 24 = .ok (.ifCond .ne 6, 3) := by decide +kernel
theorem dX10_restore_27 : decode cX10_restore 27 = .ok (.bipush (-5), 2) := by decide +kernel
theorem dX10_restore_29 : decode cX10_restore 29 = .ok (.ireturn, 1) := by decide +kernel
theorem dX10_restore_30 : decode cX10_restore 30 = .ok (.iconst 0, 1) := by decide +kernel
theorem dX10_restore_31 : decode cX10_restore 31 = .ok (.istore_n 2, 1) := by decide +kernel
theorem dX10_restore_32 : decode cX10_restore 32 = .ok (.iload_n 2, 1) := by decide +kernel
theorem dX10_restore_33 : decode cX10_restore 33 = .ok (.sipush 162, 3) := by decide +kernel
theorem dX10_restore_36 : decode cX10_restore 36 = .ok (.if_icmp .ge 29, 3) := by decide +kernel
theorem dX10_restore_39 : decode cX10_restore 39 = .ok (.aload_n 0, 1) := by decide +kernel
theorem dX10_restore_40 : decode cX10_restore 40 = .ok (.getfield 13, 3) := by decide +kernel
theorem dX10_restore_43 : decode cX10_restore 43 = .ok (.iload_n 2, 1) := by decide +kernel
theorem dX10_restore_44 : decode cX10_restore 44 = .ok (.aload_n 0, 1) := by decide +kernel
theorem dX10_restore_45 : decode cX10_restore 45 = .ok (.getfield 13, 3) := by decide +kernel
theorem dX10_restore_48 : decode cX10_restore 48 = .ok (.sipush 162, 3) := by decide +kernel
theorem dX10_restore_51 : decode cX10_restore 51 = .ok (.iload_n 1, 1) := by decide +kernel
theorem dX10_restore_52 : decode cX10_restore 52 = .ok (.iconst 1, 1) := by decide +kernel
theorem dX10_restore_53 : decode cX10_restore 53 = .ok (.iadd, 1) := by decide +kernel
theorem dX10_restore_54 : decode cX10_restore 54 = .ok (.imul, 1) := by decide +kernel
theorem dX10_restore_55 : decode cX10_restore 55 = .ok (.iload_n 2, 1) := by decide +kernel
theorem dX10_restore_56 : decode cX10_restore 56 = .ok (.iadd, 1) := by decide +kernel
theorem dX10_restore_57 : decode cX10_restore 57 = .ok (.iaload, 1) := by decide +kernel
theorem dX10_restore_58 : decode cX10_restore 58 = .ok (.iastore, 1) := by decide +kernel
theorem dX10_restore_59 : decode cX10_restore 59 = .ok (.iinc 2 1, 3) := by decide +kernel
theorem dX10_restore_62 : decode cX10_restore 62 = .ok (.goto (-30), 3) := by decide +kernel
theorem dX10_restore_65 : decode cX10_restore 65 = .ok (.iconst 0, 1) := by decide +kernel
theorem dX10_restore_66 : decode cX10_restore 66 = .ok (.ireturn, 1) := by decide +kernel
theorem dX10_count_0 : decode cX10_count 0 = .ok (.aload_n 0, 1) := by decide +kernel
theorem dX10_count_1 : decode cX10_count 1 = .ok (.iconst 0, 1) := by decide +kernel
theorem dX10_count_2 : decode cX10_count 2 = .ok (.putfield 1, 3) := by decide +kernel
theorem dX10_count_5 : decode cX10_count 5 = .ok (.iload_n 1, 1) := by decide +kernel
theorem dX10_count_6 : decode cX10_count 6 = .ok (.tableswitch 107 0 8 #[50, 57, 62, 69, 76, 83, 90, 95, 100], 50) := by decide +kernel
theorem dX10_count_56 : decode cX10_count 56 = .ok (.aload_n 0, 1) := by decide +kernel
theorem dX10_count_57 : decode cX10_count 57 = .ok (.getfield 13, 3) := by decide +kernel
theorem dX10_count_60 : decode cX10_count 60 = .ok (.iconst 0, 1) := by decide +kernel
theorem dX10_count_61 : decode cX10_count 61 = .ok (.iaload, 1) := by decide +kernel
theorem dX10_count_62 : decode cX10_count 62 = .ok (.ireturn, 1) := by decide +kernel
theorem dX10_count_63 : decode cX10_count 63 = .ok (.aload_n 0, 1) := by decide +kernel
theorem dX10_count_64 : decode cX10_count 64 = .ok (.invokevirtual 246, 3) := by decide +kernel
theorem dX10_count_67 : decode cX10_count 67 = .ok (.ireturn, 1) := by decide +kernel
theorem dX10_count_68 : decode cX10_count 68 = .ok (.aload_n 0, 1) := by decide +kernel
theorem dX10_count_69 : decode cX10_count 69 = .ok (.getfield 13, 3) := by decide +kernel
theorem dX10_count_72 : decode cX10_count 72 = .ok (.iconst 1, 1) := by decide +kernel
theorem dX10_count_73 : decode cX10_count 73 = .ok (.iaload, 1) := by decide +kernel
theorem dX10_count_74 : decode cX10_count 74 = .ok (.ireturn, 1) := by decide +kernel
theorem dX10_count_75 : decode cX10_count 75 = .ok (.aload_n 0, 1) := by decide +kernel
theorem dX10_count_76 : decode cX10_count 76 = .ok (.getfield 13, 3) := by decide +kernel
theorem dX10_count_79 : decode cX10_count 79 = .ok (.iconst 2, 1) := by decide +kernel
theorem dX10_count_80 : decode cX10_count 80 = .ok (.iaload, 1) := by decide +kernel
theorem dX10_count_81 : decode cX10_count 81 = .ok (.ireturn, 1) := by decide +kernel
theorem dX10_count_82 : decode cX10_count 82 = .ok (.aload_n 0, 1) := by decide +kernel
theorem dX10_count_83 : decode cX10_count 83 = .ok (.getfield 13, 3) := by decide +kernel
theorem dX10_count_86 : decode cX10_count 86 = .ok (.iconst 3, 1) := by decide +kernel
theorem dX10_count_87 : decode cX10_count 87 = .ok (.iaload, 1) := by decide +kernel
theorem dX10_count_88 : decode cX10_count 88 = .ok (.ireturn, 1) := by decide +kernel
theorem dX10_count_89 : decode cX10_count 89 = .ok (.aload_n 0, 1) := by decide +kernel
theorem dX10_count_90 : decode cX10_count 90 = .ok (.getfield 13, 3) := by decide +kernel
theorem dX10_count_93 : decode cX10_count 93 = .ok (.iconst 4, 1) := by decide +kernel
theorem dX10_count_94 : decode cX10_count 94 = .ok (.iaload, 1) := by decide +kernel
theorem dX10_count_95 : decode cX10_count 95 = .ok (.ireturn, 1) := by decide +kernel
theorem dX10_count_96 : decode cX10_count 96 = .ok (.aload_n 0, 1) := by decide +kernel
theorem dX10_count_97 : decode cX10_count 97 = .ok (.invokevirtual 314, 3) := by decide +kernel
theorem dX10_count_100 : decode cX10_count 100 = .ok (.ireturn, 1) := by decide +kernel
theorem dX10_count_101 : decode cX10_count 101 = .ok (.aload_n 0, 1) := by decide +kernel
theorem dX10_count_102 : decode cX10_count 102 = .ok (.getfield 89, 3) := by decide +kernel
theorem dX10_count_105 : decode cX10_count 105 = .ok (.ireturn, 1) := by decide +kernel
theorem dX10_count_106 : decode cX10_count 106 = .ok (.aload_n 0, 1) := by decide +kernel
theorem dX10_count_107 : decode cX10_count 107 = .ok (.getfield 13, 3) := by decide +kernel
theorem dX10_count_110 : decode cX10_count 110 = .ok (.iconst 5, 1) := by decide +kernel
theorem dX10_count_111 : decode cX10_count 111 = .ok (.iaload, 1) := by decide +kernel
theorem dX10_count_112 : decode cX10_count 112 = .ok (.ireturn, 1) := by decide +kernel
theorem dX10_count_113 : decode cX10_count 113 = .ok (.iconst (-1), 1) := by decide +kernel
theorem dX10_count_114 : decode cX10_count 114 = .ok (.ireturn, 1) := by decide +kernel
theorem md_X10_within : yX10_within.cls ≠ "java/lang/invoke/MethodHandle" ∧ yX10_within.cls ≠ "java/lang/invoke/VarHandle" ∧ (parseMethodDescriptor yX10_within.desc).map (fun d => d.parameters.length) = some 3 := by decide +kernel
theorem md_X10_init : yX10_init.cls ≠ "java/lang/invoke/MethodHandle" ∧ yX10_init.cls ≠ "java/lang/invoke/VarHandle" ∧ (parseMethodDescriptor yX10_init.desc).map (fun d => d.parameters.length) = some 0 := by decide +kernel
theorem md_X10_plain : yX10_plain.cls ≠ "java/lang/invoke/MethodHandle" ∧ yX10_plain.cls ≠ "java/lang/invoke/VarHandle" ∧ (parseMethodDescriptor yX10_plain.desc).map (fun d => d.parameters.length) = some 1 := by decide +kernel
theorem md_X10_feed : yX10_feed.cls ≠ "java/lang/invoke/MethodHandle" ∧ yX10_feed.cls ≠ "java/lang/invoke/VarHandle" ∧ (parseMethodDescriptor yX10_feed.desc).map (fun d => d.parameters.length) = some 5 := by decide +kernel
theorem md_X10_see : yX10_see.cls ≠ "java/lang/invoke/MethodHandle" ∧ yX10_see.cls ≠ "java/lang/invoke/VarHandle" ∧ (parseMethodDescriptor yX10_see.desc).map (fun d => d.parameters.length) = some 1 := by decide +kernel
theorem md_X10_isSmall : yX10_isSmall.cls ≠ "java/lang/invoke/MethodHandle" ∧ yX10_isSmall.cls ≠ "java/lang/invoke/VarHandle" ∧ (parseMethodDescriptor yX10_isSmall.desc).map (fun d => d.parameters.length) = some 1 := by decide +kernel
theorem md_X10_isDigit : yX10_isDigit.cls ≠ "java/lang/invoke/MethodHandle" ∧ yX10_isDigit.cls ≠ "java/lang/invoke/VarHandle" ∧ (parseMethodDescriptor yX10_isDigit.desc).map (fun d => d.parameters.length) = some 1 := by decide +kernel
theorem md_X10_keyAt : yX10_keyAt.cls ≠ "java/lang/invoke/MethodHandle" ∧ yX10_keyAt.cls ≠ "java/lang/invoke/VarHandle" ∧ (parseMethodDescriptor yX10_keyAt.desc).map (fun d => d.parameters.length) = some 0 := by decide +kernel
theorem md_X10_next : yX10_next.cls ≠ "java/lang/invoke/MethodHandle" ∧ yX10_next.cls ≠ "java/lang/invoke/VarHandle" ∧ (parseMethodDescriptor yX10_next.desc).map (fun d => d.parameters.length) = some 0 := by decide +kernel
theorem md_X10_fails : yX10_fails.cls ≠ "java/lang/invoke/MethodHandle" ∧ yX10_fails.cls ≠ "java/lang/invoke/VarHandle" ∧ (parseMethodDescriptor yX10_fails.desc).map (fun d => d.parameters.length) = some 1 := by decide +kernel
theorem md_X10_is : yX10_is.cls ≠ "java/lang/invoke/MethodHandle" ∧ yX10_is.cls ≠ "java/lang/invoke/VarHandle" ∧ (parseMethodDescriptor yX10_is.desc).map (fun d => d.parameters.length) = some 1 := by decide +kernel
theorem md_X10_eats : yX10_eats.cls ≠ "java/lang/invoke/MethodHandle" ∧ yX10_eats.cls ≠ "java/lang/invoke/VarHandle" ∧ (parseMethodDescriptor yX10_eats.desc).map (fun d => d.parameters.length) = some 1 := by decide +kernel
theorem md_X10_takes : yX10_takes.cls ≠ "java/lang/invoke/MethodHandle" ∧ yX10_takes.cls ≠ "java/lang/invoke/VarHandle" ∧ (parseMethodDescriptor yX10_takes.desc).map (fun d => d.parameters.length) = some 2 := by decide +kernel
theorem md_X10_readChimney : yX10_readChimney.cls ≠ "java/lang/invoke/MethodHandle" ∧ yX10_readChimney.cls ≠ "java/lang/invoke/VarHandle" ∧ (parseMethodDescriptor yX10_readChimney.desc).map (fun d => d.parameters.length) = some 0 := by decide +kernel
theorem md_X10_readWind : yX10_readWind.cls ≠ "java/lang/invoke/MethodHandle" ∧ yX10_readWind.cls ≠ "java/lang/invoke/VarHandle" ∧ (parseMethodDescriptor yX10_readWind.desc).map (fun d => d.parameters.length) = some 0 := by decide +kernel
theorem md_X10_town : yX10_town.cls ≠ "java/lang/invoke/MethodHandle" ∧ yX10_town.cls ≠ "java/lang/invoke/VarHandle" ∧ (parseMethodDescriptor yX10_town.desc).map (fun d => d.parameters.length) = some 1 := by decide +kernel
theorem md_X10_fault : yX10_fault.cls ≠ "java/lang/invoke/MethodHandle" ∧ yX10_fault.cls ≠ "java/lang/invoke/VarHandle" ∧ (parseMethodDescriptor yX10_fault.desc).map (fun d => d.parameters.length) = some 1 := by decide +kernel
theorem md_X10_isChimney : yX10_isChimney.cls ≠ "java/lang/invoke/MethodHandle" ∧ yX10_isChimney.cls ≠ "java/lang/invoke/VarHandle" ∧ (parseMethodDescriptor yX10_isChimney.desc).map (fun d => d.parameters.length) = some 1 := by decide +kernel
theorem md_X10_isLit : yX10_isLit.cls ≠ "java/lang/invoke/MethodHandle" ∧ yX10_isLit.cls ≠ "java/lang/invoke/VarHandle" ∧ (parseMethodDescriptor yX10_isLit.desc).map (fun d => d.parameters.length) = some 1 := by decide +kernel
theorem md_X10_litAt : yX10_litAt.cls ≠ "java/lang/invoke/MethodHandle" ∧ yX10_litAt.cls ≠ "java/lang/invoke/VarHandle" ∧ (parseMethodDescriptor yX10_litAt.desc).map (fun d => d.parameters.length) = some 1 := by decide +kernel
theorem md_X10_isHour : yX10_isHour.cls ≠ "java/lang/invoke/MethodHandle" ∧ yX10_isHour.cls ≠ "java/lang/invoke/VarHandle" ∧ (parseMethodDescriptor yX10_isHour.desc).map (fun d => d.parameters.length) = some 1 := by decide +kernel
theorem md_X10_chimney : yX10_chimney.cls ≠ "java/lang/invoke/MethodHandle" ∧ yX10_chimney.cls ≠ "java/lang/invoke/VarHandle" ∧ (parseMethodDescriptor yX10_chimney.desc).map (fun d => d.parameters.length) = some 2 := by decide +kernel
theorem md_X10_windOf : yX10_windOf.cls ≠ "java/lang/invoke/MethodHandle" ∧ yX10_windOf.cls ≠ "java/lang/invoke/VarHandle" ∧ (parseMethodDescriptor yX10_windOf.desc).map (fun d => d.parameters.length) = some 2 := by decide +kernel
theorem md_X10_wind : yX10_wind.cls ≠ "java/lang/invoke/MethodHandle" ∧ yX10_wind.cls ≠ "java/lang/invoke/VarHandle" ∧ (parseMethodDescriptor yX10_wind.desc).map (fun d => d.parameters.length) = some 2 := by decide +kernel
theorem md_X10_laysWinds : yX10_laysWinds.cls ≠ "java/lang/invoke/MethodHandle" ∧ yX10_laysWinds.cls ≠ "java/lang/invoke/VarHandle" ∧ (parseMethodDescriptor yX10_laysWinds.desc).map (fun d => d.parameters.length) = some 0 := by decide +kernel
theorem md_X10_laysOther : yX10_laysOther.cls ≠ "java/lang/invoke/MethodHandle" ∧ yX10_laysOther.cls ≠ "java/lang/invoke/VarHandle" ∧ (parseMethodDescriptor yX10_laysOther.desc).map (fun d => d.parameters.length) = some 1 := by decide +kernel
theorem md_X10_laysFire : yX10_laysFire.cls ≠ "java/lang/invoke/MethodHandle" ∧ yX10_laysFire.cls ≠ "java/lang/invoke/VarHandle" ∧ (parseMethodDescriptor yX10_laysFire.desc).map (fun d => d.parameters.length) = some 4 := by decide +kernel
theorem md_X10_laysPuffs : yX10_laysPuffs.cls ≠ "java/lang/invoke/MethodHandle" ∧ yX10_laysPuffs.cls ≠ "java/lang/invoke/VarHandle" ∧ (parseMethodDescriptor yX10_laysPuffs.desc).map (fun d => d.parameters.length) = some 6 := by decide +kernel
theorem md_X10_puffIn : yX10_puffIn.cls ≠ "java/lang/invoke/MethodHandle" ∧ yX10_puffIn.cls ≠ "java/lang/invoke/VarHandle" ∧ (parseMethodDescriptor yX10_puffIn.desc).map (fun d => d.parameters.length) = some 2 := by decide +kernel
theorem md_X10_meet : yX10_meet.cls ≠ "java/lang/invoke/MethodHandle" ∧ yX10_meet.cls ≠ "java/lang/invoke/VarHandle" ∧ (parseMethodDescriptor yX10_meet.desc).map (fun d => d.parameters.length) = some 3 := by decide +kernel
theorem md_X10_areTouching : yX10_areTouching.cls ≠ "java/lang/invoke/MethodHandle" ∧ yX10_areTouching.cls ≠ "java/lang/invoke/VarHandle" ∧ (parseMethodDescriptor yX10_areTouching.desc).map (fun d => d.parameters.length) = some 3 := by decide +kernel
theorem md_X10_quarters : yX10_quarters.cls ≠ "java/lang/invoke/MethodHandle" ∧ yX10_quarters.cls ≠ "java/lang/invoke/VarHandle" ∧ (parseMethodDescriptor yX10_quarters.desc).map (fun d => d.parameters.length) = some 2 := by decide +kernel
theorem md_X10_firstTouch : yX10_firstTouch.cls ≠ "java/lang/invoke/MethodHandle" ∧ yX10_firstTouch.cls ≠ "java/lang/invoke/VarHandle" ∧ (parseMethodDescriptor yX10_firstTouch.desc).map (fun d => d.parameters.length) = some 0 := by decide +kernel
theorem md_X10_laysLit : yX10_laysLit.cls ≠ "java/lang/invoke/MethodHandle" ∧ yX10_laysLit.cls ≠ "java/lang/invoke/VarHandle" ∧ (parseMethodDescriptor yX10_laysLit.desc).map (fun d => d.parameters.length) = some 0 := by decide +kernel
theorem md_X10_laysNow : yX10_laysNow.cls ≠ "java/lang/invoke/MethodHandle" ∧ yX10_laysNow.cls ≠ "java/lang/invoke/VarHandle" ∧ (parseMethodDescriptor yX10_laysNow.desc).map (fun d => d.parameters.length) = some 0 := by decide +kernel
theorem md_X10_touchesLit : yX10_touchesLit.cls ≠ "java/lang/invoke/MethodHandle" ∧ yX10_touchesLit.cls ≠ "java/lang/invoke/VarHandle" ∧ (parseMethodDescriptor yX10_touchesLit.desc).map (fun d => d.parameters.length) = some 3 := by decide +kernel
theorem md_X10_isTime : yX10_isTime.cls ≠ "java/lang/invoke/MethodHandle" ∧ yX10_isTime.cls ≠ "java/lang/invoke/VarHandle" ∧ (parseMethodDescriptor yX10_isTime.desc).map (fun d => d.parameters.length) = some 2 := by decide +kernel
theorem md_X10_light : yX10_light.cls ≠ "java/lang/invoke/MethodHandle" ∧ yX10_light.cls ≠ "java/lang/invoke/VarHandle" ∧ (parseMethodDescriptor yX10_light.desc).map (fun d => d.parameters.length) = some 2 := by decide +kernel
theorem md_X10_out : yX10_out.cls ≠ "java/lang/invoke/MethodHandle" ∧ yX10_out.cls ≠ "java/lang/invoke/VarHandle" ∧ (parseMethodDescriptor yX10_out.desc).map (fun d => d.parameters.length) = some 1 := by decide +kernel
theorem md_X10_refuses : yX10_refuses.cls ≠ "java/lang/invoke/MethodHandle" ∧ yX10_refuses.cls ≠ "java/lang/invoke/VarHandle" ∧ (parseMethodDescriptor yX10_refuses.desc).map (fun d => d.parameters.length) = some 1 := by decide +kernel
theorem md_X10_lightsAll : yX10_lightsAll.cls ≠ "java/lang/invoke/MethodHandle" ∧ yX10_lightsAll.cls ≠ "java/lang/invoke/VarHandle" ∧ (parseMethodDescriptor yX10_lightsAll.desc).map (fun d => d.parameters.length) = some 1 := by decide +kernel
theorem md_X10_litMany : yX10_litMany.cls ≠ "java/lang/invoke/MethodHandle" ∧ yX10_litMany.cls ≠ "java/lang/invoke/VarHandle" ∧ (parseMethodDescriptor yX10_litMany.desc).map (fun d => d.parameters.length) = some 0 := by decide +kernel
theorem md_X10_judge : yX10_judge.cls ≠ "java/lang/invoke/MethodHandle" ∧ yX10_judge.cls ≠ "java/lang/invoke/VarHandle" ∧ (parseMethodDescriptor yX10_judge.desc).map (fun d => d.parameters.length) = some 2 := by decide +kernel
theorem md_X10_perform : yX10_perform.cls ≠ "java/lang/invoke/MethodHandle" ∧ yX10_perform.cls ≠ "java/lang/invoke/VarHandle" ∧ (parseMethodDescriptor yX10_perform.desc).map (fun d => d.parameters.length) = some 1 := by decide +kernel
theorem md_X10_smoke : yX10_smoke.cls ≠ "java/lang/invoke/MethodHandle" ∧ yX10_smoke.cls ≠ "java/lang/invoke/VarHandle" ∧ (parseMethodDescriptor yX10_smoke.desc).map (fun d => d.parameters.length) = some 3 := by decide +kernel
theorem md_X10_puffs : yX10_puffs.cls ≠ "java/lang/invoke/MethodHandle" ∧ yX10_puffs.cls ≠ "java/lang/invoke/VarHandle" ∧ (parseMethodDescriptor yX10_puffs.desc).map (fun d => d.parameters.length) = some 1 := by decide +kernel
theorem md_X10_puff : yX10_puff.cls ≠ "java/lang/invoke/MethodHandle" ∧ yX10_puff.cls ≠ "java/lang/invoke/VarHandle" ∧ (parseMethodDescriptor yX10_puff.desc).map (fun d => d.parameters.length) = some 4 := by decide +kernel
theorem md_X10_areTwo : yX10_areTwo.cls ≠ "java/lang/invoke/MethodHandle" ∧ yX10_areTwo.cls ≠ "java/lang/invoke/VarHandle" ∧ (parseMethodDescriptor yX10_areTwo.desc).map (fun d => d.parameters.length) = some 2 := by decide +kernel
theorem md_X10_touch : yX10_touch.cls ≠ "java/lang/invoke/MethodHandle" ∧ yX10_touch.cls ≠ "java/lang/invoke/VarHandle" ∧ (parseMethodDescriptor yX10_touch.desc).map (fun d => d.parameters.length) = some 2 := by decide +kernel
theorem md_X10_touching : yX10_touching.cls ≠ "java/lang/invoke/MethodHandle" ∧ yX10_touching.cls ≠ "java/lang/invoke/VarHandle" ∧ (parseMethodDescriptor yX10_touching.desc).map (fun d => d.parameters.length) = some 2 := by decide +kernel
theorem md_X10_laysPairs : yX10_laysPairs.cls ≠ "java/lang/invoke/MethodHandle" ∧ yX10_laysPairs.cls ≠ "java/lang/invoke/VarHandle" ∧ (parseMethodDescriptor yX10_laysPairs.desc).map (fun d => d.parameters.length) = some 0 := by decide +kernel
theorem md_X10_pair : yX10_pair.cls ≠ "java/lang/invoke/MethodHandle" ∧ yX10_pair.cls ≠ "java/lang/invoke/VarHandle" ∧ (parseMethodDescriptor yX10_pair.desc).map (fun d => d.parameters.length) = some 1 := by decide +kernel
theorem md_X10_faulty : yX10_faulty.cls ≠ "java/lang/invoke/MethodHandle" ∧ yX10_faulty.cls ≠ "java/lang/invoke/VarHandle" ∧ (parseMethodDescriptor yX10_faulty.desc).map (fun d => d.parameters.length) = some 2 := by decide +kernel
theorem md_X10_paysOf : yX10_paysOf.cls ≠ "java/lang/invoke/MethodHandle" ∧ yX10_paysOf.cls ≠ "java/lang/invoke/VarHandle" ∧ (parseMethodDescriptor yX10_paysOf.desc).map (fun d => d.parameters.length) = some 1 := by decide +kernel
theorem md_X10_paysAll : yX10_paysAll.cls ≠ "java/lang/invoke/MethodHandle" ∧ yX10_paysAll.cls ≠ "java/lang/invoke/VarHandle" ∧ (parseMethodDescriptor yX10_paysAll.desc).map (fun d => d.parameters.length) = some 0 := by decide +kernel
theorem md_X10_pays : yX10_pays.cls ≠ "java/lang/invoke/MethodHandle" ∧ yX10_pays.cls ≠ "java/lang/invoke/VarHandle" ∧ (parseMethodDescriptor yX10_pays.desc).map (fun d => d.parameters.length) = some 1 := by decide +kernel
theorem md_X10_sootOf : yX10_sootOf.cls ≠ "java/lang/invoke/MethodHandle" ∧ yX10_sootOf.cls ≠ "java/lang/invoke/VarHandle" ∧ (parseMethodDescriptor yX10_sootOf.desc).map (fun d => d.parameters.length) = some 2 := by decide +kernel
theorem md_X10_sootAll : yX10_sootAll.cls ≠ "java/lang/invoke/MethodHandle" ∧ yX10_sootAll.cls ≠ "java/lang/invoke/VarHandle" ∧ (parseMethodDescriptor yX10_sootAll.desc).map (fun d => d.parameters.length) = some 1 := by decide +kernel
theorem md_X10_soot : yX10_soot.cls ≠ "java/lang/invoke/MethodHandle" ∧ yX10_soot.cls ≠ "java/lang/invoke/VarHandle" ∧ (parseMethodDescriptor yX10_soot.desc).map (fun d => d.parameters.length) = some 1 := by decide +kernel
theorem md_X10_blackest : yX10_blackest.cls ≠ "java/lang/invoke/MethodHandle" ∧ yX10_blackest.cls ≠ "java/lang/invoke/VarHandle" ∧ (parseMethodDescriptor yX10_blackest.desc).map (fun d => d.parameters.length) = some 0 := by decide +kernel
theorem md_X10_freeFor : yX10_freeFor.cls ≠ "java/lang/invoke/MethodHandle" ∧ yX10_freeFor.cls ≠ "java/lang/invoke/VarHandle" ∧ (parseMethodDescriptor yX10_freeFor.desc).map (fun d => d.parameters.length) = some 1 := by decide +kernel
theorem md_X10_free : yX10_free.cls ≠ "java/lang/invoke/MethodHandle" ∧ yX10_free.cls ≠ "java/lang/invoke/VarHandle" ∧ (parseMethodDescriptor yX10_free.desc).map (fun d => d.parameters.length) = some 1 := by decide +kernel
theorem md_X10_laysFew : yX10_laysFew.cls ≠ "java/lang/invoke/MethodHandle" ∧ yX10_laysFew.cls ≠ "java/lang/invoke/VarHandle" ∧ (parseMethodDescriptor yX10_laysFew.desc).map (fun d => d.parameters.length) = some 0 := by decide +kernel
theorem md_X10_isIn : yX10_isIn.cls ≠ "java/lang/invoke/MethodHandle" ∧ yX10_isIn.cls ≠ "java/lang/invoke/VarHandle" ∧ (parseMethodDescriptor yX10_isIn.desc).map (fun d => d.parameters.length) = some 2 := by decide +kernel
theorem md_X10_goesWith : yX10_goesWith.cls ≠ "java/lang/invoke/MethodHandle" ∧ yX10_goesWith.cls ≠ "java/lang/invoke/VarHandle" ∧ (parseMethodDescriptor yX10_goesWith.desc).map (fun d => d.parameters.length) = some 3 := by decide +kernel
theorem md_X10_plansFrom : yX10_plansFrom.cls ≠ "java/lang/invoke/MethodHandle" ∧ yX10_plansFrom.cls ≠ "java/lang/invoke/VarHandle" ∧ (parseMethodDescriptor yX10_plansFrom.desc).map (fun d => d.parameters.length) = some 3 := by decide +kernel
theorem md_X10_plan : yX10_plan.cls ≠ "java/lang/invoke/MethodHandle" ∧ yX10_plan.cls ≠ "java/lang/invoke/VarHandle" ∧ (parseMethodDescriptor yX10_plan.desc).map (fun d => d.parameters.length) = some 1 := by decide +kernel
theorem md_X10_waysFrom : yX10_waysFrom.cls ≠ "java/lang/invoke/MethodHandle" ∧ yX10_waysFrom.cls ≠ "java/lang/invoke/VarHandle" ∧ (parseMethodDescriptor yX10_waysFrom.desc).map (fun d => d.parameters.length) = some 4 := by decide +kernel
theorem md_X10_plans : yX10_plans.cls ≠ "java/lang/invoke/MethodHandle" ∧ yX10_plans.cls ≠ "java/lang/invoke/VarHandle" ∧ (parseMethodDescriptor yX10_plans.desc).map (fun d => d.parameters.length) = some 0 := by decide +kernel
theorem md_X10_bitsOf : yX10_bitsOf.cls ≠ "java/lang/invoke/MethodHandle" ∧ yX10_bitsOf.cls ≠ "java/lang/invoke/VarHandle" ∧ (parseMethodDescriptor yX10_bitsOf.desc).map (fun d => d.parameters.length) = some 1 := by decide +kernel
theorem md_X10_asChimneys : yX10_asChimneys.cls ≠ "java/lang/invoke/MethodHandle" ∧ yX10_asChimneys.cls ≠ "java/lang/invoke/VarHandle" ∧ (parseMethodDescriptor yX10_asChimneys.desc).map (fun d => d.parameters.length) = some 1 := by decide +kernel
theorem md_X10_shut : yX10_shut.cls ≠ "java/lang/invoke/MethodHandle" ∧ yX10_shut.cls ≠ "java/lang/invoke/VarHandle" ∧ (parseMethodDescriptor yX10_shut.desc).map (fun d => d.parameters.length) = some 0 := by decide +kernel
theorem md_X10_most : yX10_most.cls ≠ "java/lang/invoke/MethodHandle" ∧ yX10_most.cls ≠ "java/lang/invoke/VarHandle" ∧ (parseMethodDescriptor yX10_most.desc).map (fun d => d.parameters.length) = some 2 := by decide +kernel
theorem md_X10_priceOf : yX10_priceOf.cls ≠ "java/lang/invoke/MethodHandle" ∧ yX10_priceOf.cls ≠ "java/lang/invoke/VarHandle" ∧ (parseMethodDescriptor yX10_priceOf.desc).map (fun d => d.parameters.length) = some 2 := by decide +kernel
theorem md_X10_price : yX10_price.cls ≠ "java/lang/invoke/MethodHandle" ∧ yX10_price.cls ≠ "java/lang/invoke/VarHandle" ∧ (parseMethodDescriptor yX10_price.desc).map (fun d => d.parameters.length) = some 2 := by decide +kernel
theorem md_X10_cheapest : yX10_cheapest.cls ≠ "java/lang/invoke/MethodHandle" ∧ yX10_cheapest.cls ≠ "java/lang/invoke/VarHandle" ∧ (parseMethodDescriptor yX10_cheapest.desc).map (fun d => d.parameters.length) = some 1 := by decide +kernel
theorem md_X10_higher : yX10_higher.cls ≠ "java/lang/invoke/MethodHandle" ∧ yX10_higher.cls ≠ "java/lang/invoke/VarHandle" ∧ (parseMethodDescriptor yX10_higher.desc).map (fun d => d.parameters.length) = some 1 := by decide +kernel
theorem md_X10_anyTouch : yX10_anyTouch.cls ≠ "java/lang/invoke/MethodHandle" ∧ yX10_anyTouch.cls ≠ "java/lang/invoke/VarHandle" ∧ (parseMethodDescriptor yX10_anyTouch.desc).map (fun d => d.parameters.length) = some 1 := by decide +kernel
theorem md_X10_thickness : yX10_thickness.cls ≠ "java/lang/invoke/MethodHandle" ∧ yX10_thickness.cls ≠ "java/lang/invoke/VarHandle" ∧ (parseMethodDescriptor yX10_thickness.desc).map (fun d => d.parameters.length) = some 0 := by decide +kernel
theorem md_X10_refusesSheets : yX10_refusesSheets.cls ≠ "java/lang/invoke/MethodHandle" ∧ yX10_refusesSheets.cls ≠ "java/lang/invoke/VarHandle" ∧ (parseMethodDescriptor yX10_refusesSheets.desc).map (fun d => d.parameters.length) = some 1 := by decide +kernel
theorem md_X10_laysSheets : yX10_laysSheets.cls ≠ "java/lang/invoke/MethodHandle" ∧ yX10_laysSheets.cls ≠ "java/lang/invoke/VarHandle" ∧ (parseMethodDescriptor yX10_laysSheets.desc).map (fun d => d.parameters.length) = some 0 := by decide +kernel
theorem md_X10_fits : yX10_fits.cls ≠ "java/lang/invoke/MethodHandle" ∧ yX10_fits.cls ≠ "java/lang/invoke/VarHandle" ∧ (parseMethodDescriptor yX10_fits.desc).map (fun d => d.parameters.length) = some 2 := by decide +kernel
theorem md_X10_quarterIn : yX10_quarterIn.cls ≠ "java/lang/invoke/MethodHandle" ∧ yX10_quarterIn.cls ≠ "java/lang/invoke/VarHandle" ∧ (parseMethodDescriptor yX10_quarterIn.desc).map (fun d => d.parameters.length) = some 2 := by decide +kernel
theorem md_X10_isDay : yX10_isDay.cls ≠ "java/lang/invoke/MethodHandle" ∧ yX10_isDay.cls ≠ "java/lang/invoke/VarHandle" ∧ (parseMethodDescriptor yX10_isDay.desc).map (fun d => d.parameters.length) = some 1 := by decide +kernel
theorem md_X10_daysOf : yX10_daysOf.cls ≠ "java/lang/invoke/MethodHandle" ∧ yX10_daysOf.cls ≠ "java/lang/invoke/VarHandle" ∧ (parseMethodDescriptor yX10_daysOf.desc).map (fun d => d.parameters.length) = some 2 := by decide +kernel
theorem md_X10_sheets : yX10_sheets.cls ≠ "java/lang/invoke/MethodHandle" ∧ yX10_sheets.cls ≠ "java/lang/invoke/VarHandle" ∧ (parseMethodDescriptor yX10_sheets.desc).map (fun d => d.parameters.length) = some 1 := by decide +kernel
theorem md_X10_sheet : yX10_sheet.cls ≠ "java/lang/invoke/MethodHandle" ∧ yX10_sheet.cls ≠ "java/lang/invoke/VarHandle" ∧ (parseMethodDescriptor yX10_sheet.desc).map (fun d => d.parameters.length) = some 3 := by decide +kernel
theorem md_X10_sure : yX10_sure.cls ≠ "java/lang/invoke/MethodHandle" ∧ yX10_sure.cls ≠ "java/lang/invoke/VarHandle" ∧ (parseMethodDescriptor yX10_sure.desc).map (fun d => d.parameters.length) = some 1 := by decide +kernel
theorem md_X10_gusts : yX10_gusts.cls ≠ "java/lang/invoke/MethodHandle" ∧ yX10_gusts.cls ≠ "java/lang/invoke/VarHandle" ∧ (parseMethodDescriptor yX10_gusts.desc).map (fun d => d.parameters.length) = some 1 := by decide +kernel
theorem md_X10_isCalm : yX10_isCalm.cls ≠ "java/lang/invoke/MethodHandle" ∧ yX10_isCalm.cls ≠ "java/lang/invoke/VarHandle" ∧ (parseMethodDescriptor yX10_isCalm.desc).map (fun d => d.parameters.length) = some 1 := by decide +kernel
theorem md_X10_calm : yX10_calm.cls ≠ "java/lang/invoke/MethodHandle" ∧ yX10_calm.cls ≠ "java/lang/invoke/VarHandle" ∧ (parseMethodDescriptor yX10_calm.desc).map (fun d => d.parameters.length) = some 1 := by decide +kernel
theorem md_X10_steady : yX10_steady.cls ≠ "java/lang/invoke/MethodHandle" ∧ yX10_steady.cls ≠ "java/lang/invoke/VarHandle" ∧ (parseMethodDescriptor yX10_steady.desc).map (fun d => d.parameters.length) = some 1 := by decide +kernel
theorem md_X10_bestBy : yX10_bestBy.cls ≠ "java/lang/invoke/MethodHandle" ∧ yX10_bestBy.cls ≠ "java/lang/invoke/VarHandle" ∧ (parseMethodDescriptor yX10_bestBy.desc).map (fun d => d.parameters.length) = some 2 := by decide +kernel
theorem md_X10_refusesBest : yX10_refusesBest.cls ≠ "java/lang/invoke/MethodHandle" ∧ yX10_refusesBest.cls ≠ "java/lang/invoke/VarHandle" ∧ (parseMethodDescriptor yX10_refusesBest.desc).map (fun d => d.parameters.length) = some 2 := by decide +kernel
theorem md_X10_best : yX10_best.cls ≠ "java/lang/invoke/MethodHandle" ∧ yX10_best.cls ≠ "java/lang/invoke/VarHandle" ∧ (parseMethodDescriptor yX10_best.desc).map (fun d => d.parameters.length) = some 2 := by decide +kernel
theorem md_X10_breaks : yX10_breaks.cls ≠ "java/lang/invoke/MethodHandle" ∧ yX10_breaks.cls ≠ "java/lang/invoke/VarHandle" ∧ (parseMethodDescriptor yX10_breaks.desc).map (fun d => d.parameters.length) = some 1 := by decide +kernel
theorem md_X10_worth : yX10_worth.cls ≠ "java/lang/invoke/MethodHandle" ∧ yX10_worth.cls ≠ "java/lang/invoke/VarHandle" ∧ (parseMethodDescriptor yX10_worth.desc).map (fun d => d.parameters.length) = some 2 := by decide +kernel
theorem md_X10_sky : yX10_sky.cls ≠ "java/lang/invoke/MethodHandle" ∧ yX10_sky.cls ≠ "java/lang/invoke/VarHandle" ∧ (parseMethodDescriptor yX10_sky.desc).map (fun d => d.parameters.length) = some 0 := by decide +kernel
theorem md_X10_cut : yX10_cut.cls ≠ "java/lang/invoke/MethodHandle" ∧ yX10_cut.cls ≠ "java/lang/invoke/VarHandle" ∧ (parseMethodDescriptor yX10_cut.desc).map (fun d => d.parameters.length) = some 2 := by decide +kernel
theorem md_X10_numbers : yX10_numbers.cls ≠ "java/lang/invoke/MethodHandle" ∧ yX10_numbers.cls ≠ "java/lang/invoke/VarHandle" ∧ (parseMethodDescriptor yX10_numbers.desc).map (fun d => d.parameters.length) = some 3 := by decide +kernel
theorem md_X10_write : yX10_write.cls ≠ "java/lang/invoke/MethodHandle" ∧ yX10_write.cls ≠ "java/lang/invoke/VarHandle" ∧ (parseMethodDescriptor yX10_write.desc).map (fun d => d.parameters.length) = some 3 := by decide +kernel
theorem md_X10_copy : yX10_copy.cls ≠ "java/lang/invoke/MethodHandle" ∧ yX10_copy.cls ≠ "java/lang/invoke/VarHandle" ∧ (parseMethodDescriptor yX10_copy.desc).map (fun d => d.parameters.length) = some 1 := by decide +kernel
theorem md_X10_image : yX10_image.cls ≠ "java/lang/invoke/MethodHandle" ∧ yX10_image.cls ≠ "java/lang/invoke/VarHandle" ∧ (parseMethodDescriptor yX10_image.desc).map (fun d => d.parameters.length) = some 1 := by decide +kernel
theorem md_X10_restore : yX10_restore.cls ≠ "java/lang/invoke/MethodHandle" ∧ yX10_restore.cls ≠ "java/lang/invoke/VarHandle" ∧ (parseMethodDescriptor yX10_restore.desc).map (fun d => d.parameters.length) = some 1 := by decide +kernel
theorem md_X10_count : yX10_count.cls ≠ "java/lang/invoke/MethodHandle" ∧ yX10_count.cls ≠ "java/lang/invoke/VarHandle" ∧ (parseMethodDescriptor yX10_count.desc).map (fun d => d.parameters.length) = some 1 := by decide +kernel

