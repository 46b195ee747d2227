theorem dX0_init_0 : decode cX0_init 0 = .ok (.aload_n 0, 1) := by decide +kernel
theorem dX0_init_1 : decode cX0_init 1 = .ok (.invokespecial 3, 3) := by decide +kernel
theorem dX0_init_4 : decode cX0_init 4 = .ok (.aload_n 0, 1) := by decide +kernel
theorem dX0_init_5 : decode cX0_init 5 = .ok (.bipush 20, 2) := by decide +kernel
theorem dX0_init_7 : decode cX0_init 7 = .ok (.newarray .int, 2) := by decide +kernel
theorem dX0_init_9 : decode cX0_init 9 = .ok (.putfield 9, 3) := by decide +kernel
theorem dX0_init_12 : decode cX0_init 12 = .ok (.aload_n 0, 1) := by decide +kernel
theorem dX0_init_13 : decode cX0_init 13 = .ok (.bipush 20, 2) := by decide +kernel
theorem dX0_init_15 : decode cX0_init 15 = .ok (.newarray .long, 2) := by decide +kernel
theorem dX0_init_17 : decode cX0_init 17 = .ok (.putfield 15, 3) := by decide +kernel
theorem dX0_init_20 : decode cX0_init 20 = .ok (.aload_n 0, 1) := by decide +kernel
theorem dX0_init_21 : decode cX0_init 21 = .ok (.bipush 40, 2) := by decide +kernel
theorem dX0_init_23 : decode cX0_init 23 = .ok (.newarray .int, 2) := by decide +kernel
theorem dX0_init_25 : decode cX0_init 25 = .ok (.putfield 19, 3) := by decide +kernel
theorem dX0_init_28 : decode cX0_init 28 = .ok (.aload_n 0, 1) := by decide +kernel
theorem dX0_init_29 : decode cX0_init 29 = .ok (.sipush 1500, 3) := by decide +kernel
theorem dX0_init_32 : decode cX0_init 32 = .ok (.newarray .int, 2) := by decide +kernel
theorem dX0_init_34 : decode cX0_init 34 = .ok (.putfield 22, 3) := by decide +kernel
theorem dX0_init_37 : decode cX0_init 37 = .ok (.aload_n 0, 1) := by decide +kernel
theorem dX0_init_38 : decode cX0_init 38 = .ok (.iconst 3, 1) := by decide +kernel
theorem dX0_init_39 : decode cX0_init 39 = .ok (.newarray .int, 2) := by decide +kernel
theorem dX0_init_41 : decode cX0_init 41 = .ok (.putfield 25, 3) := by decide +kernel
theorem dX0_init_44 : decode cX0_init 44 = .ok (.aload_n 0, 1) := by decide +kernel
theorem dX0_init_45 : decode cX0_init 45 = .ok (.sipush 500, 3) := by decide +kernel
theorem dX0_init_48 : decode cX0_init 48 = .ok (.newarray .int, 2) := by decide +kernel
theorem dX0_init_50 : decode cX0_init 50 = .ok (.putfield 28, 3) := by decide +kernel
theorem dX0_init_53 : decode cX0_init 53 = .ok (.aload_n 0, 1) := by decide +kernel
theorem dX0_init_54 : decode cX0_init 54 = .ok (.sipush 500, 3) := by decide +kernel
theorem dX0_init_57 : decode cX0_init 57 = .ok (.newarray .int, 2) := by decide +kernel
theorem dX0_init_59 : decode cX0_init 59 = .ok (.putfield 31, 3) := by decide +kernel
theorem dX0_init_62 : decode cX0_init 62 = .ok (.aload_n 0, 1) := by decide +kernel
theorem dX0_init_63 : decode cX0_init 63 = .ok (.bipush 20, 2) := by decide +kernel
theorem dX0_init_65 : decode cX0_init 65 = .ok (.newarray .int, 2) := by decide +kernel
theorem dX0_init_67 : decode cX0_init 67 = .ok (.putfield 34, 3) := by decide +kernel
theorem dX0_init_70 : decode cX0_init 70 = .ok (.aload_n 0, 1) := by decide +kernel
theorem dX0_init_71 : decode cX0_init 71 = .ok (.iconst 3, 1) := by decide +kernel
theorem dX0_init_72 : decode cX0_init 72 = .ok (.newarray .int, 2) := by decide +kernel
theorem dX0_init_74 : decode cX0_init 74 = .ok (.putfield 37, 3) := by decide +kernel
theorem dX0_init_77 : decode cX0_init 77 = .ok (.aload_n 0, 1) := by decide +kernel
theorem dX0_init_78 : decode cX0_init 78 = .ok (.aload_n 1, 1) := by decide +kernel
theorem dX0_init_79 : decode cX0_init 79 = .ok (.putfield 40, 3) := by decide +kernel
theorem dX0_init_82 : decode cX0_init 82 = .ok (.aload_n 0, 1) := by decide +kernel
theorem dX0_init_83 : decode cX0_init 83 = .ok (.aload_n 2, 1) := by decide +kernel
theorem dX0_init_84 : decode cX0_init 84 = .ok (.putfield 44, 3) := by decide +kernel
theorem dX0_init_87 : decode cX0_init 87 = .ok (.return_, 1) := by decide +kernel
theorem dX0_takeSheets_0 : decode cX0_takeSheets 0 = .ok (.aload_n 1, 1) := by decide +kernel
theorem dX0_takeSheets_1 : decode cX0_takeSheets 1 = .ok (.getfield 48, 3) := by decide +kernel
theorem dX0_takeSheets_4 : decode cX0_takeSheets 4 = .ok (.iconst 2, 1) := by decide +kernel
theorem dX0_takeSheets_5 : decode cX0_takeSheets 5 = .ok (.irem, 1) := by decide +kernel
theorem dX0_takeSheets_6 : decode cX0_takeSheets 6 = .ok (.ifCond .ne 14, 3) := by decide +kernel
theorem dX0_takeSheets_9 : decode cX0_takeSheets 9 = .ok (.aload_n 1, 1) := by decide +kernel
theorem dX0_takeSheets_10 : decode cX0_takeSheets 10 = .ok (.getfield 48, 3) := by decide +kernel
theorem dX0_takeSheets_13 : decode cX0_takeSheets 13 = .ok (.iconst 2, 1) := by decide +kernel
theorem dX0_takeSheets_14 : decode cX0_takeSheets 14 = .ok (.idiv, 1) := by decide +kernel
theorem dX0_takeSheets_15 : decode cX0_takeSheets 15 = .ok (.bipush 20, 2) := by decide +kernel
theorem dX0_takeSheets_17 : decode cX0_takeSheets 17 = .ok (.if_icmp .le 5, 3) := by decide +kernel
theorem dX0_takeSheets_20 : decode cX0_takeSheets 20 = .ok (.iconst 0, 1) := by decide +kernel
theorem dX0_takeSheets_21 : decode cX0_takeSheets 21 = .ok (.ireturn, 1) := by decide +kernel
theorem dX0_takeSheets_22 : decode cX0_takeSheets 22 = .ok (.aload_n 0, 1) := by decide +kernel
theorem dX0_takeSheets_23 : decode cX0_takeSheets 23 = .ok (.iconst 0, 1) := by decide +kernel
theorem dX0_takeSheets_24 : decode cX0_takeSheets 24 = .ok (.putfield 54, 3) := by decide +kernel
theorem dX0_takeSheets_27 : decode cX0_takeSheets 27 = .ok (.iconst 0, 1) := by decide +kernel
theorem dX0_takeSheets_28 : decode cX0_takeSheets 28 = .ok (.istore_n 2, 1) := by decide +kernel
theorem dX0_takeSheets_29 : decode cX0_takeSheets 29 = .ok (.iload_n 2, 1) := by decide +kernel
theorem dX0_takeSheets_30 : decode cX0_takeSheets 30 = .ok (.aload_n 1, 1) := by decide +kernel
theorem dX0_takeSheets_31 : decode cX0_takeSheets 31 = .ok (.getfield 48, 3) := by decide +kernel
theorem dX0_takeSheets_34 : decode cX0_takeSheets 34 = .ok (.iconst 2, 1) := by decide +kernel
theorem dX0_takeSheets_35 : decode cX0_takeSheets 35 = .ok (.idiv, 1) := by decide +kernel
theorem dX0_takeSheets_36 : decode cX0_takeSheets 36 = .ok (.if_icmp .ge 77, 3) := by decide +kernel
theorem dX0_takeSheets_39 : decode cX0_takeSheets 39 = .ok (.aload_n 1, 1) := by decide +kernel
theorem dX0_takeSheets_40 : decode cX0_takeSheets 40 = .ok (.iconst 2, 1) := by decide +kernel
theorem dX0_takeSheets_41 : decode cX0_takeSheets 41 = .ok (.iload_n 2, 1) := by decide +kernel
theorem dX0_takeSheets_42 : decode cX0_takeSheets 42 = .ok (.imul, 1) := by decide +kernel
theorem dX0_takeSheets_43 : decode cX0_takeSheets 43 = .ok (.invokevirtual 57, 3) := by decide +kernel
theorem dX0_takeSheets_46 : decode cX0_takeSheets 46 = .ok (.lstore_n 3, 1) := by decide +kernel
theorem dX0_takeSheets_47 : decode cX0_takeSheets 47 = .ok (.aload_n 1, 1) := by decide +kernel
theorem dX0_takeSheets_48 : decode cX0_takeSheets 48 = .ok (.iconst 2, 1) := by decide +kernel
theorem dX0_takeSheets_49 : decode cX0_takeSheets 49 = .ok (.iload_n 2, 1) := by decide +kernel
theorem dX0_takeSheets_50 : decode cX0_takeSheets 50 = .ok (.imul, 1) := by decide +kernel
theorem dX0_takeSheets_51 : decode cX0_takeSheets 51 = .ok (.iconst 1, 1) := by decide +kernel
theorem dX0_takeSheets_52 : decode cX0_takeSheets 52 = .ok (.iadd, 1) := by decide +kernel
theorem dX0_takeSheets_53 : decode cX0_takeSheets 53 = .ok (.invokevirtual 57, 3) := by decide +kernel
theorem dX0_takeSheets_56 : decode cX0_takeSheets 56 = .ok (.lstore 5, 2) := by decide +kernel
theorem dX0_takeSheets_58 : decode cX0_takeSheets 58 = .ok (.lload_n 3, 1) := by decide +kernel
theorem dX0_takeSheets_59 : decode cX0_takeSheets 59 = .ok (.lconst 0, 1) := by decide +kernel
theorem dX0_takeSheets_60 : decode cX0_takeSheets 60 = .ok (.lcmp, 1) := by decide +kernel
theorem dX0_takeSheets_61 : decode cX0_takeSheets 61 = .ok (.ifCond .lt 18, 3) := by decide +kernel
theorem dX0_takeSheets_64 : decode cX0_takeSheets 64 = .ok (.lload_n 3, 1) := by decide +kernel
theorem dX0_takeSheets_65 : decode cX0_takeSheets 65 = .ok (.ldc2_w 61, 3) := by decide +kernel
theorem dX0_takeSheets_68 : decode cX0_takeSheets 68 = .ok (.lcmp, 1) := by decide +kernel
theorem dX0_takeSheets_69 : decode cX0_takeSheets 69 = .ok (.ifCond .ge 10, 3) := by decide +kernel
theorem dX0_takeSheets_72 : decode cX0_takeSheets 72 = .ok (.lload 5, 2) := by decide +kernel
theorem dX0_takeSheets_74 : decode cX0_takeSheets 74 = .ok (.lconst 0, 1) := by decide +kernel
theorem dX0_takeSheets_75 : decode cX0_takeSheets 75 = .ok (.lcmp, 1) := by decide +kernel
theorem dX0_takeSheets_76 : decode cX0_takeSheets 76 = .ok (.ifCond .ge 5, 3) := by decide +kernel
theorem dX0_takeSheets_79 : decode cX0_takeSheets 79 = .ok (.iconst 0, 1) := by decide +kernel
theorem dX0_takeSheets_80 : decode cX0_takeSheets 80 = .ok (.ireturn, 1) := by decide +kernel
theorem dX0_takeSheets_81 : decode cX0_takeSheets 81 = .ok (.aload_n 0, 1) := by decide +kernel
theorem dX0_takeSheets_82 : decode cX0_takeSheets 82 = .ok (.getfield 9, 3) := by decide +kernel
theorem dX0_takeSheets_85 : decode cX0_takeSheets 85 = .ok (.iload_n 2, 1) := by decide +kernel
theorem dX0_takeSheets_86 : decode cX0_takeSheets 86 = .ok (.lload_n 3, 1) := by decide +kernel
theorem dX0_takeSheets_87 : decode cX0_takeSheets 87 = .ok (.l2i, 1) := by decide +kernel
theorem dX0_takeSheets_88 : decode cX0_takeSheets 88 = .ok (.iastore, 1) := by decide +kernel
theorem dX0_takeSheets_89 : decode cX0_takeSheets 89 = .ok (.aload_n 0, 1) := by decide +kernel
theorem dX0_takeSheets_90 : decode cX0_takeSheets 90 = .ok (.getfield 15, 3) := by decide +kernel
theorem dX0_takeSheets_93 : decode cX0_takeSheets 93 = .ok (.iload_n 2, 1) := by decide +kernel
theorem dX0_takeSheets_94 : decode cX0_takeSheets 94 = .ok (.lload 5, 2) := by decide +kernel
theorem dX0_takeSheets_96 : decode cX0_takeSheets 96 = .ok (.lastore, 1) := by decide +kernel
theorem dX0_takeSheets_97 : decode cX0_takeSheets 97 = .ok (.aload_n 0, 1) := by decide +kernel
theorem dX0_takeSheets_98 : decode cX0_takeSheets 98 = .ok (.dup, 1) := by decide +kernel
theorem dX0_takeSheets_99 : decode cX0_takeSheets 99 = .ok (.getfield 54, 3) := by decide +kernel
theorem dX0_takeSheets_102 : decode cX0_takeSheets 102 = .ok (.iconst 1, 1) := by decide +kernel
theorem dX0_takeSheets_103 : decode cX0_takeSheets 103 = .ok (.iadd, 1) := by decide +kernel
theorem dX0_takeSheets_104 : decode cX0_takeSheets 104 = .ok (.putfield 54, 3) := by decide +kernel
theorem dX0_takeSheets_107 : decode cX0_takeSheets 107 = .ok (.iinc 2 1, 3) := by decide +kernel
theorem dX0_takeSheets_110 : decode cX0_takeSheets 110 = .ok (.goto (-81), 3) := by decide +kernel
theorem dX0_takeSheets_113 : decode cX0_takeSheets 113 = .ok (.iconst 0, 1) := by decide +kernel
theorem dX0_takeSheets_114 : decode cX0_takeSheets 114 = .ok (.istore_n 2, 1) := by decide +kernel
theorem dX0_takeSheets_115 : decode cX0_takeSheets 115 = .ok (.iload_n 2, 1) := by decide +kernel
theorem dX0_takeSheets_116 : decode cX0_takeSheets 116 = .ok (.iconst 3, 1) := by decide +kernel
theorem dX0_takeSheets_117 : decode cX0_takeSheets 117 = .ok (.if_icmp .ge 14, 3) := by decide +kernel
theorem dX0_takeSheets_120 : decode cX0_takeSheets 120 = .ok (.aload_n 0, 1) := by decide +kernel
theorem dX0_takeSheets_121 : decode cX0_takeSheets 121 = .ok (.iload_n 2, 1) := by decide +kernel
theorem dX0_takeSheets_122 : decode cX0_takeSheets 122 = .ok (.invokevirtual 63, 3) := by decide +kernel
theorem dX0_takeSheets_125 : decode cX0_takeSheets 125 = .ok (.iinc 2 1, 3) := by decide +kernel
theorem dX0_takeSheets_128 : decode cX0_takeSheets 128 = .ok (.goto (-13), 3) := by decide +kernel
theorem dX0_takeSheets_131 : decode cX0_takeSheets 131 = .ok (.aload_n 0, 1) := by decide +kernel
theorem dX0_takeSheets_132 : decode cX0_takeSheets 132 = .ok (.invokevirtual 67, 3) := by decide +kernel
theorem dX0_takeSheets_135 : decode cX0_takeSheets 135 = .ok (.iconst 1, 1) := by decide +kernel
theorem dX0_takeSheets_136 : decode cX0_takeSheets 136 = .ok (.ireturn, 1) := by decide +kernel
theorem dX0_sharePlace_0 : decode cX0_sharePlace 0 = .ok (.iload_n 0, 1) := by decide +kernel
theorem dX0_sharePlace_1 : decode cX0_sharePlace 1 = .ok (.bipush 25, 2) := by decide +kernel
theorem dX0_sharePlace_3 : decode cX0_sharePlace 3 = .ok (.imul, 1) := by decide +kernel
theorem dX0_sharePlace_4 : decode cX0_sharePlace 4 = .ok (.iload_n 1, 1) := by decide +kernel
theorem dX0_sharePlace_5 : decode cX0_sharePlace 5 = .ok (.iadd, 1) := by decide +kernel
theorem dX0_sharePlace_6 : decode cX0_sharePlace 6 = .ok (.bipush 20, 2) := by decide +kernel
theorem dX0_sharePlace_8 : decode cX0_sharePlace 8 = .ok (.imul, 1) := by decide +kernel
theorem dX0_sharePlace_9 : decode cX0_sharePlace 9 = .ok (.iload_n 2, 1) := by decide +kernel
theorem dX0_sharePlace_10 : decode cX0_sharePlace 10 = .ok (.iadd, 1) := by decide +kernel
theorem dX0_sharePlace_11 : decode cX0_sharePlace 11 = .ok (.ireturn, 1) := by decide +kernel
theorem dX0_layShares_0 : decode cX0_layShares 0 = .ok (.aload_n 0, 1) := by decide +kernel
theorem dX0_layShares_1 : decode cX0_layShares 1 = .ok (.getfield 25, 3) := by decide +kernel
theorem dX0_layShares_4 : decode cX0_layShares 4 = .ok (.iload_n 1, 1) := by decide +kernel
theorem dX0_layShares_5 : decode cX0_layShares 5 = .ok (.iconst 1, 1) := by decide +kernel
theorem dX0_layShares_6 : decode cX0_layShares 6 = .ok (.iastore, 1) := by decide +kernel
theorem dX0_layShares_7 : decode cX0_layShares 7 = .ok (.iconst 0, 1) := by decide +kernel
theorem dX0_layShares_8 : decode cX0_layShares 8 = .ok (.istore_n 2, 1) := by decide +kernel
theorem dX0_layShares_9 : decode cX0_layShares 9 = .ok (.iload_n 2, 1) := by decide +kernel
theorem dX0_layShares_10 : decode cX0_layShares 10 = .ok (.bipush 25, 2) := by decide +kernel
theorem dX0_layShares_12 : decode cX0_layShares 12 = .ok (.if_icmp .ge 100, 3) := by decide +kernel
theorem dX0_layShares_15 : decode cX0_layShares 15 = .ok (.aload_n 0, 1) := by decide +kernel
theorem dX0_layShares_16 : decode cX0_layShares 16 = .ok (.getfield 19, 3) := by decide +kernel
theorem dX0_layShares_19 : decode cX0_layShares 19 = .ok (.iconst 0, 1) := by decide +kernel
theorem dX0_layShares_20 : decode cX0_layShares 20 = .ok (.invokestatic 70, 3) := by decide +kernel
theorem dX0_layShares_23 : decode cX0_layShares 23 = .ok (.iload_n 2, 1) := by decide +kernel
theorem dX0_layShares_24 : decode cX0_layShares 24 = .ok (.ifCond .le 44, 3) := by decide +kernel
theorem dX0_layShares_27 : decode cX0_layShares 27 = .ok (.aload_n 0, 1) := by decide +kernel
theorem dX0_layShares_28 : decode cX0_layShares 28 = .ok (.getfield 40, 3) := by decide +kernel
theorem dX0_layShares_31 : decode cX0_layShares 31 = .ok (.iload_n 1, 1) := by decide +kernel
theorem dX0_layShares_32 : decode cX0_layShares 32 = .ok (.iload_n 2, 1) := by decide +kernel
theorem dX0_layShares_33 : decode cX0_layShares 33 = .ok (.iconst 1, 1) := by decide +kernel
theorem dX0_layShares_34 : decode cX0_layShares 34 = .ok (.isub, 1) := by decide +kernel
theorem dX0_layShares_35 : decode cX0_layShares 35 = .ok (.invokevirtual 76, 3) := by decide +kernel
theorem dX0_layShares_38 : decode cX0_layShares 38 = .ok (.ifCond .eq 30, 3) := by decide +kernel
theorem dX0_layShares_41 : decode cX0_layShares 41 = .ok (.aload_n 0, 1) := by decide +kernel
theorem dX0_layShares_42 : decode cX0_layShares 42 = .ok (.getfield 25, 3) := by decide +kernel
theorem dX0_layShares_45 : decode cX0_layShares 45 = .ok (.iload_n 1, 1) := by decide +kernel
theorem dX0_layShares_46 : decode cX0_layShares 46 = .ok (.dup2, 1) := by decide +kernel
theorem dX0_layShares_47 : decode cX0_layShares 47 = .ok (.iaload, 1) := by decide +kernel
theorem dX0_layShares_48 : decode cX0_layShares 48 = .ok (.iconst 1, 1) := by decide +kernel
theorem dX0_layShares_49 : decode cX0_layShares 49 = .ok (.iload_n 2, 1) := by decide +kernel
theorem dX0_layShares_50 : decode cX0_layShares 50 = .ok (.ishl, 1) := by decide +kernel
theorem dX0_layShares_51 : decode cX0_layShares 51 = .ok (.ior, 1) := by decide +kernel
theorem dX0_layShares_52 : decode cX0_layShares 52 = .ok (.iastore, 1) := by decide +kernel
theorem dX0_layShares_53 : decode cX0_layShares 53 = .ok (.aload_n 0, 1) := by decide +kernel
theorem dX0_layShares_54 : decode cX0_layShares 54 = .ok (.getfield 44, 3) := by decide +kernel
theorem dX0_layShares_57 : decode cX0_layShares 57 = .ok (.iload_n 1, 1) := by decide +kernel
theorem dX0_layShares_58 : decode cX0_layShares 58 = .ok (.iload_n 2, 1) := by decide +kernel
theorem dX0_layShares_59 : decode cX0_layShares 59 = .ok (.iconst 1, 1) := by decide +kernel
theorem dX0_layShares_60 : decode cX0_layShares 60 = .ok (.isub, 1) := by decide +kernel
theorem dX0_layShares_61 : decode cX0_layShares 61 = .ok (.aload_n 0, 1) := by decide +kernel
theorem dX0_layShares_62 : decode cX0_layShares 62 = .ok (.getfield 19, 3) := by decide +kernel
theorem dX0_layShares_65 : decode cX0_layShares 65 = .ok (.invokevirtual 82, 3) := by decide +kernel
theorem dX0_layShares_68 : decode cX0_layShares 68 = .ok (.iconst 0, 1) := by decide +kernel
theorem dX0_layShares_69 : decode cX0_layShares 69 = .ok (.istore_n 3, 1) := by decide +kernel
theorem dX0_layShares_70 : decode cX0_layShares 70 = .ok (.iload_n 3, 1) := by decide +kernel
theorem dX0_layShares_71 : decode cX0_layShares 71 = .ok (.aload_n 0, 1) := by decide +kernel
theorem dX0_layShares_72 : decode cX0_layShares 72 = .ok (.getfield 54, 3) := by decide +kernel
theorem dX0_layShares_75 : decode cX0_layShares 75 = .ok (.if_icmp .ge 31, 3) := by decide +kernel
theorem dX0_layShares_78 : decode cX0_layShares 78 = .ok (.aload_n 0, 1) := by decide +kernel
theorem dX0_layShares_79 : decode cX0_layShares 79 = .ok (.getfield 22, 3) := by decide +kernel
theorem dX0_layShares_82 : decode cX0_layShares 82 = .ok (.iload_n 1, 1) := by decide +kernel
theorem dX0_layShares_83 : decode cX0_layShares 83 = .ok (.iload_n 2, 1) := by decide +kernel
theorem dX0_layShares_84 : decode cX0_layShares 84 = .ok (.iload_n 3, 1) := by decide +kernel
theorem dX0_layShares_85 : decode cX0_layShares 85 = .ok (.invokestatic 88, 3) := by decide +kernel
theorem dX0_layShares_88 : decode cX0_layShares 88 = .ok (.aload_n 0, 1) := by decide +kernel
theorem dX0_layShares_89 : decode cX0_layShares 89 = .ok (.getfield 19, 3) := by decide +kernel
theorem dX0_layShares_92 : decode cX0_layShares 92 = .ok (.aload_n 0, 1) := by decide +kernel
theorem dX0_layShares_93 : decode cX0_layShares 93 = .ok (.getfield 9, 3) := by decide +kernel
theorem dX0_layShares_96 : decode cX0_layShares 96 = .ok (.iload_n 3, 1) := by decide +kernel
theorem dX0_layShares_97 : decode cX0_layShares 97 = .ok (.iaload, 1) := by decide +kernel
theorem dX0_layShares_98 : decode cX0_layShares 98 = .ok (.iaload, 1) := by decide +kernel
theorem dX0_layShares_99 : decode cX0_layShares 99 = .ok (.iastore, 1) := by decide +kernel
theorem dX0_layShares_100 : decode cX0_layShares 100 = .ok (.iinc 3 1, 3) := by decide +kernel
theorem dX0_layShares_103 : decode cX0_layShares 103 = .ok (.goto (-33), 3) := by decide +kernel
theorem dX0_layShares_106 : decode cX0_layShares 106 = .ok (.iinc 2 1, 3) := by decide +kernel
theorem dX0_layShares_109 : decode cX0_layShares 109 = .ok (.goto (-100), 3) := by decide +kernel
theorem dX0_layShares_112 : decode cX0_layShares 112 = .ok (.return_, 1) := by decide +kernel
theorem dX0_layAmounts_0 : decode cX0_layAmounts 0 = .ok (.iconst 2, 1) := by decide +kernel
theorem dX0_layAmounts_1 : decode cX0_layAmounts 1 = .ok (.istore_n 1, 1) := by decide +kernel
theorem dX0_layAmounts_2 : decode cX0_layAmounts 2 = .ok (.iconst 0, 1) := by decide +kernel
theorem dX0_layAmounts_3 : decode cX0_layAmounts 3 = .ok (.istore_n 2, 1) := by decide +kernel
theorem dX0_layAmounts_4 : decode cX0_layAmounts 4 = .ok (.iload_n 2, 1) := by decide +kernel
theorem dX0_layAmounts_5 : decode cX0_layAmounts 5 = .ok (.aload_n 0, 1) := by decide +kernel
theorem dX0_layAmounts_6 : decode cX0_layAmounts 6 = .ok (.getfield 54, 3) := by decide +kernel
theorem dX0_layAmounts_9 : decode cX0_layAmounts 9 = .ok (.if_icmp .ge 60, 3) := by decide +kernel
theorem dX0_layAmounts_12 : decode cX0_layAmounts 12 = .ok (.aload_n 0, 1) := by decide +kernel
theorem dX0_layAmounts_13 : decode cX0_layAmounts 13 = .ok (.getfield 34, 3) := by decide +kernel
theorem dX0_layAmounts_16 : decode cX0_layAmounts 16 = .ok (.iload_n 2, 1) := by decide +kernel
theorem dX0_layAmounts_17 : decode cX0_layAmounts 17 = .ok (.iconst 0, 1) := by decide +kernel
theorem dX0_layAmounts_18 : decode cX0_layAmounts 18 = .ok (.iastore, 1) := by decide +kernel
theorem dX0_layAmounts_19 : decode cX0_layAmounts 19 = .ok (.iconst 0, 1) := by decide +kernel
theorem dX0_layAmounts_20 : decode cX0_layAmounts 20 = .ok (.istore_n 3, 1) := by decide +kernel
theorem dX0_layAmounts_21 : decode cX0_layAmounts 21 = .ok (.iload_n 3, 1) := by decide +kernel
theorem dX0_layAmounts_22 : decode cX0_layAmounts 22 = .ok (.bipush 25, 2) := by decide +kernel
theorem dX0_layAmounts_24 : decode cX0_layAmounts 24 = .ok (.if_icmp .ge 39, 3) := by decide +kernel
theorem dX0_layAmounts_27 : decode cX0_layAmounts 27 = .ok (.aload_n 0, 1) := by decide +kernel
theorem dX0_layAmounts_28 : decode cX0_layAmounts 28 = .ok (.getfield 25, 3) := by decide +kernel
theorem dX0_layAmounts_31 : decode cX0_layAmounts 31 = .ok (.iload_n 1, 1) := by decide +kernel
theorem dX0_layAmounts_32 : decode cX0_layAmounts 32 = .ok (.iaload, 1) := by decide +kernel
theorem dX0_layAmounts_33 : decode cX0_layAmounts 33 = .ok (.iload_n 3, 1) := by decide +kernel
theorem dX0_layAmounts_34 : decode cX0_layAmounts 34 = .ok (.ishr, 1) := by decide +kernel
theorem dX0_layAmounts_35 : decode cX0_layAmounts 35 = .ok (.iconst 1, 1) := by decide +kernel
theorem dX0_layAmounts_36 : decode cX0_layAmounts 36 = .ok (.iand, 1) := by decide +kernel
theorem dX0_layAmounts_37 : decode cX0_layAmounts 37 = .ok (.ifCond .eq 20, 3) := by decide +kernel
theorem dX0_layAmounts_40 : decode cX0_layAmounts 40 = .ok (.aload_n 0, 1) := by decide +kernel
theorem dX0_layAmounts_41 : decode cX0_layAmounts 41 = .ok (.iload_n 2, 1) := by decide +kernel
theorem dX0_layAmounts_42 : decode cX0_layAmounts 42 = .ok (.aload_n 0, 1) := by decide +kernel
theorem dX0_layAmounts_43 : decode cX0_layAmounts 43 = .ok (.getfield 22, 3) := by decide +kernel
theorem dX0_layAmounts_46 : decode cX0_layAmounts 46 = .ok (.iload_n 1, 1) := by decide +kernel
theorem dX0_layAmounts_47 : decode cX0_layAmounts 47 = .ok (.iload_n 3, 1) := by decide +kernel
theorem dX0_layAmounts_48 : decode cX0_layAmounts 48 = .ok (.iload_n 2, 1) := by decide +kernel
theorem dX0_layAmounts_49 : decode cX0_layAmounts 49 = .ok (.invokestatic 88, 3) := by decide +kernel
theorem dX0_layAmounts_52 : decode cX0_layAmounts 52 = .ok (.iaload, 1) := by decide +kernel
theorem dX0_layAmounts_53 : decode cX0_layAmounts 53 = .ok (.iload_n 3, 1) := by decide +kernel
theorem dX0_layAmounts_54 : decode cX0_layAmounts 54 = .ok (.invokevirtual 92, 3) := by decide +kernel
theorem dX0_layAmounts_57 : decode cX0_layAmounts 57 = .ok (.iinc 3 1, 3) := by decide +kernel
theorem dX0_layAmounts_60 : decode cX0_layAmounts 60 = .ok (.goto (-39), 3) := by decide +kernel
theorem dX0_layAmounts_63 : decode cX0_layAmounts 63 = .ok (.iinc 2 1, 3) := by decide +kernel
theorem dX0_layAmounts_66 : decode cX0_layAmounts 66 = .ok (.goto (-62), 3) := by decide +kernel
theorem dX0_layAmounts_69 : decode cX0_layAmounts 69 = .ok (.return_, 1) := by decide +kernel
theorem dX0_addAmount_0 : decode cX0_addAmount 0 = .ok (.iload_n 1, 1) := by decide +kernel
theorem dX0_addAmount_1 : decode cX0_addAmount 1 = .ok (.bipush 25, 2) := by decide +kernel
theorem dX0_addAmount_3 : decode cX0_addAmount 3 = .ok (.imul, 1) := by decide +kernel
theorem dX0_addAmount_4 : decode cX0_addAmount 4 = .ok (.istore 4, 2) := by decide +kernel
theorem dX0_addAmount_6 : decode cX0_addAmount 6 = .ok (.iload 4, 2) := by decide +kernel
theorem dX0_addAmount_8 : decode cX0_addAmount 8 = .ok (.aload_n 0, 1) := by decide +kernel
theorem dX0_addAmount_9 : decode cX0_addAmount 9 = .ok (.getfield 34, 3) := by decide +kernel
theorem dX0_addAmount_12 : decode cX0_addAmount 12 = .ok (.iload_n 1, 1) := by decide +kernel
theorem dX0_addAmount_13 : decode cX0_addAmount 13 = .ok (.iaload, 1) := by decide +kernel
theorem dX0_addAmount_14 : decode cX0_addAmount 14 = .ok (.iadd, 1) := by decide +kernel
theorem dX0_addAmount_15 : decode cX0_addAmount 15 = .ok (.istore 5, 2) := by decide +kernel
theorem dX0_addAmount_17 : decode cX0_addAmount 17 = .ok (.iload 4, 2) := by decide +kernel
theorem dX0_addAmount_19 : decode cX0_addAmount 19 = .ok (.iload 5, 2) := by decide +kernel
theorem dX0_addAmount_21 : decode cX0_addAmount 21 = .ok (.if_icmp .ge 20, 3) := by decide +kernel
theorem dX0_addAmount_24 : decode cX0_addAmount 24 = .ok (.aload_n 0, 1) := by decide +kernel
theorem dX0_addAmount_25 : decode cX0_addAmount 25 = .ok (.getfield 28, 3) := by decide +kernel
theorem dX0_addAmount_28 : decode cX0_addAmount 28 = .ok (.iload 4, 2) := by decide +kernel
theorem dX0_addAmount_30 : decode cX0_addAmount 30 = .ok (.iaload, 1) := by decide +kernel
theorem dX0_addAmount_31 : decode cX0_addAmount 31 = .ok (.iload_n 2, 1) := by decide +kernel
theorem dX0_addAmount_32 : decode cX0_addAmount 32 = .ok (.if_icmp .eq 9, 3) := by decide +kernel
theorem dX0_addAmount_35 : decode cX0_addAmount 35 = .ok (.iinc 4 1, 3) := by decide +kernel
theorem dX0_addAmount_38 : decode cX0_addAmount 38 = .ok (.goto (-21), 3) := by decide +kernel
theorem dX0_addAmount_41 : decode cX0_addAmount 41 = .ok (.iload 4, 2) := by decide +kernel
theorem dX0_addAmount_43 : decode cX0_addAmount 43 = .ok (.iload 5, 2) := by decide +kernel
theorem dX0_addAmount_45 : decode cX0_addAmount 45 = .ok (.if_icmp .ne 29, 3) := by decide +kernel
theorem dX0_addAmount_48 : decode cX0_addAmount 48 = .ok (.aload_n 0, 1) := by decide +kernel
theorem dX0_addAmount_49 : decode cX0_addAmount 49 = .ok (.getfield 28, 3) := by decide +kernel
theorem dX0_addAmount_52 : decode cX0_addAmount 52 = .ok (.iload 4, 2) := by decide +kernel
theorem dX0_addAmount_54 : decode cX0_addAmount 54 = .ok (.iload_n 2, 1) := by decide +kernel
theorem dX0_addAmount_55 : decode cX0_addAmount 55 = .ok (.iastore, 1) := by decide +kernel
theorem dX0_addAmount_56 : decode cX0_addAmount 56 = .ok (.aload_n 0, 1) := by decide +kernel
theorem dX0_addAmount_57 : decode cX0_addAmount 57 = .ok (.getfield 31, 3) := by decide +kernel
theorem dX0_addAmount_60 : decode cX0_addAmount 60 = .ok (.iload 4, 2) := by decide +kernel
theorem dX0_addAmount_62 : decode cX0_addAmount 62 = .ok (.iconst 0, 1) := by decide +kernel
theorem dX0_addAmount_63 : decode cX0_addAmount 63 = .ok (.iastore, 1) := by decide +kernel
theorem dX0_addAmount_64 : decode cX0_addAmount 64 = .ok (.aload_n 0, 1) := by decide +kernel
theorem dX0_addAmount_65 : decode cX0_addAmount 65 = .ok (.getfield 34, 3) := by decide +kernel
theorem dX0_addAmount_68 : decode cX0_addAmount 68 = .ok (.iload_n 1, 1) := by decide +kernel
theorem dX0_addAmount_69 : decode cX0_addAmount 69 = .ok (.dup2, 1) := by decide +kernel
theorem dX0_addAmount_70 : decode cX0_addAmount 70 = .ok (.iaload, 1) := by decide +kernel
theorem dX0_addAmount_71 : decode cX0_addAmount 71 = .ok (.iconst 1, 1) := by decide +kernel
theorem dX0_addAmount_72 : decode cX0_addAmount 72 = .ok (.iadd, 1) := by decide +kernel
theorem dX0_addAmount_73 : decode cX0_addAmount 73 = .ok (.iastore, 1) := by decide +kernel
theorem dX0_addAmount_74 : decode cX0_addAmount 74 = .ok (.aload_n 0, 1) := by decide +kernel
theorem dX0_addAmount_75 : decode cX0_addAmount 75 = .ok (.getfield 31, 3) := by decide +kernel
theorem dX0_addAmount_78 : decode cX0_addAmount 78 = .ok (.iload 4, 2) := by decide +kernel
theorem dX0_addAmount_80 : decode cX0_addAmount 80 = .ok (.dup2, 1) := by decide +kernel
theorem dX0_addAmount_81 : decode cX0_addAmount 81 = .ok (.iaload, 1) := by decide +kernel
theorem dX0_addAmount_82 : decode cX0_addAmount 82 = .ok (.iconst 1, 1) := by decide +kernel
theorem dX0_addAmount_83 : decode cX0_addAmount 83 = .ok (.iload_n 3, 1) := by decide +kernel
theorem dX0_addAmount_84 : decode cX0_addAmount 84 = .ok (.ishl, 1) := by decide +kernel
theorem dX0_addAmount_85 : decode cX0_addAmount 85 = .ok (.ior, 1) := by decide +kernel
theorem dX0_addAmount_86 : decode cX0_addAmount 86 = .ok (.iastore, 1) := by decide +kernel
theorem dX0_addAmount_87 : decode cX0_addAmount 87 = .ok (.return_, 1) := by decide +kernel
theorem dX0_optionsThatGive_0 : decode cX0_optionsThatGive 0 = .ok (.iload_n 1, 1) := by decide +kernel
theorem dX0_optionsThatGive_1 : decode cX0_optionsThatGive 1 = .ok (.bipush 25, 2) := by decide +kernel
theorem dX0_optionsThatGive_3 : decode cX0_optionsThatGive 3 = .ok (.imul, 1) := by decide +kernel
theorem dX0_optionsThatGive_4 : decode cX0_optionsThatGive 4 = .ok (.istore 4, 2) := by decide +kernel
theorem dX0_optionsThatGive_6 : decode cX0_optionsThatGive 6 = .ok (.iload 4, 2) := by decide +kernel
theorem dX0_optionsThatGive_8 : decode cX0_optionsThatGive 8 = .ok (.iload_n 1, 1) := by decide +kernel
theorem dX0_optionsThatGive_9 : decode cX0_optionsThatGive 9 = .ok (.bipush 25, 2) := by decide +kernel
theorem dX0_optionsThatGive_11 : decode cX0_optionsThatGive 11 = .ok (.imul, 1) := by decide +kernel
theorem dX0_optionsThatGive_12 : decode cX0_optionsThatGive 12 = .ok (.aload_n 0, 1) := by decide +kernel
theorem dX0_optionsThatGive_13 : decode cX0_optionsThatGive 13 = .ok (.getfield 34, 3) := by decide +kernel
theorem dX0_optionsThatGive_16 : decode cX0_optionsThatGive 16 = .ok (.iload_n 1, 1) := by decide +kernel
theorem dX0_optionsThatGive_17 : decode cX0_optionsThatGive 17 = .ok (.iaload, 1) := by decide +kernel
theorem dX0_optionsThatGive_18 : decode cX0_optionsThatGive 18 = .ok (.iadd, 1) := by decide +kernel
theorem dX0_optionsThatGive_19 : decode cX0_optionsThatGive 19 = .ok (.if_icmp .ge 30, 3) := by decide +kernel
theorem dX0_optionsThatGive_22 : decode cX0_optionsThatGive 22 = .ok (.aload_n 0, 1) := by decide +kernel
theorem dX0_optionsThatGive_23 : decode cX0_optionsThatGive 23 = .ok (.getfield 28, 3) := by decide +kernel
theorem dX0_optionsThatGive_26 : decode cX0_optionsThatGive 26 = .ok (.iload 4, 2) := by decide +kernel
theorem dX0_optionsThatGive_28 : decode cX0_optionsThatGive 28 = .ok (.iaload, 1) := by decide +kernel
theorem dX0_optionsThatGive_29 : decode cX0_optionsThatGive 29 = .ok (.i2l, 1) := by decide +kernel
theorem dX0_optionsThatGive_30 : decode cX0_optionsThatGive 30 = .ok (.lload_n 2, 1) := by decide +kernel
theorem dX0_optionsThatGive_31 : decode cX0_optionsThatGive 31 = .ok (.lcmp, 1) := by decide +kernel
theorem dX0_optionsThatGive_32 : decode cX0_optionsThatGive 32 = .ok (.ifCond .ne 11, 3) := by decide +kernel
theorem dX0_optionsThatGive_35 : decode cX0_optionsThatGive 35 = .ok (.aload_n 0, 1) := by decide +kernel
theorem dX0_optionsThatGive_36 : decode cX0_optionsThatGive 36 = .ok (.getfield 31, 3) := by decide +kernel
theorem dX0_optionsThatGive_39 : decode cX0_optionsThatGive 39 = .ok (.iload 4, 2) := by decide +kernel
theorem dX0_optionsThatGive_41 : decode cX0_optionsThatGive 41 = .ok (.iaload, 1) := by decide +kernel
theorem dX0_optionsThatGive_42 : decode cX0_optionsThatGive 42 = .ok (.ireturn, 1) := by decide +kernel
theorem dX0_optionsThatGive_43 : decode cX0_optionsThatGive 43 = .ok (.iinc 4 1, 3) := by decide +kernel
theorem dX0_optionsThatGive_46 : decode cX0_optionsThatGive 46 = .ok (.goto (-40), 3) := by decide +kernel
theorem dX0_optionsThatGive_49 : decode cX0_optionsThatGive 49 = .ok (.iconst 0, 1) := by decide +kernel
theorem dX0_optionsThatGive_50 : decode cX0_optionsThatGive 50 = .ok (.ireturn, 1) := by decide +kernel
theorem dX0_fittingOptions_0 : decode cX0_fittingOptions 0 = .ok (.aload_n 0, 1) := by decide +kernel
theorem dX0_fittingOptions_1 : decode cX0_fittingOptions 1 = .ok (.getfield 25, 3) := by decide +kernel
theorem dX0_fittingOptions_4 : decode cX0_fittingOptions 4 = .ok (.iconst 2, 1) := by decide +kernel
theorem dX0_fittingOptions_5 : decode cX0_fittingOptions 5 = .ok (.iaload, 1) := by decide +kernel
theorem dX0_fittingOptions_6 : decode cX0_fittingOptions 6 = .ok (.istore_n 3, 1) := by decide +kernel
theorem dX0_fittingOptions_7 : decode cX0_fittingOptions 7 = .ok (.iconst 0, 1) := by decide +kernel
theorem dX0_fittingOptions_8 : decode cX0_fittingOptions 8 = .ok (.istore 4, 2) := by decide +kernel
theorem dX0_fittingOptions_10 : decode cX0_fittingOptions 10 = .ok (.iload 4, 2) := by decide +kernel
theorem dX0_fittingOptions_12 : decode cX0_fittingOptions 12 = .ok (.aload_n 0, 1) := by decide +kernel
theorem dX0_fittingOptions_13 : decode cX0_fittingOptions 13 = .ok (.getfield 54, 3) := by decide +kernel
theorem dX0_fittingOptions_16 : decode cX0_fittingOptions 16 = .ok (.if_icmp .ge 61, 3) := by decide +kernel
theorem dX0_fittingOptions_19 : decode cX0_fittingOptions 19 = .ok (.iload_n 3, 1) := by decide +kernel
theorem dX0_fittingOptions_20 : decode cX0_fittingOptions 20 = .ok (.ifCond .eq 57, 3) := by decide +kernel
theorem dX0_fittingOptions_23 : decode cX0_fittingOptions 23 = .ok (.aload_n 0, 1) := by decide +kernel
theorem dX0_fittingOptions_24 : decode cX0_fittingOptions 24 = .ok (.getfield 15, 3) := by decide +kernel
theorem dX0_fittingOptions_27 : decode cX0_fittingOptions 27 = .ok (.iload 4, 2) := by decide +kernel
theorem dX0_fittingOptions_29 : decode cX0_fittingOptions 29 = .ok (.laload, 1) := by decide +kernel
theorem dX0_fittingOptions_30 : decode cX0_fittingOptions 30 = .ok (.aload_n 0, 1) := by decide +kernel
theorem dX0_fittingOptions_31 : decode cX0_fittingOptions 31 = .ok (.getfield 22, 3) := by decide +kernel
theorem dX0_fittingOptions_34 : decode cX0_fittingOptions 34 = .ok (.iconst 0, 1) := by decide +kernel
theorem dX0_fittingOptions_35 : decode cX0_fittingOptions 35 = .ok (.iload_n 1, 1) := by decide +kernel
theorem dX0_fittingOptions_36 : decode cX0_fittingOptions 36 = .ok (.iload 4, 2) := by decide +kernel
theorem dX0_fittingOptions_38 : decode cX0_fittingOptions 38 = .ok (.invokestatic 88, 3) := by decide +kernel
theorem dX0_fittingOptions_41 : decode cX0_fittingOptions 41 = .ok (.iaload, 1) := by decide +kernel
theorem dX0_fittingOptions_42 : decode cX0_fittingOptions 42 = .ok (.i2l, 1) := by decide +kernel
theorem dX0_fittingOptions_43 : decode cX0_fittingOptions 43 = .ok (.lsub, 1) := by decide +kernel
theorem dX0_fittingOptions_44 : decode cX0_fittingOptions 44 = .ok (.aload_n 0, 1) := by decide +kernel
theorem dX0_fittingOptions_45 : decode cX0_fittingOptions 45 = .ok (.getfield 22, 3) := by decide +kernel
theorem dX0_fittingOptions_48 : decode cX0_fittingOptions 48 = .ok (.iconst 1, 1) := by decide +kernel
theorem dX0_fittingOptions_49 : decode cX0_fittingOptions 49 = .ok (.iload_n 2, 1) := by decide +kernel
theorem dX0_fittingOptions_50 : decode cX0_fittingOptions 50 = .ok (.iload 4, 2) := by decide +kernel
theorem dX0_fittingOptions_52 : decode cX0_fittingOptions 52 = .ok (.invokestatic 88, 3) := by decide +kernel
theorem dX0_fittingOptions_55 : decode cX0_fittingOptions 55 = .ok (.iaload, 1) := by decide +kernel
theorem dX0_fittingOptions_56 : decode cX0_fittingOptions 56 = .ok (.i2l, 1) := by decide +kernel
theorem dX0_fittingOptions_57 : decode cX0_fittingOptions 57 = .ok (.lsub, 1) := by decide +kernel
theorem dX0_fittingOptions_58 : decode cX0_fittingOptions 58 = .ok (.lstore 5, 2) := by decide +kernel
theorem dX0_fittingOptions_60 : decode cX0_fittingOptions 60 = .ok (.iload_n 3, 1) := by decide +kernel
theorem dX0_fittingOptions_61 : decode cX0_fittingOptions 61 = .ok (.aload_n 0, 1) := by decide +kernel
theorem dX0_fittingOptions_62 : decode cX0_fittingOptions 62 = .ok (.iload 4, 2) := by decide +kernel
theorem dX0_fittingOptions_64 : decode cX0_fittingOptions 64 = .ok (.lload 5, 2) := by decide +kernel
theorem dX0_fittingOptions_66 : decode cX0_fittingOptions 66 = .ok (.invokevirtual 96, 3) := by decide +kernel
theorem dX0_fittingOptions_69 : decode cX0_fittingOptions 69 = .ok (.iand, 1) := by decide +kernel
theorem dX0_fittingOptions_70 : decode cX0_fittingOptions 70 = .ok (.istore_n 3, 1) := by decide +kernel
theorem dX0_fittingOptions_71 : decode cX0_fittingOptions 71 = .ok (.iinc 4 1, 3) := by decide +kernel
theorem dX0_fittingOptions_74 : decode cX0_fittingOptions 74 = .ok (.goto (-64), 3) := by decide +kernel
theorem dX0_fittingOptions_77 : decode cX0_fittingOptions 77 = .ok (.iload_n 3, 1) := by decide +kernel
theorem dX0_fittingOptions_78 : decode cX0_fittingOptions 78 = .ok (.ireturn, 1) := by decide +kernel
theorem dX0_seekDay_0 : decode cX0_seekDay 0 = .ok (.aload_n 0, 1) := by decide +kernel
theorem dX0_seekDay_1 : decode cX0_seekDay 1 = .ok (.iconst 0, 1) := by decide +kernel
theorem dX0_seekDay_2 : decode cX0_seekDay 2 = .ok (.putfield 100, 3) := by decide +kernel
theorem dX0_seekDay_5 : decode cX0_seekDay 5 = .ok (.aload_n 0, 1) := by decide +kernel
theorem dX0_seekDay_6 : decode cX0_seekDay 6 = .ok (.bipush 7, 2) := by decide +kernel
theorem dX0_seekDay_8 : decode cX0_seekDay 8 = .ok (.putfield 103, 3) := by decide +kernel
theorem dX0_seekDay_11 : decode cX0_seekDay 11 = .ok (.iconst 0, 1) := by decide +kernel
theorem dX0_seekDay_12 : decode cX0_seekDay 12 = .ok (.istore_n 2, 1) := by decide +kernel
theorem dX0_seekDay_13 : decode cX0_seekDay 13 = .ok (.iload_n 2, 1) := by decide +kernel
theorem dX0_seekDay_14 : decode cX0_seekDay 14 = .ok (.bipush 25, 2) := by decide +kernel
theorem dX0_seekDay_16 : decode cX0_seekDay 16 = .ok (.if_icmp .ge 87, 3) := by decide +kernel
theorem dX0_seekDay_19 : decode cX0_seekDay 19 = .ok (.iconst 0, 1) := by decide +kernel
theorem dX0_seekDay_20 : decode cX0_seekDay 20 = .ok (.istore_n 3, 1) := by decide +kernel
theorem dX0_seekDay_21 : decode cX0_seekDay 21 = .ok (.iload_n 3, 1) := by decide +kernel
theorem dX0_seekDay_22 : decode cX0_seekDay 22 = .ok (.bipush 25, 2) := by decide +kernel
theorem dX0_seekDay_24 : decode cX0_seekDay 24 = .ok (.if_icmp .ge 73, 3) := by decide +kernel
theorem dX0_seekDay_27 : decode cX0_seekDay 27 = .ok (.aload_n 0, 1) := by decide +kernel
theorem dX0_seekDay_28 : decode cX0_seekDay 28 = .ok (.getfield 25, 3) := by decide +kernel
theorem dX0_seekDay_31 : decode cX0_seekDay 31 = .ok (.iconst 0, 1) := by decide +kernel
theorem dX0_seekDay_32 : decode cX0_seekDay 32 = .ok (.iaload, 1) := by decide +kernel
theorem dX0_seekDay_33 : decode cX0_seekDay 33 = .ok (.iload_n 2, 1) := by decide +kernel
theorem dX0_seekDay_34 : decode cX0_seekDay 34 = .ok (.ishr, 1) := by decide +kernel
theorem dX0_seekDay_35 : decode cX0_seekDay 35 = .ok (.iconst 1, 1) := by decide +kernel
theorem dX0_seekDay_36 : decode cX0_seekDay 36 = .ok (.iand, 1) := by decide +kernel
theorem dX0_seekDay_37 : decode cX0_seekDay 37 = .ok (.ifCond .eq 20, 3) := by decide +kernel
theorem dX0_seekDay_40 : decode cX0_seekDay 40 = .ok (.aload_n 0, 1) := by decide +kernel
theorem dX0_seekDay_41 : decode cX0_seekDay 41 = .ok (.getfield 25, 3) := by decide +kernel
theorem dX0_seekDay_44 : decode cX0_seekDay 44 = .ok (.iconst 1, 1) := by decide +kernel
theorem dX0_seekDay_45 : decode cX0_seekDay 45 = .ok (.iaload, 1) := by decide +kernel
theorem dX0_seekDay_46 : decode cX0_seekDay 46 = .ok (.iload_n 3, 1) := by decide +kernel
theorem dX0_seekDay_47 : decode cX0_seekDay 47 = .ok (.ishr, 1) := by decide +kernel
theorem dX0_seekDay_48 : decode cX0_seekDay 48 = .ok (.iconst 1, 1) := by decide +kernel
theorem dX0_seekDay_49 : decode cX0_seekDay 49 = .ok (.iand, 1) := by decide +kernel
theorem dX0_seekDay_50 : decode cX0_seekDay 50 = .ok (.ifCond .eq 7, 3) := by decide +kernel
theorem dX0_seekDay_53 : decode cX0_seekDay 53 = .ok (.iconst 1, 1) := by decide +kernel
theorem dX0_seekDay_54 : decode cX0_seekDay 54 = .ok (.goto 4, 3) := by decide +kernel
theorem dX0_seekDay_57 : decode cX0_seekDay 57 = .ok (.iconst 0, 1) := by decide +kernel
theorem dX0_seekDay_58 : decode cX0_seekDay 58 = .ok (.istore 4, 2) := by decide +kernel
theorem dX0_seekDay_60 : decode cX0_seekDay 60 = .ok (.iload 4, 2) := by decide +kernel
theorem dX0_seekDay_62 : decode cX0_seekDay 62 = .ok (.ifCond .eq 12, 3) := by decide +kernel
theorem dX0_seekDay_65 : decode cX0_seekDay 65 = .ok (.aload_n 0, 1) := by decide +kernel
theorem dX0_seekDay_66 : decode cX0_seekDay 66 = .ok (.iload_n 2, 1) := by decide +kernel
theorem dX0_seekDay_67 : decode cX0_seekDay 67 = .ok (.iload_n 3, 1) := by decide +kernel
theorem dX0_seekDay_68 : decode cX0_seekDay 68 = .ok (.invokevirtual 106, 3) := by decide +kernel
theorem dX0_seekDay_71 : decode cX0_seekDay 71 = .ok (.goto 4, 3) := by decide +kernel
theorem dX0_seekDay_74 : decode cX0_seekDay 74 = .ok (.iconst 0, 1) := by decide +kernel
theorem dX0_seekDay_75 : decode cX0_seekDay 75 = .ok (.istore 5, 2) := by decide +kernel
theorem dX0_seekDay_77 : decode cX0_seekDay 77 = .ok (.iload 5, 2) := by decide +kernel
theorem dX0_seekDay_79 : decode cX0_seekDay 79 = .ok (.ifCond .eq 12, 3) := by decide +kernel
theorem dX0_seekDay_82 : decode cX0_seekDay 82 = .ok (.aload_n 0, 1) := by decide +kernel
theorem dX0_seekDay_83 : decode cX0_seekDay 83 = .ok (.iload_n 2, 1) := by decide +kernel
theorem dX0_seekDay_84 : decode cX0_seekDay 84 = .ok (.iload_n 3, 1) := by decide +kernel
theorem dX0_seekDay_85 : decode cX0_seekDay 85 = .ok (.iload 5, 2) := by decide +kernel
theorem dX0_seekDay_87 : decode cX0_seekDay 87 = .ok (.iload_n 1, 1) := by decide +kernel
theorem dX0_seekDay_88 : decode cX0_seekDay 88 = .ok (.invokevirtual 110, 3) := by decide +kernel
theorem dX0_seekDay_91 : decode cX0_seekDay 91 = .ok (.iinc 3 1, 3) := by decide +kernel
theorem dX0_seekDay_94 : decode cX0_seekDay 94 = .ok (.goto (-73), 3) := by decide +kernel
theorem dX0_seekDay_97 : decode cX0_seekDay 97 = .ok (.iinc 2 1, 3) := by decide +kernel
theorem dX0_seekDay_100 : decode cX0_seekDay 100 = .ok (.goto (-87), 3) := by decide +kernel
theorem dX0_seekDay_103 : decode cX0_seekDay 103 = .ok (.return_, 1) := by decide +kernel
theorem dX0_addDays_0 : decode cX0_addDays 0 = .ok (.iconst 0, 1) := by decide +kernel
theorem dX0_addDays_1 : decode cX0_addDays 1 = .ok (.istore 5, 2) := by decide +kernel
theorem dX0_addDays_3 : decode cX0_addDays 3 = .ok (.iload 5, 2) := by decide +kernel
theorem dX0_addDays_5 : decode cX0_addDays 5 = .ok (.bipush 25, 2) := by decide +kernel
theorem dX0_addDays_7 : decode cX0_addDays 7 = .ok (.if_icmp .ge 59, 3) := by decide +kernel
theorem dX0_addDays_10 : decode cX0_addDays 10 = .ok (.iload_n 3, 1) := by decide +kernel
theorem dX0_addDays_11 : decode cX0_addDays 11 = .ok (.iload 5, 2) := by decide +kernel
theorem dX0_addDays_13 : decode cX0_addDays 13 = .ok (.ishr, 1) := by decide +kernel
theorem dX0_addDays_14 : decode cX0_addDays 14 = .ok (.iconst 1, 1) := by decide +kernel
theorem dX0_addDays_15 : decode cX0_addDays 15 = .ok (.iand, 1) := by decide +kernel
theorem dX0_addDays_16 : decode cX0_addDays 16 = .ok (.ifCond .eq 44, 3) := by decide +kernel
theorem dX0_addDays_19 : decode cX0_addDays 19 = .ok (.aload_n 0, 1) := by decide +kernel
theorem dX0_addDays_20 : decode cX0_addDays 20 = .ok (.getfield 100, 3) := by decide +kernel
theorem dX0_addDays_23 : decode cX0_addDays 23 = .ok (.iload 4, 2) := by decide +kernel
theorem dX0_addDays_25 : decode cX0_addDays 25 = .ok (.if_icmp .ne 25, 3) := by decide +kernel
theorem dX0_addDays_28 : decode cX0_addDays 28 = .ok (.aload_n 0, 1) := by decide +kernel
theorem dX0_addDays_29 : decode cX0_addDays 29 = .ok (.getfield 37, 3) := by decide +kernel
theorem dX0_addDays_32 : decode cX0_addDays 32 = .ok (.iconst 0, 1) := by decide +kernel
theorem dX0_addDays_33 : decode cX0_addDays 33 = .ok (.iload_n 1, 1) := by decide +kernel
theorem dX0_addDays_34 : decode cX0_addDays 34 = .ok (.iastore, 1) := by decide +kernel
theorem dX0_addDays_35 : decode cX0_addDays 35 = .ok (.aload_n 0, 1) := by decide +kernel
theorem dX0_addDays_36 : decode cX0_addDays 36 = .ok (.getfield 37, 3) := by decide +kernel
theorem dX0_addDays_39 : decode cX0_addDays 39 = .ok (.iconst 1, 1) := by decide +kernel
theorem dX0_addDays_40 : decode cX0_addDays 40 = .ok (.iload_n 2, 1) := by decide +kernel
theorem dX0_addDays_41 : decode cX0_addDays 41 = .ok (.iastore, 1) := by decide +kernel
theorem dX0_addDays_42 : decode cX0_addDays 42 = .ok (.aload_n 0, 1) := by decide +kernel
theorem dX0_addDays_43 : decode cX0_addDays 43 = .ok (.getfield 37, 3) := by decide +kernel
theorem dX0_addDays_46 : decode cX0_addDays 46 = .ok (.iconst 2, 1) := by decide +kernel
theorem dX0_addDays_47 : decode cX0_addDays 47 = .ok (.iload 5, 2) := by decide +kernel
theorem dX0_addDays_49 : decode cX0_addDays 49 = .ok (.iastore, 1) := by decide +kernel
theorem dX0_addDays_50 : decode cX0_addDays 50 = .ok (.aload_n 0, 1) := by decide +kernel
theorem dX0_addDays_51 : decode cX0_addDays 51 = .ok (.dup, 1) := by decide +kernel
theorem dX0_addDays_52 : decode cX0_addDays 52 = .ok (.getfield 100, 3) := by decide +kernel
theorem dX0_addDays_55 : decode cX0_addDays 55 = .ok (.iconst 1, 1) := by decide +kernel
theorem dX0_addDays_56 : decode cX0_addDays 56 = .ok (.iadd, 1) := by decide +kernel
theorem dX0_addDays_57 : decode cX0_addDays 57 = .ok (.putfield 100, 3) := by decide +kernel
theorem dX0_addDays_60 : decode cX0_addDays 60 = .ok (.iinc 5 1, 3) := by decide +kernel
theorem dX0_addDays_63 : decode cX0_addDays 63 = .ok (.goto (-60), 3) := by decide +kernel
theorem dX0_addDays_66 : decode cX0_addDays 66 = .ok (.aload_n 0, 1) := by decide +kernel
theorem dX0_addDays_67 : decode cX0_addDays 67 = .ok (.dup, 1) := by decide +kernel
theorem dX0_addDays_68 : decode cX0_addDays 68 = .ok (.getfield 103, 3) := by decide +kernel
theorem dX0_addDays_71 : decode cX0_addDays 71 = .ok (.iload_n 1, 1) := by decide +kernel
theorem dX0_addDays_72 : decode cX0_addDays 72 = .ok (.ifCond .ne 7, 3) := by decide +kernel
theorem dX0_addDays_75 : decode cX0_addDays 75 = .ok (.iconst 0, 1) := by decide +kernel
theorem dX0_addDays_76 : decode cX0_addDays 76 = .ok (.goto 4, 3) := by decide +kernel
theorem dX0_addDays_79 : decode cX0_addDays 79 = .ok (.iconst 1, 1) := by decide +kernel
theorem dX0_addDays_80 : decode cX0_addDays 80 = .ok (.iload_n 2, 1) := by decide +kernel
theorem dX0_addDays_81 : decode cX0_addDays 81 = .ok (.ifCond .ne 7, 3) := by decide +kernel
theorem dX0_addDays_84 : decode cX0_addDays 84 = .ok (.iconst 0, 1) := by decide +kernel
theorem dX0_addDays_85 : decode cX0_addDays 85 = .ok (.goto 4, 3) := by decide +kernel
theorem dX0_addDays_88 : decode cX0_addDays 88 = .ok (.iconst 2, 1) := by decide +kernel
theorem dX0_addDays_89 : decode cX0_addDays 89 = .ok (.ior, 1) := by decide +kernel
theorem dX0_addDays_90 : decode cX0_addDays 90 = .ok (.iload_n 3, 1) := by decide +kernel
theorem dX0_addDays_91 : decode cX0_addDays 91 = .ok (.iconst 1, 1) := by decide +kernel
theorem dX0_addDays_92 : decode cX0_addDays 92 = .ok (.iand, 1) := by decide +kernel
theorem dX0_addDays_93 : decode cX0_addDays 93 = .ok (.ifCond .eq 7, 3) := by decide +kernel
theorem dX0_addDays_96 : decode cX0_addDays 96 = .ok (.iconst 0, 1) := by decide +kernel
theorem dX0_addDays_97 : decode cX0_addDays 97 = .ok (.goto 4, 3) := by decide +kernel
theorem dX0_addDays_100 : decode cX0_addDays 100 = .ok (.iconst 4, 1) := by decide +kernel
theorem dX0_addDays_101 : decode cX0_addDays 101 = .ok (.ior, 1) := by decide +kernel
theorem dX0_addDays_102 : decode cX0_addDays 102 = .ok (.iand, 1) := by decide +kernel
theorem dX0_addDays_103 : decode cX0_addDays 103 = .ok (.putfield 103, 3) := by decide +kernel
theorem dX0_addDays_106 : decode cX0_addDays 106 = .ok (.return_, 1) := by decide +kernel
theorem dX0_dayQuarter_0 : decode cX0_dayQuarter 0 = .ok (.iload_n 1, 1) := by decide +kernel
theorem dX0_dayQuarter_1 : decode cX0_dayQuarter 1 = .ok (.ifCond .lt 19, 3) := by decide +kernel
theorem dX0_dayQuarter_4 : decode cX0_dayQuarter 4 = .ok (.iload_n 1, 1) := by decide +kernel
theorem dX0_dayQuarter_5 : decode cX0_dayQuarter 5 = .ok (.iconst 3, 1) := by decide +kernel
theorem dX0_dayQuarter_6 : decode cX0_dayQuarter 6 = .ok (.if_icmp .ge 14, 3) := by decide +kernel
theorem dX0_dayQuarter_9 : decode cX0_dayQuarter 9 = .ok (.aload_n 0, 1) := by decide +kernel
theorem dX0_dayQuarter_10 : decode cX0_dayQuarter 10 = .ok (.getfield 37, 3) := by decide +kernel
theorem dX0_dayQuarter_13 : decode cX0_dayQuarter 13 = .ok (.iload_n 1, 1) := by decide +kernel
theorem dX0_dayQuarter_14 : decode cX0_dayQuarter 14 = .ok (.iaload, 1) := by decide +kernel
theorem dX0_dayQuarter_15 : decode cX0_dayQuarter 15 = .ok (.iconst 1, 1) := by decide +kernel
theorem dX0_dayQuarter_16 : decode cX0_dayQuarter 16 = .ok (.isub, 1) := by decide +kernel
theorem dX0_dayQuarter_17 : decode cX0_dayQuarter 17 = .ok (.goto 4, 3) := by decide +kernel
theorem dX0_dayQuarter_20 : decode cX0_dayQuarter 20 = .ok (.iconst (-1), 1) := by decide +kernel
theorem dX0_dayQuarter_21 : decode cX0_dayQuarter 21 = .ok (.ireturn, 1) := by decide +kernel
theorem md_X0_init : yX0_init.cls ≠ "java/lang/invoke/MethodHandle" ∧ yX0_init.cls ≠ "java/lang/invoke/VarHandle" ∧ (parseMethodDescriptor yX0_init.desc).map (fun d => d.parameters.length) = some 2 := by decide +kernel
theorem md_X0_takeSheets : yX0_takeSheets.cls ≠ "java/lang/invoke/MethodHandle" ∧ yX0_takeSheets.cls ≠ "java/lang/invoke/VarHandle" ∧ (parseMethodDescriptor yX0_takeSheets.desc).map (fun d => d.parameters.length) = some 1 := by decide +kernel
theorem md_X0_sharePlace : yX0_sharePlace.cls ≠ "java/lang/invoke/MethodHandle" ∧ yX0_sharePlace.cls ≠ "java/lang/invoke/VarHandle" ∧ (parseMethodDescriptor yX0_sharePlace.desc).map (fun d => d.parameters.length) = some 3 := by decide +kernel
theorem md_X0_layShares : yX0_layShares.cls ≠ "java/lang/invoke/MethodHandle" ∧ yX0_layShares.cls ≠ "java/lang/invoke/VarHandle" ∧ (parseMethodDescriptor yX0_layShares.desc).map (fun d => d.parameters.length) = some 1 := by decide +kernel
theorem md_X0_layAmounts : yX0_layAmounts.cls ≠ "java/lang/invoke/MethodHandle" ∧ yX0_layAmounts.cls ≠ "java/lang/invoke/VarHandle" ∧ (parseMethodDescriptor yX0_layAmounts.desc).map (fun d => d.parameters.length) = some 0 := by decide +kernel
theorem md_X0_addAmount : yX0_addAmount.cls ≠ "java/lang/invoke/MethodHandle" ∧ yX0_addAmount.cls ≠ "java/lang/invoke/VarHandle" ∧ (parseMethodDescriptor yX0_addAmount.desc).map (fun d => d.parameters.length) = some 3 := by decide +kernel
theorem md_X0_optionsThatGive : yX0_optionsThatGive.cls ≠ "java/lang/invoke/MethodHandle" ∧ yX0_optionsThatGive.cls ≠ "java/lang/invoke/VarHandle" ∧ (parseMethodDescriptor yX0_optionsThatGive.desc).map (fun d => d.parameters.length) = some 2 := by decide +kernel
theorem md_X0_fittingOptions : yX0_fittingOptions.cls ≠ "java/lang/invoke/MethodHandle" ∧ yX0_fittingOptions.cls ≠ "java/lang/invoke/VarHandle" ∧ (parseMethodDescriptor yX0_fittingOptions.desc).map (fun d => d.parameters.length) = some 2 := by decide +kernel
theorem md_X0_seekDay : yX0_seekDay.cls ≠ "java/lang/invoke/MethodHandle" ∧ yX0_seekDay.cls ≠ "java/lang/invoke/VarHandle" ∧ (parseMethodDescriptor yX0_seekDay.desc).map (fun d => d.parameters.length) = some 1 := by decide +kernel
theorem md_X0_addDays : yX0_addDays.cls ≠ "java/lang/invoke/MethodHandle" ∧ yX0_addDays.cls ≠ "java/lang/invoke/VarHandle" ∧ (parseMethodDescriptor yX0_addDays.desc).map (fun d => d.parameters.length) = some 4 := by decide +kernel
theorem md_X0_dayQuarter : yX0_dayQuarter.cls ≠ "java/lang/invoke/MethodHandle" ∧ yX0_dayQuarter.cls ≠ "java/lang/invoke/VarHandle" ∧ (parseMethodDescriptor yX0_dayQuarter.desc).map (fun d => d.parameters.length) = some 1 := by decide +kernel
theorem dX1_init_0 : decode cX1_init 0 = .ok (.aload_n 0, 1) := by decide +kernel
theorem dX1_init_1 : decode cX1_init 1 = .ok (.invokespecial 3, 3) := by decide +kernel
theorem dX1_init_4 : decode cX1_init 4 = .ok (.aload_n 0, 1) := by decide +kernel
theorem dX1_init_5 : decode cX1_init 5 = .ok (.bipush 24, 2) := by decide +kernel
theorem dX1_init_7 : decode cX1_init 7 = .ok (.newarray .int, 2) := by decide +kernel
theorem dX1_init_9 : decode cX1_init 9 = .ok (.putfield 9, 3) := by decide +kernel
theorem dX1_init_12 : decode cX1_init 12 = .ok (.aload_n 0, 1) := by decide +kernel
theorem dX1_init_13 : decode cX1_init 13 = .ok (.aload_n 1, 1) := by decide +kernel
theorem dX1_init_14 : decode cX1_init 14 = .ok (.putfield 15, 3) := by decide +kernel
theorem dX1_init_17 : decode cX1_init 17 = .ok (.aload_n 0, 1) := by decide +kernel
theorem dX1_init_18 : decode cX1_init 18 = .ok (.aload_n 2, 1) := by decide +kernel
theorem dX1_init_19 : decode cX1_init 19 = .ok (.putfield 19, 3) := by decide +kernel
theorem dX1_init_22 : decode cX1_init 22 = .ok (.aload_n 0, 1) := by decide +kernel
theorem dX1_init_23 : decode cX1_init 23 = .ok (.aload_n 3, 1) := by decide +kernel
theorem dX1_init_24 : decode cX1_init 24 = .ok (.putfield 23, 3) := by decide +kernel
theorem dX1_init_27 : decode cX1_init 27 = .ok (.return_, 1) := by decide +kernel
theorem dX1_isCalm_0 : decode cX1_isCalm 0 = .ok (.aload_n 0, 1) := by decide +kernel
theorem dX1_isCalm_1 : decode cX1_isCalm 1 = .ok (.getfield 19, 3) := by decide +kernel
theorem dX1_isCalm_4 : decode cX1_isCalm 4 = .ok (.iload_n 1, 1) := by decide +kernel
theorem dX1_isCalm_5 : decode cX1_isCalm 5 = .ok (.invokevirtual 27, 3) := by decide +kernel
theorem dX1_isCalm_8 : decode cX1_isCalm 8 = .ok (.aload_n 0, 1) := by decide +kernel
theorem dX1_isCalm_9 : decode cX1_isCalm 9 = .ok (.getfield 23, 3) := by decide +kernel
theorem dX1_isCalm_12 : decode cX1_isCalm 12 = .ok (.invokevirtual 33, 3) := by decide +kernel
theorem dX1_isCalm_15 : decode cX1_isCalm 15 = .ok (.aload_n 0, 1) := by decide +kernel
theorem dX1_isCalm_16 : decode cX1_isCalm 16 = .ok (.getfield 23, 3) := by decide +kernel
theorem dX1_isCalm_19 : decode cX1_isCalm 19 = .ok (.invokevirtual 38, 3) := by decide +kernel
theorem dX1_isCalm_22 : decode cX1_isCalm 22 = .ok (.ifCond .ne 7, 3) := by decide +kernel
theorem dX1_isCalm_25 : decode cX1_isCalm 25 = .ok (.iconst 1, 1) := by decide +kernel
theorem dX1_isCalm_26 : decode cX1_isCalm 26 = .ok (.goto 4, 3) := by decide +kernel
theorem dX1_isCalm_29 : decode cX1_isCalm 29 = .ok (.iconst 0, 1) := by decide +kernel
theorem dX1_isCalm_30 : decode cX1_isCalm 30 = .ok (.ireturn, 1) := by decide +kernel
theorem dX1_calmSeeds_0 : decode cX1_calmSeeds 0 = .ok (.iconst 0, 1) := by decide +kernel
theorem dX1_calmSeeds_1 : decode cX1_calmSeeds 1 = .ok (.istore_n 2, 1) := by decide +kernel
theorem dX1_calmSeeds_2 : decode cX1_calmSeeds 2 = .ok (.iconst 1, 1) := by decide +kernel
theorem dX1_calmSeeds_3 : decode cX1_calmSeeds 3 = .ok (.istore_n 3, 1) := by decide +kernel
theorem dX1_calmSeeds_4 : decode cX1_calmSeeds 4 = .ok (.iload_n 3, 1) := by decide +kernel
theorem dX1_calmSeeds_5 : decode cX1_calmSeeds 5 = .ok (.iload_n 1, 1) := by decide +kernel
theorem dX1_calmSeeds_6 : decode cX1_calmSeeds 6 = .ok (.if_icmp .gt 20, 3) := by decide +kernel
theorem dX1_calmSeeds_9 : decode cX1_calmSeeds 9 = .ok (.aload_n 0, 1) := by decide +kernel
theorem dX1_calmSeeds_10 : decode cX1_calmSeeds 10 = .ok (.iload_n 3, 1) := by decide +kernel
theorem dX1_calmSeeds_11 : decode cX1_calmSeeds 11 = .ok (.invokevirtual 42, 3) := by decide +kernel
theorem dX1_calmSeeds_14 : decode cX1_calmSeeds 14 = .ok (.ifCond .eq 6, 3) := by decide +kernel
theorem dX1_calmSeeds_17 : decode cX1_calmSeeds 17 = .ok (.iinc 2 1, 3) := by decide +kernel
theorem dX1_calmSeeds_20 : decode cX1_calmSeeds 20 = .ok (.iinc 3 1, 3) := by decide +kernel
theorem dX1_calmSeeds_23 : decode cX1_calmSeeds 23 = .ok (.goto (-19), 3) := by decide +kernel
theorem dX1_calmSeeds_26 : decode cX1_calmSeeds 26 = .ok (.iload_n 2, 1) := by decide +kernel
theorem dX1_calmSeeds_27 : decode cX1_calmSeeds 27 = .ok (.ireturn, 1) := by decide +kernel
theorem dX1_firstBreakingSeed_0 : decode cX1_firstBreakingSeed 0 = .ok (.iconst 1, 1) := by decide +kernel
theorem dX1_firstBreakingSeed_1 : decode cX1_firstBreakingSeed 1 = .ok (.istore_n 2, 1) := by decide +kernel
theorem dX1_firstBreakingSeed_2 : decode cX1_firstBreakingSeed 2 = .ok (.iload_n 2, 1) := by decide +kernel
theorem dX1_firstBreakingSeed_3 : decode cX1_firstBreakingSeed 3 = .ok (.iload_n 1, 1) := by decide +kernel
theorem dX1_firstBreakingSeed_4 : decode cX1_firstBreakingSeed 4 = .ok (.if_icmp .gt 19, 3) := by decide +kernel
theorem dX1_firstBreakingSeed_7 : decode cX1_firstBreakingSeed 7 = .ok (.aload_n 0, 1) := by decide +kernel
theorem dX1_firstBreakingSeed_8 : decode cX1_firstBreakingSeed 8 = .ok (.iload_n 2, 1) := by decide +kernel
theorem dX1_firstBreakingSeed_9 : decode cX1_firstBreakingSeed 9 = .ok (.invokevirtual 42, 3) := by decide +kernel
theorem dX1_firstBreakingSeed_12 : decode cX1_firstBreakingSeed 12 = .ok (.ifCond .ne 5, 3) := by decide +kernel
theorem dX1_firstBreakingSeed_15 : decode cX1_firstBreakingSeed 15 = .ok (.iload_n 2, 1) := by decide +kernel
theorem dX1_firstBreakingSeed_16 : decode cX1_firstBreakingSeed 16 = .ok (.ireturn, 1) := by decide +kernel
theorem dX1_firstBreakingSeed_17 : decode cX1_firstBreakingSeed 17 = .ok (.iinc 2 1, 3) := by decide +kernel
theorem dX1_firstBreakingSeed_20 : decode cX1_firstBreakingSeed 20 = .ok (.goto (-18), 3) := by decide +kernel
theorem dX1_firstBreakingSeed_23 : decode cX1_firstBreakingSeed 23 = .ok (.iconst (-1), 1) := by decide +kernel
theorem dX1_firstBreakingSeed_24 : decode cX1_firstBreakingSeed 24 = .ok (.ireturn, 1) := by decide +kernel
theorem dX1_isSteadyCalm_0 : decode cX1_isSteadyCalm 0 = .ok (.aload_n 0, 1) := by decide +kernel
theorem dX1_isSteadyCalm_1 : decode cX1_isSteadyCalm 1 = .ok (.getfield 19, 3) := by decide +kernel
theorem dX1_isSteadyCalm_4 : decode cX1_isSteadyCalm 4 = .ok (.iload_n 1, 1) := by decide +kernel
theorem dX1_isSteadyCalm_5 : decode cX1_isSteadyCalm 5 = .ok (.bipush 7, 2) := by decide +kernel
theorem dX1_isSteadyCalm_7 : decode cX1_isSteadyCalm 7 = .ok (.idiv, 1) := by decide +kernel
theorem dX1_isSteadyCalm_8 : decode cX1_isSteadyCalm 8 = .ok (.iload_n 1, 1) := by decide +kernel
theorem dX1_isSteadyCalm_9 : decode cX1_isSteadyCalm 9 = .ok (.bipush 7, 2) := by decide +kernel
theorem dX1_isSteadyCalm_11 : decode cX1_isSteadyCalm 11 = .ok (.irem, 1) := by decide +kernel
theorem dX1_isSteadyCalm_12 : decode cX1_isSteadyCalm 12 = .ok (.invokevirtual 46, 3) := by decide +kernel
theorem dX1_isSteadyCalm_15 : decode cX1_isSteadyCalm 15 = .ok (.aload_n 0, 1) := by decide +kernel
theorem dX1_isSteadyCalm_16 : decode cX1_isSteadyCalm 16 = .ok (.getfield 23, 3) := by decide +kernel
theorem dX1_isSteadyCalm_19 : decode cX1_isSteadyCalm 19 = .ok (.invokevirtual 33, 3) := by decide +kernel
theorem dX1_isSteadyCalm_22 : decode cX1_isSteadyCalm 22 = .ok (.aload_n 0, 1) := by decide +kernel
theorem dX1_isSteadyCalm_23 : decode cX1_isSteadyCalm 23 = .ok (.getfield 23, 3) := by decide +kernel
theorem dX1_isSteadyCalm_26 : decode cX1_isSteadyCalm 26 = .ok (.invokevirtual 38, 3) := by decide +kernel
theorem dX1_isSteadyCalm_29 : decode cX1_isSteadyCalm 29 = .ok (.ifCond .ne 7, 3) := by decide +kernel
theorem dX1_isSteadyCalm_32 : decode cX1_isSteadyCalm 32 = .ok (.iconst 1, 1) := by decide +kernel
theorem dX1_isSteadyCalm_33 : decode cX1_isSteadyCalm 33 = .ok (.goto 4, 3) := by decide +kernel
theorem dX1_isSteadyCalm_36 : decode cX1_isSteadyCalm 36 = .ok (.iconst 0, 1) := by decide +kernel
theorem dX1_isSteadyCalm_37 : decode cX1_isSteadyCalm 37 = .ok (.ireturn, 1) := by decide +kernel
theorem dX1_calmSteadyWinds_0 : decode cX1_calmSteadyWinds 0 = .ok (.iconst 0, 1) := by decide +kernel
theorem dX1_calmSteadyWinds_1 : decode cX1_calmSteadyWinds 1 = .ok (.istore_n 1, 1) := by decide +kernel
theorem dX1_calmSteadyWinds_2 : decode cX1_calmSteadyWinds 2 = .ok (.iconst 0, 1) := by decide +kernel
theorem dX1_calmSteadyWinds_3 : decode cX1_calmSteadyWinds 3 = .ok (.istore_n 2, 1) := by decide +kernel
theorem dX1_calmSteadyWinds_4 : decode cX1_calmSteadyWinds 4 = .ok (.iload_n 2, 1) := by decide +kernel
theorem dX1_calmSteadyWinds_5 : decode cX1_calmSteadyWinds 5 = .ok (.bipush 49, 2) := by decide +kernel
theorem dX1_calmSteadyWinds_7 : decode cX1_calmSteadyWinds 7 = .ok (.if_icmp .ge 20, 3) := by decide +kernel
theorem dX1_calmSteadyWinds_10 : decode cX1_calmSteadyWinds 10 = .ok (.aload_n 0, 1) := by decide +kernel
theorem dX1_calmSteadyWinds_11 : decode cX1_calmSteadyWinds 11 = .ok (.iload_n 2, 1) := by decide +kernel
theorem dX1_calmSteadyWinds_12 : decode cX1_calmSteadyWinds 12 = .ok (.invokevirtual 50, 3) := by decide +kernel
theorem dX1_calmSteadyWinds_15 : decode cX1_calmSteadyWinds 15 = .ok (.ifCond .eq 6, 3) := by decide +kernel
theorem dX1_calmSteadyWinds_18 : decode cX1_calmSteadyWinds 18 = .ok (.iinc 1 1, 3) := by decide +kernel
theorem dX1_calmSteadyWinds_21 : decode cX1_calmSteadyWinds 21 = .ok (.iinc 2 1, 3) := by decide +kernel
theorem dX1_calmSteadyWinds_24 : decode cX1_calmSteadyWinds 24 = .ok (.goto (-20), 3) := by decide +kernel
theorem dX1_calmSteadyWinds_27 : decode cX1_calmSteadyWinds 27 = .ok (.iload_n 1, 1) := by decide +kernel
theorem dX1_calmSteadyWinds_28 : decode cX1_calmSteadyWinds 28 = .ok (.ireturn, 1) := by decide +kernel
theorem dX1_calmSteadyWind_0 : decode cX1_calmSteadyWind 0 = .ok (.iconst 0, 1) := by decide +kernel
theorem dX1_calmSteadyWind_1 : decode cX1_calmSteadyWind 1 = .ok (.istore_n 2, 1) := by decide +kernel
theorem dX1_calmSteadyWind_2 : decode cX1_calmSteadyWind 2 = .ok (.iconst 0, 1) := by decide +kernel
theorem dX1_calmSteadyWind_3 : decode cX1_calmSteadyWind 3 = .ok (.istore_n 3, 1) := by decide +kernel
theorem dX1_calmSteadyWind_4 : decode cX1_calmSteadyWind 4 = .ok (.iload_n 3, 1) := by decide +kernel
theorem dX1_calmSteadyWind_5 : decode cX1_calmSteadyWind 5 = .ok (.bipush 49, 2) := by decide +kernel
theorem dX1_calmSteadyWind_7 : decode cX1_calmSteadyWind 7 = .ok (.if_icmp .ge 27, 3) := by decide +kernel
theorem dX1_calmSteadyWind_10 : decode cX1_calmSteadyWind 10 = .ok (.aload_n 0, 1) := by decide +kernel
theorem dX1_calmSteadyWind_11 : decode cX1_calmSteadyWind 11 = .ok (.iload_n 3, 1) := by decide +kernel
theorem dX1_calmSteadyWind_12 : decode cX1_calmSteadyWind 12 = .ok (.invokevirtual 50, 3) := by decide +kernel
theorem dX1_calmSteadyWind_15 : decode cX1_calmSteadyWind 15 = .ok (.ifCond .eq 13, 3) := by decide +kernel
theorem dX1_calmSteadyWind_18 : decode cX1_calmSteadyWind 18 = .ok (.iload_n 2, 1) := by decide +kernel
theorem dX1_calmSteadyWind_19 : decode cX1_calmSteadyWind 19 = .ok (.iload_n 1, 1) := by decide +kernel
theorem dX1_calmSteadyWind_20 : decode cX1_calmSteadyWind 20 = .ok (.if_icmp .ne 5, 3) := by decide +kernel
theorem dX1_calmSteadyWind_23 : decode cX1_calmSteadyWind 23 = .ok (.iload_n 3, 1) := by decide +kernel
theorem dX1_calmSteadyWind_24 : decode cX1_calmSteadyWind 24 = .ok (.ireturn, 1) := by decide +kernel
theorem dX1_calmSteadyWind_25 : decode cX1_calmSteadyWind 25 = .ok (.iinc 2 1, 3) := by decide +kernel
theorem dX1_calmSteadyWind_28 : decode cX1_calmSteadyWind 28 = .ok (.iinc 3 1, 3) := by decide +kernel
theorem dX1_calmSteadyWind_31 : decode cX1_calmSteadyWind 31 = .ok (.goto (-27), 3) := by decide +kernel
theorem dX1_calmSteadyWind_34 : decode cX1_calmSteadyWind 34 = .ok (.iconst (-1), 1) := by decide +kernel
theorem dX1_calmSteadyWind_35 : decode cX1_calmSteadyWind 35 = .ok (.ireturn, 1) := by decide +kernel
theorem dX1_weigh_0 : decode cX1_weigh 0 = .ok (.aload_n 0, 1) := by decide +kernel
theorem dX1_weigh_1 : decode cX1_weigh 1 = .ok (.getfield 9, 3) := by decide +kernel
theorem dX1_weigh_4 : decode cX1_weigh 4 = .ok (.iconst 0, 1) := by decide +kernel
theorem dX1_weigh_5 : decode cX1_weigh 5 = .ok (.invokestatic 53, 3) := by decide +kernel
theorem dX1_weigh_8 : decode cX1_weigh 8 = .ok (.aload_n 0, 1) := by decide +kernel
theorem dX1_weigh_9 : decode cX1_weigh 9 = .ok (.iconst 0, 1) := by decide +kernel
theorem dX1_weigh_10 : decode cX1_weigh 10 = .ok (.putfield 59, 3) := by decide +kernel
theorem dX1_weigh_13 : decode cX1_weigh 13 = .ok (.iconst 1, 1) := by decide +kernel
theorem dX1_weigh_14 : decode cX1_weigh 14 = .ok (.istore_n 3, 1) := by decide +kernel
theorem dX1_weigh_15 : decode cX1_weigh 15 = .ok (.iload_n 3, 1) := by decide +kernel
theorem dX1_weigh_16 : decode cX1_weigh 16 = .ok (.iload_n 2, 1) := by decide +kernel
theorem dX1_weigh_17 : decode cX1_weigh 17 = .ok (.if_icmp .gt 44, 3) := by decide +kernel
theorem dX1_weigh_20 : decode cX1_weigh 20 = .ok (.aload_n 0, 1) := by decide +kernel
theorem dX1_weigh_21 : decode cX1_weigh 21 = .ok (.getfield 19, 3) := by decide +kernel
theorem dX1_weigh_24 : decode cX1_weigh 24 = .ok (.iload_n 3, 1) := by decide +kernel
theorem dX1_weigh_25 : decode cX1_weigh 25 = .ok (.invokevirtual 27, 3) := by decide +kernel
theorem dX1_weigh_28 : decode cX1_weigh 28 = .ok (.aload_n 0, 1) := by decide +kernel
theorem dX1_weigh_29 : decode cX1_weigh 29 = .ok (.getfield 23, 3) := by decide +kernel
theorem dX1_weigh_32 : decode cX1_weigh 32 = .ok (.invokevirtual 33, 3) := by decide +kernel
theorem dX1_weigh_35 : decode cX1_weigh 35 = .ok (.aload_n 0, 1) := by decide +kernel
theorem dX1_weigh_36 : decode cX1_weigh 36 = .ok (.getfield 23, 3) := by decide +kernel
theorem dX1_weigh_39 : decode cX1_weigh 39 = .ok (.iload_n 1, 1) := by decide +kernel
theorem dX1_weigh_40 : decode cX1_weigh 40 = .ok (.invokevirtual 63, 3) := by decide +kernel
theorem dX1_weigh_43 : decode cX1_weigh 43 = .ok (.aload_n 0, 1) := by decide +kernel
theorem dX1_weigh_44 : decode cX1_weigh 44 = .ok (.aload_n 0, 1) := by decide +kernel
theorem dX1_weigh_45 : decode cX1_weigh 45 = .ok (.getfield 23, 3) := by decide +kernel
theorem dX1_weigh_48 : decode cX1_weigh 48 = .ok (.iload_n 1, 1) := by decide +kernel
theorem dX1_weigh_49 : decode cX1_weigh 49 = .ok (.invokevirtual 66, 3) := by decide +kernel
theorem dX1_weigh_52 : decode cX1_weigh 52 = .ok (.invokevirtual 70, 3) := by decide +kernel
theorem dX1_weigh_55 : decode cX1_weigh 55 = .ok (.iinc 3 1, 3) := by decide +kernel
theorem dX1_weigh_58 : decode cX1_weigh 58 = .ok (.goto (-43), 3) := by decide +kernel
theorem dX1_weigh_61 : decode cX1_weigh 61 = .ok (.aload_n 0, 1) := by decide +kernel
theorem dX1_weigh_62 : decode cX1_weigh 62 = .ok (.aload_n 0, 1) := by decide +kernel
theorem dX1_weigh_63 : decode cX1_weigh 63 = .ok (.getfield 15, 3) := by decide +kernel
theorem dX1_weigh_66 : decode cX1_weigh 66 = .ok (.iload_n 1, 1) := by decide +kernel
theorem dX1_weigh_67 : decode cX1_weigh 67 = .ok (.invokevirtual 73, 3) := by decide +kernel
theorem dX1_weigh_70 : decode cX1_weigh 70 = .ok (.ifCond .eq 15, 3) := by decide +kernel
theorem dX1_weigh_73 : decode cX1_weigh 73 = .ok (.aload_n 0, 1) := by decide +kernel
theorem dX1_weigh_74 : decode cX1_weigh 74 = .ok (.getfield 15, 3) := by decide +kernel
theorem dX1_weigh_77 : decode cX1_weigh 77 = .ok (.getfield 78, 3) := by decide +kernel
theorem dX1_weigh_80 : decode cX1_weigh 80 = .ok (.iload_n 1, 1) := by decide +kernel
theorem dX1_weigh_81 : decode cX1_weigh 81 = .ok (.iaload, 1) := by decide +kernel
theorem dX1_weigh_82 : decode cX1_weigh 82 = .ok (.goto 4, 3) := by decide +kernel
theorem dX1_weigh_85 : decode cX1_weigh 85 = .ok (.iconst 0, 1) := by decide +kernel
theorem dX1_weigh_86 : decode cX1_weigh 86 = .ok (.putfield 81, 3) := by decide +kernel
theorem dX1_weigh_89 : decode cX1_weigh 89 = .ok (.aload_n 0, 1) := by decide +kernel
theorem dX1_weigh_90 : decode cX1_weigh 90 = .ok (.getfield 81, 3) := by decide +kernel
theorem dX1_weigh_93 : decode cX1_weigh 93 = .ok (.iconst 1, 1) := by decide +kernel
theorem dX1_weigh_94 : decode cX1_weigh 94 = .ok (.iadd, 1) := by decide +kernel
theorem dX1_weigh_95 : decode cX1_weigh 95 = .ok (.istore_n 3, 1) := by decide +kernel
theorem dX1_weigh_96 : decode cX1_weigh 96 = .ok (.iload_n 3, 1) := by decide +kernel
theorem dX1_weigh_97 : decode cX1_weigh 97 = .ok (.bipush 24, 2) := by decide +kernel
theorem dX1_weigh_99 : decode cX1_weigh 99 = .ok (.if_icmp .ge 32, 3) := by decide +kernel
theorem dX1_weigh_102 : decode cX1_weigh 102 = .ok (.aload_n 0, 1) := by decide +kernel
theorem dX1_weigh_103 : decode cX1_weigh 103 = .ok (.getfield 9, 3) := by decide +kernel
theorem dX1_weigh_106 : decode cX1_weigh 106 = .ok (.iload_n 3, 1) := by decide +kernel
theorem dX1_weigh_107 : decode cX1_weigh 107 = .ok (.iaload, 1) := by decide +kernel
theorem dX1_weigh_108 : decode cX1_weigh 108 = .ok (.aload_n 0, 1) := by decide +kernel
theorem dX1_weigh_109 : decode cX1_weigh 109 = .ok (.getfield 9, 3) := by decide +kernel
theorem dX1_weigh_112 : decode cX1_weigh 112 = .ok (.aload_n 0, 1) := by decide +kernel
theorem dX1_weigh_113 : decode cX1_weigh 113 = .ok (.getfield 81, 3) := by decide +kernel
theorem dX1_weigh_116 : decode cX1_weigh 116 = .ok (.iaload, 1) := by decide +kernel
theorem dX1_weigh_117 : decode cX1_weigh 117 = .ok (.if_icmp .le 8, 3) := by decide +kernel
theorem dX1_weigh_120 : decode cX1_weigh 120 = .ok (.aload_n 0, 1) := by decide +kernel
theorem dX1_weigh_121 : decode cX1_weigh 121 = .ok (.iload_n 3, 1) := by decide +kernel
theorem dX1_weigh_122 : decode cX1_weigh 122 = .ok (.putfield 81, 3) := by decide +kernel
theorem dX1_weigh_125 : decode cX1_weigh 125 = .ok (.iinc 3 1, 3) := by decide +kernel
theorem dX1_weigh_128 : decode cX1_weigh 128 = .ok (.goto (-32), 3) := by decide +kernel
theorem dX1_weigh_131 : decode cX1_weigh 131 = .ok (.aload_n 0, 1) := by decide +kernel
theorem dX1_weigh_132 : decode cX1_weigh 132 = .ok (.aload_n 0, 1) := by decide +kernel
theorem dX1_weigh_133 : decode cX1_weigh 133 = .ok (.getfield 9, 3) := by decide +kernel
theorem dX1_weigh_136 : decode cX1_weigh 136 = .ok (.aload_n 0, 1) := by decide +kernel
theorem dX1_weigh_137 : decode cX1_weigh 137 = .ok (.getfield 81, 3) := by decide +kernel
theorem dX1_weigh_140 : decode cX1_weigh 140 = .ok (.iaload, 1) := by decide +kernel
theorem dX1_weigh_141 : decode cX1_weigh 141 = .ok (.putfield 84, 3) := by decide +kernel
theorem dX1_weigh_144 : decode cX1_weigh 144 = .ok (.return_, 1) := by decide +kernel
theorem dX1_addGoodDay_0 : decode cX1_addGoodDay 0 = .ok (.iload_n 1, 1) := by decide +kernel
theorem dX1_addGoodDay_1 : decode cX1_addGoodDay 1 = .ok (.ifCond .eq 13, 3) := by decide +kernel
theorem dX1_addGoodDay_4 : decode cX1_addGoodDay 4 = .ok (.aload_n 0, 1) := by decide +kernel
theorem dX1_addGoodDay_5 : decode cX1_addGoodDay 5 = .ok (.dup, 1) := by decide +kernel
theorem dX1_addGoodDay_6 : decode cX1_addGoodDay 6 = .ok (.getfield 59, 3) := by decide +kernel
theorem dX1_addGoodDay_9 : decode cX1_addGoodDay 9 = .ok (.iconst 1, 1) := by decide +kernel
theorem dX1_addGoodDay_10 : decode cX1_addGoodDay 10 = .ok (.iadd, 1) := by decide +kernel
theorem dX1_addGoodDay_11 : decode cX1_addGoodDay 11 = .ok (.putfield 59, 3) := by decide +kernel
theorem dX1_addGoodDay_14 : decode cX1_addGoodDay 14 = .ok (.iconst 0, 1) := by decide +kernel
theorem dX1_addGoodDay_15 : decode cX1_addGoodDay 15 = .ok (.istore_n 2, 1) := by decide +kernel
theorem dX1_addGoodDay_16 : decode cX1_addGoodDay 16 = .ok (.iload_n 2, 1) := by decide +kernel
theorem dX1_addGoodDay_17 : decode cX1_addGoodDay 17 = .ok (.bipush 24, 2) := by decide +kernel
theorem dX1_addGoodDay_19 : decode cX1_addGoodDay 19 = .ok (.if_icmp .ge 23, 3) := by decide +kernel
theorem dX1_addGoodDay_22 : decode cX1_addGoodDay 22 = .ok (.aload_n 0, 1) := by decide +kernel
theorem dX1_addGoodDay_23 : decode cX1_addGoodDay 23 = .ok (.getfield 9, 3) := by decide +kernel
theorem dX1_addGoodDay_26 : decode cX1_addGoodDay 26 = .ok (.iload_n 2, 1) := by decide +kernel
theorem dX1_addGoodDay_27 : decode cX1_addGoodDay 27 = .ok (.dup2, 1) := by decide +kernel
theorem dX1_addGoodDay_28 : decode cX1_addGoodDay 28 = .ok (.iaload, 1) := by decide +kernel
theorem dX1_addGoodDay_29 : decode cX1_addGoodDay 29 = .ok (.iload_n 1, 1) := by decide +kernel
theorem dX1_addGoodDay_30 : decode cX1_addGoodDay 30 = .ok (.iload_n 2, 1) := by decide +kernel
theorem dX1_addGoodDay_31 : decode cX1_addGoodDay 31 = .ok (.ishr, 1) := by decide +kernel
theorem dX1_addGoodDay_32 : decode cX1_addGoodDay 32 = .ok (.iconst 1, 1) := by decide +kernel
theorem dX1_addGoodDay_33 : decode cX1_addGoodDay 33 = .ok (.iand, 1) := by decide +kernel
theorem dX1_addGoodDay_34 : decode cX1_addGoodDay 34 = .ok (.iadd, 1) := by decide +kernel
theorem dX1_addGoodDay_35 : decode cX1_addGoodDay 35 = .ok (.iastore, 1) := by decide +kernel
theorem dX1_addGoodDay_36 : decode cX1_addGoodDay 36 = .ok (.iinc 2 1, 3) := by decide +kernel
theorem dX1_addGoodDay_39 : decode cX1_addGoodDay 39 = .ok (.goto (-23), 3) := by decide +kernel
theorem dX1_addGoodDay_42 : decode cX1_addGoodDay 42 = .ok (.return_, 1) := by decide +kernel
theorem md_X1_init : yX1_init.cls ≠ "java/lang/invoke/MethodHandle" ∧ yX1_init.cls ≠ "java/lang/invoke/VarHandle" ∧ (parseMethodDescriptor yX1_init.desc).map (fun d => d.parameters.length) = some 3 := by decide +kernel
theorem md_X1_isCalm : yX1_isCalm.cls ≠ "java/lang/invoke/MethodHandle" ∧ yX1_isCalm.cls ≠ "java/lang/invoke/VarHandle" ∧ (parseMethodDescriptor yX1_isCalm.desc).map (fun d => d.parameters.length) = some 1 := by decide +kernel
theorem md_X1_calmSeeds : yX1_calmSeeds.cls ≠ "java/lang/invoke/MethodHandle" ∧ yX1_calmSeeds.cls ≠ "java/lang/invoke/VarHandle" ∧ (parseMethodDescriptor yX1_calmSeeds.desc).map (fun d => d.parameters.length) = some 1 := by decide +kernel
theorem md_X1_firstBreakingSeed : yX1_firstBreakingSeed.cls ≠ "java/lang/invoke/MethodHandle" ∧ yX1_firstBreakingSeed.cls ≠ "java/lang/invoke/VarHandle" ∧ (parseMethodDescriptor yX1_firstBreakingSeed.desc).map (fun d => d.parameters.length) = some 1 := by decide +kernel
theorem md_X1_isSteadyCalm : yX1_isSteadyCalm.cls ≠ "java/lang/invoke/MethodHandle" ∧ yX1_isSteadyCalm.cls ≠ "java/lang/invoke/VarHandle" ∧ (parseMethodDescriptor yX1_isSteadyCalm.desc).map (fun d => d.parameters.length) = some 1 := by decide +kernel
theorem md_X1_calmSteadyWinds : yX1_calmSteadyWinds.cls ≠ "java/lang/invoke/MethodHandle" ∧ yX1_calmSteadyWinds.cls ≠ "java/lang/invoke/VarHandle" ∧ (parseMethodDescriptor yX1_calmSteadyWinds.desc).map (fun d => d.parameters.length) = some 0 := by decide +kernel
theorem md_X1_calmSteadyWind : yX1_calmSteadyWind.cls ≠ "java/lang/invoke/MethodHandle" ∧ yX1_calmSteadyWind.cls ≠ "java/lang/invoke/VarHandle" ∧ (parseMethodDescriptor yX1_calmSteadyWind.desc).map (fun d => d.parameters.length) = some 1 := by decide +kernel
theorem md_X1_weigh : yX1_weigh.cls ≠ "java/lang/invoke/MethodHandle" ∧ yX1_weigh.cls ≠ "java/lang/invoke/VarHandle" ∧ (parseMethodDescriptor yX1_weigh.desc).map (fun d => d.parameters.length) = some 2 := by decide +kernel
theorem md_X1_addGoodDay : yX1_addGoodDay.cls ≠ "java/lang/invoke/MethodHandle" ∧ yX1_addGoodDay.cls ≠ "java/lang/invoke/VarHandle" ∧ (parseMethodDescriptor yX1_addGoodDay.desc).map (fun d => d.parameters.length) = some 1 := by decide +kernel
theorem dX5_init_0 : decode cX5_init 0 = .ok (.aload_n 0, 1) := by decide +kernel
theorem dX5_init_1 : decode cX5_init 1 = .ok (.invokespecial 3, 3) := by decide +kernel
theorem dX5_init_4 : decode cX5_init 4 = .ok (.aload_n 0, 1) := by decide +kernel
theorem dX5_init_5 : decode cX5_init 5 = .ok (.new 9, 3) := by decide +kernel
theorem dX5_init_8 : decode cX5_init 8 = .ok (.dup, 1) := by decide +kernel
theorem dX5_init_9 : decode cX5_init 9 = .ok (.invokespecial 11, 3) := by decide +kernel
theorem dX5_init_12 : decode cX5_init 12 = .ok (.putfield 12, 3) := by decide +kernel
theorem dX5_init_15 : decode cX5_init 15 = .ok (.aload_n 0, 1) := by decide +kernel
theorem dX5_init_16 : decode cX5_init 16 = .ok (.iconst 0, 1) := by decide +kernel
theorem dX5_init_17 : decode cX5_init 17 = .ok (.putfield 18, 3) := by decide +kernel
theorem dX5_init_20 : decode cX5_init 20 = .ok (.aload_n 0, 1) := by decide +kernel
theorem dX5_init_21 : decode cX5_init 21 = .ok (.iconst (-1), 1) := by decide +kernel
theorem dX5_init_22 : decode cX5_init 22 = .ok (.putfield 22, 3) := by decide +kernel
theorem dX5_init_25 : decode cX5_init 25 = .ok (.aload_n 0, 1) := by decide +kernel
theorem dX5_init_26 : decode cX5_init 26 = .ok (.iconst 0, 1) := by decide +kernel
theorem dX5_init_27 : decode cX5_init 27 = .ok (.newarray .byte, 2) := by decide +kernel
theorem dX5_init_29 : decode cX5_init 29 = .ok (.putfield 25, 3) := by decide +kernel
theorem dX5_init_32 : decode cX5_init 32 = .ok (.return_, 1) := by decide +kernel
theorem dX5_readText_0 : decode cX5_readText 0 = .ok (.aload_n 0, 1) := by decide +kernel
theorem dX5_readText_1 : decode cX5_readText 1 = .ok (.aload_n 1, 1) := by decide +kernel
theorem dX5_readText_2 : decode cX5_readText 2 = .ok (.putfield 25, 3) := by decide +kernel
theorem dX5_readText_5 : decode cX5_readText 5 = .ok (.aload_n 0, 1) := by decide +kernel
theorem dX5_readText_6 : decode cX5_readText 6 = .ok (.iload_n 2, 1) := by decide +kernel
theorem dX5_readText_7 : decode cX5_readText 7 = .ok (.aload_n 1, 1) := by decide +kernel
theorem dX5_readText_8 : decode cX5_readText 8 = .ok (.arraylength, 1) := by decide +kernel
theorem dX5_readText_9 : decode cX5_readText 9 = .ok (.invokestatic 29, 3) := by decide +kernel
theorem dX5_readText_12 : decode cX5_readText 12 = .ok (.putfield 35, 3) := by decide +kernel
theorem dX5_readText_15 : decode cX5_readText 15 = .ok (.aload_n 0, 1) := by decide +kernel
theorem dX5_readText_16 : decode cX5_readText 16 = .ok (.iconst 0, 1) := by decide +kernel
theorem dX5_readText_17 : decode cX5_readText 17 = .ok (.putfield 38, 3) := by decide +kernel
theorem dX5_readText_20 : decode cX5_readText 20 = .ok (.aload_n 0, 1) := by decide +kernel
theorem dX5_readText_21 : decode cX5_readText 21 = .ok (.iconst 0, 1) := by decide +kernel
theorem dX5_readText_22 : decode cX5_readText 22 = .ok (.putfield 18, 3) := by decide +kernel
theorem dX5_readText_25 : decode cX5_readText 25 = .ok (.aload_n 0, 1) := by decide +kernel
theorem dX5_readText_26 : decode cX5_readText 26 = .ok (.iconst (-1), 1) := by decide +kernel
theorem dX5_readText_27 : decode cX5_readText 27 = .ok (.putfield 22, 3) := by decide +kernel
theorem dX5_readText_30 : decode cX5_readText 30 = .ok (.aload_n 0, 1) := by decide +kernel
theorem dX5_readText_31 : decode cX5_readText 31 = .ok (.getfield 12, 3) := by decide +kernel
theorem dX5_readText_34 : decode cX5_readText 34 = .ok (.invokevirtual 41, 3) := by decide +kernel
theorem dX5_readText_37 : decode cX5_readText 37 = .ok (.aload_n 0, 1) := by decide +kernel
theorem dX5_readText_38 : decode cX5_readText 38 = .ok (.invokevirtual 44, 3) := by decide +kernel
theorem dX5_readText_41 : decode cX5_readText 41 = .ok (.iconst 0, 1) := by decide +kernel
theorem dX5_readText_42 : decode cX5_readText 42 = .ok (.istore_n 3, 1) := by decide +kernel
theorem dX5_readText_43 : decode cX5_readText 43 = .ok (.iload_n 3, 1) := by decide +kernel
theorem dX5_readText_44 : decode cX5_readText 44 = .ok (.sipush 900, 3) := by decide +kernel
theorem dX5_readText_47 : decode cX5_readText 47 = .ok (.if_icmp .gt 27, 3) := by decide +kernel
theorem dX5_readText_50 : decode cX5_readText 50 = .ok (.aload_n 0, 1) := by decide +kernel
theorem dX5_readText_51 : decode cX5_readText 51 = .ok (.getfield 47, 3) := by decide +kernel
theorem dX5_readText_54 : decode cX5_readText 54 = .ok (.ifCond .eq 20, 3) := by decide +kernel
theorem dX5_readText_57 : decode cX5_readText 57 = .ok (.aload_n 0, 1) := by decide +kernel
theorem dX5_readText_58 : decode cX5_readText 58 = .ok (.getfield 18, 3) := by decide +kernel
theorem dX5_readText_61 : decode cX5_readText 61 = .ok (.ifCond .ne 13, 3) := by decide +kernel
theorem dX5_readText_64 : decode cX5_readText 64 = .ok (.aload_n 0, 1) := by decide +kernel
theorem dX5_readText_65 : decode cX5_readText 65 = .ok (.invokevirtual 50, 3) := by decide +kernel
theorem dX5_readText_68 : decode cX5_readText 68 = .ok (.iinc 3 1, 3) := by decide +kernel
theorem dX5_readText_71 : decode cX5_readText 71 = .ok (.goto (-28), 3) := by decide +kernel
theorem dX5_readText_74 : decode cX5_readText 74 = .ok (.return_, 1) := by decide +kernel
theorem dX5_readLine_0 : decode cX5_readLine 0 = .ok (.aload_n 0, 1) := by decide +kernel
theorem dX5_readLine_1 : decode cX5_readLine 1 = .ok (.ldc 53, 2) := by decide +kernel
theorem dX5_readLine_3 : decode cX5_readLine 3 = .ok (.invokevirtual 55, 3) := by decide +kernel
theorem dX5_readLine_6 : decode cX5_readLine 6 = .ok (.ifCond .eq 10, 3) := by decide +kernel
theorem dX5_readLine_9 : decode cX5_readLine 9 = .ok (.aload_n 0, 1) := by decide +kernel
theorem dX5_readLine_10 : decode cX5_readLine 10 = .ok (.invokevirtual 59, 3) := by decide +kernel
theorem dX5_readLine_13 : decode cX5_readLine 13 = .ok (.goto 102, 3) := by decide +kernel
theorem dX5_readLine_16 : decode cX5_readLine 16 = .ok (.aload_n 0, 1) := by decide +kernel
theorem dX5_readLine_17 : decode cX5_readLine 17 = .ok (.ldc 62, 2) := by decide +kernel
theorem dX5_readLine_19 : decode cX5_readLine 19 = .ok (.invokevirtual 55, 3) := by decide +kernel
theorem dX5_readLine_22 : decode cX5_readLine 22 = .ok (.ifCond .eq 10, 3) := by decide +kernel
theorem dX5_readLine_25 : decode cX5_readLine 25 = .ok (.aload_n 0, 1) := by decide +kernel
theorem dX5_readLine_26 : decode cX5_readLine 26 = .ok (.invokevirtual 64, 3) := by decide +kernel
theorem dX5_readLine_29 : decode cX5_readLine 29 = .ok (.goto 86, 3) := by decide +kernel
theorem dX5_readLine_32 : decode cX5_readLine 32 = .ok (.aload_n 0, 1) := by decide +kernel
theorem dX5_readLine_33 : decode cX5_readLine 33 = .ok (.ldc 67, 2) := by decide +kernel
theorem dX5_readLine_35 : decode cX5_readLine 35 = .ok (.invokevirtual 55, 3) := by decide +kernel
theorem dX5_readLine_38 : decode cX5_readLine 38 = .ok (.ifCond .eq 20, 3) := by decide +kernel
theorem dX5_readLine_41 : decode cX5_readLine 41 = .ok (.aload_n 0, 1) := by decide +kernel
theorem dX5_readLine_42 : decode cX5_readLine 42 = .ok (.getfield 12, 3) := by decide +kernel
theorem dX5_readLine_45 : decode cX5_readLine 45 = .ok (.aload_n 0, 1) := by decide +kernel
theorem dX5_readLine_46 : decode cX5_readLine 46 = .ok (.iconst 0, 1) := by decide +kernel
theorem dX5_readLine_47 : decode cX5_readLine 47 = .ok (.bipush 20, 2) := by decide +kernel
theorem dX5_readLine_49 : decode cX5_readLine 49 = .ok (.invokevirtual 69, 3) := by decide +kernel
theorem dX5_readLine_52 : decode cX5_readLine 52 = .ok (.putfield 72, 3) := by decide +kernel
theorem dX5_readLine_55 : decode cX5_readLine 55 = .ok (.goto 60, 3) := by decide +kernel
theorem dX5_readLine_58 : decode cX5_readLine 58 = .ok (.aload_n 0, 1) := by decide +kernel
theorem dX5_readLine_59 : decode cX5_readLine 59 = .ok (.ldc 74, 2) := by decide +kernel
theorem dX5_readLine_61 : decode cX5_readLine 61 = .ok (.invokevirtual 55, 3) := by decide +kernel
theorem dX5_readLine_64 : decode cX5_readLine 64 = .ok (.ifCond .eq 20, 3) := by decide +kernel
theorem dX5_readLine_67 : decode cX5_readLine 67 = .ok (.aload_n 0, 1) := by decide +kernel
theorem dX5_readLine_68 : decode cX5_readLine 68 = .ok (.getfield 12, 3) := by decide +kernel
theorem dX5_readLine_71 : decode cX5_readLine 71 = .ok (.aload_n 0, 1) := by decide +kernel
theorem dX5_readLine_72 : decode cX5_readLine 72 = .ok (.iconst 1, 1) := by decide +kernel
theorem dX5_readLine_73 : decode cX5_readLine 73 = .ok (.bipush 9, 2) := by decide +kernel
theorem dX5_readLine_75 : decode cX5_readLine 75 = .ok (.invokevirtual 69, 3) := by decide +kernel
theorem dX5_readLine_78 : decode cX5_readLine 78 = .ok (.putfield 76, 3) := by decide +kernel
theorem dX5_readLine_81 : decode cX5_readLine 81 = .ok (.goto 34, 3) := by decide +kernel
theorem dX5_readLine_84 : decode cX5_readLine 84 = .ok (.aload_n 0, 1) := by decide +kernel
theorem dX5_readLine_85 : decode cX5_readLine 85 = .ok (.ldc 78, 2) := by decide +kernel
theorem dX5_readLine_87 : decode cX5_readLine 87 = .ok (.invokevirtual 55, 3) := by decide +kernel
theorem dX5_readLine_90 : decode cX5_readLine 90 = .ok (.ifCond .eq 20, 3) := by decide +kernel
theorem dX5_readLine_93 : decode cX5_readLine 93 = .ok (.aload_n 0, 1) := by decide +kernel
theorem dX5_readLine_94 : decode cX5_readLine 94 = .ok (.getfield 12, 3) := by decide +kernel
theorem dX5_readLine_97 : decode cX5_readLine 97 = .ok (.aload_n 0, 1) := by decide +kernel
theorem dX5_readLine_98 : decode cX5_readLine 98 = .ok (.iconst 0, 1) := by decide +kernel
theorem dX5_readLine_99 : decode cX5_readLine 99 = .ok (.bipush 99, 2) := by decide +kernel
theorem dX5_readLine_101 : decode cX5_readLine 101 = .ok (.invokevirtual 69, 3) := by decide +kernel
theorem dX5_readLine_104 : decode cX5_readLine 104 = .ok (.putfield 80, 3) := by decide +kernel
theorem dX5_readLine_107 : decode cX5_readLine 107 = .ok (.goto 8, 3) := by decide +kernel
theorem dX5_readLine_110 : decode cX5_readLine 110 = .ok (.aload_n 0, 1) := by decide +kernel
theorem dX5_readLine_111 : decode cX5_readLine 111 = .ok (.iconst 2, 1) := by decide +kernel
theorem dX5_readLine_112 : decode cX5_readLine 112 = .ok (.invokevirtual 82, 3) := by decide +kernel
theorem dX5_readLine_115 : decode cX5_readLine 115 = .ok (.aload_n 0, 1) := by decide +kernel
theorem dX5_readLine_116 : decode cX5_readLine 116 = .ok (.getfield 47, 3) := by decide +kernel
theorem dX5_readLine_119 : decode cX5_readLine 119 = .ok (.iconst 3, 1) := by decide +kernel
theorem dX5_readLine_120 : decode cX5_readLine 120 = .ok (.if_icmp .ne 23, 3) := by decide +kernel
theorem dX5_readLine_123 : decode cX5_readLine 123 = .ok (.aload_n 0, 1) := by decide +kernel
theorem dX5_readLine_124 : decode cX5_readLine 124 = .ok (.getfield 12, 3) := by decide +kernel
theorem dX5_readLine_127 : decode cX5_readLine 127 = .ok (.dup, 1) := by decide +kernel
theorem dX5_readLine_128 : decode cX5_readLine 128 = .ok (.getfield 86, 3) := by decide +kernel
theorem dX5_readLine_131 : decode cX5_readLine 131 = .ok (.iconst 1, 1) := by decide +kernel
theorem dX5_readLine_132 : decode cX5_readLine 132 = .ok (.iadd, 1) := by decide +kernel
theorem dX5_readLine_133 : decode cX5_readLine 133 = .ok (.putfield 86, 3) := by decide +kernel
theorem dX5_readLine_136 : decode cX5_readLine 136 = .ok (.aload_n 0, 1) := by decide +kernel
theorem dX5_readLine_137 : decode cX5_readLine 137 = .ok (.invokevirtual 44, 3) := by decide +kernel
theorem dX5_readLine_140 : decode cX5_readLine 140 = .ok (.goto 8, 3) := by decide +kernel
theorem dX5_readLine_143 : decode cX5_readLine 143 = .ok (.aload_n 0, 1) := by decide +kernel
theorem dX5_readLine_144 : decode cX5_readLine 144 = .ok (.iconst 2, 1) := by decide +kernel
theorem dX5_readLine_145 : decode cX5_readLine 145 = .ok (.invokevirtual 82, 3) := by decide +kernel
theorem dX5_readLine_148 : decode cX5_readLine 148 = .ok (.return_, 1) := by decide +kernel
theorem dX5_readChimney_0 : decode cX5_readChimney 0 = .ok (.aload_n 0, 1) := by decide +kernel
theorem dX5_readChimney_1 : decode cX5_readChimney 1 = .ok (.getfield 12, 3) := by decide +kernel
theorem dX5_readChimney_4 : decode cX5_readChimney 4 = .ok (.getfield 89, 3) := by decide +kernel
theorem dX5_readChimney_7 : decode cX5_readChimney 7 = .ok (.bipush 10, 2) := by decide +kernel
theorem dX5_readChimney_9 : decode cX5_readChimney 9 = .ok (.if_icmp .ne 9, 3) := by decide +kernel
theorem dX5_readChimney_12 : decode cX5_readChimney 12 = .ok (.aload_n 0, 1) := by decide +kernel
theorem dX5_readChimney_13 : decode cX5_readChimney 13 = .ok (.iconst 4, 1) := by decide +kernel
theorem dX5_readChimney_14 : decode cX5_readChimney 14 = .ok (.invokevirtual 82, 3) := by decide +kernel
theorem dX5_readChimney_17 : decode cX5_readChimney 17 = .ok (.return_, 1) := by decide +kernel
theorem dX5_readChimney_18 : decode cX5_readChimney 18 = .ok (.aload_n 0, 1) := by decide +kernel
theorem dX5_readChimney_19 : decode cX5_readChimney 19 = .ok (.iconst 0, 1) := by decide +kernel
theorem dX5_readChimney_20 : decode cX5_readChimney 20 = .ok (.bipush 39, 2) := by decide +kernel
theorem dX5_readChimney_22 : decode cX5_readChimney 22 = .ok (.invokevirtual 92, 3) := by decide +kernel
theorem dX5_readChimney_25 : decode cX5_readChimney 25 = .ok (.istore_n 1, 1) := by decide +kernel
theorem dX5_readChimney_26 : decode cX5_readChimney 26 = .ok (.aload_n 0, 1) := by decide +kernel
theorem dX5_readChimney_27 : decode cX5_readChimney 27 = .ok (.iconst 0, 1) := by decide +kernel
theorem dX5_readChimney_28 : decode cX5_readChimney 28 = .ok (.bipush 12, 2) := by decide +kernel
theorem dX5_readChimney_30 : decode cX5_readChimney 30 = .ok (.invokevirtual 92, 3) := by decide +kernel
theorem dX5_readChimney_33 : decode cX5_readChimney 33 = .ok (.istore_n 2, 1) := by decide +kernel
theorem dX5_readChimney_34 : decode cX5_readChimney 34 = .ok (.aload_n 0, 1) := by decide +kernel
theorem dX5_readChimney_35 : decode cX5_readChimney 35 = .ok (.getfield 12, 3) := by decide +kernel
theorem dX5_readChimney_38 : decode cX5_readChimney 38 = .ok (.iload_n 1, 1) := by decide +kernel
theorem dX5_readChimney_39 : decode cX5_readChimney 39 = .ok (.iload_n 2, 1) := by decide +kernel
theorem dX5_readChimney_40 : decode cX5_readChimney 40 = .ok (.invokevirtual 95, 3) := by decide +kernel
theorem dX5_readChimney_43 : decode cX5_readChimney 43 = .ok (.aload_n 0, 1) := by decide +kernel
theorem dX5_readChimney_44 : decode cX5_readChimney 44 = .ok (.getfield 12, 3) := by decide +kernel
theorem dX5_readChimney_47 : decode cX5_readChimney 47 = .ok (.aload_n 0, 1) := by decide +kernel
theorem dX5_readChimney_48 : decode cX5_readChimney 48 = .ok (.iconst 1, 1) := by decide +kernel
theorem dX5_readChimney_49 : decode cX5_readChimney 49 = .ok (.bipush 9, 2) := by decide +kernel
theorem dX5_readChimney_51 : decode cX5_readChimney 51 = .ok (.invokevirtual 92, 3) := by decide +kernel
theorem dX5_readChimney_54 : decode cX5_readChimney 54 = .ok (.invokevirtual 99, 3) := by decide +kernel
theorem dX5_readChimney_57 : decode cX5_readChimney 57 = .ok (.aload_n 0, 1) := by decide +kernel
theorem dX5_readChimney_58 : decode cX5_readChimney 58 = .ok (.invokevirtual 44, 3) := by decide +kernel
theorem dX5_readChimney_61 : decode cX5_readChimney 61 = .ok (.iconst 1, 1) := by decide +kernel
theorem dX5_readChimney_62 : decode cX5_readChimney 62 = .ok (.istore_n 3, 1) := by decide +kernel
theorem dX5_readChimney_63 : decode cX5_readChimney 63 = .ok (.iload_n 3, 1) := by decide +kernel
theorem dX5_readChimney_64 : decode cX5_readChimney 64 = .ok (.bipush 6, 2) := by decide +kernel
theorem dX5_readChimney_66 : decode cX5_readChimney 66 = .ok (.if_icmp .gt 29, 3) := by decide +kernel
theorem dX5_readChimney_69 : decode cX5_readChimney 69 = .ok (.aload_n 0, 1) := by decide +kernel
theorem dX5_readChimney_70 : decode cX5_readChimney 70 = .ok (.getfield 47, 3) := by decide +kernel
theorem dX5_readChimney_73 : decode cX5_readChimney 73 = .ok (.iconst 2, 1) := by decide +kernel
theorem dX5_readChimney_74 : decode cX5_readChimney 74 = .ok (.if_icmp .ne 21, 3) := by decide +kernel
theorem dX5_readChimney_77 : decode cX5_readChimney 77 = .ok (.aload_n 0, 1) := by decide +kernel
theorem dX5_readChimney_78 : decode cX5_readChimney 78 = .ok (.getfield 18, 3) := by decide +kernel
theorem dX5_readChimney_81 : decode cX5_readChimney 81 = .ok (.ifCond .ne 14, 3) := by decide +kernel
theorem dX5_readChimney_84 : decode cX5_readChimney 84 = .ok (.aload_n 0, 1) := by decide +kernel
theorem dX5_readChimney_85 : decode cX5_readChimney 85 = .ok (.iload_n 3, 1) := by decide +kernel
theorem dX5_readChimney_86 : decode cX5_readChimney 86 = .ok (.invokevirtual 102, 3) := by decide +kernel
theorem dX5_readChimney_89 : decode cX5_readChimney 89 = .ok (.iinc 3 1, 3) := by decide +kernel
theorem dX5_readChimney_92 : decode cX5_readChimney 92 = .ok (.goto (-29), 3) := by decide +kernel
theorem dX5_readChimney_95 : decode cX5_readChimney 95 = .ok (.iconst 0, 1) := by decide +kernel
theorem dX5_readChimney_96 : decode cX5_readChimney 96 = .ok (.istore_n 3, 1) := by decide +kernel
theorem dX5_readChimney_97 : decode cX5_readChimney 97 = .ok (.aload_n 0, 1) := by decide +kernel
theorem dX5_readChimney_98 : decode cX5_readChimney 98 = .ok (.ldc 105, 2) := by decide +kernel
theorem dX5_readChimney_100 : decode cX5_readChimney 100 = .ok (.invokevirtual 55, 3) := by decide +kernel
theorem dX5_readChimney_103 : decode cX5_readChimney 103 = .ok (.ifCond .eq 11, 3) := by decide +kernel
theorem dX5_readChimney_106 : decode cX5_readChimney 106 = .ok (.aload_n 0, 1) := by decide +kernel
theorem dX5_readChimney_107 : decode cX5_readChimney 107 = .ok (.iconst 0, 1) := by decide +kernel
theorem dX5_readChimney_108 : decode cX5_readChimney 108 = .ok (.bipush 23, 2) := by decide +kernel
theorem dX5_readChimney_110 : decode cX5_readChimney 110 = .ok (.invokevirtual 69, 3) := by decide +kernel
theorem dX5_readChimney_113 : decode cX5_readChimney 113 = .ok (.istore_n 3, 1) := by decide +kernel
theorem dX5_readChimney_114 : decode cX5_readChimney 114 = .ok (.bipush 23, 2) := by decide +kernel
theorem dX5_readChimney_116 : decode cX5_readChimney 116 = .ok (.istore 4, 2) := by decide +kernel
theorem dX5_readChimney_118 : decode cX5_readChimney 118 = .ok (.aload_n 0, 1) := by decide +kernel
theorem dX5_readChimney_119 : decode cX5_readChimney 119 = .ok (.ldc 107, 2) := by decide +kernel
theorem dX5_readChimney_121 : decode cX5_readChimney 121 = .ok (.invokevirtual 55, 3) := by decide +kernel
theorem dX5_readChimney_124 : decode cX5_readChimney 124 = .ok (.ifCond .eq 12, 3) := by decide +kernel
theorem dX5_readChimney_127 : decode cX5_readChimney 127 = .ok (.aload_n 0, 1) := by decide +kernel
theorem dX5_readChimney_128 : decode cX5_readChimney 128 = .ok (.iload_n 3, 1) := by decide +kernel
theorem dX5_readChimney_129 : decode cX5_readChimney 129 = .ok (.bipush 23, 2) := by decide +kernel
theorem dX5_readChimney_131 : decode cX5_readChimney 131 = .ok (.invokevirtual 69, 3) := by decide +kernel
theorem dX5_readChimney_134 : decode cX5_readChimney 134 = .ok (.istore 4, 2) := by decide +kernel
theorem dX5_readChimney_136 : decode cX5_readChimney 136 = .ok (.aload_n 0, 1) := by decide +kernel
theorem dX5_readChimney_137 : decode cX5_readChimney 137 = .ok (.getfield 12, 3) := by decide +kernel
theorem dX5_readChimney_140 : decode cX5_readChimney 140 = .ok (.iload_n 3, 1) := by decide +kernel
theorem dX5_readChimney_141 : decode cX5_readChimney 141 = .ok (.iload 4, 2) := by decide +kernel
theorem dX5_readChimney_143 : decode cX5_readChimney 143 = .ok (.invokevirtual 109, 3) := by decide +kernel
theorem dX5_readChimney_146 : decode cX5_readChimney 146 = .ok (.return_, 1) := by decide +kernel
theorem dX5_readFurtherSmoke_0 : decode cX5_readFurtherSmoke 0 = .ok (.aload_n 0, 1) := by decide +kernel
theorem dX5_readFurtherSmoke_1 : decode cX5_readFurtherSmoke 1 = .ok (.getfield 112, 3) := by decide +kernel
theorem dX5_readFurtherSmoke_4 : decode cX5_readFurtherSmoke 4 = .ok (.iconst 1, 1) := by decide +kernel
theorem dX5_readFurtherSmoke_5 : decode cX5_readFurtherSmoke 5 = .ok (.if_icmp .lt 12, 3) := by decide +kernel
theorem dX5_readFurtherSmoke_8 : decode cX5_readFurtherSmoke 8 = .ok (.aload_n 0, 1) := by decide +kernel
theorem dX5_readFurtherSmoke_9 : decode cX5_readFurtherSmoke 9 = .ok (.getfield 112, 3) := by decide +kernel
theorem dX5_readFurtherSmoke_12 : decode cX5_readFurtherSmoke 12 = .ok (.bipush 9, 2) := by decide +kernel
theorem dX5_readFurtherSmoke_14 : decode cX5_readFurtherSmoke 14 = .ok (.if_icmp .le 11, 3) := by decide +kernel
theorem dX5_readFurtherSmoke_17 : decode cX5_readFurtherSmoke 17 = .ok (.aload_n 0, 1) := by decide +kernel
theorem dX5_readFurtherSmoke_18 : decode cX5_readFurtherSmoke 18 = .ok (.iconst 3, 1) := by decide +kernel
theorem dX5_readFurtherSmoke_19 : decode cX5_readFurtherSmoke 19 = .ok (.invokevirtual 82, 3) := by decide +kernel
theorem dX5_readFurtherSmoke_22 : decode cX5_readFurtherSmoke 22 = .ok (.goto 32, 3) := by decide +kernel
theorem dX5_readFurtherSmoke_25 : decode cX5_readFurtherSmoke 25 = .ok (.iload_n 1, 1) := by decide +kernel
theorem dX5_readFurtherSmoke_26 : decode cX5_readFurtherSmoke 26 = .ok (.bipush 6, 2) := by decide +kernel
theorem dX5_readFurtherSmoke_28 : decode cX5_readFurtherSmoke 28 = .ok (.if_icmp .ne 11, 3) := by decide +kernel
theorem dX5_readFurtherSmoke_31 : decode cX5_readFurtherSmoke 31 = .ok (.aload_n 0, 1) := by decide +kernel
theorem dX5_readFurtherSmoke_32 : decode cX5_readFurtherSmoke 32 = .ok (.iconst 4, 1) := by decide +kernel
theorem dX5_readFurtherSmoke_33 : decode cX5_readFurtherSmoke 33 = .ok (.invokevirtual 82, 3) := by decide +kernel
theorem dX5_readFurtherSmoke_36 : decode cX5_readFurtherSmoke 36 = .ok (.goto 18, 3) := by decide +kernel
theorem dX5_readFurtherSmoke_39 : decode cX5_readFurtherSmoke 39 = .ok (.aload_n 0, 1) := by decide +kernel
theorem dX5_readFurtherSmoke_40 : decode cX5_readFurtherSmoke 40 = .ok (.getfield 12, 3) := by decide +kernel
theorem dX5_readFurtherSmoke_43 : decode cX5_readFurtherSmoke 43 = .ok (.aload_n 0, 1) := by decide +kernel
theorem dX5_readFurtherSmoke_44 : decode cX5_readFurtherSmoke 44 = .ok (.getfield 112, 3) := by decide +kernel
theorem dX5_readFurtherSmoke_47 : decode cX5_readFurtherSmoke 47 = .ok (.invokevirtual 99, 3) := by decide +kernel
theorem dX5_readFurtherSmoke_50 : decode cX5_readFurtherSmoke 50 = .ok (.aload_n 0, 1) := by decide +kernel
theorem dX5_readFurtherSmoke_51 : decode cX5_readFurtherSmoke 51 = .ok (.invokevirtual 44, 3) := by decide +kernel
theorem dX5_readFurtherSmoke_54 : decode cX5_readFurtherSmoke 54 = .ok (.return_, 1) := by decide +kernel
theorem dX5_readWind_0 : decode cX5_readWind 0 = .ok (.aload_n 0, 1) := by decide +kernel
theorem dX5_readWind_1 : decode cX5_readWind 1 = .ok (.getfield 12, 3) := by decide +kernel
theorem dX5_readWind_4 : decode cX5_readWind 4 = .ok (.getfield 115, 3) := by decide +kernel
theorem dX5_readWind_7 : decode cX5_readWind 7 = .ok (.bipush 12, 2) := by decide +kernel
theorem dX5_readWind_9 : decode cX5_readWind 9 = .ok (.if_icmp .ne 9, 3) := by decide +kernel
theorem dX5_readWind_12 : decode cX5_readWind 12 = .ok (.aload_n 0, 1) := by decide +kernel
theorem dX5_readWind_13 : decode cX5_readWind 13 = .ok (.iconst 4, 1) := by decide +kernel
theorem dX5_readWind_14 : decode cX5_readWind 14 = .ok (.invokevirtual 82, 3) := by decide +kernel
theorem dX5_readWind_17 : decode cX5_readWind 17 = .ok (.return_, 1) := by decide +kernel
theorem dX5_readWind_18 : decode cX5_readWind 18 = .ok (.aload_n 0, 1) := by decide +kernel
theorem dX5_readWind_19 : decode cX5_readWind 19 = .ok (.iconst 0, 1) := by decide +kernel
theorem dX5_readWind_20 : decode cX5_readWind 20 = .ok (.bipush 47, 2) := by decide +kernel
theorem dX5_readWind_22 : decode cX5_readWind 22 = .ok (.invokevirtual 92, 3) := by decide +kernel
theorem dX5_readWind_25 : decode cX5_readWind 25 = .ok (.istore_n 1, 1) := by decide +kernel
theorem dX5_readWind_26 : decode cX5_readWind 26 = .ok (.aload_n 0, 1) := by decide +kernel
theorem dX5_readWind_27 : decode cX5_readWind 27 = .ok (.iconst 0, 1) := by decide +kernel
theorem dX5_readWind_28 : decode cX5_readWind 28 = .ok (.bipush 6, 2) := by decide +kernel
theorem dX5_readWind_30 : decode cX5_readWind 30 = .ok (.invokevirtual 92, 3) := by decide +kernel
theorem dX5_readWind_33 : decode cX5_readWind 33 = .ok (.istore_n 2, 1) := by decide +kernel
theorem dX5_readWind_34 : decode cX5_readWind 34 = .ok (.aload_n 0, 1) := by decide +kernel
theorem dX5_readWind_35 : decode cX5_readWind 35 = .ok (.iconst 0, 1) := by decide +kernel
theorem dX5_readWind_36 : decode cX5_readWind 36 = .ok (.bipush 6, 2) := by decide +kernel
theorem dX5_readWind_38 : decode cX5_readWind 38 = .ok (.invokevirtual 92, 3) := by decide +kernel
theorem dX5_readWind_41 : decode cX5_readWind 41 = .ok (.istore_n 3, 1) := by decide +kernel
theorem dX5_readWind_42 : decode cX5_readWind 42 = .ok (.aload_n 0, 1) := by decide +kernel
theorem dX5_readWind_43 : decode cX5_readWind 43 = .ok (.getfield 12, 3) := by decide +kernel
theorem dX5_readWind_46 : decode cX5_readWind 46 = .ok (.iload_n 1, 1) := by decide +kernel
theorem dX5_readWind_47 : decode cX5_readWind 47 = .ok (.iload_n 2, 1) := by decide +kernel
theorem dX5_readWind_48 : decode cX5_readWind 48 = .ok (.iload_n 3, 1) := by decide +kernel
theorem dX5_readWind_49 : decode cX5_readWind 49 = .ok (.invokevirtual 118, 3) := by decide +kernel
theorem dX5_readWind_52 : decode cX5_readWind 52 = .ok (.aload_n 0, 1) := by decide +kernel
theorem dX5_readWind_53 : decode cX5_readWind 53 = .ok (.invokevirtual 44, 3) := by decide +kernel
theorem dX5_readWind_56 : decode cX5_readWind 56 = .ok (.return_, 1) := by decide +kernel
theorem dX5_onlyNumber_0 : decode cX5_onlyNumber 0 = .ok (.aload_n 0, 1) := by decide +kernel
theorem dX5_onlyNumber_1 : decode cX5_onlyNumber 1 = .ok (.iload_n 1, 1) := by decide +kernel
theorem dX5_onlyNumber_2 : decode cX5_onlyNumber 2 = .ok (.iload_n 2, 1) := by decide +kernel
theorem dX5_onlyNumber_3 : decode cX5_onlyNumber 3 = .ok (.invokevirtual 92, 3) := by decide +kernel
theorem dX5_onlyNumber_6 : decode cX5_onlyNumber 6 = .ok (.istore_n 3, 1) := by decide +kernel
theorem dX5_onlyNumber_7 : decode cX5_onlyNumber 7 = .ok (.aload_n 0, 1) := by decide +kernel
theorem dX5_onlyNumber_8 : decode cX5_onlyNumber 8 = .ok (.invokevirtual 44, 3) := by decide +kernel
theorem dX5_onlyNumber_11 : decode cX5_onlyNumber 11 = .ok (.iload_n 3, 1) := by decide +kernel
theorem dX5_onlyNumber_12 : decode cX5_onlyNumber 12 = .ok (.ireturn, 1) := by decide +kernel
theorem dX5_number_0 : decode cX5_number 0 = .ok (.aload_n 0, 1) := by decide +kernel
theorem dX5_number_1 : decode cX5_number 1 = .ok (.invokevirtual 44, 3) := by decide +kernel
theorem dX5_number_4 : decode cX5_number 4 = .ok (.aload_n 0, 1) := by decide +kernel
theorem dX5_number_5 : decode cX5_number 5 = .ok (.getfield 47, 3) := by decide +kernel
theorem dX5_number_8 : decode cX5_number 8 = .ok (.iconst 2, 1) := by decide +kernel
theorem dX5_number_9 : decode cX5_number 9 = .ok (.if_icmp .eq 11, 3) := by decide +kernel
theorem dX5_number_12 : decode cX5_number 12 = .ok (.aload_n 0, 1) := by decide +kernel
theorem dX5_number_13 : decode cX5_number 13 = .ok (.iconst 2, 1) := by decide +kernel
theorem dX5_number_14 : decode cX5_number 14 = .ok (.invokevirtual 82, 3) := by decide +kernel
theorem dX5_number_17 : decode cX5_number 17 = .ok (.goto 24, 3) := by decide +kernel
theorem dX5_number_20 : decode cX5_number 20 = .ok (.aload_n 0, 1) := by decide +kernel
theorem dX5_number_21 : decode cX5_number 21 = .ok (.getfield 112, 3) := by decide +kernel
theorem dX5_number_24 : decode cX5_number 24 = .ok (.iload_n 1, 1) := by decide +kernel
theorem dX5_number_25 : decode cX5_number 25 = .ok (.if_icmp .lt 11, 3) := by decide +kernel
theorem dX5_number_28 : decode cX5_number 28 = .ok (.aload_n 0, 1) := by decide +kernel
theorem dX5_number_29 : decode cX5_number 29 = .ok (.getfield 112, 3) := by decide +kernel
theorem dX5_number_32 : decode cX5_number 32 = .ok (.iload_n 2, 1) := by decide +kernel
theorem dX5_number_33 : decode cX5_number 33 = .ok (.if_icmp .le 8, 3) := by decide +kernel
theorem dX5_number_36 : decode cX5_number 36 = .ok (.aload_n 0, 1) := by decide +kernel
theorem dX5_number_37 : decode cX5_number 37 = .ok (.iconst 3, 1) := by decide +kernel
theorem dX5_number_38 : decode cX5_number 38 = .ok (.invokevirtual 82, 3) := by decide +kernel
theorem dX5_number_41 : decode cX5_number 41 = .ok (.aload_n 0, 1) := by decide +kernel
theorem dX5_number_42 : decode cX5_number 42 = .ok (.getfield 112, 3) := by decide +kernel
theorem dX5_number_45 : decode cX5_number 45 = .ok (.ireturn, 1) := by decide +kernel
theorem dX5_blame_0 : decode cX5_blame 0 = .ok (.aload_n 0, 1) := by decide +kernel
theorem dX5_blame_1 : decode cX5_blame 1 = .ok (.getfield 18, 3) := by decide +kernel
theorem dX5_blame_4 : decode cX5_blame 4 = .ok (.ifCond .ne 28, 3) := by decide +kernel
theorem dX5_blame_7 : decode cX5_blame 7 = .ok (.aload_n 0, 1) := by decide +kernel
theorem dX5_blame_8 : decode cX5_blame 8 = .ok (.aload_n 0, 1) := by decide +kernel
theorem dX5_blame_9 : decode cX5_blame 9 = .ok (.getfield 47, 3) := by decide +kernel
theorem dX5_blame_12 : decode cX5_blame 12 = .ok (.iconst 4, 1) := by decide +kernel
theorem dX5_blame_13 : decode cX5_blame 13 = .ok (.if_icmp .ne 7, 3) := by decide +kernel
theorem dX5_blame_16 : decode cX5_blame 16 = .ok (.iconst 1, 1) := by decide +kernel
theorem dX5_blame_17 : decode cX5_blame 17 = .ok (.goto 4, 3) := by decide +kernel
theorem dX5_blame_20 : decode cX5_blame 20 = .ok (.iload_n 1, 1) := by decide +kernel
theorem dX5_blame_21 : decode cX5_blame 21 = .ok (.putfield 18, 3) := by decide +kernel
theorem dX5_blame_24 : decode cX5_blame 24 = .ok (.aload_n 0, 1) := by decide +kernel
theorem dX5_blame_25 : decode cX5_blame 25 = .ok (.aload_n 0, 1) := by decide +kernel
theorem dX5_blame_26 : decode cX5_blame 26 = .ok (.getfield 122, 3) := by decide +kernel
theorem dX5_blame_29 : decode cX5_blame 29 = .ok (.putfield 22, 3) := by decide +kernel
theorem dX5_blame_32 : decode cX5_blame 32 = .ok (.return_, 1) := by decide +kernel
theorem dX5_spells_0 : decode cX5_spells 0 = .ok (.aload_n 0, 1) := by decide +kernel
theorem dX5_spells_1 : decode cX5_spells 1 = .ok (.getfield 47, 3) := by decide +kernel
theorem dX5_spells_4 : decode cX5_spells 4 = .ok (.iconst 1, 1) := by decide +kernel
theorem dX5_spells_5 : decode cX5_spells 5 = .ok (.if_icmp .ne 19, 3) := by decide +kernel
theorem dX5_spells_8 : decode cX5_spells 8 = .ok (.aload_n 0, 1) := by decide +kernel
theorem dX5_spells_9 : decode cX5_spells 9 = .ok (.getfield 38, 3) := by decide +kernel
theorem dX5_spells_12 : decode cX5_spells 12 = .ok (.aload_n 0, 1) := by decide +kernel
theorem dX5_spells_13 : decode cX5_spells 13 = .ok (.getfield 122, 3) := by decide +kernel
theorem dX5_spells_16 : decode cX5_spells 16 = .ok (.isub, 1) := by decide +kernel
theorem dX5_spells_17 : decode cX5_spells 17 = .ok (.aload_n 1, 1) := by decide +kernel
theorem dX5_spells_18 : decode cX5_spells 18 = .ok (.invokevirtual 125, 3) := by decide +kernel
theorem dX5_spells_21 : decode cX5_spells 21 = .ok (.if_icmp .eq 5, 3) := by decide +kernel
theorem dX5_spells_24 : decode cX5_spells 24 = .ok (.iconst 0, 1) := by decide +kernel
theorem dX5_spells_25 : decode cX5_spells 25 = .ok (.ireturn, 1) := by decide +kernel
theorem dX5_spells_26 : decode cX5_spells 26 = .ok (.iconst 0, 1) := by decide +kernel
theorem dX5_spells_27 : decode cX5_spells 27 = .ok (.istore_n 2, 1) := by decide +kernel
theorem dX5_spells_28 : decode cX5_spells 28 = .ok (.iload_n 2, 1) := by decide +kernel
theorem dX5_spells_29 : decode cX5_spells 29 = .ok (.aload_n 1, 1) := by decide +kernel
theorem dX5_spells_30 : decode cX5_spells 30 = .ok (.invokevirtual 125, 3) := by decide +kernel
theorem dX5_spells_33 : decode cX5_spells 33 = .ok (.if_icmp .ge 29, 3) := by decide +kernel
theorem dX5_spells_36 : decode cX5_spells 36 = .ok (.aload_n 0, 1) := by decide +kernel
theorem dX5_spells_37 : decode cX5_spells 37 = .ok (.aload_n 0, 1) := by decide +kernel
theorem dX5_spells_38 : decode cX5_spells 38 = .ok (.getfield 122, 3) := by decide +kernel
theorem dX5_spells_41 : decode cX5_spells 41 = .ok (.iload_n 2, 1) := by decide +kernel
theorem dX5_spells_42 : decode cX5_spells 42 = .ok (.iadd, 1) := by decide +kernel
theorem dX5_spells_43 : decode cX5_spells 43 = .ok (.invokevirtual 130, 3) := by decide +kernel
theorem dX5_spells_46 : decode cX5_spells 46 = .ok (.aload_n 1, 1) := by decide +kernel
theorem dX5_spells_47 : decode cX5_spells 47 = .ok (.iload_n 2, 1) := by decide +kernel
theorem dX5_spells_48 : decode cX5_spells 48 = .ok (.invokevirtual 134, 3) := by decide +kernel
theorem dX5_spells_51 : decode cX5_spells 51 = .ok (.if_icmp .eq 5, 3) := by decide +kernel
theorem dX5_spells_54 : decode cX5_spells 54 = .ok (.iconst 0, 1) := by decide +kernel
theorem dX5_spells_55 : decode cX5_spells 55 = .ok (.ireturn, 1) := by decide +kernel
theorem dX5_spells_56 : decode cX5_spells 56 = .ok (.iinc 2 1, 3) := by decide +kernel
theorem dX5_spells_59 : decode cX5_spells 59 = .ok (.goto (-31), 3) := by decide +kernel
theorem dX5_spells_62 : decode cX5_spells 62 = .ok (.iconst 1, 1) := by decide +kernel
theorem dX5_spells_63 : decode cX5_spells 63 = .ok (.ireturn, 1) := by decide +kernel
theorem dX5_byteAt_0 : decode cX5_byteAt 0 = .ok (.iload_n 1, 1) := by decide +kernel
theorem dX5_byteAt_1 : decode cX5_byteAt 1 = .ok (.ifCond .lt 24, 3) := by decide +kernel
theorem dX5_byteAt_4 : decode cX5_byteAt 4 = .ok (.iload_n 1, 1) := by decide +kernel
theorem dX5_byteAt_5 : decode cX5_byteAt 5 = .ok (.aload_n 0, 1) := by decide +kernel
theorem dX5_byteAt_6 : decode cX5_byteAt 6 = .ok (.getfield 35, 3) := by decide +kernel
theorem dX5_byteAt_9 : decode cX5_byteAt 9 = .ok (.if_icmp .ge 16, 3) := by decide +kernel
theorem dX5_byteAt_12 : decode cX5_byteAt 12 = .ok (.aload_n 0, 1) := by decide +kernel
theorem dX5_byteAt_13 : decode cX5_byteAt 13 = .ok (.getfield 25, 3) := by decide +kernel
theorem dX5_byteAt_16 : decode cX5_byteAt 16 = .ok (.iload_n 1, 1) := by decide +kernel
theorem dX5_byteAt_17 : decode cX5_byteAt 17 = .ok (.baload, 1) := by decide +kernel
theorem dX5_byteAt_18 : decode cX5_byteAt 18 = .ok (.sipush 255, 3) := by decide +kernel
theorem dX5_byteAt_21 : decode cX5_byteAt 21 = .ok (.iand, 1) := by decide +kernel
theorem dX5_byteAt_22 : decode cX5_byteAt 22 = .ok (.goto 4, 3) := by decide +kernel
theorem dX5_byteAt_25 : decode cX5_byteAt 25 = .ok (.iconst (-1), 1) := by decide +kernel
theorem dX5_byteAt_26 : decode cX5_byteAt 26 = .ok (.ireturn, 1) := by decide +kernel
theorem dX5_takeToken_0 : decode cX5_takeToken 0 = .ok (.aload_n 0, 1) := by decide +kernel
theorem dX5_takeToken_1 : decode cX5_takeToken 1 = .ok (.getfield 38, 3) := by decide +kernel
theorem dX5_takeToken_4 : decode cX5_takeToken 4 = .ok (.aload_n 0, 1) := by decide +kernel
theorem dX5_takeToken_5 : decode cX5_takeToken 5 = .ok (.getfield 35, 3) := by decide +kernel
theorem dX5_takeToken_8 : decode cX5_takeToken 8 = .ok (.if_icmp .ge 31, 3) := by decide +kernel
theorem dX5_takeToken_11 : decode cX5_takeToken 11 = .ok (.aload_n 0, 1) := by decide +kernel
theorem dX5_takeToken_12 : decode cX5_takeToken 12 = .ok (.aload_n 0, 1) := by decide +kernel
theorem dX5_takeToken_13 : decode cX5_takeToken 13 = .ok (.getfield 38, 3) := by decide +kernel
theorem dX5_takeToken_16 : decode cX5_takeToken 16 = .ok (.invokevirtual 130, 3) := by decide +kernel
theorem dX5_takeToken_19 : decode cX5_takeToken 19 = .ok (.invokestatic 138, 3) := by decide +kernel
theorem dX5_takeToken_22 : decode cX5_takeToken 22 = .ok (.iconst 5, 1) := by decide +kernel
theorem dX5_takeToken_23 : decode cX5_takeToken 23 = .ok (.if_icmp .ne 16, 3) := by decide +kernel
theorem dX5_takeToken_26 : decode cX5_takeToken 26 = .ok (.aload_n 0, 1) := by decide +kernel
theorem dX5_takeToken_27 : decode cX5_takeToken 27 = .ok (.dup, 1) := by decide +kernel
theorem dX5_takeToken_28 : decode cX5_takeToken 28 = .ok (.getfield 38, 3) := by decide +kernel
theorem dX5_takeToken_31 : decode cX5_takeToken 31 = .ok (.iconst 1, 1) := by decide +kernel
theorem dX5_takeToken_32 : decode cX5_takeToken 32 = .ok (.iadd, 1) := by decide +kernel
theorem dX5_takeToken_33 : decode cX5_takeToken 33 = .ok (.putfield 38, 3) := by decide +kernel
theorem dX5_takeToken_36 : decode cX5_takeToken 36 = .ok (.goto (-36), 3) := by decide +kernel
theorem dX5_takeToken_39 : decode cX5_takeToken 39 = .ok (.aload_n 0, 1) := by decide +kernel
theorem dX5_takeToken_40 : decode cX5_takeToken 40 = .ok (.aload_n 0, 1) := by decide +kernel
theorem dX5_takeToken_41 : decode cX5_takeToken 41 = .ok (.getfield 38, 3) := by decide +kernel
theorem dX5_takeToken_44 : decode cX5_takeToken 44 = .ok (.putfield 122, 3) := by decide +kernel
theorem dX5_takeToken_47 : decode cX5_takeToken 47 = .ok (.aload_n 0, 1) := by decide +kernel
theorem dX5_takeToken_48 : decode cX5_takeToken 48 = .ok (.iconst 0, 1) := by decide +kernel
theorem dX5_takeToken_49 : decode cX5_takeToken 49 = .ok (.putfield 112, 3) := by decide +kernel
theorem dX5_takeToken_52 : decode cX5_takeToken 52 = .ok (.aload_n 0, 1) := by decide +kernel
theorem dX5_takeToken_53 : decode cX5_takeToken 53 = .ok (.aload_n 0, 1) := by decide +kernel
theorem dX5_takeToken_54 : decode cX5_takeToken 54 = .ok (.aload_n 0, 1) := by decide +kernel
theorem dX5_takeToken_55 : decode cX5_takeToken 55 = .ok (.getfield 38, 3) := by decide +kernel
theorem dX5_takeToken_58 : decode cX5_takeToken 58 = .ok (.invokevirtual 130, 3) := by decide +kernel
theorem dX5_takeToken_61 : decode cX5_takeToken 61 = .ok (.invokestatic 138, 3) := by decide +kernel
theorem dX5_takeToken_64 : decode cX5_takeToken 64 = .ok (.putfield 47, 3) := by decide +kernel
theorem dX5_takeToken_67 : decode cX5_takeToken 67 = .ok (.aload_n 0, 1) := by decide +kernel
theorem dX5_takeToken_68 : decode cX5_takeToken 68 = .ok (.getfield 47, 3) := by decide +kernel
theorem dX5_takeToken_71 : decode cX5_takeToken 71 = .ok (.iconst 3, 1) := by decide +kernel
theorem dX5_takeToken_72 : decode cX5_takeToken 72 = .ok (.if_icmp .eq 11, 3) := by decide +kernel
theorem dX5_takeToken_75 : decode cX5_takeToken 75 = .ok (.aload_n 0, 1) := by decide +kernel
theorem dX5_takeToken_76 : decode cX5_takeToken 76 = .ok (.getfield 47, 3) := by decide +kernel
theorem dX5_takeToken_79 : decode cX5_takeToken 79 = .ok (.iconst 4, 1) := by decide +kernel
theorem dX5_takeToken_80 : decode cX5_takeToken 80 = .ok (.if_icmp .ne 14, 3) := by decide +kernel
theorem dX5_takeToken_83 : decode cX5_takeToken 83 = .ok (.aload_n 0, 1) := by decide +kernel
theorem dX5_takeToken_84 : decode cX5_takeToken 84 = .ok (.dup, 1) := by decide +kernel
theorem dX5_takeToken_85 : decode cX5_takeToken 85 = .ok (.getfield 38, 3) := by decide +kernel
theorem dX5_takeToken_88 : decode cX5_takeToken 88 = .ok (.iconst 1, 1) := by decide +kernel
theorem dX5_takeToken_89 : decode cX5_takeToken 89 = .ok (.iadd, 1) := by decide +kernel
theorem dX5_takeToken_90 : decode cX5_takeToken 90 = .ok (.putfield 38, 3) := by decide +kernel
theorem dX5_takeToken_93 : decode cX5_takeToken 93 = .ok (.return_, 1) := by decide +kernel
theorem dX5_takeToken_94 : decode cX5_takeToken 94 = .ok (.aload_n 0, 1) := by decide +kernel
theorem dX5_takeToken_95 : decode cX5_takeToken 95 = .ok (.getfield 38, 3) := by decide +kernel
theorem dX5_takeToken_98 : decode cX5_takeToken 98 = .ok (.aload_n 0, 1) := by decide +kernel
theorem dX5_takeToken_99 : decode cX5_takeToken 99 = .ok (.getfield 35, 3) := by decide +kernel
theorem dX5_takeToken_102 : decode cX5_takeToken 102 = .ok (.if_icmp .ge 69, 3) := by decide +kernel
theorem dX5_takeToken_105 : decode cX5_takeToken 105 = .ok (.aload_n 0, 1) := by decide +kernel
theorem dX5_takeToken_106 : decode cX5_takeToken 106 = .ok (.aload_n 0, 1) := by decide +kernel
theorem dX5_takeToken_107 : decode cX5_takeToken 107 = .ok (.getfield 38, 3) := by decide +kernel
theorem dX5_takeToken_110 : decode cX5_takeToken 110 = .ok (.invokevirtual 130, 3) := by decide +kernel
theorem dX5_takeToken_113 : decode cX5_takeToken 113 = .ok (.invokestatic 138, 3) := by decide +kernel
theorem dX5_takeToken_116 : decode cX5_takeToken 116 = .ok (.aload_n 0, 1) := by decide +kernel
theorem dX5_takeToken_117 : decode cX5_takeToken 117 = .ok (.getfield 47, 3) := by decide +kernel
theorem dX5_takeToken_120 : decode cX5_takeToken 120 = .ok (.if_icmp .ne 51, 3) := by decide +kernel
theorem dX5_takeToken_123 : decode cX5_takeToken 123 = .ok (.aload_n 0, 1) := by decide +kernel
theorem dX5_takeToken_124 : decode cX5_takeToken 124 = .ok (.aload_n 0, 1) := by decide +kernel
theorem dX5_takeToken_125 : decode cX5_takeToken 125 = .ok (.getfield 47, 3) := by decide +kernel
theorem dX5_takeToken_128 : decode cX5_takeToken 128 = .ok (.iconst 2, 1) := by decide +kernel
theorem dX5_takeToken_129 : decode cX5_takeToken 129 = .ok (.if_icmp .ne 25, 3) := by decide +kernel
theorem dX5_takeToken_132 : decode cX5_takeToken 132 = .ok (.bipush 10, 2) := by decide +kernel
theorem dX5_takeToken_134 : decode cX5_takeToken 134 = .ok (.aload_n 0, 1) := by decide +kernel
theorem dX5_takeToken_135 : decode cX5_takeToken 135 = .ok (.getfield 112, 3) := by decide +kernel
theorem dX5_takeToken_138 : decode cX5_takeToken 138 = .ok (.imul, 1) := by decide +kernel
theorem dX5_takeToken_139 : decode cX5_takeToken 139 = .ok (.aload_n 0, 1) := by decide +kernel
theorem dX5_takeToken_140 : decode cX5_takeToken 140 = .ok (.aload_n 0, 1) := by decide +kernel
theorem dX5_takeToken_141 : decode cX5_takeToken 141 = .ok (.getfield 38, 3) := by decide +kernel
theorem dX5_takeToken_144 : decode cX5_takeToken 144 = .ok (.invokevirtual 130, 3) := by decide +kernel
theorem dX5_takeToken_147 : decode cX5_takeToken 147 = .ok (.iadd, 1) := by decide +kernel
theorem dX5_takeToken_148 : decode cX5_takeToken 148 = .ok (.bipush 48, 2) := by decide +kernel
theorem dX5_takeToken_150 : decode cX5_takeToken 150 = .ok (.isub, 1) := by decide +kernel
theorem dX5_takeToken_151 : decode cX5_takeToken 151 = .ok (.goto 4, 3) := by decide +kernel
theorem dX5_takeToken_154 : decode cX5_takeToken 154 = .ok (.iconst 0, 1) := by decide +kernel
theorem dX5_takeToken_155 : decode cX5_takeToken 155 = .ok (.putfield 112, 3) := by decide +kernel
theorem dX5_takeToken_158 : decode cX5_takeToken 158 = .ok (.aload_n 0, 1) := by decide +kernel
theorem dX5_takeToken_159 : decode cX5_takeToken 159 = .ok (.dup, 1) := by decide +kernel
theorem dX5_takeToken_160 : decode cX5_takeToken 160 = .ok (.getfield 38, 3) := by decide +kernel
theorem dX5_takeToken_163 : decode cX5_takeToken 163 = .ok (.iconst 1, 1) := by decide +kernel
theorem dX5_takeToken_164 : decode cX5_takeToken 164 = .ok (.iadd, 1) := by decide +kernel
theorem dX5_takeToken_165 : decode cX5_takeToken 165 = .ok (.putfield 38, 3) := by decide +kernel
theorem dX5_takeToken_168 : decode cX5_takeToken 168 = .ok (.goto (-74), 3) := by decide +kernel
theorem dX5_takeToken_171 : decode cX5_takeToken 171 = .ok (.aload_n 0, 1) := by decide +kernel
theorem dX5_takeToken_172 : decode cX5_takeToken 172 = .ok (.getfield 47, 3) := by decide +kernel
theorem dX5_takeToken_175 : decode cX5_takeToken 175 = .ok (.iconst 2, 1) := by decide +kernel
theorem dX5_takeToken_176 : decode cX5_takeToken 176 = .ok (.if_icmp .ne 21, 3) := by decide +kernel
theorem dX5_takeToken_179 : decode cX5_takeToken 179 = .ok (.aload_n 0, 1) := by decide +kernel
theorem dX5_takeToken_180 : decode cX5_takeToken 180 = .ok (.getfield 38, 3) := by decide +kernel
theorem dX5_takeToken_183 : decode cX5_takeToken 183 = .ok (.aload_n 0, 1) := by decide +kernel
theorem dX5_takeToken_184 : decode cX5_takeToken 184 = .ok (.getfield 122, 3) := by decide +kernel
theorem dX5_takeToken_187 : decode cX5_takeToken 187 = .ok (.isub, 1) := by decide +kernel
theorem dX5_takeToken_188 : decode cX5_takeToken 188 = .ok (.iconst 3, 1) := by decide +kernel
theorem dX5_takeToken_189 : decode cX5_takeToken 189 = .ok (.if_icmp .le 8, 3) := by decide +kernel
theorem dX5_takeToken_192 : decode cX5_takeToken 192 = .ok (.aload_n 0, 1) := by decide +kernel
theorem dX5_takeToken_193 : decode cX5_takeToken 193 = .ok (.iconst 4, 1) := by decide +kernel
theorem dX5_takeToken_194 : decode cX5_takeToken 194 = .ok (.putfield 47, 3) := by decide +kernel
theorem dX5_takeToken_197 : decode cX5_takeToken 197 = .ok (.return_, 1) := by decide +kernel
theorem dX5_sortOf_0 : decode cX5_sortOf 0 = .ok (.iload_n 0, 1) := by decide +kernel
theorem dX5_sortOf_1 : decode cX5_sortOf 1 = .ok (.bipush 97, 2) := by decide +kernel
theorem dX5_sortOf_3 : decode cX5_sortOf 3 = .ok (.if_icmp .lt 11, 3) := by decide +kernel
theorem dX5_sortOf_6 : decode cX5_sortOf 6 = .ok (.iload_n 0, 1) := by decide +kernel
theorem dX5_sortOf_7 : decode cX5_sortOf 7 = .ok (.bipush 122, 2) := by decide +kernel
theorem dX5_sortOf_9 : decode cX5_sortOf 9 = .ok (.if_icmp .gt 5, 3) := by decide +kernel
theorem dX5_sortOf_12 : decode cX5_sortOf 12 = .ok (.iconst 1, 1) := by decide +kernel
theorem dX5_sortOf_13 : decode cX5_sortOf 13 = .ok (.ireturn, 1) := by decide +kernel
theorem dX5_sortOf_14 : decode cX5_sortOf 14 = .ok (.iload_n 0, 1) := by decide +kernel
theorem dX5_sortOf_15 : decode cX5_sortOf 15 = .ok (.bipush 48, 2) := by decide +kernel
theorem dX5_sortOf_17 : decode cX5_sortOf 17 = .ok (.if_icmp .lt 11, 3) := by decide +kernel
theorem dX5_sortOf_20 : decode cX5_sortOf 20 = .ok (.iload_n 0, 1) := by decide +kernel
theorem dX5_sortOf_21 : decode cX5_sortOf 21 = .ok (.bipush 57, 2) := by decide +kernel
theorem dX5_sortOf_23 : decode cX5_sortOf 23 = .ok (.if_icmp .gt 5, 3) := by decide +kernel
theorem dX5_sortOf_26 : decode cX5_sortOf 26 = .ok (.iconst 2, 1) := by decide +kernel
theorem dX5_sortOf_27 : decode cX5_sortOf 27 = .ok (.ireturn, 1) := by decide +kernel
theorem dX5_sortOf_28 : decode cX5_sortOf 28 = .ok (.iload_n 0, 1) := by decide +kernel
theorem dX5_sortOf_29 : decode cX5_sortOf 29 = .ok (.lookupswitch 49 #[(-1, 43), (10, 45), (32, 45), (59, 47)], 43) := by decide +kernel
theorem dX5_sortOf_72 : decode cX5_sortOf 72 = .ok (.iconst 0, 1) := by decide +kernel
theorem dX5_sortOf_73 : decode cX5_sortOf 73 = .ok (.ireturn, 1) := by decide +kernel
theorem dX5_sortOf_74 : decode cX5_sortOf 74 = .ok (.iconst 5, 1) := by decide +kernel
theorem dX5_sortOf_75 : decode cX5_sortOf 75 = .ok (.ireturn, 1) := by decide +kernel
theorem dX5_sortOf_76 : decode cX5_sortOf 76 = .ok (.iconst 3, 1) := by decide +kernel
theorem dX5_sortOf_77 : decode cX5_sortOf 77 = .ok (.ireturn, 1) := by decide +kernel
theorem dX5_sortOf_78 : decode cX5_sortOf 78 = .ok (.iconst 4, 1) := by decide +kernel
theorem dX5_sortOf_79 : decode cX5_sortOf 79 = .ok (.ireturn, 1) := by decide +kernel
theorem md_X5_init : yX5_init.cls ≠ "java/lang/invoke/MethodHandle" ∧ yX5_init.cls ≠ "java/lang/invoke/VarHandle" ∧ (parseMethodDescriptor yX5_init.desc).map (fun d => d.parameters.length) = some 0 := by decide +kernel
theorem md_X5_readText : yX5_readText.cls ≠ "java/lang/invoke/MethodHandle" ∧ yX5_readText.cls ≠ "java/lang/invoke/VarHandle" ∧ (parseMethodDescriptor yX5_readText.desc).map (fun d => d.parameters.length) = some 2 := by decide +kernel
theorem md_X5_readLine : yX5_readLine.cls ≠ "java/lang/invoke/MethodHandle" ∧ yX5_readLine.cls ≠ "java/lang/invoke/VarHandle" ∧ (parseMethodDescriptor yX5_readLine.desc).map (fun d => d.parameters.length) = some 0 := by decide +kernel
theorem md_X5_readChimney : yX5_readChimney.cls ≠ "java/lang/invoke/MethodHandle" ∧ yX5_readChimney.cls ≠ "java/lang/invoke/VarHandle" ∧ (parseMethodDescriptor yX5_readChimney.desc).map (fun d => d.parameters.length) = some 0 := by decide +kernel
theorem md_X5_readFurtherSmoke : yX5_readFurtherSmoke.cls ≠ "java/lang/invoke/MethodHandle" ∧ yX5_readFurtherSmoke.cls ≠ "java/lang/invoke/VarHandle" ∧ (parseMethodDescriptor yX5_readFurtherSmoke.desc).map (fun d => d.parameters.length) = some 1 := by decide +kernel
theorem md_X5_readWind : yX5_readWind.cls ≠ "java/lang/invoke/MethodHandle" ∧ yX5_readWind.cls ≠ "java/lang/invoke/VarHandle" ∧ (parseMethodDescriptor yX5_readWind.desc).map (fun d => d.parameters.length) = some 0 := by decide +kernel
theorem md_X5_onlyNumber : yX5_onlyNumber.cls ≠ "java/lang/invoke/MethodHandle" ∧ yX5_onlyNumber.cls ≠ "java/lang/invoke/VarHandle" ∧ (parseMethodDescriptor yX5_onlyNumber.desc).map (fun d => d.parameters.length) = some 2 := by decide +kernel
theorem md_X5_number : yX5_number.cls ≠ "java/lang/invoke/MethodHandle" ∧ yX5_number.cls ≠ "java/lang/invoke/VarHandle" ∧ (parseMethodDescriptor yX5_number.desc).map (fun d => d.parameters.length) = some 2 := by decide +kernel
theorem md_X5_blame : yX5_blame.cls ≠ "java/lang/invoke/MethodHandle" ∧ yX5_blame.cls ≠ "java/lang/invoke/VarHandle" ∧ (parseMethodDescriptor yX5_blame.desc).map (fun d => d.parameters.length) = some 1 := by decide +kernel
theorem md_X5_spells : yX5_spells.cls ≠ "java/lang/invoke/MethodHandle" ∧ yX5_spells.cls ≠ "java/lang/invoke/VarHandle" ∧ (parseMethodDescriptor yX5_spells.desc).map (fun d => d.parameters.length) = some 1 := by decide +kernel
theorem md_X5_byteAt : yX5_byteAt.cls ≠ "java/lang/invoke/MethodHandle" ∧ yX5_byteAt.cls ≠ "java/lang/invoke/VarHandle" ∧ (parseMethodDescriptor yX5_byteAt.desc).map (fun d => d.parameters.length) = some 1 := by decide +kernel
theorem md_X5_takeToken : yX5_takeToken.cls ≠ "java/lang/invoke/MethodHandle" ∧ yX5_takeToken.cls ≠ "java/lang/invoke/VarHandle" ∧ (parseMethodDescriptor yX5_takeToken.desc).map (fun d => d.parameters.length) = some 0 := by decide +kernel
theorem md_X5_sortOf : yX5_sortOf.cls ≠ "java/lang/invoke/MethodHandle" ∧ yX5_sortOf.cls ≠ "java/lang/invoke/VarHandle" ∧ (parseMethodDescriptor yX5_sortOf.desc).map (fun d => d.parameters.length) = some 1 := by decide +kernel
theorem dX6_init_0 : decode cX6_init 0 = .ok (.aload_n 0, 1) := by decide +kernel
theorem dX6_init_1 : decode cX6_init 1 = .ok (.invokespecial 3, 3) := by decide +kernel
theorem dX6_init_4 : decode cX6_init 4 = .ok (.aload_n 0, 1) := by decide +kernel
theorem dX6_init_5 : decode cX6_init 5 = .ok (.iconst 5, 1) := by decide +kernel
theorem dX6_init_6 : decode cX6_init 6 = .ok (.newarray .int, 2) := by decide +kernel
theorem dX6_init_8 : decode cX6_init 8 = .ok (.putfield 9, 3) := by decide +kernel
theorem dX6_init_11 : decode cX6_init 11 = .ok (.aload_n 0, 1) := by decide +kernel
theorem dX6_init_12 : decode cX6_init 12 = .ok (.sipush 600, 3) := by decide +kernel
theorem dX6_init_15 : decode cX6_init 15 = .ok (.newarray .int, 2) := by decide +kernel
theorem dX6_init_17 : decode cX6_init 17 = .ok (.putfield 15, 3) := by decide +kernel
theorem dX6_init_20 : decode cX6_init 20 = .ok (.aload_n 0, 1) := by decide +kernel
theorem dX6_init_21 : decode cX6_init 21 = .ok (.bipush 30, 2) := by decide +kernel
theorem dX6_init_23 : decode cX6_init 23 = .ok (.newarray .int, 2) := by decide +kernel
theorem dX6_init_25 : decode cX6_init 25 = .ok (.putfield 18, 3) := by decide +kernel
theorem dX6_init_28 : decode cX6_init 28 = .ok (.aload_n 0, 1) := by decide +kernel
theorem dX6_init_29 : decode cX6_init 29 = .ok (.iconst 5, 1) := by decide +kernel
theorem dX6_init_30 : decode cX6_init 30 = .ok (.newarray .int, 2) := by decide +kernel
theorem dX6_init_32 : decode cX6_init 32 = .ok (.putfield 21, 3) := by decide +kernel
theorem dX6_init_35 : decode cX6_init 35 = .ok (.aload_n 0, 1) := by decide +kernel
theorem dX6_init_36 : decode cX6_init 36 = .ok (.iconst 5, 1) := by decide +kernel
theorem dX6_init_37 : decode cX6_init 37 = .ok (.newarray .int, 2) := by decide +kernel
theorem dX6_init_39 : decode cX6_init 39 = .ok (.putfield 24, 3) := by decide +kernel
theorem dX6_init_42 : decode cX6_init 42 = .ok (.aload_n 0, 1) := by decide +kernel
theorem dX6_init_43 : decode cX6_init 43 = .ok (.aload_n 1, 1) := by decide +kernel
theorem dX6_init_44 : decode cX6_init 44 = .ok (.putfield 27, 3) := by decide +kernel
theorem dX6_init_47 : decode cX6_init 47 = .ok (.aload_n 0, 1) := by decide +kernel
theorem dX6_init_48 : decode cX6_init 48 = .ok (.aload_n 2, 1) := by decide +kernel
theorem dX6_init_49 : decode cX6_init 49 = .ok (.putfield 31, 3) := by decide +kernel
theorem dX6_init_52 : decode cX6_init 52 = .ok (.return_, 1) := by decide +kernel
theorem dX6_gatherUnlit_0 : decode cX6_gatherUnlit 0 = .ok (.aload_n 0, 1) := by decide +kernel
theorem dX6_gatherUnlit_1 : decode cX6_gatherUnlit 1 = .ok (.iconst 0, 1) := by decide +kernel
theorem dX6_gatherUnlit_2 : decode cX6_gatherUnlit 2 = .ok (.putfield 35, 3) := by decide +kernel
theorem dX6_gatherUnlit_5 : decode cX6_gatherUnlit 5 = .ok (.iconst 0, 1) := by decide +kernel
theorem dX6_gatherUnlit_6 : decode cX6_gatherUnlit 6 = .ok (.istore_n 1, 1) := by decide +kernel
theorem dX6_gatherUnlit_7 : decode cX6_gatherUnlit 7 = .ok (.iload_n 1, 1) := by decide +kernel
theorem dX6_gatherUnlit_8 : decode cX6_gatherUnlit 8 = .ok (.aload_n 0, 1) := by decide +kernel
theorem dX6_gatherUnlit_9 : decode cX6_gatherUnlit 9 = .ok (.getfield 27, 3) := by decide +kernel
theorem dX6_gatherUnlit_12 : decode cX6_gatherUnlit 12 = .ok (.getfield 39, 3) := by decide +kernel
theorem dX6_gatherUnlit_15 : decode cX6_gatherUnlit 15 = .ok (.if_icmp .ge 50, 3) := by decide +kernel
theorem dX6_gatherUnlit_18 : decode cX6_gatherUnlit 18 = .ok (.aload_n 0, 1) := by decide +kernel
theorem dX6_gatherUnlit_19 : decode cX6_gatherUnlit 19 = .ok (.getfield 27, 3) := by decide +kernel
theorem dX6_gatherUnlit_22 : decode cX6_gatherUnlit 22 = .ok (.iload_n 1, 1) := by decide +kernel
theorem dX6_gatherUnlit_23 : decode cX6_gatherUnlit 23 = .ok (.invokevirtual 44, 3) := by decide +kernel
theorem dX6_gatherUnlit_26 : decode cX6_gatherUnlit 26 = .ok (.ifCond .ne 33, 3) := by decide +kernel
theorem dX6_gatherUnlit_29 : decode cX6_gatherUnlit 29 = .ok (.aload_n 0, 1) := by decide +kernel
theorem dX6_gatherUnlit_30 : decode cX6_gatherUnlit 30 = .ok (.getfield 35, 3) := by decide +kernel
theorem dX6_gatherUnlit_33 : decode cX6_gatherUnlit 33 = .ok (.iconst 5, 1) := by decide +kernel
theorem dX6_gatherUnlit_34 : decode cX6_gatherUnlit 34 = .ok (.if_icmp .ne 5, 3) := by decide +kernel
theorem dX6_gatherUnlit_37 : decode cX6_gatherUnlit 37 = .ok (.iconst 0, 1) := by decide +kernel
theorem dX6_gatherUnlit_38 : decode cX6_gatherUnlit 38 = .ok (.ireturn, 1) := by decide +kernel
theorem dX6_gatherUnlit_39 : decode cX6_gatherUnlit 39 = .ok (.aload_n 0, 1) := by decide +kernel
theorem dX6_gatherUnlit_40 : decode cX6_gatherUnlit 40 = .ok (.getfield 9, 3) := by decide +kernel
theorem dX6_gatherUnlit_43 : decode cX6_gatherUnlit 43 = .ok (.aload_n 0, 1) := by decide +kernel
theorem dX6_gatherUnlit_44 : decode cX6_gatherUnlit 44 = .ok (.getfield 35, 3) := by decide +kernel
theorem dX6_gatherUnlit_47 : decode cX6_gatherUnlit 47 = .ok (.iload_n 1, 1) := by decide +kernel
theorem dX6_gatherUnlit_48 : decode cX6_gatherUnlit 48 = .ok (.iastore, 1) := by decide +kernel
theorem dX6_gatherUnlit_49 : decode cX6_gatherUnlit 49 = .ok (.aload_n 0, 1) := by decide +kernel
theorem dX6_gatherUnlit_50 : decode cX6_gatherUnlit 50 = .ok (.dup, 1) := by decide +kernel
theorem dX6_gatherUnlit_51 : decode cX6_gatherUnlit 51 = .ok (.getfield 35, 3) := by decide +kernel
theorem dX6_gatherUnlit_54 : decode cX6_gatherUnlit 54 = .ok (.iconst 1, 1) := by decide +kernel
theorem dX6_gatherUnlit_55 : decode cX6_gatherUnlit 55 = .ok (.iadd, 1) := by decide +kernel
theorem dX6_gatherUnlit_56 : decode cX6_gatherUnlit 56 = .ok (.putfield 35, 3) := by decide +kernel
theorem dX6_gatherUnlit_59 : decode cX6_gatherUnlit 59 = .ok (.iinc 1 1, 3) := by decide +kernel
theorem dX6_gatherUnlit_62 : decode cX6_gatherUnlit 62 = .ok (.goto (-55), 3) := by decide +kernel
theorem dX6_gatherUnlit_65 : decode cX6_gatherUnlit 65 = .ok (.aload_n 0, 1) := by decide +kernel
theorem dX6_gatherUnlit_66 : decode cX6_gatherUnlit 66 = .ok (.invokevirtual 48, 3) := by decide +kernel
theorem dX6_gatherUnlit_69 : decode cX6_gatherUnlit 69 = .ok (.iconst 1, 1) := by decide +kernel
theorem dX6_gatherUnlit_70 : decode cX6_gatherUnlit 70 = .ok (.ireturn, 1) := by decide +kernel
theorem dX6_layClashes_0 : decode cX6_layClashes 0 = .ok (.aload_n 0, 1) := by decide +kernel
theorem dX6_layClashes_1 : decode cX6_layClashes 1 = .ok (.getfield 15, 3) := by decide +kernel
theorem dX6_layClashes_4 : decode cX6_layClashes 4 = .ok (.iconst 0, 1) := by decide +kernel
theorem dX6_layClashes_5 : decode cX6_layClashes 5 = .ok (.invokestatic 51, 3) := by decide +kernel
theorem dX6_layClashes_8 : decode cX6_layClashes 8 = .ok (.iconst 0, 1) := by decide +kernel
theorem dX6_layClashes_9 : decode cX6_layClashes 9 = .ok (.istore_n 1, 1) := by decide +kernel
theorem dX6_layClashes_10 : decode cX6_layClashes 10 = .ok (.iload_n 1, 1) := by decide +kernel
theorem dX6_layClashes_11 : decode cX6_layClashes 11 = .ok (.aload_n 0, 1) := by decide +kernel
theorem dX6_layClashes_12 : decode cX6_layClashes 12 = .ok (.getfield 35, 3) := by decide +kernel
theorem dX6_layClashes_15 : decode cX6_layClashes 15 = .ok (.if_icmp .ge 52, 3) := by decide +kernel
theorem dX6_layClashes_18 : decode cX6_layClashes 18 = .ok (.aload_n 0, 1) := by decide +kernel
theorem dX6_layClashes_19 : decode cX6_layClashes 19 = .ok (.getfield 18, 3) := by decide +kernel
theorem dX6_layClashes_22 : decode cX6_layClashes 22 = .ok (.iload_n 1, 1) := by decide +kernel
theorem dX6_layClashes_23 : decode cX6_layClashes 23 = .ok (.aload_n 0, 1) := by decide +kernel
theorem dX6_layClashes_24 : decode cX6_layClashes 24 = .ok (.getfield 31, 3) := by decide +kernel
theorem dX6_layClashes_27 : decode cX6_layClashes 27 = .ok (.aload_n 0, 1) := by decide +kernel
theorem dX6_layClashes_28 : decode cX6_layClashes 28 = .ok (.getfield 9, 3) := by decide +kernel
theorem dX6_layClashes_31 : decode cX6_layClashes 31 = .ok (.iload_n 1, 1) := by decide +kernel
theorem dX6_layClashes_32 : decode cX6_layClashes 32 = .ok (.iaload, 1) := by decide +kernel
theorem dX6_layClashes_33 : decode cX6_layClashes 33 = .ok (.invokevirtual 57, 3) := by decide +kernel
theorem dX6_layClashes_36 : decode cX6_layClashes 36 = .ok (.iastore, 1) := by decide +kernel
theorem dX6_layClashes_37 : decode cX6_layClashes 37 = .ok (.iload_n 1, 1) := by decide +kernel
theorem dX6_layClashes_38 : decode cX6_layClashes 38 = .ok (.iconst 1, 1) := by decide +kernel
theorem dX6_layClashes_39 : decode cX6_layClashes 39 = .ok (.iadd, 1) := by decide +kernel
theorem dX6_layClashes_40 : decode cX6_layClashes 40 = .ok (.istore_n 2, 1) := by decide +kernel
theorem dX6_layClashes_41 : decode cX6_layClashes 41 = .ok (.iload_n 2, 1) := by decide +kernel
theorem dX6_layClashes_42 : decode cX6_layClashes 42 = .ok (.aload_n 0, 1) := by decide +kernel
theorem dX6_layClashes_43 : decode cX6_layClashes 43 = .ok (.getfield 35, 3) := by decide +kernel
theorem dX6_layClashes_46 : decode cX6_layClashes 46 = .ok (.if_icmp .ge 15, 3) := by decide +kernel
theorem dX6_layClashes_49 : decode cX6_layClashes 49 = .ok (.aload_n 0, 1) := by decide +kernel
theorem dX6_layClashes_50 : decode cX6_layClashes 50 = .ok (.iload_n 1, 1) := by decide +kernel
theorem dX6_layClashes_51 : decode cX6_layClashes 51 = .ok (.iload_n 2, 1) := by decide +kernel
theorem dX6_layClashes_52 : decode cX6_layClashes 52 = .ok (.invokevirtual 63, 3) := by decide +kernel
theorem dX6_layClashes_55 : decode cX6_layClashes 55 = .ok (.iinc 2 1, 3) := by decide +kernel
theorem dX6_layClashes_58 : decode cX6_layClashes 58 = .ok (.goto (-17), 3) := by decide +kernel
theorem dX6_layClashes_61 : decode cX6_layClashes 61 = .ok (.iinc 1 1, 3) := by decide +kernel
theorem dX6_layClashes_64 : decode cX6_layClashes 64 = .ok (.goto (-54), 3) := by decide +kernel
theorem dX6_layClashes_67 : decode cX6_layClashes 67 = .ok (.return_, 1) := by decide +kernel
theorem dX6_layClashesOf_0 : decode cX6_layClashesOf 0 = .ok (.aload_n 0, 1) := by decide +kernel
theorem dX6_layClashesOf_1 : decode cX6_layClashesOf 1 = .ok (.getfield 9, 3) := by decide +kernel
theorem dX6_layClashesOf_4 : decode cX6_layClashesOf 4 = .ok (.iload_n 2, 1) := by decide +kernel
theorem dX6_layClashesOf_5 : decode cX6_layClashesOf 5 = .ok (.iaload, 1) := by decide +kernel
theorem dX6_layClashesOf_6 : decode cX6_layClashesOf 6 = .ok (.istore_n 3, 1) := by decide +kernel
theorem dX6_layClashesOf_7 : decode cX6_layClashesOf 7 = .ok (.aload_n 0, 1) := by decide +kernel
theorem dX6_layClashesOf_8 : decode cX6_layClashesOf 8 = .ok (.getfield 9, 3) := by decide +kernel
theorem dX6_layClashesOf_11 : decode cX6_layClashesOf 11 = .ok (.iload_n 1, 1) := by decide +kernel
theorem dX6_layClashesOf_12 : decode cX6_layClashesOf 12 = .ok (.iaload, 1) := by decide +kernel
theorem dX6_layClashesOf_13 : decode cX6_layClashesOf 13 = .ok (.istore 4, 2) := by decide +kernel
theorem dX6_layClashesOf_15 : decode cX6_layClashesOf 15 = .ok (.aload_n 0, 1) := by decide +kernel
theorem dX6_layClashesOf_16 : decode cX6_layClashesOf 16 = .ok (.getfield 27, 3) := by decide +kernel
theorem dX6_layClashesOf_19 : decode cX6_layClashesOf 19 = .ok (.getfield 67, 3) := by decide +kernel
theorem dX6_layClashesOf_22 : decode cX6_layClashesOf 22 = .ok (.iload 4, 2) := by decide +kernel
theorem dX6_layClashesOf_24 : decode cX6_layClashesOf 24 = .ok (.iaload, 1) := by decide +kernel
theorem dX6_layClashesOf_25 : decode cX6_layClashesOf 25 = .ok (.aload_n 0, 1) := by decide +kernel
theorem dX6_layClashesOf_26 : decode cX6_layClashesOf 26 = .ok (.getfield 27, 3) := by decide +kernel
theorem dX6_layClashesOf_29 : decode cX6_layClashesOf 29 = .ok (.getfield 70, 3) := by decide +kernel
theorem dX6_layClashesOf_32 : decode cX6_layClashesOf 32 = .ok (.iload 4, 2) := by decide +kernel
theorem dX6_layClashesOf_34 : decode cX6_layClashesOf 34 = .ok (.iaload, 1) := by decide +kernel
theorem dX6_layClashesOf_35 : decode cX6_layClashesOf 35 = .ok (.iadd, 1) := by decide +kernel
theorem dX6_layClashesOf_36 : decode cX6_layClashesOf 36 = .ok (.istore 5, 2) := by decide +kernel
theorem dX6_layClashesOf_38 : decode cX6_layClashesOf 38 = .ok (.aload_n 0, 1) := by decide +kernel
theorem dX6_layClashesOf_39 : decode cX6_layClashesOf 39 = .ok (.getfield 27, 3) := by decide +kernel
theorem dX6_layClashesOf_42 : decode cX6_layClashesOf 42 = .ok (.getfield 73, 3) := by decide +kernel
theorem dX6_layClashesOf_45 : decode cX6_layClashesOf 45 = .ok (.iload 4, 2) := by decide +kernel
theorem dX6_layClashesOf_47 : decode cX6_layClashesOf 47 = .ok (.iaload, 1) := by decide +kernel
theorem dX6_layClashesOf_48 : decode cX6_layClashesOf 48 = .ok (.istore 6, 2) := by decide +kernel
theorem dX6_layClashesOf_50 : decode cX6_layClashesOf 50 = .ok (.iload 6, 2) := by decide +kernel
theorem dX6_layClashesOf_52 : decode cX6_layClashesOf 52 = .ok (.iload 5, 2) := by decide +kernel
theorem dX6_layClashesOf_54 : decode cX6_layClashesOf 54 = .ok (.if_icmp .ge 131, 3) := by decide +kernel
theorem dX6_layClashesOf_57 : decode cX6_layClashesOf 57 = .ok (.aload_n 0, 1) := by decide +kernel
theorem dX6_layClashesOf_58 : decode cX6_layClashesOf 58 = .ok (.getfield 31, 3) := by decide +kernel
theorem dX6_layClashesOf_61 : decode cX6_layClashesOf 61 = .ok (.iload 4, 2) := by decide +kernel
theorem dX6_layClashesOf_63 : decode cX6_layClashesOf 63 = .ok (.iload 6, 2) := by decide +kernel
theorem dX6_layClashesOf_65 : decode cX6_layClashesOf 65 = .ok (.iload_n 3, 1) := by decide +kernel
theorem dX6_layClashesOf_66 : decode cX6_layClashesOf 66 = .ok (.invokevirtual 76, 3) := by decide +kernel
theorem dX6_layClashesOf_69 : decode cX6_layClashesOf 69 = .ok (.istore 7, 2) := by decide +kernel
theorem dX6_layClashesOf_71 : decode cX6_layClashesOf 71 = .ok (.aload_n 0, 1) := by decide +kernel
theorem dX6_layClashesOf_72 : decode cX6_layClashesOf 72 = .ok (.getfield 31, 3) := by decide +kernel
theorem dX6_layClashesOf_75 : decode cX6_layClashesOf 75 = .ok (.iload_n 3, 1) := by decide +kernel
theorem dX6_layClashesOf_76 : decode cX6_layClashesOf 76 = .ok (.iload 7, 2) := by decide +kernel
theorem dX6_layClashesOf_78 : decode cX6_layClashesOf 78 = .ok (.iload 4, 2) := by decide +kernel
theorem dX6_layClashesOf_80 : decode cX6_layClashesOf 80 = .ok (.iload 6, 2) := by decide +kernel
theorem dX6_layClashesOf_82 : decode cX6_layClashesOf 82 = .ok (.invokevirtual 80, 3) := by decide +kernel
theorem dX6_layClashesOf_85 : decode cX6_layClashesOf 85 = .ok (.istore 8, 2) := by decide +kernel
theorem dX6_layClashesOf_87 : decode cX6_layClashesOf 87 = .ok (.iconst 0, 1) := by decide +kernel
theorem dX6_layClashesOf_88 : decode cX6_layClashesOf 88 = .ok (.istore 9, 2) := by decide +kernel
theorem dX6_layClashesOf_90 : decode cX6_layClashesOf 90 = .ok (.iload 9, 2) := by decide +kernel
theorem dX6_layClashesOf_92 : decode cX6_layClashesOf 92 = .ok (.aload_n 0, 1) := by decide +kernel
theorem dX6_layClashesOf_93 : decode cX6_layClashesOf 93 = .ok (.getfield 27, 3) := by decide +kernel
theorem dX6_layClashesOf_96 : decode cX6_layClashesOf 96 = .ok (.getfield 70, 3) := by decide +kernel
theorem dX6_layClashesOf_99 : decode cX6_layClashesOf 99 = .ok (.iload 4, 2) := by decide +kernel
theorem dX6_layClashesOf_101 : decode cX6_layClashesOf 101 = .ok (.iaload, 1) := by decide +kernel
theorem dX6_layClashesOf_102 : decode cX6_layClashesOf 102 = .ok (.if_icmp .ge 77, 3) := by decide +kernel
theorem dX6_layClashesOf_105 : decode cX6_layClashesOf 105 = .ok (.iload 8, 2) := by decide +kernel
theorem dX6_layClashesOf_107 : decode cX6_layClashesOf 107 = .ok (.iconst (-1), 1) := by decide +kernel
theorem dX6_layClashesOf_108 : decode cX6_layClashesOf 108 = .ok (.if_icmp .eq 71, 3) := by decide +kernel
theorem dX6_layClashesOf_111 : decode cX6_layClashesOf 111 = .ok (.iload 6, 2) := by decide +kernel
theorem dX6_layClashesOf_113 : decode cX6_layClashesOf 113 = .ok (.iload 9, 2) := by decide +kernel
theorem dX6_layClashesOf_115 : decode cX6_layClashesOf 115 = .ok (.isub, 1) := by decide +kernel
theorem dX6_layClashesOf_116 : decode cX6_layClashesOf 116 = .ok (.istore 10, 2) := by decide +kernel
theorem dX6_layClashesOf_118 : decode cX6_layClashesOf 118 = .ok (.aload_n 0, 1) := by decide +kernel
theorem dX6_layClashesOf_119 : decode cX6_layClashesOf 119 = .ok (.getfield 27, 3) := by decide +kernel
theorem dX6_layClashesOf_122 : decode cX6_layClashesOf 122 = .ok (.iload 4, 2) := by decide +kernel
theorem dX6_layClashesOf_124 : decode cX6_layClashesOf 124 = .ok (.iload 10, 2) := by decide +kernel
theorem dX6_layClashesOf_126 : decode cX6_layClashesOf 126 = .ok (.invokevirtual 84, 3) := by decide +kernel
theorem dX6_layClashesOf_129 : decode cX6_layClashesOf 129 = .ok (.ifCond .eq 44, 3) := by decide +kernel
theorem dX6_layClashesOf_132 : decode cX6_layClashesOf 132 = .ok (.aload_n 0, 1) := by decide +kernel
theorem dX6_layClashesOf_133 : decode cX6_layClashesOf 133 = .ok (.getfield 15, 3) := by decide +kernel
theorem dX6_layClashesOf_136 : decode cX6_layClashesOf 136 = .ok (.iload_n 1, 1) := by decide +kernel
theorem dX6_layClashesOf_137 : decode cX6_layClashesOf 137 = .ok (.iload_n 2, 1) := by decide +kernel
theorem dX6_layClashesOf_138 : decode cX6_layClashesOf 138 = .ok (.iload 10, 2) := by decide +kernel
theorem dX6_layClashesOf_140 : decode cX6_layClashesOf 140 = .ok (.invokestatic 88, 3) := by decide +kernel
theorem dX6_layClashesOf_143 : decode cX6_layClashesOf 143 = .ok (.dup2, 1) := by decide +kernel
theorem dX6_layClashesOf_144 : decode cX6_layClashesOf 144 = .ok (.iaload, 1) := by decide +kernel
theorem dX6_layClashesOf_145 : decode cX6_layClashesOf 145 = .ok (.aload_n 0, 1) := by decide +kernel
theorem dX6_layClashesOf_146 : decode cX6_layClashesOf 146 = .ok (.getfield 31, 3) := by decide +kernel
theorem dX6_layClashesOf_149 : decode cX6_layClashesOf 149 = .ok (.iload_n 3, 1) := by decide +kernel
theorem dX6_layClashesOf_150 : decode cX6_layClashesOf 150 = .ok (.iload 7, 2) := by decide +kernel
theorem dX6_layClashesOf_152 : decode cX6_layClashesOf 152 = .ok (.iload 8, 2) := by decide +kernel
theorem dX6_layClashesOf_154 : decode cX6_layClashesOf 154 = .ok (.iload 6, 2) := by decide +kernel
theorem dX6_layClashesOf_156 : decode cX6_layClashesOf 156 = .ok (.aload_n 0, 1) := by decide +kernel
theorem dX6_layClashesOf_157 : decode cX6_layClashesOf 157 = .ok (.getfield 27, 3) := by decide +kernel
theorem dX6_layClashesOf_160 : decode cX6_layClashesOf 160 = .ok (.iload 4, 2) := by decide +kernel
theorem dX6_layClashesOf_162 : decode cX6_layClashesOf 162 = .ok (.iload 9, 2) := by decide +kernel
theorem dX6_layClashesOf_164 : decode cX6_layClashesOf 164 = .ok (.invokevirtual 91, 3) := by decide +kernel
theorem dX6_layClashesOf_167 : decode cX6_layClashesOf 167 = .ok (.iadd, 1) := by decide +kernel
theorem dX6_layClashesOf_168 : decode cX6_layClashesOf 168 = .ok (.invokevirtual 95, 3) := by decide +kernel
theorem dX6_layClashesOf_171 : decode cX6_layClashesOf 171 = .ok (.ior, 1) := by decide +kernel
theorem dX6_layClashesOf_172 : decode cX6_layClashesOf 172 = .ok (.iastore, 1) := by decide +kernel
theorem dX6_layClashesOf_173 : decode cX6_layClashesOf 173 = .ok (.iinc 9 1, 3) := by decide +kernel
theorem dX6_layClashesOf_176 : decode cX6_layClashesOf 176 = .ok (.goto (-86), 3) := by decide +kernel
theorem dX6_layClashesOf_179 : decode cX6_layClashesOf 179 = .ok (.iinc 6 1, 3) := by decide +kernel
theorem dX6_layClashesOf_182 : decode cX6_layClashesOf 182 = .ok (.goto (-132), 3) := by decide +kernel
theorem dX6_layClashesOf_185 : decode cX6_layClashesOf 185 = .ok (.return_, 1) := by decide +kernel
theorem dX6_clashPlace_0 : decode cX6_clashPlace 0 = .ok (.iload_n 0, 1) := by decide +kernel
theorem dX6_clashPlace_1 : decode cX6_clashPlace 1 = .ok (.iconst 5, 1) := by decide +kernel
theorem dX6_clashPlace_2 : decode cX6_clashPlace 2 = .ok (.imul, 1) := by decide +kernel
theorem dX6_clashPlace_3 : decode cX6_clashPlace 3 = .ok (.iload_n 1, 1) := by decide +kernel
theorem dX6_clashPlace_4 : decode cX6_clashPlace 4 = .ok (.iadd, 1) := by decide +kernel
theorem dX6_clashPlace_5 : decode cX6_clashPlace 5 = .ok (.bipush 24, 2) := by decide +kernel
theorem dX6_clashPlace_7 : decode cX6_clashPlace 7 = .ok (.imul, 1) := by decide +kernel
theorem dX6_clashPlace_8 : decode cX6_clashPlace 8 = .ok (.iload_n 2, 1) := by decide +kernel
theorem dX6_clashPlace_9 : decode cX6_clashPlace 9 = .ok (.iadd, 1) := by decide +kernel
theorem dX6_clashPlace_10 : decode cX6_clashPlace 10 = .ok (.ireturn, 1) := by decide +kernel
theorem dX6_chimneysOf_0 : decode cX6_chimneysOf 0 = .ok (.iconst 0, 1) := by decide +kernel
theorem dX6_chimneysOf_1 : decode cX6_chimneysOf 1 = .ok (.istore_n 2, 1) := by decide +kernel
theorem dX6_chimneysOf_2 : decode cX6_chimneysOf 2 = .ok (.iconst 0, 1) := by decide +kernel
theorem dX6_chimneysOf_3 : decode cX6_chimneysOf 3 = .ok (.istore_n 3, 1) := by decide +kernel
theorem dX6_chimneysOf_4 : decode cX6_chimneysOf 4 = .ok (.iload_n 3, 1) := by decide +kernel
theorem dX6_chimneysOf_5 : decode cX6_chimneysOf 5 = .ok (.aload_n 0, 1) := by decide +kernel
theorem dX6_chimneysOf_6 : decode cX6_chimneysOf 6 = .ok (.getfield 35, 3) := by decide +kernel
theorem dX6_chimneysOf_9 : decode cX6_chimneysOf 9 = .ok (.if_icmp .ge 28, 3) := by decide +kernel
theorem dX6_chimneysOf_12 : decode cX6_chimneysOf 12 = .ok (.iload_n 1, 1) := by decide +kernel
theorem dX6_chimneysOf_13 : decode cX6_chimneysOf 13 = .ok (.iload_n 3, 1) := by decide +kernel
theorem dX6_chimneysOf_14 : decode cX6_chimneysOf 14 = .ok (.ishr, 1) := by decide +kernel
theorem dX6_chimneysOf_15 : decode cX6_chimneysOf 15 = .ok (.iconst 1, 1) := by decide +kernel
theorem dX6_chimneysOf_16 : decode cX6_chimneysOf 16 = .ok (.iand, 1) := by decide +kernel
theorem dX6_chimneysOf_17 : decode cX6_chimneysOf 17 = .ok (.ifCond .eq 14, 3) := by decide +kernel
theorem dX6_chimneysOf_20 : decode cX6_chimneysOf 20 = .ok (.iload_n 2, 1) := by decide +kernel
theorem dX6_chimneysOf_21 : decode cX6_chimneysOf 21 = .ok (.iconst 1, 1) := by decide +kernel
theorem dX6_chimneysOf_22 : decode cX6_chimneysOf 22 = .ok (.aload_n 0, 1) := by decide +kernel
theorem dX6_chimneysOf_23 : decode cX6_chimneysOf 23 = .ok (.getfield 9, 3) := by decide +kernel
theorem dX6_chimneysOf_26 : decode cX6_chimneysOf 26 = .ok (.iload_n 3, 1) := by decide +kernel
theorem dX6_chimneysOf_27 : decode cX6_chimneysOf 27 = .ok (.iaload, 1) := by decide +kernel
theorem dX6_chimneysOf_28 : decode cX6_chimneysOf 28 = .ok (.ishl, 1) := by decide +kernel
theorem dX6_chimneysOf_29 : decode cX6_chimneysOf 29 = .ok (.ior, 1) := by decide +kernel
theorem dX6_chimneysOf_30 : decode cX6_chimneysOf 30 = .ok (.istore_n 2, 1) := by decide +kernel
theorem dX6_chimneysOf_31 : decode cX6_chimneysOf 31 = .ok (.iinc 3 1, 3) := by decide +kernel
theorem dX6_chimneysOf_34 : decode cX6_chimneysOf 34 = .ok (.goto (-30), 3) := by decide +kernel
theorem dX6_chimneysOf_37 : decode cX6_chimneysOf 37 = .ok (.iload_n 2, 1) := by decide +kernel
theorem dX6_chimneysOf_38 : decode cX6_chimneysOf 38 = .ok (.ireturn, 1) := by decide +kernel
theorem dX6_shutSet_0 : decode cX6_shutSet 0 = .ok (.iconst 1, 1) := by decide +kernel
theorem dX6_shutSet_1 : decode cX6_shutSet 1 = .ok (.istore_n 1, 1) := by decide +kernel
theorem dX6_shutSet_2 : decode cX6_shutSet 2 = .ok (.iload_n 1, 1) := by decide +kernel
theorem dX6_shutSet_3 : decode cX6_shutSet 3 = .ok (.aload_n 0, 1) := by decide +kernel
theorem dX6_shutSet_4 : decode cX6_shutSet 4 = .ok (.getfield 35, 3) := by decide +kernel
theorem dX6_shutSet_7 : decode cX6_shutSet 7 = .ok (.if_icmp .gt 46, 3) := by decide +kernel
theorem dX6_shutSet_10 : decode cX6_shutSet 10 = .ok (.iconst 1, 1) := by decide +kernel
theorem dX6_shutSet_11 : decode cX6_shutSet 11 = .ok (.istore_n 2, 1) := by decide +kernel
theorem dX6_shutSet_12 : decode cX6_shutSet 12 = .ok (.iload_n 2, 1) := by decide +kernel
theorem dX6_shutSet_13 : decode cX6_shutSet 13 = .ok (.iconst 1, 1) := by decide +kernel
theorem dX6_shutSet_14 : decode cX6_shutSet 14 = .ok (.aload_n 0, 1) := by decide +kernel
theorem dX6_shutSet_15 : decode cX6_shutSet 15 = .ok (.getfield 35, 3) := by decide +kernel
theorem dX6_shutSet_18 : decode cX6_shutSet 18 = .ok (.ishl, 1) := by decide +kernel
theorem dX6_shutSet_19 : decode cX6_shutSet 19 = .ok (.if_icmp .ge 28, 3) := by decide +kernel
theorem dX6_shutSet_22 : decode cX6_shutSet 22 = .ok (.iload_n 2, 1) := by decide +kernel
theorem dX6_shutSet_23 : decode cX6_shutSet 23 = .ok (.invokestatic 98, 3) := by decide +kernel
theorem dX6_shutSet_26 : decode cX6_shutSet 26 = .ok (.iload_n 1, 1) := by decide +kernel
theorem dX6_shutSet_27 : decode cX6_shutSet 27 = .ok (.if_icmp .ne 14, 3) := by decide +kernel
theorem dX6_shutSet_30 : decode cX6_shutSet 30 = .ok (.aload_n 0, 1) := by decide +kernel
theorem dX6_shutSet_31 : decode cX6_shutSet 31 = .ok (.iconst 0, 1) := by decide +kernel
theorem dX6_shutSet_32 : decode cX6_shutSet 32 = .ok (.iload_n 2, 1) := by decide +kernel
theorem dX6_shutSet_33 : decode cX6_shutSet 33 = .ok (.invokevirtual 103, 3) := by decide +kernel
theorem dX6_shutSet_36 : decode cX6_shutSet 36 = .ok (.ifCond .ne 5, 3) := by decide +kernel
theorem dX6_shutSet_39 : decode cX6_shutSet 39 = .ok (.iload_n 2, 1) := by decide +kernel
theorem dX6_shutSet_40 : decode cX6_shutSet 40 = .ok (.ireturn, 1) := by decide +kernel
theorem dX6_shutSet_41 : decode cX6_shutSet 41 = .ok (.iinc 2 1, 3) := by decide +kernel
theorem dX6_shutSet_44 : decode cX6_shutSet 44 = .ok (.goto (-32), 3) := by decide +kernel
theorem dX6_shutSet_47 : decode cX6_shutSet 47 = .ok (.iinc 1 1, 3) := by decide +kernel
theorem dX6_shutSet_50 : decode cX6_shutSet 50 = .ok (.goto (-48), 3) := by decide +kernel
theorem dX6_shutSet_53 : decode cX6_shutSet 53 = .ok (.iconst 0, 1) := by decide +kernel
theorem dX6_shutSet_54 : decode cX6_shutSet 54 = .ok (.ireturn, 1) := by decide +kernel
theorem dX6_greatestSet_0 : decode cX6_greatestSet 0 = .ok (.iconst 0, 1) := by decide +kernel
theorem dX6_greatestSet_1 : decode cX6_greatestSet 1 = .ok (.istore_n 2, 1) := by decide +kernel
theorem dX6_greatestSet_2 : decode cX6_greatestSet 2 = .ok (.iload_n 2, 1) := by decide +kernel
theorem dX6_greatestSet_3 : decode cX6_greatestSet 3 = .ok (.aload_n 0, 1) := by decide +kernel
theorem dX6_greatestSet_4 : decode cX6_greatestSet 4 = .ok (.getfield 35, 3) := by decide +kernel
theorem dX6_greatestSet_7 : decode cX6_greatestSet 7 = .ok (.if_icmp .ge 23, 3) := by decide +kernel
theorem dX6_greatestSet_10 : decode cX6_greatestSet 10 = .ok (.aload_n 0, 1) := by decide +kernel
theorem dX6_greatestSet_11 : decode cX6_greatestSet 11 = .ok (.getfield 18, 3) := by decide +kernel
theorem dX6_greatestSet_14 : decode cX6_greatestSet 14 = .ok (.iload_n 2, 1) := by decide +kernel
theorem dX6_greatestSet_15 : decode cX6_greatestSet 15 = .ok (.dup2, 1) := by decide +kernel
theorem dX6_greatestSet_16 : decode cX6_greatestSet 16 = .ok (.iaload, 1) := by decide +kernel
theorem dX6_greatestSet_17 : decode cX6_greatestSet 17 = .ok (.iconst 2, 1) := by decide +kernel
theorem dX6_greatestSet_18 : decode cX6_greatestSet 18 = .ok (.iload_n 1, 1) := by decide +kernel
theorem dX6_greatestSet_19 : decode cX6_greatestSet 19 = .ok (.ishl, 1) := by decide +kernel
theorem dX6_greatestSet_20 : decode cX6_greatestSet 20 = .ok (.iconst 1, 1) := by decide +kernel
theorem dX6_greatestSet_21 : decode cX6_greatestSet 21 = .ok (.isub, 1) := by decide +kernel
theorem dX6_greatestSet_22 : decode cX6_greatestSet 22 = .ok (.iand, 1) := by decide +kernel
theorem dX6_greatestSet_23 : decode cX6_greatestSet 23 = .ok (.iastore, 1) := by decide +kernel
theorem dX6_greatestSet_24 : decode cX6_greatestSet 24 = .ok (.iinc 2 1, 3) := by decide +kernel
theorem dX6_greatestSet_27 : decode cX6_greatestSet 27 = .ok (.goto (-25), 3) := by decide +kernel
theorem dX6_greatestSet_30 : decode cX6_greatestSet 30 = .ok (.aload_n 0, 1) := by decide +kernel
theorem dX6_greatestSet_31 : decode cX6_greatestSet 31 = .ok (.getfield 35, 3) := by decide +kernel
theorem dX6_greatestSet_34 : decode cX6_greatestSet 34 = .ok (.istore_n 2, 1) := by decide +kernel
theorem dX6_greatestSet_35 : decode cX6_greatestSet 35 = .ok (.iload_n 2, 1) := by decide +kernel
theorem dX6_greatestSet_36 : decode cX6_greatestSet 36 = .ok (.ifCond .le 46, 3) := by decide +kernel
theorem dX6_greatestSet_39 : decode cX6_greatestSet 39 = .ok (.iconst 1, 1) := by decide +kernel
theorem dX6_greatestSet_40 : decode cX6_greatestSet 40 = .ok (.istore_n 3, 1) := by decide +kernel
theorem dX6_greatestSet_41 : decode cX6_greatestSet 41 = .ok (.iload_n 3, 1) := by decide +kernel
theorem dX6_greatestSet_42 : decode cX6_greatestSet 42 = .ok (.iconst 1, 1) := by decide +kernel
theorem dX6_greatestSet_43 : decode cX6_greatestSet 43 = .ok (.aload_n 0, 1) := by decide +kernel
theorem dX6_greatestSet_44 : decode cX6_greatestSet 44 = .ok (.getfield 35, 3) := by decide +kernel
theorem dX6_greatestSet_47 : decode cX6_greatestSet 47 = .ok (.ishl, 1) := by decide +kernel
theorem dX6_greatestSet_48 : decode cX6_greatestSet 48 = .ok (.if_icmp .ge 28, 3) := by decide +kernel
theorem dX6_greatestSet_51 : decode cX6_greatestSet 51 = .ok (.iload_n 3, 1) := by decide +kernel
theorem dX6_greatestSet_52 : decode cX6_greatestSet 52 = .ok (.invokestatic 98, 3) := by decide +kernel
theorem dX6_greatestSet_55 : decode cX6_greatestSet 55 = .ok (.iload_n 2, 1) := by decide +kernel
theorem dX6_greatestSet_56 : decode cX6_greatestSet 56 = .ok (.if_icmp .ne 14, 3) := by decide +kernel
theorem dX6_greatestSet_59 : decode cX6_greatestSet 59 = .ok (.aload_n 0, 1) := by decide +kernel
theorem dX6_greatestSet_60 : decode cX6_greatestSet 60 = .ok (.iconst 0, 1) := by decide +kernel
theorem dX6_greatestSet_61 : decode cX6_greatestSet 61 = .ok (.iload_n 3, 1) := by decide +kernel
theorem dX6_greatestSet_62 : decode cX6_greatestSet 62 = .ok (.invokevirtual 103, 3) := by decide +kernel
theorem dX6_greatestSet_65 : decode cX6_greatestSet 65 = .ok (.ifCond .eq 5, 3) := by decide +kernel
theorem dX6_greatestSet_68 : decode cX6_greatestSet 68 = .ok (.iload_n 3, 1) := by decide +kernel
theorem dX6_greatestSet_69 : decode cX6_greatestSet 69 = .ok (.ireturn, 1) := by decide +kernel
theorem dX6_greatestSet_70 : decode cX6_greatestSet 70 = .ok (.iinc 3 1, 3) := by decide +kernel
theorem dX6_greatestSet_73 : decode cX6_greatestSet 73 = .ok (.goto (-32), 3) := by decide +kernel
theorem dX6_greatestSet_76 : decode cX6_greatestSet 76 = .ok (.iinc 2 (-1), 3) := by decide +kernel
theorem dX6_greatestSet_79 : decode cX6_greatestSet 79 = .ok (.goto (-44), 3) := by decide +kernel
theorem dX6_greatestSet_82 : decode cX6_greatestSet 82 = .ok (.iconst 0, 1) := by decide +kernel
theorem dX6_greatestSet_83 : decode cX6_greatestSet 83 = .ok (.ireturn, 1) := by decide +kernel
theorem dX6_firstOf_0 : decode cX6_firstOf 0 = .ok (.iload_n 0, 1) := by decide +kernel
theorem dX6_firstOf_1 : decode cX6_firstOf 1 = .ok (.invokestatic 106, 3) := by decide +kernel
theorem dX6_firstOf_4 : decode cX6_firstOf 4 = .ok (.iconst 4, 1) := by decide +kernel
theorem dX6_firstOf_5 : decode cX6_firstOf 5 = .ok (.invokestatic 109, 3) := by decide +kernel
theorem dX6_firstOf_8 : decode cX6_firstOf 8 = .ok (.ireturn, 1) := by decide +kernel
theorem dX6_isOpen_0 : decode cX6_isOpen 0 = .ok (.aload_n 0, 1) := by decide +kernel
theorem dX6_isOpen_1 : decode cX6_isOpen 1 = .ok (.getfield 18, 3) := by decide +kernel
theorem dX6_isOpen_4 : decode cX6_isOpen 4 = .ok (.iload_n 1, 1) := by decide +kernel
theorem dX6_isOpen_5 : decode cX6_isOpen 5 = .ok (.iconst 5, 1) := by decide +kernel
theorem dX6_isOpen_6 : decode cX6_isOpen 6 = .ok (.imul, 1) := by decide +kernel
theorem dX6_isOpen_7 : decode cX6_isOpen 7 = .ok (.iload_n 2, 1) := by decide +kernel
theorem dX6_isOpen_8 : decode cX6_isOpen 8 = .ok (.iadd, 1) := by decide +kernel
theorem dX6_isOpen_9 : decode cX6_isOpen 9 = .ok (.iaload, 1) := by decide +kernel
theorem dX6_isOpen_10 : decode cX6_isOpen 10 = .ok (.iload_n 3, 1) := by decide +kernel
theorem dX6_isOpen_11 : decode cX6_isOpen 11 = .ok (.ishr, 1) := by decide +kernel
theorem dX6_isOpen_12 : decode cX6_isOpen 12 = .ok (.iconst 1, 1) := by decide +kernel
theorem dX6_isOpen_13 : decode cX6_isOpen 13 = .ok (.iand, 1) := by decide +kernel
theorem dX6_isOpen_14 : decode cX6_isOpen 14 = .ok (.ifCond .eq 7, 3) := by decide +kernel
theorem dX6_isOpen_17 : decode cX6_isOpen 17 = .ok (.iconst 1, 1) := by decide +kernel
theorem dX6_isOpen_18 : decode cX6_isOpen 18 = .ok (.goto 4, 3) := by decide +kernel
theorem dX6_isOpen_21 : decode cX6_isOpen 21 = .ok (.iconst 0, 1) := by decide +kernel
theorem dX6_isOpen_22 : decode cX6_isOpen 22 = .ok (.ireturn, 1) := by decide +kernel
theorem dX6_narrow_0 : decode cX6_narrow 0 = .ok (.iload_n 2, 1) := by decide +kernel
theorem dX6_narrow_1 : decode cX6_narrow 1 = .ok (.iconst 1, 1) := by decide +kernel
theorem dX6_narrow_2 : decode cX6_narrow 2 = .ok (.iadd, 1) := by decide +kernel
theorem dX6_narrow_3 : decode cX6_narrow 3 = .ok (.istore 5, 2) := by decide +kernel
theorem dX6_narrow_5 : decode cX6_narrow 5 = .ok (.iload 5, 2) := by decide +kernel
theorem dX6_narrow_7 : decode cX6_narrow 7 = .ok (.aload_n 0, 1) := by decide +kernel
theorem dX6_narrow_8 : decode cX6_narrow 8 = .ok (.getfield 35, 3) := by decide +kernel
theorem dX6_narrow_11 : decode cX6_narrow 11 = .ok (.if_icmp .ge 69, 3) := by decide +kernel
theorem dX6_narrow_14 : decode cX6_narrow 14 = .ok (.iload 4, 2) := by decide +kernel
theorem dX6_narrow_16 : decode cX6_narrow 16 = .ok (.iload 5, 2) := by decide +kernel
theorem dX6_narrow_18 : decode cX6_narrow 18 = .ok (.ishr, 1) := by decide +kernel
theorem dX6_narrow_19 : decode cX6_narrow 19 = .ok (.iconst 1, 1) := by decide +kernel
theorem dX6_narrow_20 : decode cX6_narrow 20 = .ok (.iand, 1) := by decide +kernel
theorem dX6_narrow_21 : decode cX6_narrow 21 = .ok (.ifCond .eq 53, 3) := by decide +kernel
theorem dX6_narrow_24 : decode cX6_narrow 24 = .ok (.aload_n 0, 1) := by decide +kernel
theorem dX6_narrow_25 : decode cX6_narrow 25 = .ok (.getfield 18, 3) := by decide +kernel
theorem dX6_narrow_28 : decode cX6_narrow 28 = .ok (.iload_n 1, 1) := by decide +kernel
theorem dX6_narrow_29 : decode cX6_narrow 29 = .ok (.iconst 5, 1) := by decide +kernel
theorem dX6_narrow_30 : decode cX6_narrow 30 = .ok (.imul, 1) := by decide +kernel
theorem dX6_narrow_31 : decode cX6_narrow 31 = .ok (.iload 5, 2) := by decide +kernel
theorem dX6_narrow_33 : decode cX6_narrow 33 = .ok (.iadd, 1) := by decide +kernel
theorem dX6_narrow_34 : decode cX6_narrow 34 = .ok (.iaload, 1) := by decide +kernel
theorem dX6_narrow_35 : decode cX6_narrow 35 = .ok (.aload_n 0, 1) := by decide +kernel
theorem dX6_narrow_36 : decode cX6_narrow 36 = .ok (.getfield 15, 3) := by decide +kernel
theorem dX6_narrow_39 : decode cX6_narrow 39 = .ok (.iload_n 2, 1) := by decide +kernel
theorem dX6_narrow_40 : decode cX6_narrow 40 = .ok (.iload 5, 2) := by decide +kernel
theorem dX6_narrow_42 : decode cX6_narrow 42 = .ok (.iload_n 3, 1) := by decide +kernel
theorem dX6_narrow_43 : decode cX6_narrow 43 = .ok (.invokestatic 88, 3) := by decide +kernel
theorem dX6_narrow_46 : decode cX6_narrow 46 = .ok (.iaload, 1) := by decide +kernel
theorem dX6_narrow_47 : decode cX6_narrow 47 = .ok (.iconst (-1), 1) := by decide +kernel
theorem dX6_narrow_48 : decode cX6_narrow 48 = .ok (.ixor, 1) := by decide +kernel
theorem dX6_narrow_49 : decode cX6_narrow 49 = .ok (.iand, 1) := by decide +kernel
theorem dX6_narrow_50 : decode cX6_narrow 50 = .ok (.istore 6, 2) := by decide +kernel
theorem dX6_narrow_52 : decode cX6_narrow 52 = .ok (.iload 6, 2) := by decide +kernel
theorem dX6_narrow_54 : decode cX6_narrow 54 = .ok (.ifCond .ne 5, 3) := by decide +kernel
theorem dX6_narrow_57 : decode cX6_narrow 57 = .ok (.iconst 0, 1) := by decide +kernel
theorem dX6_narrow_58 : decode cX6_narrow 58 = .ok (.ireturn, 1) := by decide +kernel
theorem dX6_narrow_59 : decode cX6_narrow 59 = .ok (.aload_n 0, 1) := by decide +kernel
theorem dX6_narrow_60 : decode cX6_narrow 60 = .ok (.getfield 18, 3) := by decide +kernel
theorem dX6_narrow_63 : decode cX6_narrow 63 = .ok (.iload_n 1, 1) := by decide +kernel
theorem dX6_narrow_64 : decode cX6_narrow 64 = .ok (.iconst 1, 1) := by decide +kernel
theorem dX6_narrow_65 : decode cX6_narrow 65 = .ok (.iadd, 1) := by decide +kernel
theorem dX6_narrow_66 : decode cX6_narrow 66 = .ok (.iconst 5, 1) := by decide +kernel
theorem dX6_narrow_67 : decode cX6_narrow 67 = .ok (.imul, 1) := by decide +kernel
theorem dX6_narrow_68 : decode cX6_narrow 68 = .ok (.iload 5, 2) := by decide +kernel
theorem dX6_narrow_70 : decode cX6_narrow 70 = .ok (.iadd, 1) := by decide +kernel
theorem dX6_narrow_71 : decode cX6_narrow 71 = .ok (.iload 6, 2) := by decide +kernel
theorem dX6_narrow_73 : decode cX6_narrow 73 = .ok (.iastore, 1) := by decide +kernel
theorem dX6_narrow_74 : decode cX6_narrow 74 = .ok (.iinc 5 1, 3) := by decide +kernel
theorem dX6_narrow_77 : decode cX6_narrow 77 = .ok (.goto (-72), 3) := by decide +kernel
theorem dX6_narrow_80 : decode cX6_narrow 80 = .ok (.iconst 1, 1) := by decide +kernel
theorem dX6_narrow_81 : decode cX6_narrow 81 = .ok (.ireturn, 1) := by decide +kernel
theorem dX6_canLight_0 : decode cX6_canLight 0 = .ok (.iload_n 2, 1) := by decide +kernel
theorem dX6_canLight_1 : decode cX6_canLight 1 = .ok (.ifCond .eq 8, 3) := by decide +kernel
theorem dX6_canLight_4 : decode cX6_canLight 4 = .ok (.iload_n 1, 1) := by decide +kernel
theorem dX6_canLight_5 : decode cX6_canLight 5 = .ok (.iconst 5, 1) := by decide +kernel
theorem dX6_canLight_6 : decode cX6_canLight 6 = .ok (.if_icmp .lt 5, 3) := by decide +kernel
theorem dX6_canLight_9 : decode cX6_canLight 9 = .ok (.iconst 1, 1) := by decide +kernel
theorem dX6_canLight_10 : decode cX6_canLight 10 = .ok (.ireturn, 1) := by decide +kernel
theorem dX6_canLight_11 : decode cX6_canLight 11 = .ok (.iload_n 2, 1) := by decide +kernel
theorem dX6_canLight_12 : decode cX6_canLight 12 = .ok (.invokestatic 114, 3) := by decide +kernel
theorem dX6_canLight_15 : decode cX6_canLight 15 = .ok (.istore_n 3, 1) := by decide +kernel
theorem dX6_canLight_16 : decode cX6_canLight 16 = .ok (.iload_n 2, 1) := by decide +kernel
theorem dX6_canLight_17 : decode cX6_canLight 17 = .ok (.iload_n 2, 1) := by decide +kernel
theorem dX6_canLight_18 : decode cX6_canLight 18 = .ok (.iconst 1, 1) := by decide +kernel
theorem dX6_canLight_19 : decode cX6_canLight 19 = .ok (.isub, 1) := by decide +kernel
theorem dX6_canLight_20 : decode cX6_canLight 20 = .ok (.iand, 1) := by decide +kernel
theorem dX6_canLight_21 : decode cX6_canLight 21 = .ok (.istore 4, 2) := by decide +kernel
theorem dX6_canLight_23 : decode cX6_canLight 23 = .ok (.iconst 0, 1) := by decide +kernel
theorem dX6_canLight_24 : decode cX6_canLight 24 = .ok (.istore 5, 2) := by decide +kernel
theorem dX6_canLight_26 : decode cX6_canLight 26 = .ok (.iload 5, 2) := by decide +kernel
theorem dX6_canLight_28 : decode cX6_canLight 28 = .ok (.bipush 24, 2) := by decide +kernel
theorem dX6_canLight_30 : decode cX6_canLight 30 = .ok (.if_icmp .ge 47, 3) := by decide +kernel
theorem dX6_canLight_33 : decode cX6_canLight 33 = .ok (.aload_n 0, 1) := by decide +kernel
theorem dX6_canLight_34 : decode cX6_canLight 34 = .ok (.iload_n 1, 1) := by decide +kernel
theorem dX6_canLight_35 : decode cX6_canLight 35 = .ok (.iload_n 3, 1) := by decide +kernel
theorem dX6_canLight_36 : decode cX6_canLight 36 = .ok (.iload 5, 2) := by decide +kernel
theorem dX6_canLight_38 : decode cX6_canLight 38 = .ok (.invokevirtual 117, 3) := by decide +kernel
theorem dX6_canLight_41 : decode cX6_canLight 41 = .ok (.ifCond .eq 30, 3) := by decide +kernel
theorem dX6_canLight_44 : decode cX6_canLight 44 = .ok (.aload_n 0, 1) := by decide +kernel
theorem dX6_canLight_45 : decode cX6_canLight 45 = .ok (.iload_n 1, 1) := by decide +kernel
theorem dX6_canLight_46 : decode cX6_canLight 46 = .ok (.iload_n 3, 1) := by decide +kernel
theorem dX6_canLight_47 : decode cX6_canLight 47 = .ok (.iload 5, 2) := by decide +kernel
theorem dX6_canLight_49 : decode cX6_canLight 49 = .ok (.iload 4, 2) := by decide +kernel
theorem dX6_canLight_51 : decode cX6_canLight 51 = .ok (.invokevirtual 121, 3) := by decide +kernel
theorem dX6_canLight_54 : decode cX6_canLight 54 = .ok (.ifCond .eq 17, 3) := by decide +kernel
theorem dX6_canLight_57 : decode cX6_canLight 57 = .ok (.aload_n 0, 1) := by decide +kernel
theorem dX6_canLight_58 : decode cX6_canLight 58 = .ok (.iload_n 1, 1) := by decide +kernel
theorem dX6_canLight_59 : decode cX6_canLight 59 = .ok (.iconst 1, 1) := by decide +kernel
theorem dX6_canLight_60 : decode cX6_canLight 60 = .ok (.iadd, 1) := by decide +kernel
theorem dX6_canLight_61 : decode cX6_canLight 61 = .ok (.iload 4, 2) := by decide +kernel
theorem dX6_canLight_63 : decode cX6_canLight 63 = .ok (.invokevirtual 103, 3) := by decide +kernel
theorem dX6_canLight_66 : decode cX6_canLight 66 = .ok (.ifCond .eq 5, 3) := by decide +kernel
theorem dX6_canLight_69 : decode cX6_canLight 69 = .ok (.iconst 1, 1) := by decide +kernel
theorem dX6_canLight_70 : decode cX6_canLight 70 = .ok (.ireturn, 1) := by decide +kernel
theorem dX6_canLight_71 : decode cX6_canLight 71 = .ok (.iinc 5 1, 3) := by decide +kernel
theorem dX6_canLight_74 : decode cX6_canLight 74 = .ok (.goto (-48), 3) := by decide +kernel
theorem dX6_canLight_77 : decode cX6_canLight 77 = .ok (.iconst 0, 1) := by decide +kernel
theorem dX6_canLight_78 : decode cX6_canLight 78 = .ok (.ireturn, 1) := by decide +kernel
theorem dX6_tallyPlans_0 : decode cX6_tallyPlans 0 = .ok (.aload_n 0, 1) := by decide +kernel
theorem dX6_tallyPlans_1 : decode cX6_tallyPlans 1 = .ok (.getfield 35, 3) := by decide +kernel
theorem dX6_tallyPlans_4 : decode cX6_tallyPlans 4 = .ok (.ifCond .ne 5, 3) := by decide +kernel
theorem dX6_tallyPlans_7 : decode cX6_tallyPlans 7 = .ok (.iconst 1, 1) := by decide +kernel
theorem dX6_tallyPlans_8 : decode cX6_tallyPlans 8 = .ok (.ireturn, 1) := by decide +kernel
theorem dX6_tallyPlans_9 : decode cX6_tallyPlans 9 = .ok (.aload_n 0, 1) := by decide +kernel
theorem dX6_tallyPlans_10 : decode cX6_tallyPlans 10 = .ok (.iconst 0, 1) := by decide +kernel
theorem dX6_tallyPlans_11 : decode cX6_tallyPlans 11 = .ok (.putfield 125, 3) := by decide +kernel
theorem dX6_tallyPlans_14 : decode cX6_tallyPlans 14 = .ok (.aload_n 0, 1) := by decide +kernel
theorem dX6_tallyPlans_15 : decode cX6_tallyPlans 15 = .ok (.invokevirtual 128, 3) := by decide +kernel
theorem dX6_tallyPlans_18 : decode cX6_tallyPlans 18 = .ok (.ifCond .ne 16, 3) := by decide +kernel
theorem dX6_tallyPlans_21 : decode cX6_tallyPlans 21 = .ok (.aload_n 0, 1) := by decide +kernel
theorem dX6_tallyPlans_22 : decode cX6_tallyPlans 22 = .ok (.iconst 0, 1) := by decide +kernel
theorem dX6_tallyPlans_23 : decode cX6_tallyPlans 23 = .ok (.iconst 1, 1) := by decide +kernel
theorem dX6_tallyPlans_24 : decode cX6_tallyPlans 24 = .ok (.aload_n 0, 1) := by decide +kernel
theorem dX6_tallyPlans_25 : decode cX6_tallyPlans 25 = .ok (.getfield 35, 3) := by decide +kernel
theorem dX6_tallyPlans_28 : decode cX6_tallyPlans 28 = .ok (.ishl, 1) := by decide +kernel
theorem dX6_tallyPlans_29 : decode cX6_tallyPlans 29 = .ok (.iconst 1, 1) := by decide +kernel
theorem dX6_tallyPlans_30 : decode cX6_tallyPlans 30 = .ok (.isub, 1) := by decide +kernel
theorem dX6_tallyPlans_31 : decode cX6_tallyPlans 31 = .ok (.invokevirtual 132, 3) := by decide +kernel
theorem dX6_tallyPlans_34 : decode cX6_tallyPlans 34 = .ok (.aload_n 0, 1) := by decide +kernel
theorem dX6_tallyPlans_35 : decode cX6_tallyPlans 35 = .ok (.getfield 125, 3) := by decide +kernel
theorem dX6_tallyPlans_38 : decode cX6_tallyPlans 38 = .ok (.ldc 135, 2) := by decide +kernel
theorem dX6_tallyPlans_40 : decode cX6_tallyPlans 40 = .ok (.invokestatic 109, 3) := by decide +kernel
theorem dX6_tallyPlans_43 : decode cX6_tallyPlans 43 = .ok (.ireturn, 1) := by decide +kernel
theorem dX6_addPlans_0 : decode cX6_addPlans 0 = .ok (.iload_n 2, 1) := by decide +kernel
theorem dX6_addPlans_1 : decode cX6_addPlans 1 = .ok (.ifCond .eq 8, 3) := by decide +kernel
theorem dX6_addPlans_4 : decode cX6_addPlans 4 = .ok (.iload_n 1, 1) := by decide +kernel
theorem dX6_addPlans_5 : decode cX6_addPlans 5 = .ok (.iconst 5, 1) := by decide +kernel
theorem dX6_addPlans_6 : decode cX6_addPlans 6 = .ok (.if_icmp .lt 4, 3) := by decide +kernel
theorem dX6_addPlans_9 : decode cX6_addPlans 9 = .ok (.return_, 1) := by decide +kernel
theorem dX6_addPlans_10 : decode cX6_addPlans 10 = .ok (.iload_n 2, 1) := by decide +kernel
theorem dX6_addPlans_11 : decode cX6_addPlans 11 = .ok (.invokestatic 114, 3) := by decide +kernel
theorem dX6_addPlans_14 : decode cX6_addPlans 14 = .ok (.istore_n 3, 1) := by decide +kernel
theorem dX6_addPlans_15 : decode cX6_addPlans 15 = .ok (.iload_n 2, 1) := by decide +kernel
theorem dX6_addPlans_16 : decode cX6_addPlans 16 = .ok (.iload_n 2, 1) := by decide +kernel
theorem dX6_addPlans_17 : decode cX6_addPlans 17 = .ok (.iconst 1, 1) := by decide +kernel
theorem dX6_addPlans_18 : decode cX6_addPlans 18 = .ok (.isub, 1) := by decide +kernel
theorem dX6_addPlans_19 : decode cX6_addPlans 19 = .ok (.iand, 1) := by decide +kernel
theorem dX6_addPlans_20 : decode cX6_addPlans 20 = .ok (.istore 4, 2) := by decide +kernel
theorem dX6_addPlans_22 : decode cX6_addPlans 22 = .ok (.iload 4, 2) := by decide +kernel
theorem dX6_addPlans_24 : decode cX6_addPlans 24 = .ok (.ifCond .ne 26, 3) := by decide +kernel
theorem dX6_addPlans_27 : decode cX6_addPlans 27 = .ok (.aload_n 0, 1) := by decide +kernel
theorem dX6_addPlans_28 : decode cX6_addPlans 28 = .ok (.dup, 1) := by decide +kernel
theorem dX6_addPlans_29 : decode cX6_addPlans 29 = .ok (.getfield 125, 3) := by decide +kernel
theorem dX6_addPlans_32 : decode cX6_addPlans 32 = .ok (.aload_n 0, 1) := by decide +kernel
theorem dX6_addPlans_33 : decode cX6_addPlans 33 = .ok (.getfield 18, 3) := by decide +kernel
theorem dX6_addPlans_36 : decode cX6_addPlans 36 = .ok (.iload_n 1, 1) := by decide +kernel
theorem dX6_addPlans_37 : decode cX6_addPlans 37 = .ok (.iconst 5, 1) := by decide +kernel
theorem dX6_addPlans_38 : decode cX6_addPlans 38 = .ok (.imul, 1) := by decide +kernel
theorem dX6_addPlans_39 : decode cX6_addPlans 39 = .ok (.iload_n 3, 1) := by decide +kernel
theorem dX6_addPlans_40 : decode cX6_addPlans 40 = .ok (.iadd, 1) := by decide +kernel
theorem dX6_addPlans_41 : decode cX6_addPlans 41 = .ok (.iaload, 1) := by decide +kernel
theorem dX6_addPlans_42 : decode cX6_addPlans 42 = .ok (.invokestatic 98, 3) := by decide +kernel
theorem dX6_addPlans_45 : decode cX6_addPlans 45 = .ok (.iadd, 1) := by decide +kernel
theorem dX6_addPlans_46 : decode cX6_addPlans 46 = .ok (.putfield 125, 3) := by decide +kernel
theorem dX6_addPlans_49 : decode cX6_addPlans 49 = .ok (.return_, 1) := by decide +kernel
theorem dX6_addPlans_50 : decode cX6_addPlans 50 = .ok (.iconst 0, 1) := by decide +kernel
theorem dX6_addPlans_51 : decode cX6_addPlans 51 = .ok (.istore 5, 2) := by decide +kernel
theorem dX6_addPlans_53 : decode cX6_addPlans 53 = .ok (.iload 5, 2) := by decide +kernel
theorem dX6_addPlans_55 : decode cX6_addPlans 55 = .ok (.bipush 24, 2) := by decide +kernel
theorem dX6_addPlans_57 : decode cX6_addPlans 57 = .ok (.if_icmp .ge 51, 3) := by decide +kernel
theorem dX6_addPlans_60 : decode cX6_addPlans 60 = .ok (.aload_n 0, 1) := by decide +kernel
theorem dX6_addPlans_61 : decode cX6_addPlans 61 = .ok (.getfield 125, 3) := by decide +kernel
theorem dX6_addPlans_64 : decode cX6_addPlans 64 = .ok (.ldc 135, 2) := by decide +kernel
theorem dX6_addPlans_66 : decode cX6_addPlans 66 = .ok (.if_icmp .ge 42, 3) := by decide +kernel
theorem dX6_addPlans_69 : decode cX6_addPlans 69 = .ok (.aload_n 0, 1) := by decide +kernel
theorem dX6_addPlans_70 : decode cX6_addPlans 70 = .ok (.iload_n 1, 1) := by decide +kernel
theorem dX6_addPlans_71 : decode cX6_addPlans 71 = .ok (.iload_n 3, 1) := by decide +kernel
theorem dX6_addPlans_72 : decode cX6_addPlans 72 = .ok (.iload 5, 2) := by decide +kernel
theorem dX6_addPlans_74 : decode cX6_addPlans 74 = .ok (.invokevirtual 117, 3) := by decide +kernel
theorem dX6_addPlans_77 : decode cX6_addPlans 77 = .ok (.ifCond .eq 25, 3) := by decide +kernel
theorem dX6_addPlans_80 : decode cX6_addPlans 80 = .ok (.aload_n 0, 1) := by decide +kernel
theorem dX6_addPlans_81 : decode cX6_addPlans 81 = .ok (.iload_n 1, 1) := by decide +kernel
theorem dX6_addPlans_82 : decode cX6_addPlans 82 = .ok (.iload_n 3, 1) := by decide +kernel
theorem dX6_addPlans_83 : decode cX6_addPlans 83 = .ok (.iload 5, 2) := by decide +kernel
theorem dX6_addPlans_85 : decode cX6_addPlans 85 = .ok (.iload 4, 2) := by decide +kernel
theorem dX6_addPlans_87 : decode cX6_addPlans 87 = .ok (.invokevirtual 121, 3) := by decide +kernel
theorem dX6_addPlans_90 : decode cX6_addPlans 90 = .ok (.ifCond .eq 12, 3) := by decide +kernel
theorem dX6_addPlans_93 : decode cX6_addPlans 93 = .ok (.aload_n 0, 1) := by decide +kernel
theorem dX6_addPlans_94 : decode cX6_addPlans 94 = .ok (.iload_n 1, 1) := by decide +kernel
theorem dX6_addPlans_95 : decode cX6_addPlans 95 = .ok (.iconst 1, 1) := by decide +kernel
theorem dX6_addPlans_96 : decode cX6_addPlans 96 = .ok (.iadd, 1) := by decide +kernel
theorem dX6_addPlans_97 : decode cX6_addPlans 97 = .ok (.iload 4, 2) := by decide +kernel
theorem dX6_addPlans_99 : decode cX6_addPlans 99 = .ok (.invokevirtual 132, 3) := by decide +kernel
theorem dX6_addPlans_102 : decode cX6_addPlans 102 = .ok (.iinc 5 1, 3) := by decide +kernel
theorem dX6_addPlans_105 : decode cX6_addPlans 105 = .ok (.goto (-52), 3) := by decide +kernel
theorem dX6_addPlans_108 : decode cX6_addPlans 108 = .ok (.return_, 1) := by decide +kernel
theorem dX6_findSoonest_0 : decode cX6_findSoonest 0 = .ok (.aload_n 0, 1) := by decide +kernel
theorem dX6_findSoonest_1 : decode cX6_findSoonest 1 = .ok (.invokevirtual 128, 3) := by decide +kernel
theorem dX6_findSoonest_4 : decode cX6_findSoonest 4 = .ok (.ifCond .eq 5, 3) := by decide +kernel
theorem dX6_findSoonest_7 : decode cX6_findSoonest 7 = .ok (.iconst 0, 1) := by decide +kernel
theorem dX6_findSoonest_8 : decode cX6_findSoonest 8 = .ok (.ireturn, 1) := by decide +kernel
theorem dX6_findSoonest_9 : decode cX6_findSoonest 9 = .ok (.aload_n 0, 1) := by decide +kernel
theorem dX6_findSoonest_10 : decode cX6_findSoonest 10 = .ok (.aload_n 0, 1) := by decide +kernel
theorem dX6_findSoonest_11 : decode cX6_findSoonest 11 = .ok (.getfield 35, 3) := by decide +kernel
theorem dX6_findSoonest_14 : decode cX6_findSoonest 14 = .ok (.ifCond .ne 7, 3) := by decide +kernel
theorem dX6_findSoonest_17 : decode cX6_findSoonest 17 = .ok (.iconst 0, 1) := by decide +kernel
theorem dX6_findSoonest_18 : decode cX6_findSoonest 18 = .ok (.goto 5, 3) := by decide +kernel
theorem dX6_findSoonest_21 : decode cX6_findSoonest 21 = .ok (.bipush 24, 2) := by decide +kernel
theorem dX6_findSoonest_23 : decode cX6_findSoonest 23 = .ok (.putfield 136, 3) := by decide +kernel
theorem dX6_findSoonest_26 : decode cX6_findSoonest 26 = .ok (.aload_n 0, 1) := by decide +kernel
theorem dX6_findSoonest_27 : decode cX6_findSoonest 27 = .ok (.iconst 0, 1) := by decide +kernel
theorem dX6_findSoonest_28 : decode cX6_findSoonest 28 = .ok (.putfield 139, 3) := by decide +kernel
theorem dX6_findSoonest_31 : decode cX6_findSoonest 31 = .ok (.aload_n 0, 1) := by decide +kernel
theorem dX6_findSoonest_32 : decode cX6_findSoonest 32 = .ok (.iconst 0, 1) := by decide +kernel
theorem dX6_findSoonest_33 : decode cX6_findSoonest 33 = .ok (.iconst 1, 1) := by decide +kernel
theorem dX6_findSoonest_34 : decode cX6_findSoonest 34 = .ok (.aload_n 0, 1) := by decide +kernel
theorem dX6_findSoonest_35 : decode cX6_findSoonest 35 = .ok (.getfield 35, 3) := by decide +kernel
theorem dX6_findSoonest_38 : decode cX6_findSoonest 38 = .ok (.ishl, 1) := by decide +kernel
theorem dX6_findSoonest_39 : decode cX6_findSoonest 39 = .ok (.iconst 1, 1) := by decide +kernel
theorem dX6_findSoonest_40 : decode cX6_findSoonest 40 = .ok (.isub, 1) := by decide +kernel
theorem dX6_findSoonest_41 : decode cX6_findSoonest 41 = .ok (.iconst 0, 1) := by decide +kernel
theorem dX6_findSoonest_42 : decode cX6_findSoonest 42 = .ok (.iconst 0, 1) := by decide +kernel
theorem dX6_findSoonest_43 : decode cX6_findSoonest 43 = .ok (.invokevirtual 142, 3) := by decide +kernel
theorem dX6_findSoonest_46 : decode cX6_findSoonest 46 = .ok (.iconst 1, 1) := by decide +kernel
theorem dX6_findSoonest_47 : decode cX6_findSoonest 47 = .ok (.ireturn, 1) := by decide +kernel
theorem dX6_seekSoonest_0 : decode cX6_seekSoonest 0 = .ok (.iload_n 1, 1) := by decide +kernel
theorem dX6_seekSoonest_1 : decode cX6_seekSoonest 1 = .ok (.iconst 5, 1) := by decide +kernel
theorem dX6_seekSoonest_2 : decode cX6_seekSoonest 2 = .ok (.if_icmp .ge 7, 3) := by decide +kernel
theorem dX6_seekSoonest_5 : decode cX6_seekSoonest 5 = .ok (.iload_n 2, 1) := by decide +kernel
theorem dX6_seekSoonest_6 : decode cX6_seekSoonest 6 = .ok (.ifCond .ne 11, 3) := by decide +kernel
theorem dX6_seekSoonest_9 : decode cX6_seekSoonest 9 = .ok (.aload_n 0, 1) := by decide +kernel
theorem dX6_seekSoonest_10 : decode cX6_seekSoonest 10 = .ok (.iload_n 3, 1) := by decide +kernel
theorem dX6_seekSoonest_11 : decode cX6_seekSoonest 11 = .ok (.iload 4, 2) := by decide +kernel
theorem dX6_seekSoonest_13 : decode cX6_seekSoonest 13 = .ok (.invokevirtual 146, 3) := by decide +kernel
theorem dX6_seekSoonest_16 : decode cX6_seekSoonest 16 = .ok (.return_, 1) := by decide +kernel
theorem dX6_seekSoonest_17 : decode cX6_seekSoonest 17 = .ok (.iload_n 2, 1) := by decide +kernel
theorem dX6_seekSoonest_18 : decode cX6_seekSoonest 18 = .ok (.invokestatic 114, 3) := by decide +kernel
theorem dX6_seekSoonest_21 : decode cX6_seekSoonest 21 = .ok (.istore 5, 2) := by decide +kernel
theorem dX6_seekSoonest_23 : decode cX6_seekSoonest 23 = .ok (.iload_n 2, 1) := by decide +kernel
theorem dX6_seekSoonest_24 : decode cX6_seekSoonest 24 = .ok (.iload_n 2, 1) := by decide +kernel
theorem dX6_seekSoonest_25 : decode cX6_seekSoonest 25 = .ok (.iconst 1, 1) := by decide +kernel
theorem dX6_seekSoonest_26 : decode cX6_seekSoonest 26 = .ok (.isub, 1) := by decide +kernel
theorem dX6_seekSoonest_27 : decode cX6_seekSoonest 27 = .ok (.iand, 1) := by decide +kernel
theorem dX6_seekSoonest_28 : decode cX6_seekSoonest 28 = .ok (.istore 6, 2) := by decide +kernel
theorem dX6_seekSoonest_30 : decode cX6_seekSoonest 30 = .ok (.iconst 0, 1) := by decide +kernel
theorem dX6_seekSoonest_31 : decode cX6_seekSoonest 31 = .ok (.istore 7, 2) := by decide +kernel
theorem dX6_seekSoonest_33 : decode cX6_seekSoonest 33 = .ok (.iload 7, 2) := by decide +kernel
theorem dX6_seekSoonest_35 : decode cX6_seekSoonest 35 = .ok (.bipush 24, 2) := by decide +kernel
theorem dX6_seekSoonest_37 : decode cX6_seekSoonest 37 = .ok (.if_icmp .ge 87, 3) := by decide +kernel
theorem dX6_seekSoonest_40 : decode cX6_seekSoonest 40 = .ok (.aload_n 0, 1) := by decide +kernel
theorem dX6_seekSoonest_41 : decode cX6_seekSoonest 41 = .ok (.iload_n 1, 1) := by decide +kernel
theorem dX6_seekSoonest_42 : decode cX6_seekSoonest 42 = .ok (.iload 5, 2) := by decide +kernel
theorem dX6_seekSoonest_44 : decode cX6_seekSoonest 44 = .ok (.iload 7, 2) := by decide +kernel
theorem dX6_seekSoonest_46 : decode cX6_seekSoonest 46 = .ok (.invokevirtual 117, 3) := by decide +kernel
theorem dX6_seekSoonest_49 : decode cX6_seekSoonest 49 = .ok (.ifCond .eq 69, 3) := by decide +kernel
theorem dX6_seekSoonest_52 : decode cX6_seekSoonest 52 = .ok (.aload_n 0, 1) := by decide +kernel
theorem dX6_seekSoonest_53 : decode cX6_seekSoonest 53 = .ok (.iload_n 1, 1) := by decide +kernel
theorem dX6_seekSoonest_54 : decode cX6_seekSoonest 54 = .ok (.iload 5, 2) := by decide +kernel
theorem dX6_seekSoonest_56 : decode cX6_seekSoonest 56 = .ok (.iload 7, 2) := by decide +kernel
theorem dX6_seekSoonest_58 : decode cX6_seekSoonest 58 = .ok (.iload 6, 2) := by decide +kernel
theorem dX6_seekSoonest_60 : decode cX6_seekSoonest 60 = .ok (.invokevirtual 121, 3) := by decide +kernel
theorem dX6_seekSoonest_63 : decode cX6_seekSoonest 63 = .ok (.ifCond .eq 55, 3) := by decide +kernel
theorem dX6_seekSoonest_66 : decode cX6_seekSoonest 66 = .ok (.aload_n 0, 1) := by decide +kernel
theorem dX6_seekSoonest_67 : decode cX6_seekSoonest 67 = .ok (.iload_n 1, 1) := by decide +kernel
theorem dX6_seekSoonest_68 : decode cX6_seekSoonest 68 = .ok (.iconst 1, 1) := by decide +kernel
theorem dX6_seekSoonest_69 : decode cX6_seekSoonest 69 = .ok (.iadd, 1) := by decide +kernel
theorem dX6_seekSoonest_70 : decode cX6_seekSoonest 70 = .ok (.iload 6, 2) := by decide +kernel
theorem dX6_seekSoonest_72 : decode cX6_seekSoonest 72 = .ok (.iload_n 3, 1) := by decide +kernel
theorem dX6_seekSoonest_73 : decode cX6_seekSoonest 73 = .ok (.iload 7, 2) := by decide +kernel
theorem dX6_seekSoonest_75 : decode cX6_seekSoonest 75 = .ok (.invokestatic 149, 3) := by decide +kernel
theorem dX6_seekSoonest_78 : decode cX6_seekSoonest 78 = .ok (.iload 4, 2) := by decide +kernel
theorem dX6_seekSoonest_80 : decode cX6_seekSoonest 80 = .ok (.iload 7, 2) := by decide +kernel
theorem dX6_seekSoonest_82 : decode cX6_seekSoonest 82 = .ok (.iadd, 1) := by decide +kernel
theorem dX6_seekSoonest_83 : decode cX6_seekSoonest 83 = .ok (.invokevirtual 152, 3) := by decide +kernel
theorem dX6_seekSoonest_86 : decode cX6_seekSoonest 86 = .ok (.ifCond .eq 32, 3) := by decide +kernel
theorem dX6_seekSoonest_89 : decode cX6_seekSoonest 89 = .ok (.aload_n 0, 1) := by decide +kernel
theorem dX6_seekSoonest_90 : decode cX6_seekSoonest 90 = .ok (.getfield 21, 3) := by decide +kernel
theorem dX6_seekSoonest_93 : decode cX6_seekSoonest 93 = .ok (.iload 5, 2) := by decide +kernel
theorem dX6_seekSoonest_95 : decode cX6_seekSoonest 95 = .ok (.iload 7, 2) := by decide +kernel
theorem dX6_seekSoonest_97 : decode cX6_seekSoonest 97 = .ok (.iastore, 1) := by decide +kernel
theorem dX6_seekSoonest_98 : decode cX6_seekSoonest 98 = .ok (.aload_n 0, 1) := by decide +kernel
theorem dX6_seekSoonest_99 : decode cX6_seekSoonest 99 = .ok (.iload_n 1, 1) := by decide +kernel
theorem dX6_seekSoonest_100 : decode cX6_seekSoonest 100 = .ok (.iconst 1, 1) := by decide +kernel
theorem dX6_seekSoonest_101 : decode cX6_seekSoonest 101 = .ok (.iadd, 1) := by decide +kernel
theorem dX6_seekSoonest_102 : decode cX6_seekSoonest 102 = .ok (.iload 6, 2) := by decide +kernel
theorem dX6_seekSoonest_104 : decode cX6_seekSoonest 104 = .ok (.iload_n 3, 1) := by decide +kernel
theorem dX6_seekSoonest_105 : decode cX6_seekSoonest 105 = .ok (.iload 7, 2) := by decide +kernel
theorem dX6_seekSoonest_107 : decode cX6_seekSoonest 107 = .ok (.invokestatic 149, 3) := by decide +kernel
theorem dX6_seekSoonest_110 : decode cX6_seekSoonest 110 = .ok (.iload 4, 2) := by decide +kernel
theorem dX6_seekSoonest_112 : decode cX6_seekSoonest 112 = .ok (.iload 7, 2) := by decide +kernel
theorem dX6_seekSoonest_114 : decode cX6_seekSoonest 114 = .ok (.iadd, 1) := by decide +kernel
theorem dX6_seekSoonest_115 : decode cX6_seekSoonest 115 = .ok (.invokevirtual 142, 3) := by decide +kernel
theorem dX6_seekSoonest_118 : decode cX6_seekSoonest 118 = .ok (.iinc 7 1, 3) := by decide +kernel
theorem dX6_seekSoonest_121 : decode cX6_seekSoonest 121 = .ok (.goto (-88), 3) := by decide +kernel
theorem dX6_seekSoonest_124 : decode cX6_seekSoonest 124 = .ok (.return_, 1) := by decide +kernel
theorem dX6_isSooner_0 : decode cX6_isSooner 0 = .ok (.iload_n 1, 1) := by decide +kernel
theorem dX6_isSooner_1 : decode cX6_isSooner 1 = .ok (.aload_n 0, 1) := by decide +kernel
theorem dX6_isSooner_2 : decode cX6_isSooner 2 = .ok (.getfield 136, 3) := by decide +kernel
theorem dX6_isSooner_5 : decode cX6_isSooner 5 = .ok (.if_icmp .lt 19, 3) := by decide +kernel
theorem dX6_isSooner_8 : decode cX6_isSooner 8 = .ok (.iload_n 1, 1) := by decide +kernel
theorem dX6_isSooner_9 : decode cX6_isSooner 9 = .ok (.aload_n 0, 1) := by decide +kernel
theorem dX6_isSooner_10 : decode cX6_isSooner 10 = .ok (.getfield 136, 3) := by decide +kernel
theorem dX6_isSooner_13 : decode cX6_isSooner 13 = .ok (.if_icmp .ne 15, 3) := by decide +kernel
theorem dX6_isSooner_16 : decode cX6_isSooner 16 = .ok (.iload_n 2, 1) := by decide +kernel
theorem dX6_isSooner_17 : decode cX6_isSooner 17 = .ok (.aload_n 0, 1) := by decide +kernel
theorem dX6_isSooner_18 : decode cX6_isSooner 18 = .ok (.getfield 139, 3) := by decide +kernel
theorem dX6_isSooner_21 : decode cX6_isSooner 21 = .ok (.if_icmp .ge 7, 3) := by decide +kernel
theorem dX6_isSooner_24 : decode cX6_isSooner 24 = .ok (.iconst 1, 1) := by decide +kernel
theorem dX6_isSooner_25 : decode cX6_isSooner 25 = .ok (.goto 4, 3) := by decide +kernel
theorem dX6_isSooner_28 : decode cX6_isSooner 28 = .ok (.iconst 0, 1) := by decide +kernel
theorem dX6_isSooner_29 : decode cX6_isSooner 29 = .ok (.ireturn, 1) := by decide +kernel
theorem dX6_maySooner_0 : decode cX6_maySooner 0 = .ok (.iconst 0, 1) := by decide +kernel
theorem dX6_maySooner_1 : decode cX6_maySooner 1 = .ok (.istore 5, 2) := by decide +kernel
theorem dX6_maySooner_3 : decode cX6_maySooner 3 = .ok (.iload 5, 2) := by decide +kernel
theorem dX6_maySooner_5 : decode cX6_maySooner 5 = .ok (.aload_n 0, 1) := by decide +kernel
theorem dX6_maySooner_6 : decode cX6_maySooner 6 = .ok (.getfield 35, 3) := by decide +kernel
theorem dX6_maySooner_9 : decode cX6_maySooner 9 = .ok (.if_icmp .ge 48, 3) := by decide +kernel
theorem dX6_maySooner_12 : decode cX6_maySooner 12 = .ok (.iload_n 2, 1) := by decide +kernel
theorem dX6_maySooner_13 : decode cX6_maySooner 13 = .ok (.iload 5, 2) := by decide +kernel
theorem dX6_maySooner_15 : decode cX6_maySooner 15 = .ok (.ishr, 1) := by decide +kernel
theorem dX6_maySooner_16 : decode cX6_maySooner 16 = .ok (.iconst 1, 1) := by decide +kernel
theorem dX6_maySooner_17 : decode cX6_maySooner 17 = .ok (.iand, 1) := by decide +kernel
theorem dX6_maySooner_18 : decode cX6_maySooner 18 = .ok (.ifCond .eq 33, 3) := by decide +kernel
theorem dX6_maySooner_21 : decode cX6_maySooner 21 = .ok (.aload_n 0, 1) := by decide +kernel
theorem dX6_maySooner_22 : decode cX6_maySooner 22 = .ok (.getfield 18, 3) := by decide +kernel
theorem dX6_maySooner_25 : decode cX6_maySooner 25 = .ok (.iload_n 1, 1) := by decide +kernel
theorem dX6_maySooner_26 : decode cX6_maySooner 26 = .ok (.iconst 5, 1) := by decide +kernel
theorem dX6_maySooner_27 : decode cX6_maySooner 27 = .ok (.imul, 1) := by decide +kernel
theorem dX6_maySooner_28 : decode cX6_maySooner 28 = .ok (.iload 5, 2) := by decide +kernel
theorem dX6_maySooner_30 : decode cX6_maySooner 30 = .ok (.iadd, 1) := by decide +kernel
theorem dX6_maySooner_31 : decode cX6_maySooner 31 = .ok (.iaload, 1) := by decide +kernel
theorem dX6_maySooner_32 : decode cX6_maySooner 32 = .ok (.invokestatic 106, 3) := by decide +kernel
theorem dX6_maySooner_35 : decode cX6_maySooner 35 = .ok (.istore 6, 2) := by decide +kernel
theorem dX6_maySooner_37 : decode cX6_maySooner 37 = .ok (.iload_n 3, 1) := by decide +kernel
theorem dX6_maySooner_38 : decode cX6_maySooner 38 = .ok (.iload 6, 2) := by decide +kernel
theorem dX6_maySooner_40 : decode cX6_maySooner 40 = .ok (.invokestatic 149, 3) := by decide +kernel
theorem dX6_maySooner_43 : decode cX6_maySooner 43 = .ok (.istore_n 3, 1) := by decide +kernel
theorem dX6_maySooner_44 : decode cX6_maySooner 44 = .ok (.iload 4, 2) := by decide +kernel
theorem dX6_maySooner_46 : decode cX6_maySooner 46 = .ok (.iload 6, 2) := by decide +kernel
theorem dX6_maySooner_48 : decode cX6_maySooner 48 = .ok (.iadd, 1) := by decide +kernel
theorem dX6_maySooner_49 : decode cX6_maySooner 49 = .ok (.istore 4, 2) := by decide +kernel
theorem dX6_maySooner_51 : decode cX6_maySooner 51 = .ok (.iinc 5 1, 3) := by decide +kernel
theorem dX6_maySooner_54 : decode cX6_maySooner 54 = .ok (.goto (-51), 3) := by decide +kernel
theorem dX6_maySooner_57 : decode cX6_maySooner 57 = .ok (.aload_n 0, 1) := by decide +kernel
theorem dX6_maySooner_58 : decode cX6_maySooner 58 = .ok (.iload_n 3, 1) := by decide +kernel
theorem dX6_maySooner_59 : decode cX6_maySooner 59 = .ok (.iload 4, 2) := by decide +kernel
theorem dX6_maySooner_61 : decode cX6_maySooner 61 = .ok (.invokevirtual 155, 3) := by decide +kernel
theorem dX6_maySooner_64 : decode cX6_maySooner 64 = .ok (.ireturn, 1) := by decide +kernel
theorem dX6_keepIfSooner_0 : decode cX6_keepIfSooner 0 = .ok (.aload_n 0, 1) := by decide +kernel
theorem dX6_keepIfSooner_1 : decode cX6_keepIfSooner 1 = .ok (.iload_n 1, 1) := by decide +kernel
theorem dX6_keepIfSooner_2 : decode cX6_keepIfSooner 2 = .ok (.iload_n 2, 1) := by decide +kernel
theorem dX6_keepIfSooner_3 : decode cX6_keepIfSooner 3 = .ok (.invokevirtual 155, 3) := by decide +kernel
theorem dX6_keepIfSooner_6 : decode cX6_keepIfSooner 6 = .ok (.ifCond .eq 27, 3) := by decide +kernel
theorem dX6_keepIfSooner_9 : decode cX6_keepIfSooner 9 = .ok (.aload_n 0, 1) := by decide +kernel
theorem dX6_keepIfSooner_10 : decode cX6_keepIfSooner 10 = .ok (.iload_n 1, 1) := by decide +kernel
theorem dX6_keepIfSooner_11 : decode cX6_keepIfSooner 11 = .ok (.putfield 136, 3) := by decide +kernel
theorem dX6_keepIfSooner_14 : decode cX6_keepIfSooner 14 = .ok (.aload_n 0, 1) := by decide +kernel
theorem dX6_keepIfSooner_15 : decode cX6_keepIfSooner 15 = .ok (.iload_n 2, 1) := by decide +kernel
theorem dX6_keepIfSooner_16 : decode cX6_keepIfSooner 16 = .ok (.putfield 139, 3) := by decide +kernel
theorem dX6_keepIfSooner_19 : decode cX6_keepIfSooner 19 = .ok (.aload_n 0, 1) := by decide +kernel
theorem dX6_keepIfSooner_20 : decode cX6_keepIfSooner 20 = .ok (.getfield 21, 3) := by decide +kernel
theorem dX6_keepIfSooner_23 : decode cX6_keepIfSooner 23 = .ok (.iconst 0, 1) := by decide +kernel
theorem dX6_keepIfSooner_24 : decode cX6_keepIfSooner 24 = .ok (.aload_n 0, 1) := by decide +kernel
theorem dX6_keepIfSooner_25 : decode cX6_keepIfSooner 25 = .ok (.getfield 24, 3) := by decide +kernel
theorem dX6_keepIfSooner_28 : decode cX6_keepIfSooner 28 = .ok (.iconst 0, 1) := by decide +kernel
theorem dX6_keepIfSooner_29 : decode cX6_keepIfSooner 29 = .ok (.iconst 5, 1) := by decide +kernel
theorem dX6_keepIfSooner_30 : decode cX6_keepIfSooner 30 = .ok (.invokestatic 158, 3) := by decide +kernel
theorem dX6_keepIfSooner_33 : decode cX6_keepIfSooner 33 = .ok (.return_, 1) := by decide +kernel
theorem dX6_plannedQuarter_0 : decode cX6_plannedQuarter 0 = .ok (.iconst 0, 1) := by decide +kernel
theorem dX6_plannedQuarter_1 : decode cX6_plannedQuarter 1 = .ok (.istore_n 2, 1) := by decide +kernel
theorem dX6_plannedQuarter_2 : decode cX6_plannedQuarter 2 = .ok (.iload_n 2, 1) := by decide +kernel
theorem dX6_plannedQuarter_3 : decode cX6_plannedQuarter 3 = .ok (.aload_n 0, 1) := by decide +kernel
theorem dX6_plannedQuarter_4 : decode cX6_plannedQuarter 4 = .ok (.getfield 35, 3) := by decide +kernel
theorem dX6_plannedQuarter_7 : decode cX6_plannedQuarter 7 = .ok (.if_icmp .ge 26, 3) := by decide +kernel
theorem dX6_plannedQuarter_10 : decode cX6_plannedQuarter 10 = .ok (.aload_n 0, 1) := by decide +kernel
theorem dX6_plannedQuarter_11 : decode cX6_plannedQuarter 11 = .ok (.getfield 9, 3) := by decide +kernel
theorem dX6_plannedQuarter_14 : decode cX6_plannedQuarter 14 = .ok (.iload_n 2, 1) := by decide +kernel
theorem dX6_plannedQuarter_15 : decode cX6_plannedQuarter 15 = .ok (.iaload, 1) := by decide +kernel
theorem dX6_plannedQuarter_16 : decode cX6_plannedQuarter 16 = .ok (.iload_n 1, 1) := by decide +kernel
theorem dX6_plannedQuarter_17 : decode cX6_plannedQuarter 17 = .ok (.if_icmp .ne 10, 3) := by decide +kernel
theorem dX6_plannedQuarter_20 : decode cX6_plannedQuarter 20 = .ok (.aload_n 0, 1) := by decide +kernel
theorem dX6_plannedQuarter_21 : decode cX6_plannedQuarter 21 = .ok (.getfield 24, 3) := by decide +kernel
theorem dX6_plannedQuarter_24 : decode cX6_plannedQuarter 24 = .ok (.iload_n 2, 1) := by decide +kernel
theorem dX6_plannedQuarter_25 : decode cX6_plannedQuarter 25 = .ok (.iaload, 1) := by decide +kernel
theorem dX6_plannedQuarter_26 : decode cX6_plannedQuarter 26 = .ok (.ireturn, 1) := by decide +kernel
theorem dX6_plannedQuarter_27 : decode cX6_plannedQuarter 27 = .ok (.iinc 2 1, 3) := by decide +kernel
theorem dX6_plannedQuarter_30 : decode cX6_plannedQuarter 30 = .ok (.goto (-28), 3) := by decide +kernel
theorem dX6_plannedQuarter_33 : decode cX6_plannedQuarter 33 = .ok (.aload_n 0, 1) := by decide +kernel
theorem dX6_plannedQuarter_34 : decode cX6_plannedQuarter 34 = .ok (.getfield 27, 3) := by decide +kernel
theorem dX6_plannedQuarter_37 : decode cX6_plannedQuarter 37 = .ok (.iload_n 1, 1) := by decide +kernel
theorem dX6_plannedQuarter_38 : decode cX6_plannedQuarter 38 = .ok (.invokevirtual 164, 3) := by decide +kernel
theorem dX6_plannedQuarter_41 : decode cX6_plannedQuarter 41 = .ok (.ifCond .eq 15, 3) := by decide +kernel
theorem dX6_plannedQuarter_44 : decode cX6_plannedQuarter 44 = .ok (.aload_n 0, 1) := by decide +kernel
theorem dX6_plannedQuarter_45 : decode cX6_plannedQuarter 45 = .ok (.getfield 27, 3) := by decide +kernel
theorem dX6_plannedQuarter_48 : decode cX6_plannedQuarter 48 = .ok (.getfield 167, 3) := by decide +kernel
theorem dX6_plannedQuarter_51 : decode cX6_plannedQuarter 51 = .ok (.iload_n 1, 1) := by decide +kernel
theorem dX6_plannedQuarter_52 : decode cX6_plannedQuarter 52 = .ok (.iaload, 1) := by decide +kernel
theorem dX6_plannedQuarter_53 : decode cX6_plannedQuarter 53 = .ok (.goto 4, 3) := by decide +kernel
theorem dX6_plannedQuarter_56 : decode cX6_plannedQuarter 56 = .ok (.iconst (-1), 1) := by decide +kernel
theorem dX6_plannedQuarter_57 : decode cX6_plannedQuarter 57 = .ok (.ireturn, 1) := by decide +kernel
theorem md_X6_init : yX6_init.cls ≠ "java/lang/invoke/MethodHandle" ∧ yX6_init.cls ≠ "java/lang/invoke/VarHandle" ∧ (parseMethodDescriptor yX6_init.desc).map (fun d => d.parameters.length) = some 2 := by decide +kernel
theorem md_X6_gatherUnlit : yX6_gatherUnlit.cls ≠ "java/lang/invoke/MethodHandle" ∧ yX6_gatherUnlit.cls ≠ "java/lang/invoke/VarHandle" ∧ (parseMethodDescriptor yX6_gatherUnlit.desc).map (fun d => d.parameters.length) = some 0 := by decide +kernel
theorem md_X6_layClashes : yX6_layClashes.cls ≠ "java/lang/invoke/MethodHandle" ∧ yX6_layClashes.cls ≠ "java/lang/invoke/VarHandle" ∧ (parseMethodDescriptor yX6_layClashes.desc).map (fun d => d.parameters.length) = some 0 := by decide +kernel
theorem md_X6_layClashesOf : yX6_layClashesOf.cls ≠ "java/lang/invoke/MethodHandle" ∧ yX6_layClashesOf.cls ≠ "java/lang/invoke/VarHandle" ∧ (parseMethodDescriptor yX6_layClashesOf.desc).map (fun d => d.parameters.length) = some 2 := by decide +kernel
theorem md_X6_clashPlace : yX6_clashPlace.cls ≠ "java/lang/invoke/MethodHandle" ∧ yX6_clashPlace.cls ≠ "java/lang/invoke/VarHandle" ∧ (parseMethodDescriptor yX6_clashPlace.desc).map (fun d => d.parameters.length) = some 3 := by decide +kernel
theorem md_X6_chimneysOf : yX6_chimneysOf.cls ≠ "java/lang/invoke/MethodHandle" ∧ yX6_chimneysOf.cls ≠ "java/lang/invoke/VarHandle" ∧ (parseMethodDescriptor yX6_chimneysOf.desc).map (fun d => d.parameters.length) = some 1 := by decide +kernel
theorem md_X6_shutSet : yX6_shutSet.cls ≠ "java/lang/invoke/MethodHandle" ∧ yX6_shutSet.cls ≠ "java/lang/invoke/VarHandle" ∧ (parseMethodDescriptor yX6_shutSet.desc).map (fun d => d.parameters.length) = some 0 := by decide +kernel
theorem md_X6_greatestSet : yX6_greatestSet.cls ≠ "java/lang/invoke/MethodHandle" ∧ yX6_greatestSet.cls ≠ "java/lang/invoke/VarHandle" ∧ (parseMethodDescriptor yX6_greatestSet.desc).map (fun d => d.parameters.length) = some 1 := by decide +kernel
theorem md_X6_firstOf : yX6_firstOf.cls ≠ "java/lang/invoke/MethodHandle" ∧ yX6_firstOf.cls ≠ "java/lang/invoke/VarHandle" ∧ (parseMethodDescriptor yX6_firstOf.desc).map (fun d => d.parameters.length) = some 1 := by decide +kernel
theorem md_X6_isOpen : yX6_isOpen.cls ≠ "java/lang/invoke/MethodHandle" ∧ yX6_isOpen.cls ≠ "java/lang/invoke/VarHandle" ∧ (parseMethodDescriptor yX6_isOpen.desc).map (fun d => d.parameters.length) = some 3 := by decide +kernel
theorem md_X6_narrow : yX6_narrow.cls ≠ "java/lang/invoke/MethodHandle" ∧ yX6_narrow.cls ≠ "java/lang/invoke/VarHandle" ∧ (parseMethodDescriptor yX6_narrow.desc).map (fun d => d.parameters.length) = some 4 := by decide +kernel
theorem md_X6_canLight : yX6_canLight.cls ≠ "java/lang/invoke/MethodHandle" ∧ yX6_canLight.cls ≠ "java/lang/invoke/VarHandle" ∧ (parseMethodDescriptor yX6_canLight.desc).map (fun d => d.parameters.length) = some 2 := by decide +kernel
theorem md_X6_tallyPlans : yX6_tallyPlans.cls ≠ "java/lang/invoke/MethodHandle" ∧ yX6_tallyPlans.cls ≠ "java/lang/invoke/VarHandle" ∧ (parseMethodDescriptor yX6_tallyPlans.desc).map (fun d => d.parameters.length) = some 0 := by decide +kernel
theorem md_X6_addPlans : yX6_addPlans.cls ≠ "java/lang/invoke/MethodHandle" ∧ yX6_addPlans.cls ≠ "java/lang/invoke/VarHandle" ∧ (parseMethodDescriptor yX6_addPlans.desc).map (fun d => d.parameters.length) = some 2 := by decide +kernel
theorem md_X6_findSoonest : yX6_findSoonest.cls ≠ "java/lang/invoke/MethodHandle" ∧ yX6_findSoonest.cls ≠ "java/lang/invoke/VarHandle" ∧ (parseMethodDescriptor yX6_findSoonest.desc).map (fun d => d.parameters.length) = some 0 := by decide +kernel
theorem md_X6_seekSoonest : yX6_seekSoonest.cls ≠ "java/lang/invoke/MethodHandle" ∧ yX6_seekSoonest.cls ≠ "java/lang/invoke/VarHandle" ∧ (parseMethodDescriptor yX6_seekSoonest.desc).map (fun d => d.parameters.length) = some 4 := by decide +kernel
theorem md_X6_isSooner : yX6_isSooner.cls ≠ "java/lang/invoke/MethodHandle" ∧ yX6_isSooner.cls ≠ "java/lang/invoke/VarHandle" ∧ (parseMethodDescriptor yX6_isSooner.desc).map (fun d => d.parameters.length) = some 2 := by decide +kernel
theorem md_X6_maySooner : yX6_maySooner.cls ≠ "java/lang/invoke/MethodHandle" ∧ yX6_maySooner.cls ≠ "java/lang/invoke/VarHandle" ∧ (parseMethodDescriptor yX6_maySooner.desc).map (fun d => d.parameters.length) = some 4 := by decide +kernel
theorem md_X6_keepIfSooner : yX6_keepIfSooner.cls ≠ "java/lang/invoke/MethodHandle" ∧ yX6_keepIfSooner.cls ≠ "java/lang/invoke/VarHandle" ∧ (parseMethodDescriptor yX6_keepIfSooner.desc).map (fun d => d.parameters.length) = some 2 := by decide +kernel
theorem md_X6_plannedQuarter : yX6_plannedQuarter.cls ≠ "java/lang/invoke/MethodHandle" ∧ yX6_plannedQuarter.cls ≠ "java/lang/invoke/VarHandle" ∧ (parseMethodDescriptor yX6_plannedQuarter.desc).map (fun d => d.parameters.length) = some 1 := by decide +kernel
