theorem dX7_init_0 : decode cX7_init 0 = .ok (.aload_n 0, 1) := by decide +kernel
theorem dX7_init_1 : decode cX7_init 1 = .ok (.invokespecial 3, 3) := by decide +kernel
theorem dX7_init_4 : decode cX7_init 4 = .ok (.aload_n 0, 1) := by decide +kernel
theorem dX7_init_5 : decode cX7_init 5 = .ok (.bipush 10, 2) := by decide +kernel
theorem dX7_init_7 : decode cX7_init 7 = .ok (.newarray .int, 2) := by decide +kernel
theorem dX7_init_9 : decode cX7_init 9 = .ok (.putfield 9, 3) := by decide +kernel
theorem dX7_init_12 : decode cX7_init 12 = .ok (.aload_n 0, 1) := by decide +kernel
theorem dX7_init_13 : decode cX7_init 13 = .ok (.bipush 10, 2) := by decide +kernel
theorem dX7_init_15 : decode cX7_init 15 = .ok (.newarray .int, 2) := by decide +kernel
theorem dX7_init_17 : decode cX7_init 17 = .ok (.putfield 15, 3) := by decide +kernel
theorem dX7_init_20 : decode cX7_init 20 = .ok (.aload_n 0, 1) := by decide +kernel
theorem dX7_init_21 : decode cX7_init 21 = .ok (.bipush 10, 2) := by decide +kernel
theorem dX7_init_23 : decode cX7_init 23 = .ok (.newarray .int, 2) := by decide +kernel
theorem dX7_init_25 : decode cX7_init 25 = .ok (.putfield 18, 3) := by decide +kernel
theorem dX7_init_28 : decode cX7_init 28 = .ok (.aload_n 0, 1) := by decide +kernel
theorem dX7_init_29 : decode cX7_init 29 = .ok (.bipush 10, 2) := by decide +kernel
theorem dX7_init_31 : decode cX7_init 31 = .ok (.newarray .int, 2) := by decide +kernel
theorem dX7_init_33 : decode cX7_init 33 = .ok (.putfield 21, 3) := by decide +kernel
theorem dX7_init_36 : decode cX7_init 36 = .ok (.aload_n 0, 1) := by decide +kernel
theorem dX7_init_37 : decode cX7_init 37 = .ok (.bipush 10, 2) := by decide +kernel
theorem dX7_init_39 : decode cX7_init 39 = .ok (.newarray .int, 2) := by decide +kernel
theorem dX7_init_41 : decode cX7_init 41 = .ok (.putfield 24, 3) := by decide +kernel
theorem dX7_init_44 : decode cX7_init 44 = .ok (.aload_n 0, 1) := by decide +kernel
theorem dX7_init_45 : decode cX7_init 45 = .ok (.bipush 60, 2) := by decide +kernel
theorem dX7_init_47 : decode cX7_init 47 = .ok (.newarray .int, 2) := by decide +kernel
theorem dX7_init_49 : decode cX7_init 49 = .ok (.putfield 27, 3) := by decide +kernel
theorem dX7_init_52 : decode cX7_init 52 = .ok (.aload_n 0, 1) := by decide +kernel
theorem dX7_init_53 : decode cX7_init 53 = .ok (.bipush 10, 2) := by decide +kernel
theorem dX7_init_55 : decode cX7_init 55 = .ok (.newarray .int, 2) := by decide +kernel
theorem dX7_init_57 : decode cX7_init 57 = .ok (.putfield 30, 3) := by decide +kernel
theorem dX7_init_60 : decode cX7_init 60 = .ok (.aload_n 0, 1) := by decide +kernel
theorem dX7_init_61 : decode cX7_init 61 = .ok (.bipush 12, 2) := by decide +kernel
theorem dX7_init_63 : decode cX7_init 63 = .ok (.newarray .int, 2) := by decide +kernel
theorem dX7_init_65 : decode cX7_init 65 = .ok (.putfield 33, 3) := by decide +kernel
theorem dX7_init_68 : decode cX7_init 68 = .ok (.aload_n 0, 1) := by decide +kernel
theorem dX7_init_69 : decode cX7_init 69 = .ok (.bipush 12, 2) := by decide +kernel
theorem dX7_init_71 : decode cX7_init 71 = .ok (.newarray .int, 2) := by decide +kernel
theorem dX7_init_73 : decode cX7_init 73 = .ok (.putfield 36, 3) := by decide +kernel
theorem dX7_init_76 : decode cX7_init 76 = .ok (.aload_n 0, 1) := by decide +kernel
theorem dX7_init_77 : decode cX7_init 77 = .ok (.bipush 12, 2) := by decide +kernel
theorem dX7_init_79 : decode cX7_init 79 = .ok (.newarray .int, 2) := by decide +kernel
theorem dX7_init_81 : decode cX7_init 81 = .ok (.putfield 39, 3) := by decide +kernel
theorem dX7_init_84 : decode cX7_init 84 = .ok (.aload_n 0, 1) := by decide +kernel
theorem dX7_init_85 : decode cX7_init 85 = .ok (.invokevirtual 42, 3) := by decide +kernel
theorem dX7_init_88 : decode cX7_init 88 = .ok (.return_, 1) := by decide +kernel
theorem dX7_begin_0 : decode cX7_begin 0 = .ok (.aload_n 0, 1) := by decide +kernel
theorem dX7_begin_1 : decode cX7_begin 1 = .ok (.iconst 0, 1) := by decide +kernel
theorem dX7_begin_2 : decode cX7_begin 2 = .ok (.putfield 45, 3) := by decide +kernel
theorem dX7_begin_5 : decode cX7_begin 5 = .ok (.aload_n 0, 1) := by decide +kernel
theorem dX7_begin_6 : decode cX7_begin 6 = .ok (.iconst 0, 1) := by decide +kernel
theorem dX7_begin_7 : decode cX7_begin 7 = .ok (.putfield 49, 3) := by decide +kernel
theorem dX7_begin_10 : decode cX7_begin 10 = .ok (.aload_n 0, 1) := by decide +kernel
theorem dX7_begin_11 : decode cX7_begin 11 = .ok (.bipush 6, 2) := by decide +kernel
theorem dX7_begin_13 : decode cX7_begin 13 = .ok (.putfield 52, 3) := by decide +kernel
theorem dX7_begin_16 : decode cX7_begin 16 = .ok (.aload_n 0, 1) := by decide +kernel
theorem dX7_begin_17 : decode cX7_begin 17 = .ok (.iconst 2, 1) := by decide +kernel
theorem dX7_begin_18 : decode cX7_begin 18 = .ok (.putfield 55, 3) := by decide +kernel
theorem dX7_begin_21 : decode cX7_begin 21 = .ok (.aload_n 0, 1) := by decide +kernel
theorem dX7_begin_22 : decode cX7_begin 22 = .ok (.iconst 5, 1) := by decide +kernel
theorem dX7_begin_23 : decode cX7_begin 23 = .ok (.putfield 58, 3) := by decide +kernel
theorem dX7_begin_26 : decode cX7_begin 26 = .ok (.aload_n 0, 1) := by decide +kernel
theorem dX7_begin_27 : decode cX7_begin 27 = .ok (.iconst 0, 1) := by decide +kernel
theorem dX7_begin_28 : decode cX7_begin 28 = .ok (.putfield 61, 3) := by decide +kernel
theorem dX7_begin_31 : decode cX7_begin 31 = .ok (.return_, 1) := by decide +kernel
theorem dX7_takeFrom_0 : decode cX7_takeFrom 0 = .ok (.aload_n 1, 1) := by decide +kernel
theorem dX7_takeFrom_1 : decode cX7_takeFrom 1 = .ok (.getfield 9, 3) := by decide +kernel
theorem dX7_takeFrom_4 : decode cX7_takeFrom 4 = .ok (.iconst 0, 1) := by decide +kernel
theorem dX7_takeFrom_5 : decode cX7_takeFrom 5 = .ok (.aload_n 0, 1) := by decide +kernel
theorem dX7_takeFrom_6 : decode cX7_takeFrom 6 = .ok (.getfield 9, 3) := by decide +kernel
theorem dX7_takeFrom_9 : decode cX7_takeFrom 9 = .ok (.iconst 0, 1) := by decide +kernel
theorem dX7_takeFrom_10 : decode cX7_takeFrom 10 = .ok (.bipush 10, 2) := by decide +kernel
theorem dX7_takeFrom_12 : decode cX7_takeFrom 12 = .ok (.invokestatic 64, 3) := by decide +kernel
theorem dX7_takeFrom_15 : decode cX7_takeFrom 15 = .ok (.aload_n 1, 1) := by decide +kernel
theorem dX7_takeFrom_16 : decode cX7_takeFrom 16 = .ok (.getfield 15, 3) := by decide +kernel
theorem dX7_takeFrom_19 : decode cX7_takeFrom 19 = .ok (.iconst 0, 1) := by decide +kernel
theorem dX7_takeFrom_20 : decode cX7_takeFrom 20 = .ok (.aload_n 0, 1) := by decide +kernel
theorem dX7_takeFrom_21 : decode cX7_takeFrom 21 = .ok (.getfield 15, 3) := by decide +kernel
theorem dX7_takeFrom_24 : decode cX7_takeFrom 24 = .ok (.iconst 0, 1) := by decide +kernel
theorem dX7_takeFrom_25 : decode cX7_takeFrom 25 = .ok (.bipush 10, 2) := by decide +kernel
theorem dX7_takeFrom_27 : decode cX7_takeFrom 27 = .ok (.invokestatic 64, 3) := by decide +kernel
theorem dX7_takeFrom_30 : decode cX7_takeFrom 30 = .ok (.aload_n 1, 1) := by decide +kernel
theorem dX7_takeFrom_31 : decode cX7_takeFrom 31 = .ok (.getfield 18, 3) := by decide +kernel
theorem dX7_takeFrom_34 : decode cX7_takeFrom 34 = .ok (.iconst 0, 1) := by decide +kernel
theorem dX7_takeFrom_35 : decode cX7_takeFrom 35 = .ok (.aload_n 0, 1) := by decide +kernel
theorem dX7_takeFrom_36 : decode cX7_takeFrom 36 = .ok (.getfield 18, 3) := by decide +kernel
theorem dX7_takeFrom_39 : decode cX7_takeFrom 39 = .ok (.iconst 0, 1) := by decide +kernel
theorem dX7_takeFrom_40 : decode cX7_takeFrom 40 = .ok (.bipush 10, 2) := by decide +kernel
theorem dX7_takeFrom_42 : decode cX7_takeFrom 42 = .ok (.invokestatic 64, 3) := by decide +kernel
theorem dX7_takeFrom_45 : decode cX7_takeFrom 45 = .ok (.aload_n 1, 1) := by decide +kernel
theorem dX7_takeFrom_46 : decode cX7_takeFrom 46 = .ok (.getfield 21, 3) := by decide +kernel
theorem dX7_takeFrom_49 : decode cX7_takeFrom 49 = .ok (.iconst 0, 1) := by decide +kernel
theorem dX7_takeFrom_50 : decode cX7_takeFrom 50 = .ok (.aload_n 0, 1) := by decide +kernel
theorem dX7_takeFrom_51 : decode cX7_takeFrom 51 = .ok (.getfield 21, 3) := by decide +kernel
theorem dX7_takeFrom_54 : decode cX7_takeFrom 54 = .ok (.iconst 0, 1) := by decide +kernel
theorem dX7_takeFrom_55 : decode cX7_takeFrom 55 = .ok (.bipush 10, 2) := by decide +kernel
theorem dX7_takeFrom_57 : decode cX7_takeFrom 57 = .ok (.invokestatic 64, 3) := by decide +kernel
theorem dX7_takeFrom_60 : decode cX7_takeFrom 60 = .ok (.aload_n 1, 1) := by decide +kernel
theorem dX7_takeFrom_61 : decode cX7_takeFrom 61 = .ok (.getfield 24, 3) := by decide +kernel
theorem dX7_takeFrom_64 : decode cX7_takeFrom 64 = .ok (.iconst 0, 1) := by decide +kernel
theorem dX7_takeFrom_65 : decode cX7_takeFrom 65 = .ok (.aload_n 0, 1) := by decide +kernel
theorem dX7_takeFrom_66 : decode cX7_takeFrom 66 = .ok (.getfield 24, 3) := by decide +kernel
theorem dX7_takeFrom_69 : decode cX7_takeFrom 69 = .ok (.iconst 0, 1) := by decide +kernel
theorem dX7_takeFrom_70 : decode cX7_takeFrom 70 = .ok (.bipush 10, 2) := by decide +kernel
theorem dX7_takeFrom_72 : decode cX7_takeFrom 72 = .ok (.invokestatic 64, 3) := by decide +kernel
theorem dX7_takeFrom_75 : decode cX7_takeFrom 75 = .ok (.aload_n 1, 1) := by decide +kernel
theorem dX7_takeFrom_76 : decode cX7_takeFrom 76 = .ok (.getfield 27, 3) := by decide +kernel
theorem dX7_takeFrom_79 : decode cX7_takeFrom 79 = .ok (.iconst 0, 1) := by decide +kernel
theorem dX7_takeFrom_80 : decode cX7_takeFrom 80 = .ok (.aload_n 0, 1) := by decide +kernel
theorem dX7_takeFrom_81 : decode cX7_takeFrom 81 = .ok (.getfield 27, 3) := by decide +kernel
theorem dX7_takeFrom_84 : decode cX7_takeFrom 84 = .ok (.iconst 0, 1) := by decide +kernel
theorem dX7_takeFrom_85 : decode cX7_takeFrom 85 = .ok (.bipush 60, 2) := by decide +kernel
theorem dX7_takeFrom_87 : decode cX7_takeFrom 87 = .ok (.invokestatic 64, 3) := by decide +kernel
theorem dX7_takeFrom_90 : decode cX7_takeFrom 90 = .ok (.aload_n 1, 1) := by decide +kernel
theorem dX7_takeFrom_91 : decode cX7_takeFrom 91 = .ok (.getfield 30, 3) := by decide +kernel
theorem dX7_takeFrom_94 : decode cX7_takeFrom 94 = .ok (.iconst 0, 1) := by decide +kernel
theorem dX7_takeFrom_95 : decode cX7_takeFrom 95 = .ok (.aload_n 0, 1) := by decide +kernel
theorem dX7_takeFrom_96 : decode cX7_takeFrom 96 = .ok (.getfield 30, 3) := by decide +kernel
theorem dX7_takeFrom_99 : decode cX7_takeFrom 99 = .ok (.iconst 0, 1) := by decide +kernel
theorem dX7_takeFrom_100 : decode cX7_takeFrom 100 = .ok (.bipush 10, 2) := by decide +kernel
theorem dX7_takeFrom_102 : decode cX7_takeFrom 102 = .ok (.invokestatic 64, 3) := by decide +kernel
theorem dX7_takeFrom_105 : decode cX7_takeFrom 105 = .ok (.aload_n 1, 1) := by decide +kernel
theorem dX7_takeFrom_106 : decode cX7_takeFrom 106 = .ok (.getfield 33, 3) := by decide +kernel
theorem dX7_takeFrom_109 : decode cX7_takeFrom 109 = .ok (.iconst 0, 1) := by decide +kernel
theorem dX7_takeFrom_110 : decode cX7_takeFrom 110 = .ok (.aload_n 0, 1) := by decide +kernel
theorem dX7_takeFrom_111 : decode cX7_takeFrom 111 = .ok (.getfield 33, 3) := by decide +kernel
theorem dX7_takeFrom_114 : decode cX7_takeFrom 114 = .ok (.iconst 0, 1) := by decide +kernel
theorem dX7_takeFrom_115 : decode cX7_takeFrom 115 = .ok (.bipush 12, 2) := by decide +kernel
theorem dX7_takeFrom_117 : decode cX7_takeFrom 117 = .ok (.invokestatic 64, 3) := by decide +kernel
theorem dX7_takeFrom_120 : decode cX7_takeFrom 120 = .ok (.aload_n 1, 1) := by decide +kernel
theorem dX7_takeFrom_121 : decode cX7_takeFrom 121 = .ok (.getfield 36, 3) := by decide +kernel
theorem dX7_takeFrom_124 : decode cX7_takeFrom 124 = .ok (.iconst 0, 1) := by decide +kernel
theorem dX7_takeFrom_125 : decode cX7_takeFrom 125 = .ok (.aload_n 0, 1) := by decide +kernel
theorem dX7_takeFrom_126 : decode cX7_takeFrom 126 = .ok (.getfield 36, 3) := by decide +kernel
theorem dX7_takeFrom_129 : decode cX7_takeFrom 129 = .ok (.iconst 0, 1) := by decide +kernel
theorem dX7_takeFrom_130 : decode cX7_takeFrom 130 = .ok (.bipush 12, 2) := by decide +kernel
theorem dX7_takeFrom_132 : decode cX7_takeFrom 132 = .ok (.invokestatic 64, 3) := by decide +kernel
theorem dX7_takeFrom_135 : decode cX7_takeFrom 135 = .ok (.aload_n 1, 1) := by decide +kernel
theorem dX7_takeFrom_136 : decode cX7_takeFrom 136 = .ok (.getfield 39, 3) := by decide +kernel
theorem dX7_takeFrom_139 : decode cX7_takeFrom 139 = .ok (.iconst 0, 1) := by decide +kernel
theorem dX7_takeFrom_140 : decode cX7_takeFrom 140 = .ok (.aload_n 0, 1) := by decide +kernel
theorem dX7_takeFrom_141 : decode cX7_takeFrom 141 = .ok (.getfield 39, 3) := by decide +kernel
theorem dX7_takeFrom_144 : decode cX7_takeFrom 144 = .ok (.iconst 0, 1) := by decide +kernel
theorem dX7_takeFrom_145 : decode cX7_takeFrom 145 = .ok (.bipush 12, 2) := by decide +kernel
theorem dX7_takeFrom_147 : decode cX7_takeFrom 147 = .ok (.invokestatic 64, 3) := by decide +kernel
theorem dX7_takeFrom_150 : decode cX7_takeFrom 150 = .ok (.aload_n 0, 1) := by decide +kernel
theorem dX7_takeFrom_151 : decode cX7_takeFrom 151 = .ok (.aload_n 1, 1) := by decide +kernel
theorem dX7_takeFrom_152 : decode cX7_takeFrom 152 = .ok (.getfield 45, 3) := by decide +kernel
theorem dX7_takeFrom_155 : decode cX7_takeFrom 155 = .ok (.putfield 45, 3) := by decide +kernel
theorem dX7_takeFrom_158 : decode cX7_takeFrom 158 = .ok (.aload_n 0, 1) := by decide +kernel
theorem dX7_takeFrom_159 : decode cX7_takeFrom 159 = .ok (.aload_n 1, 1) := by decide +kernel
theorem dX7_takeFrom_160 : decode cX7_takeFrom 160 = .ok (.getfield 49, 3) := by decide +kernel
theorem dX7_takeFrom_163 : decode cX7_takeFrom 163 = .ok (.putfield 49, 3) := by decide +kernel
theorem dX7_takeFrom_166 : decode cX7_takeFrom 166 = .ok (.aload_n 0, 1) := by decide +kernel
theorem dX7_takeFrom_167 : decode cX7_takeFrom 167 = .ok (.aload_n 1, 1) := by decide +kernel
theorem dX7_takeFrom_168 : decode cX7_takeFrom 168 = .ok (.getfield 52, 3) := by decide +kernel
theorem dX7_takeFrom_171 : decode cX7_takeFrom 171 = .ok (.putfield 52, 3) := by decide +kernel
theorem dX7_takeFrom_174 : decode cX7_takeFrom 174 = .ok (.aload_n 0, 1) := by decide +kernel
theorem dX7_takeFrom_175 : decode cX7_takeFrom 175 = .ok (.aload_n 1, 1) := by decide +kernel
theorem dX7_takeFrom_176 : decode cX7_takeFrom 176 = .ok (.getfield 55, 3) := by decide +kernel
theorem dX7_takeFrom_179 : decode cX7_takeFrom 179 = .ok (.putfield 55, 3) := by decide +kernel
theorem dX7_takeFrom_182 : decode cX7_takeFrom 182 = .ok (.aload_n 0, 1) := by decide +kernel
theorem dX7_takeFrom_183 : decode cX7_takeFrom 183 = .ok (.aload_n 1, 1) := by decide +kernel
theorem dX7_takeFrom_184 : decode cX7_takeFrom 184 = .ok (.getfield 58, 3) := by decide +kernel
theorem dX7_takeFrom_187 : decode cX7_takeFrom 187 = .ok (.putfield 58, 3) := by decide +kernel
theorem dX7_takeFrom_190 : decode cX7_takeFrom 190 = .ok (.aload_n 0, 1) := by decide +kernel
theorem dX7_takeFrom_191 : decode cX7_takeFrom 191 = .ok (.aload_n 1, 1) := by decide +kernel
theorem dX7_takeFrom_192 : decode cX7_takeFrom 192 = .ok (.getfield 61, 3) := by decide +kernel
theorem dX7_takeFrom_195 : decode cX7_takeFrom 195 = .ok (.putfield 61, 3) := by decide +kernel
theorem dX7_takeFrom_198 : decode cX7_takeFrom 198 = .ok (.return_, 1) := by decide +kernel
theorem dX7_addChimney_0 : decode cX7_addChimney 0 = .ok (.aload_n 0, 1) := by decide +kernel
theorem dX7_addChimney_1 : decode cX7_addChimney 1 = .ok (.getfield 45, 3) := by decide +kernel
theorem dX7_addChimney_4 : decode cX7_addChimney 4 = .ok (.bipush 10, 2) := by decide +kernel
theorem dX7_addChimney_6 : decode cX7_addChimney 6 = .ok (.if_icmp .ge 53, 3) := by decide +kernel
theorem dX7_addChimney_9 : decode cX7_addChimney 9 = .ok (.aload_n 0, 1) := by decide +kernel
theorem dX7_addChimney_10 : decode cX7_addChimney 10 = .ok (.getfield 9, 3) := by decide +kernel
theorem dX7_addChimney_13 : decode cX7_addChimney 13 = .ok (.aload_n 0, 1) := by decide +kernel
theorem dX7_addChimney_14 : decode cX7_addChimney 14 = .ok (.getfield 45, 3) := by decide +kernel
theorem dX7_addChimney_17 : decode cX7_addChimney 17 = .ok (.iload_n 1, 1) := by decide +kernel
theorem dX7_addChimney_18 : decode cX7_addChimney 18 = .ok (.iastore, 1) := by decide +kernel
theorem dX7_addChimney_19 : decode cX7_addChimney 19 = .ok (.aload_n 0, 1) := by decide +kernel
theorem dX7_addChimney_20 : decode cX7_addChimney 20 = .ok (.getfield 15, 3) := by decide +kernel
theorem dX7_addChimney_23 : decode cX7_addChimney 23 = .ok (.aload_n 0, 1) := by decide +kernel
theorem dX7_addChimney_24 : decode cX7_addChimney 24 = .ok (.getfield 45, 3) := by decide +kernel
theorem dX7_addChimney_27 : decode cX7_addChimney 27 = .ok (.iload_n 2, 1) := by decide +kernel
theorem dX7_addChimney_28 : decode cX7_addChimney 28 = .ok (.iastore, 1) := by decide +kernel
theorem dX7_addChimney_29 : decode cX7_addChimney 29 = .ok (.aload_n 0, 1) := by decide +kernel
theorem dX7_addChimney_30 : decode cX7_addChimney 30 = .ok (.getfield 24, 3) := by decide +kernel
theorem dX7_addChimney_33 : decode cX7_addChimney 33 = .ok (.aload_n 0, 1) := by decide +kernel
theorem dX7_addChimney_34 : decode cX7_addChimney 34 = .ok (.getfield 45, 3) := by decide +kernel
theorem dX7_addChimney_37 : decode cX7_addChimney 37 = .ok (.iconst 0, 1) := by decide +kernel
theorem dX7_addChimney_38 : decode cX7_addChimney 38 = .ok (.iastore, 1) := by decide +kernel
theorem dX7_addChimney_39 : decode cX7_addChimney 39 = .ok (.aload_n 0, 1) := by decide +kernel
theorem dX7_addChimney_40 : decode cX7_addChimney 40 = .ok (.getfield 30, 3) := by decide +kernel
theorem dX7_addChimney_43 : decode cX7_addChimney 43 = .ok (.aload_n 0, 1) := by decide +kernel
theorem dX7_addChimney_44 : decode cX7_addChimney 44 = .ok (.getfield 45, 3) := by decide +kernel
theorem dX7_addChimney_47 : decode cX7_addChimney 47 = .ok (.iconst (-1), 1) := by decide +kernel
theorem dX7_addChimney_48 : decode cX7_addChimney 48 = .ok (.iastore, 1) := by decide +kernel
theorem dX7_addChimney_49 : decode cX7_addChimney 49 = .ok (.aload_n 0, 1) := by decide +kernel
theorem dX7_addChimney_50 : decode cX7_addChimney 50 = .ok (.dup, 1) := by decide +kernel
theorem dX7_addChimney_51 : decode cX7_addChimney 51 = .ok (.getfield 45, 3) := by decide +kernel
theorem dX7_addChimney_54 : decode cX7_addChimney 54 = .ok (.iconst 1, 1) := by decide +kernel
theorem dX7_addChimney_55 : decode cX7_addChimney 55 = .ok (.iadd, 1) := by decide +kernel
theorem dX7_addChimney_56 : decode cX7_addChimney 56 = .ok (.putfield 45, 3) := by decide +kernel
theorem dX7_addChimney_59 : decode cX7_addChimney 59 = .ok (.return_, 1) := by decide +kernel
theorem dX7_addSmoke_0 : decode cX7_addSmoke 0 = .ok (.aload_n 0, 1) := by decide +kernel
theorem dX7_addSmoke_1 : decode cX7_addSmoke 1 = .ok (.getfield 45, 3) := by decide +kernel
theorem dX7_addSmoke_4 : decode cX7_addSmoke 4 = .ok (.iconst 1, 1) := by decide +kernel
theorem dX7_addSmoke_5 : decode cX7_addSmoke 5 = .ok (.isub, 1) := by decide +kernel
theorem dX7_addSmoke_6 : decode cX7_addSmoke 6 = .ok (.istore_n 2, 1) := by decide +kernel
theorem dX7_addSmoke_7 : decode cX7_addSmoke 7 = .ok (.iload_n 2, 1) := by decide +kernel
theorem dX7_addSmoke_8 : decode cX7_addSmoke 8 = .ok (.ifCond .lt 41, 3) := by decide +kernel
theorem dX7_addSmoke_11 : decode cX7_addSmoke 11 = .ok (.aload_n 0, 1) := by decide +kernel
theorem dX7_addSmoke_12 : decode cX7_addSmoke 12 = .ok (.getfield 24, 3) := by decide +kernel
theorem dX7_addSmoke_15 : decode cX7_addSmoke 15 = .ok (.iload_n 2, 1) := by decide +kernel
theorem dX7_addSmoke_16 : decode cX7_addSmoke 16 = .ok (.iaload, 1) := by decide +kernel
theorem dX7_addSmoke_17 : decode cX7_addSmoke 17 = .ok (.bipush 6, 2) := by decide +kernel
theorem dX7_addSmoke_19 : decode cX7_addSmoke 19 = .ok (.if_icmp .ge 30, 3) := by decide +kernel
theorem dX7_addSmoke_22 : decode cX7_addSmoke 22 = .ok (.aload_n 0, 1) := by decide +kernel
theorem dX7_addSmoke_23 : decode cX7_addSmoke 23 = .ok (.getfield 27, 3) := by decide +kernel
theorem dX7_addSmoke_26 : decode cX7_addSmoke 26 = .ok (.iload_n 2, 1) := by decide +kernel
theorem dX7_addSmoke_27 : decode cX7_addSmoke 27 = .ok (.bipush 6, 2) := by decide +kernel
theorem dX7_addSmoke_29 : decode cX7_addSmoke 29 = .ok (.imul, 1) := by decide +kernel
theorem dX7_addSmoke_30 : decode cX7_addSmoke 30 = .ok (.aload_n 0, 1) := by decide +kernel
theorem dX7_addSmoke_31 : decode cX7_addSmoke 31 = .ok (.getfield 24, 3) := by decide +kernel
theorem dX7_addSmoke_34 : decode cX7_addSmoke 34 = .ok (.iload_n 2, 1) := by decide +kernel
theorem dX7_addSmoke_35 : decode cX7_addSmoke 35 = .ok (.iaload, 1) := by decide +kernel
theorem dX7_addSmoke_36 : decode cX7_addSmoke 36 = .ok (.iadd, 1) := by decide +kernel
theorem dX7_addSmoke_37 : decode cX7_addSmoke 37 = .ok (.iload_n 1, 1) := by decide +kernel
theorem dX7_addSmoke_38 : decode cX7_addSmoke 38 = .ok (.iastore, 1) := by decide +kernel
theorem dX7_addSmoke_39 : decode cX7_addSmoke 39 = .ok (.aload_n 0, 1) := by decide +kernel
theorem dX7_addSmoke_40 : decode cX7_addSmoke 40 = .ok (.getfield 24, 3) := by decide +kernel
theorem dX7_addSmoke_43 : decode cX7_addSmoke 43 = .ok (.iload_n 2, 1) := by decide +kernel
theorem dX7_addSmoke_44 : decode cX7_addSmoke 44 = .ok (.dup2, 1) := by decide +kernel
theorem dX7_addSmoke_45 : decode cX7_addSmoke 45 = .ok (.iaload, 1) := by decide +kernel
theorem dX7_addSmoke_46 : decode cX7_addSmoke 46 = .ok (.iconst 1, 1) := by decide +kernel
theorem dX7_addSmoke_47 : decode cX7_addSmoke 47 = .ok (.iadd, 1) := by decide +kernel
theorem dX7_addSmoke_48 : decode cX7_addSmoke 48 = .ok (.iastore, 1) := by decide +kernel
theorem dX7_addSmoke_49 : decode cX7_addSmoke 49 = .ok (.return_, 1) := by decide +kernel
theorem dX7_bound_0 : decode cX7_bound 0 = .ok (.aload_n 0, 1) := by decide +kernel
theorem dX7_bound_1 : decode cX7_bound 1 = .ok (.getfield 45, 3) := by decide +kernel
theorem dX7_bound_4 : decode cX7_bound 4 = .ok (.ifCond .le 27, 3) := by decide +kernel
theorem dX7_bound_7 : decode cX7_bound 7 = .ok (.aload_n 0, 1) := by decide +kernel
theorem dX7_bound_8 : decode cX7_bound 8 = .ok (.getfield 18, 3) := by decide +kernel
theorem dX7_bound_11 : decode cX7_bound 11 = .ok (.aload_n 0, 1) := by decide +kernel
theorem dX7_bound_12 : decode cX7_bound 12 = .ok (.getfield 45, 3) := by decide +kernel
theorem dX7_bound_15 : decode cX7_bound 15 = .ok (.iconst 1, 1) := by decide +kernel
theorem dX7_bound_16 : decode cX7_bound 16 = .ok (.isub, 1) := by decide +kernel
theorem dX7_bound_17 : decode cX7_bound 17 = .ok (.iload_n 1, 1) := by decide +kernel
theorem dX7_bound_18 : decode cX7_bound 18 = .ok (.iastore, 1) := by decide +kernel
theorem dX7_bound_19 : decode cX7_bound 19 = .ok (.aload_n 0, 1) := by decide +kernel
theorem dX7_bound_20 : decode cX7_bound 20 = .ok (.getfield 21, 3) := by decide +kernel
theorem dX7_bound_23 : decode cX7_bound 23 = .ok (.aload_n 0, 1) := by decide +kernel
theorem dX7_bound_24 : decode cX7_bound 24 = .ok (.getfield 45, 3) := by decide +kernel
theorem dX7_bound_27 : decode cX7_bound 27 = .ok (.iconst 1, 1) := by decide +kernel
theorem dX7_bound_28 : decode cX7_bound 28 = .ok (.isub, 1) := by decide +kernel
theorem dX7_bound_29 : decode cX7_bound 29 = .ok (.iload_n 2, 1) := by decide +kernel
theorem dX7_bound_30 : decode cX7_bound 30 = .ok (.iastore, 1) := by decide +kernel
theorem dX7_bound_31 : decode cX7_bound 31 = .ok (.return_, 1) := by decide +kernel
theorem dX7_addWind_0 : decode cX7_addWind 0 = .ok (.aload_n 0, 1) := by decide +kernel
theorem dX7_addWind_1 : decode cX7_addWind 1 = .ok (.getfield 49, 3) := by decide +kernel
theorem dX7_addWind_4 : decode cX7_addWind 4 = .ok (.bipush 12, 2) := by decide +kernel
theorem dX7_addWind_6 : decode cX7_addWind 6 = .ok (.if_icmp .ge 43, 3) := by decide +kernel
theorem dX7_addWind_9 : decode cX7_addWind 9 = .ok (.aload_n 0, 1) := by decide +kernel
theorem dX7_addWind_10 : decode cX7_addWind 10 = .ok (.getfield 33, 3) := by decide +kernel
theorem dX7_addWind_13 : decode cX7_addWind 13 = .ok (.aload_n 0, 1) := by decide +kernel
theorem dX7_addWind_14 : decode cX7_addWind 14 = .ok (.getfield 49, 3) := by decide +kernel
theorem dX7_addWind_17 : decode cX7_addWind 17 = .ok (.iload_n 1, 1) := by decide +kernel
theorem dX7_addWind_18 : decode cX7_addWind 18 = .ok (.iastore, 1) := by decide +kernel
theorem dX7_addWind_19 : decode cX7_addWind 19 = .ok (.aload_n 0, 1) := by decide +kernel
theorem dX7_addWind_20 : decode cX7_addWind 20 = .ok (.getfield 36, 3) := by decide +kernel
theorem dX7_addWind_23 : decode cX7_addWind 23 = .ok (.aload_n 0, 1) := by decide +kernel
theorem dX7_addWind_24 : decode cX7_addWind 24 = .ok (.getfield 49, 3) := by decide +kernel
theorem dX7_addWind_27 : decode cX7_addWind 27 = .ok (.iload_n 2, 1) := by decide +kernel
theorem dX7_addWind_28 : decode cX7_addWind 28 = .ok (.iastore, 1) := by decide +kernel
theorem dX7_addWind_29 : decode cX7_addWind 29 = .ok (.aload_n 0, 1) := by decide +kernel
theorem dX7_addWind_30 : decode cX7_addWind 30 = .ok (.getfield 39, 3) := by decide +kernel
theorem dX7_addWind_33 : decode cX7_addWind 33 = .ok (.aload_n 0, 1) := by decide +kernel
theorem dX7_addWind_34 : decode cX7_addWind 34 = .ok (.getfield 49, 3) := by decide +kernel
theorem dX7_addWind_37 : decode cX7_addWind 37 = .ok (.iload_n 3, 1) := by decide +kernel
theorem dX7_addWind_38 : decode cX7_addWind 38 = .ok (.iastore, 1) := by decide +kernel
theorem dX7_addWind_39 : decode cX7_addWind 39 = .ok (.aload_n 0, 1) := by decide +kernel
theorem dX7_addWind_40 : decode cX7_addWind 40 = .ok (.dup, 1) := by decide +kernel
theorem dX7_addWind_41 : decode cX7_addWind 41 = .ok (.getfield 49, 3) := by decide +kernel
theorem dX7_addWind_44 : decode cX7_addWind 44 = .ok (.iconst 1, 1) := by decide +kernel
theorem dX7_addWind_45 : decode cX7_addWind 45 = .ok (.iadd, 1) := by decide +kernel
theorem dX7_addWind_46 : decode cX7_addWind 46 = .ok (.putfield 49, 3) := by decide +kernel
theorem dX7_addWind_49 : decode cX7_addWind 49 = .ok (.return_, 1) := by decide +kernel
theorem dX7_has_0 : decode cX7_has 0 = .ok (.iload_n 1, 1) := by decide +kernel
theorem dX7_has_1 : decode cX7_has 1 = .ok (.ifCond .lt 15, 3) := by decide +kernel
theorem dX7_has_4 : decode cX7_has 4 = .ok (.iload_n 1, 1) := by decide +kernel
theorem dX7_has_5 : decode cX7_has 5 = .ok (.aload_n 0, 1) := by decide +kernel
theorem dX7_has_6 : decode cX7_has 6 = .ok (.getfield 45, 3) := by decide +kernel
theorem dX7_has_9 : decode cX7_has 9 = .ok (.if_icmp .ge 7, 3) := by decide +kernel
theorem dX7_has_12 : decode cX7_has 12 = .ok (.iconst 1, 1) := by decide +kernel
theorem dX7_has_13 : decode cX7_has 13 = .ok (.goto 4, 3) := by decide +kernel
theorem dX7_has_16 : decode cX7_has 16 = .ok (.iconst 0, 1) := by decide +kernel
theorem dX7_has_17 : decode cX7_has 17 = .ok (.ireturn, 1) := by decide +kernel
theorem dX7_isLit_0 : decode cX7_isLit 0 = .ok (.aload_n 0, 1) := by decide +kernel
theorem dX7_isLit_1 : decode cX7_isLit 1 = .ok (.iload_n 1, 1) := by decide +kernel
theorem dX7_isLit_2 : decode cX7_isLit 2 = .ok (.invokevirtual 70, 3) := by decide +kernel
theorem dX7_isLit_5 : decode cX7_isLit 5 = .ok (.ifCond .eq 17, 3) := by decide +kernel
theorem dX7_isLit_8 : decode cX7_isLit 8 = .ok (.aload_n 0, 1) := by decide +kernel
theorem dX7_isLit_9 : decode cX7_isLit 9 = .ok (.getfield 30, 3) := by decide +kernel
theorem dX7_isLit_12 : decode cX7_isLit 12 = .ok (.iload_n 1, 1) := by decide +kernel
theorem dX7_isLit_13 : decode cX7_isLit 13 = .ok (.iaload, 1) := by decide +kernel
theorem dX7_isLit_14 : decode cX7_isLit 14 = .ok (.iconst (-1), 1) := by decide +kernel
theorem dX7_isLit_15 : decode cX7_isLit 15 = .ok (.if_icmp .eq 7, 3) := by decide +kernel
theorem dX7_isLit_18 : decode cX7_isLit 18 = .ok (.iconst 1, 1) := by decide +kernel
theorem dX7_isLit_19 : decode cX7_isLit 19 = .ok (.goto 4, 3) := by decide +kernel
theorem dX7_isLit_22 : decode cX7_isLit 22 = .ok (.iconst 0, 1) := by decide +kernel
theorem dX7_isLit_23 : decode cX7_isLit 23 = .ok (.ireturn, 1) := by decide +kernel
theorem dX7_mayBeLit_0 : decode cX7_mayBeLit 0 = .ok (.aload_n 0, 1) := by decide +kernel
theorem dX7_mayBeLit_1 : decode cX7_mayBeLit 1 = .ok (.iload_n 1, 1) := by decide +kernel
theorem dX7_mayBeLit_2 : decode cX7_mayBeLit 2 = .ok (.invokevirtual 70, 3) := by decide +kernel
theorem dX7_mayBeLit_5 : decode cX7_mayBeLit 5 = .ok (.ifCond .eq 27, 3) := by decide +kernel
theorem dX7_mayBeLit_8 : decode cX7_mayBeLit 8 = .ok (.iload_n 2, 1) := by decide +kernel
theorem dX7_mayBeLit_9 : decode cX7_mayBeLit 9 = .ok (.aload_n 0, 1) := by decide +kernel
theorem dX7_mayBeLit_10 : decode cX7_mayBeLit 10 = .ok (.getfield 18, 3) := by decide +kernel
theorem dX7_mayBeLit_13 : decode cX7_mayBeLit 13 = .ok (.iload_n 1, 1) := by decide +kernel
theorem dX7_mayBeLit_14 : decode cX7_mayBeLit 14 = .ok (.iaload, 1) := by decide +kernel
theorem dX7_mayBeLit_15 : decode cX7_mayBeLit 15 = .ok (.if_icmp .lt 17, 3) := by decide +kernel
theorem dX7_mayBeLit_18 : decode cX7_mayBeLit 18 = .ok (.iload_n 2, 1) := by decide +kernel
theorem dX7_mayBeLit_19 : decode cX7_mayBeLit 19 = .ok (.aload_n 0, 1) := by decide +kernel
theorem dX7_mayBeLit_20 : decode cX7_mayBeLit 20 = .ok (.getfield 21, 3) := by decide +kernel
theorem dX7_mayBeLit_23 : decode cX7_mayBeLit 23 = .ok (.iload_n 1, 1) := by decide +kernel
theorem dX7_mayBeLit_24 : decode cX7_mayBeLit 24 = .ok (.iaload, 1) := by decide +kernel
theorem dX7_mayBeLit_25 : decode cX7_mayBeLit 25 = .ok (.if_icmp .gt 7, 3) := by decide +kernel
theorem dX7_mayBeLit_28 : decode cX7_mayBeLit 28 = .ok (.iconst 1, 1) := by decide +kernel
theorem dX7_mayBeLit_29 : decode cX7_mayBeLit 29 = .ok (.goto 4, 3) := by decide +kernel
theorem dX7_mayBeLit_32 : decode cX7_mayBeLit 32 = .ok (.iconst 0, 1) := by decide +kernel
theorem dX7_mayBeLit_33 : decode cX7_mayBeLit 33 = .ok (.ireturn, 1) := by decide +kernel
theorem dX7_smokeOf_0 : decode cX7_smokeOf 0 = .ok (.aload_n 0, 1) := by decide +kernel
theorem dX7_smokeOf_1 : decode cX7_smokeOf 1 = .ok (.iload_n 1, 1) := by decide +kernel
theorem dX7_smokeOf_2 : decode cX7_smokeOf 2 = .ok (.invokevirtual 70, 3) := by decide +kernel
theorem dX7_smokeOf_5 : decode cX7_smokeOf 5 = .ok (.ifCond .eq 31, 3) := by decide +kernel
theorem dX7_smokeOf_8 : decode cX7_smokeOf 8 = .ok (.iload_n 2, 1) := by decide +kernel
theorem dX7_smokeOf_9 : decode cX7_smokeOf 9 = .ok (.ifCond .lt 27, 3) := by decide +kernel
theorem dX7_smokeOf_12 : decode cX7_smokeOf 12 = .ok (.iload_n 2, 1) := by decide +kernel
theorem dX7_smokeOf_13 : decode cX7_smokeOf 13 = .ok (.aload_n 0, 1) := by decide +kernel
theorem dX7_smokeOf_14 : decode cX7_smokeOf 14 = .ok (.getfield 24, 3) := by decide +kernel
theorem dX7_smokeOf_17 : decode cX7_smokeOf 17 = .ok (.iload_n 1, 1) := by decide +kernel
theorem dX7_smokeOf_18 : decode cX7_smokeOf 18 = .ok (.iaload, 1) := by decide +kernel
theorem dX7_smokeOf_19 : decode cX7_smokeOf 19 = .ok (.if_icmp .ge 17, 3) := by decide +kernel
theorem dX7_smokeOf_22 : decode cX7_smokeOf 22 = .ok (.aload_n 0, 1) := by decide +kernel
theorem dX7_smokeOf_23 : decode cX7_smokeOf 23 = .ok (.getfield 27, 3) := by decide +kernel
theorem dX7_smokeOf_26 : decode cX7_smokeOf 26 = .ok (.iload_n 1, 1) := by decide +kernel
theorem dX7_smokeOf_27 : decode cX7_smokeOf 27 = .ok (.bipush 6, 2) := by decide +kernel
theorem dX7_smokeOf_29 : decode cX7_smokeOf 29 = .ok (.imul, 1) := by decide +kernel
theorem dX7_smokeOf_30 : decode cX7_smokeOf 30 = .ok (.iload_n 2, 1) := by decide +kernel
theorem dX7_smokeOf_31 : decode cX7_smokeOf 31 = .ok (.iadd, 1) := by decide +kernel
theorem dX7_smokeOf_32 : decode cX7_smokeOf 32 = .ok (.iaload, 1) := by decide +kernel
theorem dX7_smokeOf_33 : decode cX7_smokeOf 33 = .ok (.goto 4, 3) := by decide +kernel
theorem dX7_smokeOf_36 : decode cX7_smokeOf 36 = .ok (.iconst 0, 1) := by decide +kernel
theorem dX7_smokeOf_37 : decode cX7_smokeOf 37 = .ok (.ireturn, 1) := by decide +kernel
theorem dX7_litLater_0 : decode cX7_litLater 0 = .ok (.aload_n 0, 1) := by decide +kernel
theorem dX7_litLater_1 : decode cX7_litLater 1 = .ok (.iload_n 1, 1) := by decide +kernel
theorem dX7_litLater_2 : decode cX7_litLater 2 = .ok (.invokevirtual 74, 3) := by decide +kernel
theorem dX7_litLater_5 : decode cX7_litLater 5 = .ok (.ifCond .eq 11, 3) := by decide +kernel
theorem dX7_litLater_8 : decode cX7_litLater 8 = .ok (.aload_n 0, 1) := by decide +kernel
theorem dX7_litLater_9 : decode cX7_litLater 9 = .ok (.iload_n 2, 1) := by decide +kernel
theorem dX7_litLater_10 : decode cX7_litLater 10 = .ok (.invokevirtual 74, 3) := by decide +kernel
theorem dX7_litLater_13 : decode cX7_litLater 13 = .ok (.ifCond .ne 5, 3) := by decide +kernel
theorem dX7_litLater_16 : decode cX7_litLater 16 = .ok (.iconst 0, 1) := by decide +kernel
theorem dX7_litLater_17 : decode cX7_litLater 17 = .ok (.ireturn, 1) := by decide +kernel
theorem dX7_litLater_18 : decode cX7_litLater 18 = .ok (.aload_n 0, 1) := by decide +kernel
theorem dX7_litLater_19 : decode cX7_litLater 19 = .ok (.getfield 30, 3) := by decide +kernel
theorem dX7_litLater_22 : decode cX7_litLater 22 = .ok (.iload_n 1, 1) := by decide +kernel
theorem dX7_litLater_23 : decode cX7_litLater 23 = .ok (.iaload, 1) := by decide +kernel
theorem dX7_litLater_24 : decode cX7_litLater 24 = .ok (.aload_n 0, 1) := by decide +kernel
theorem dX7_litLater_25 : decode cX7_litLater 25 = .ok (.getfield 30, 3) := by decide +kernel
theorem dX7_litLater_28 : decode cX7_litLater 28 = .ok (.iload_n 2, 1) := by decide +kernel
theorem dX7_litLater_29 : decode cX7_litLater 29 = .ok (.iaload, 1) := by decide +kernel
theorem dX7_litLater_30 : decode cX7_litLater 30 = .ok (.if_icmp .gt 23, 3) := by decide +kernel
theorem dX7_litLater_33 : decode cX7_litLater 33 = .ok (.aload_n 0, 1) := by decide +kernel
theorem dX7_litLater_34 : decode cX7_litLater 34 = .ok (.getfield 30, 3) := by decide +kernel
theorem dX7_litLater_37 : decode cX7_litLater 37 = .ok (.iload_n 1, 1) := by decide +kernel
theorem dX7_litLater_38 : decode cX7_litLater 38 = .ok (.iaload, 1) := by decide +kernel
theorem dX7_litLater_39 : decode cX7_litLater 39 = .ok (.aload_n 0, 1) := by decide +kernel
theorem dX7_litLater_40 : decode cX7_litLater 40 = .ok (.getfield 30, 3) := by decide +kernel
theorem dX7_litLater_43 : decode cX7_litLater 43 = .ok (.iload_n 2, 1) := by decide +kernel
theorem dX7_litLater_44 : decode cX7_litLater 44 = .ok (.iaload, 1) := by decide +kernel
theorem dX7_litLater_45 : decode cX7_litLater 45 = .ok (.if_icmp .ne 12, 3) := by decide +kernel
theorem dX7_litLater_48 : decode cX7_litLater 48 = .ok (.iload_n 1, 1) := by decide +kernel
theorem dX7_litLater_49 : decode cX7_litLater 49 = .ok (.iload_n 2, 1) := by decide +kernel
theorem dX7_litLater_50 : decode cX7_litLater 50 = .ok (.if_icmp .le 7, 3) := by decide +kernel
theorem dX7_litLater_53 : decode cX7_litLater 53 = .ok (.iconst 1, 1) := by decide +kernel
theorem dX7_litLater_54 : decode cX7_litLater 54 = .ok (.goto 4, 3) := by decide +kernel
theorem dX7_litLater_57 : decode cX7_litLater 57 = .ok (.iconst 0, 1) := by decide +kernel
theorem dX7_litLater_58 : decode cX7_litLater 58 = .ok (.ireturn, 1) := by decide +kernel
theorem dX7_litCount_0 : decode cX7_litCount 0 = .ok (.iconst 0, 1) := by decide +kernel
theorem dX7_litCount_1 : decode cX7_litCount 1 = .ok (.istore_n 1, 1) := by decide +kernel
theorem dX7_litCount_2 : decode cX7_litCount 2 = .ok (.iconst 0, 1) := by decide +kernel
theorem dX7_litCount_3 : decode cX7_litCount 3 = .ok (.istore_n 2, 1) := by decide +kernel
theorem dX7_litCount_4 : decode cX7_litCount 4 = .ok (.iload_n 2, 1) := by decide +kernel
theorem dX7_litCount_5 : decode cX7_litCount 5 = .ok (.aload_n 0, 1) := by decide +kernel
theorem dX7_litCount_6 : decode cX7_litCount 6 = .ok (.getfield 45, 3) := by decide +kernel
theorem dX7_litCount_9 : decode cX7_litCount 9 = .ok (.if_icmp .ge 20, 3) := by decide +kernel
theorem dX7_litCount_12 : decode cX7_litCount 12 = .ok (.aload_n 0, 1) := by decide +kernel
theorem dX7_litCount_13 : decode cX7_litCount 13 = .ok (.iload_n 2, 1) := by decide +kernel
theorem dX7_litCount_14 : decode cX7_litCount 14 = .ok (.invokevirtual 74, 3) := by decide +kernel
theorem dX7_litCount_17 : decode cX7_litCount 17 = .ok (.ifCond .eq 6, 3) := by decide +kernel
theorem dX7_litCount_20 : decode cX7_litCount 20 = .ok (.iinc 1 1, 3) := by decide +kernel
theorem dX7_litCount_23 : decode cX7_litCount 23 = .ok (.iinc 2 1, 3) := by decide +kernel
theorem dX7_litCount_26 : decode cX7_litCount 26 = .ok (.goto (-22), 3) := by decide +kernel
theorem dX7_litCount_29 : decode cX7_litCount 29 = .ok (.iload_n 1, 1) := by decide +kernel
theorem dX7_litCount_30 : decode cX7_litCount 30 = .ok (.ireturn, 1) := by decide +kernel
