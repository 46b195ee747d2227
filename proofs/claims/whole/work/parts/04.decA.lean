theorem dX7_init_0 : decode cX7_init 0 = .ok (.aload_n 0, 1) := by decide +kernel
theorem dX7_init_1 : decode cX7_init 1 = .ok (.invokespecial 3, 3) := by decide +kernel
theorem dX7_init_4 : decode cX7_init 4 = .ok (.aload_n 0, 1) := by decide +kernel
theorem dX7_init_5 : decode cX7_init 5 = .ok (.bipush 10, 2) := by decide +kernel
theorem dX7_init_7 : decode cX7_init 7 = .ok (.newarray .int, 2) := by decide +kernel
theorem dX7_init_9 : decode cX7_init 9 = .ok (.putfield 9, 3) := by decide +kernel
theorem dX7_init_12 : decode cX7_init 12 = .ok (.aload_n 0, 1) := by decide +kernel
theorem dX7_init_13 : decode cX7_init 13 = .ok (.bipush 10, 2) := by decide +kernel
theorem dX7_init_15 : decode cX7_init 15 = .ok (.newarray .int, 2) := by decide +kernel
theorem dX7_init_17 : decode cX7_init 17 = .ok (.putfield 15, 3) := by decide +kernel
theorem dX7_init_20 : decode cX7_init 20 = .ok (.aload_n 0, 1) := by decide +kernel
theorem dX7_init_21 : decode cX7_init 21 = .ok (.bipush 10, 2) := by decide +kernel
theorem dX7_init_23 : decode cX7_init 23 = .ok (.newarray .int, 2) := by decide +kernel
theorem dX7_init_25 : decode cX7_init 25 = .ok (.putfield 18, 3) := by decide +kernel
theorem dX7_init_28 : decode cX7_init 28 = .ok (.aload_n 0, 1) := by decide +kernel
theorem dX7_init_29 : decode cX7_init 29 = .ok (.bipush 10, 2) := by decide +kernel
theorem dX7_init_31 : decode cX7_init 31 = .ok (.newarray .int, 2) := by decide +kernel
theorem dX7_init_33 : decode cX7_init 33 = .ok (.putfield 21, 3) := by decide +kernel
theorem dX7_init_36 : decode cX7_init 36 = .ok (.aload_n 0, 1) := by decide +kernel
theorem dX7_init_37 : decode cX7_init 37 = .ok (.bipush 10, 2) := by decide +kernel
theorem dX7_init_39 : decode cX7_init 39 = .ok (.newarray .int, 2) := by decide +kernel
theorem dX7_init_41 : decode cX7_init 41 = .ok (.putfield 24, 3) := by decide +kernel
theorem dX7_init_44 : decode cX7_init 44 = .ok (.aload_n 0, 1) := by decide +kernel
theorem dX7_init_45 : decode cX7_init 45 = .ok (.bipush 60, 2) := by decide +kernel
theorem dX7_init_47 : decode cX7_init 47 = .ok (.newarray .int, 2) := by decide +kernel
theorem dX7_init_49 : decode cX7_init 49 = .ok (.putfield 27, 3) := by decide +kernel
theorem dX7_init_52 : decode cX7_init 52 = .ok (.aload_n 0, 1) := by decide +kernel
theorem dX7_init_53 : decode cX7_init 53 = .ok (.bipush 10, 2) := by decide +kernel
theorem dX7_init_55 : decode cX7_init 55 = .ok (.newarray .int, 2) := by decide +kernel
theorem dX7_init_57 : decode cX7_init 57 = .ok (.putfield 30, 3) := by decide +kernel
theorem dX7_init_60 : decode cX7_init 60 = .ok (.aload_n 0, 1) := by decide +kernel
theorem dX7_init_61 : decode cX7_init 61 = .ok (.bipush 12, 2) := by decide +kernel
theorem dX7_init_63 : decode cX7_init 63 = .ok (.newarray .int, 2) := by decide +kernel
theorem dX7_init_65 : decode cX7_init 65 = .ok (.putfield 33, 3) := by decide +kernel
theorem dX7_init_68 : decode cX7_init 68 = .ok (.aload_n 0, 1) := by decide +kernel
theorem dX7_init_69 : decode cX7_init 69 = .ok (.bipush 12, 2) := by decide +kernel
theorem dX7_init_71 : decode cX7_init 71 = .ok (.newarray .int, 2) := by decide +kernel
theorem dX7_init_73 : decode cX7_init 73 = .ok (.putfield 36, 3) := by decide +kernel
theorem dX7_init_76 : decode cX7_init 76 = .ok (.aload_n 0, 1) := by decide +kernel
theorem dX7_init_77 : decode cX7_init 77 = .ok (.bipush 12, 2) := by decide +kernel
theorem dX7_init_79 : decode cX7_init 79 = .ok (.newarray .int, 2) := by decide +kernel
theorem dX7_init_81 : decode cX7_init 81 = .ok (.putfield 39, 3) := by decide +kernel
theorem dX7_init_84 : decode cX7_init 84 = .ok (.aload_n 0, 1) := by decide +kernel
theorem dX7_init_85 : decode cX7_init 85 = .ok (.invokevirtual 42, 3) := by decide +kernel
theorem dX7_init_88 : decode cX7_init 88 = .ok (.return_, 1) := by decide +kernel
theorem dX7_begin_0 : decode cX7_begin 0 = .ok (.aload_n 0, 1) := by decide +kernel
theorem dX7_begin_1 : decode cX7_begin 1 = .ok (.iconst 0, 1) := by decide +kernel
theorem dX7_begin_2 : decode cX7_begin 2 = .ok (.putfield 45, 3) := by decide +kernel
theorem dX7_begin_5 : decode cX7_begin 5 = .ok (.aload_n 0, 1) := by decide +kernel
theorem dX7_begin_6 : decode cX7_begin 6 = .ok (.iconst 0, 1) := by decide +kernel
theorem dX7_begin_7 : decode cX7_begin 7 = .ok (.putfield 49, 3) := by decide +kernel
theorem dX7_begin_10 : decode cX7_begin 10 = .ok (.aload_n 0, 1) := by decide +kernel
theorem dX7_begin_11 : decode cX7_begin 11 = .ok (.bipush 6, 2) := by decide +kernel
theorem dX7_begin_13 : decode cX7_begin 13 = .ok (.putfield 52, 3) := by decide +kernel
theorem dX7_begin_16 : decode cX7_begin 16 = .ok (.aload_n 0, 1) := by decide +kernel
theorem dX7_begin_17 : decode cX7_begin 17 = .ok (.iconst 2, 1) := by decide +kernel
theorem dX7_begin_18 : decode cX7_begin 18 = .ok (.putfield 55, 3) := by decide +kernel
theorem dX7_begin_21 : decode cX7_begin 21 = .ok (.aload_n 0, 1) := by decide +kernel
theorem dX7_begin_22 : decode cX7_begin 22 = .ok (.iconst 5, 1) := by decide +kernel
theorem dX7_begin_23 : decode cX7_begin 23 = .ok (.putfield 58, 3) := by decide +kernel
theorem dX7_begin_26 : decode cX7_begin 26 = .ok (.aload_n 0, 1) := by decide +kernel
theorem dX7_begin_27 : decode cX7_begin 27 = .ok (.iconst 0, 1) := by decide +kernel
theorem dX7_begin_28 : decode cX7_begin 28 = .ok (.putfield 61, 3) := by decide +kernel
theorem dX7_begin_31 : decode cX7_begin 31 = .ok (.return_, 1) := by decide +kernel
theorem dX7_takeFrom_0 : decode cX7_takeFrom 0 = .ok (.aload_n 1, 1) := by decide +kernel
theorem dX7_takeFrom_1 : decode cX7_takeFrom 1 = .ok (.getfield 9, 3) := by decide +kernel
theorem dX7_takeFrom_4 : decode cX7_takeFrom 4 = .ok (.iconst 0, 1) := by decide +kernel
theorem dX7_takeFrom_5 : decode cX7_takeFrom 5 = .ok (.aload_n 0, 1) := by decide +kernel
theorem dX7_takeFrom_6 : decode cX7_takeFrom 6 = .ok (.getfield 9, 3) := by decide +kernel
theorem dX7_takeFrom_9 : decode cX7_takeFrom 9 = .ok (.iconst 0, 1) := by decide +kernel
theorem dX7_takeFrom_10 : decode cX7_takeFrom 10 = .ok (.bipush 10, 2) := by decide +kernel
theorem dX7_takeFrom_12 : decode cX7_takeFrom 12 = .ok (.invokestatic 64, 3) := by decide +kernel
theorem dX7_takeFrom_15 : decode cX7_takeFrom 15 = .ok (.aload_n 1, 1) := by decide +kernel
theorem dX7_takeFrom_16 : decode cX7_takeFrom 16 = .ok (.getfield 15, 3) := by decide +kernel
theorem dX7_takeFrom_19 : decode cX7_takeFrom 19 = .ok (.iconst 0, 1) := by decide +kernel
theorem dX7_takeFrom_20 : decode cX7_takeFrom 20 = .ok (.aload_n 0, 1) := by decide +kernel
theorem dX7_takeFrom_21 : decode cX7_takeFrom 21 = .ok (.getfield 15, 3) := by decide +kernel
theorem dX7_takeFrom_24 : decode cX7_takeFrom 24 = .ok (.iconst 0, 1) := by decide +kernel
theorem dX7_takeFrom_25 : decode cX7_takeFrom 25 = .ok (.bipush 10, 2) := by decide +kernel
theorem dX7_takeFrom_27 : decode cX7_takeFrom 27 = .ok (.invokestatic 64, 3) := by decide +kernel
theorem dX7_takeFrom_30 : decode cX7_takeFrom 30 = .ok (.aload_n 1, 1) := by decide +kernel
theorem dX7_takeFrom_31 : decode cX7_takeFrom 31 = .ok (.getfield 18, 3) := by decide +kernel
theorem dX7_takeFrom_34 : decode cX7_takeFrom 34 = .ok (.iconst 0, 1) := by decide +kernel
theorem dX7_takeFrom_35 : decode cX7_takeFrom 35 = .ok (.aload_n 0, 1) := by decide +kernel
theorem dX7_takeFrom_36 : decode cX7_takeFrom 36 = .ok (.getfield 18, 3) := by decide +kernel
theorem dX7_takeFrom_39 : decode cX7_takeFrom 39 = .ok (.iconst 0, 1) := by decide +kernel
theorem dX7_takeFrom_40 : decode cX7_takeFrom 40 = .ok (.bipush 10, 2) := by decide +kernel
theorem dX7_takeFrom_42 : decode cX7_takeFrom 42 = .ok (.invokestatic 64, 3) := by decide +kernel
theorem dX7_takeFrom_45 : decode cX7_takeFrom 45 = .ok (.aload_n 1, 1) := by decide +kernel
theorem dX7_takeFrom_46 : decode cX7_takeFrom 46 = .ok (.getfield 21, 3) := by decide +kernel
theorem dX7_takeFrom_49 : decode cX7_takeFrom 49 = .ok (.iconst 0, 1) := by decide +kernel
theorem dX7_takeFrom_50 : decode cX7_takeFrom 50 = .ok (.aload_n 0, 1) := by decide +kernel
theorem dX7_takeFrom_51 : decode cX7_takeFrom 51 = .ok (.getfield 21, 3) := by decide +kernel
theorem dX7_takeFrom_54 : decode cX7_takeFrom 54 = .ok (.iconst 0, 1) := by decide +kernel
theorem dX7_takeFrom_55 : decode cX7_takeFrom 55 = .ok (.bipush 10, 2) := by decide +kernel
theorem dX7_takeFrom_57 : decode cX7_takeFrom 57 = .ok (.invokestatic 64, 3) := by decide +kernel
theorem dX7_takeFrom_60 : decode cX7_takeFrom 60 = .ok (.aload_n 1, 1) := by decide +kernel
theorem dX7_takeFrom_61 : decode cX7_takeFrom 61 = .ok (.getfield 24, 3) := by decide +kernel
theorem dX7_takeFrom_64 : decode cX7_takeFrom 64 = .ok (.iconst 0, 1) := by decide +kernel
theorem dX7_takeFrom_65 : decode cX7_takeFrom 65 = .ok (.aload_n 0, 1) := by decide +kernel
theorem dX7_takeFrom_66 : decode cX7_takeFrom 66 = .ok (.getfield 24, 3) := by decide +kernel
theorem dX7_takeFrom_69 : decode cX7_takeFrom 69 = .ok (.iconst 0, 1) := by decide +kernel
theorem dX7_takeFrom_70 : decode cX7_takeFrom 70 = .ok (.bipush 10, 2) := by decide +kernel
theorem dX7_takeFrom_72 : decode cX7_takeFrom 72 = .ok (.invokestatic 64, 3) := by decide +kernel
theorem dX7_takeFrom_75 : decode cX7_takeFrom 75 = .ok (.aload_n 1, 1) := by decide +kernel
theorem dX7_takeFrom_76 : decode cX7_takeFrom 76 = .ok (.getfield 27, 3) := by decide +kernel
theorem dX7_takeFrom_79 : decode cX7_takeFrom 79 = .ok (.iconst 0, 1) := by decide +kernel
theorem dX7_takeFrom_80 : decode cX7_takeFrom 80 = .ok (.aload_n 0, 1) := by decide +kernel
theorem dX7_takeFrom_81 : decode cX7_takeFrom 81 = .ok (.getfield 27, 3) := by decide +kernel
theorem dX7_takeFrom_84 : decode cX7_takeFrom 84 = .ok (.iconst 0, 1) := by decide +kernel
theorem dX7_takeFrom_85 : decode cX7_takeFrom 85 = .ok (.bipush 60, 2) := by decide +kernel
theorem dX7_takeFrom_87 : decode cX7_takeFrom 87 = .ok (.invokestatic 64, 3) := by decide +kernel
theorem dX7_takeFrom_90 : decode cX7_takeFrom 90 = .ok (.aload_n 1, 1) := by decide +kernel
theorem dX7_takeFrom_91 : decode cX7_takeFrom 91 = .ok (.getfield 30, 3) := by decide +kernel
theorem dX7_takeFrom_94 : decode cX7_takeFrom 94 = .ok (.iconst 0, 1) := by decide +kernel
theorem dX7_takeFrom_95 : decode cX7_takeFrom 95 = .ok (.aload_n 0, 1) := by decide +kernel
theorem dX7_takeFrom_96 : decode cX7_takeFrom 96 = .ok (.getfield 30, 3) := by decide +kernel
theorem dX7_takeFrom_99 : decode cX7_takeFrom 99 = .ok (.iconst 0, 1) := by decide +kernel
theorem dX7_takeFrom_100 : decode cX7_takeFrom 100 = .ok (.bipush 10, 2) := by decide +kernel
theorem dX7_takeFrom_102 : decode cX7_takeFrom 102 = .ok (.invokestatic 64, 3) := by decide +kernel
theorem dX7_takeFrom_105 : decode cX7_takeFrom 105 = .ok (.aload_n 1, 1) := by decide +kernel
theorem dX7_takeFrom_106 : decode cX7_takeFrom 106 = .ok (.getfield 33, 3) := by decide +kernel
theorem dX7_takeFrom_109 : decode cX7_takeFrom 109 = .ok (.iconst 0, 1) := by decide +kernel
theorem dX7_takeFrom_110 : decode cX7_takeFrom 110 = .ok (.aload_n 0, 1) := by decide +kernel
theorem dX7_takeFrom_111 : decode cX7_takeFrom 111 = .ok (.getfield 33, 3) := by decide +kernel
theorem dX7_takeFrom_114 : decode cX7_takeFrom 114 = .ok (.iconst 0, 1) := by decide +kernel
theorem dX7_takeFrom_115 : decode cX7_takeFrom 115 = .ok (.bipush 12, 2) := by decide +kernel
theorem dX7_takeFrom_117 : decode cX7_takeFrom 117 = .ok (.invokestatic 64, 3) := by decide +kernel
theorem dX7_takeFrom_120 : decode cX7_takeFrom 120 = .ok (.aload_n 1, 1) := by decide +kernel
theorem dX7_takeFrom_121 : decode cX7_takeFrom 121 = .ok (.getfield 36, 3) := by decide +kernel
theorem dX7_takeFrom_124 : decode cX7_takeFrom 124 = .ok (.iconst 0, 1) := by decide +kernel
theorem dX7_takeFrom_125 : decode cX7_takeFrom 125 = .ok (.aload_n 0, 1) := by decide +kernel
theorem dX7_takeFrom_126 : decode cX7_takeFrom 126 = .ok (.getfield 36, 3) := by decide +kernel
theorem dX7_takeFrom_129 : decode cX7_takeFrom 129 = .ok (.iconst 0, 1) := by decide +kernel
theorem dX7_takeFrom_130 : decode cX7_takeFrom 130 = .ok (.bipush 12, 2) := by decide +kernel
theorem dX7_takeFrom_132 : decode cX7_takeFrom 132 = .ok (.invokestatic 64, 3) := by decide +kernel
theorem dX7_takeFrom_135 : decode cX7_takeFrom 135 = .ok (.aload_n 1, 1) := by decide +kernel
theorem dX7_takeFrom_136 : decode cX7_takeFrom 136 = .ok (.getfield 39, 3) := by decide +kernel
theorem dX7_takeFrom_139 : decode cX7_takeFrom 139 = .ok (.iconst 0, 1) := by decide +kernel
theorem dX7_takeFrom_140 : decode cX7_takeFrom 140 = .ok (.aload_n 0, 1) := by decide +kernel
theorem dX7_takeFrom_141 : decode cX7_takeFrom 141 = .ok (.getfield 39, 3) := by decide +kernel
theorem dX7_takeFrom_144 : decode cX7_takeFrom 144 = .ok (.iconst 0, 1) := by decide +kernel
theorem dX7_takeFrom_145 : decode cX7_takeFrom 145 = .ok (.bipush 12, 2) := by decide +kernel
theorem dX7_takeFrom_147 : decode cX7_takeFrom 147 = .ok (.invokestatic 64, 3) := by decide +kernel
theorem dX7_takeFrom_150 : decode cX7_takeFrom 150 = .ok (.aload_n 0, 1) := by decide +kernel
theorem dX7_takeFrom_151 : decode cX7_takeFrom 151 = .ok (.aload_n 1, 1) := by decide +kernel
theorem dX7_takeFrom_152 : decode cX7_takeFrom 152 = .ok (.getfield 45, 3) := by decide +kernel
theorem dX7_takeFrom_155 : decode cX7_takeFrom 155 = .ok (.putfield 45, 3) := by decide +kernel
theorem dX7_takeFrom_158 : decode cX7_takeFrom 158 = .ok (.aload_n 0, 1) := by decide +kernel
theorem dX7_takeFrom_159 : decode cX7_takeFrom 159 = .ok (.aload_n 1, 1) := by decide +kernel
theorem dX7_takeFrom_160 : decode cX7_takeFrom 160 = .ok (.getfield 49, 3) := by decide +kernel
theorem dX7_takeFrom_163 : decode cX7_takeFrom 163 = .ok (.putfield 49, 3) := by decide +kernel
theorem dX7_takeFrom_166 : decode cX7_takeFrom 166 = .ok (.aload_n 0, 1) := by decide +kernel
theorem dX7_takeFrom_167 : decode cX7_takeFrom 167 = .ok (.aload_n 1, 1) := by decide +kernel
theorem dX7_takeFrom_168 : decode cX7_takeFrom 168 = .ok (.getfield 52, 3) := by decide +kernel
theorem dX7_takeFrom_171 : decode cX7_takeFrom 171 = .ok (.putfield 52, 3) := by decide +kernel
theorem dX7_takeFrom_174 : decode cX7_takeFrom 174 = .ok (.aload_n 0, 1) := by decide +kernel
theorem dX7_takeFrom_175 : decode cX7_takeFrom 175 = .ok (.aload_n 1, 1) := by decide +kernel
theorem dX7_takeFrom_176 : decode cX7_takeFrom 176 = .ok (.getfield 55, 3) := by decide +kernel
theorem dX7_takeFrom_179 : decode cX7_takeFrom 179 = .ok (.putfield 55, 3) := by decide +kernel
theorem dX7_takeFrom_182 : decode cX7_takeFrom 182 = .ok (.aload_n 0, 1) := by decide +kernel
theorem dX7_takeFrom_183 : decode cX7_takeFrom 183 = .ok (.aload_n 1, 1) := by decide +kernel
theorem dX7_takeFrom_184 : decode cX7_takeFrom 184 = .ok (.getfield 58, 3) := by decide +kernel
theorem dX7_takeFrom_187 : decode cX7_takeFrom 187 = .ok (.putfield 58, 3) := by decide +kernel
theorem dX7_takeFrom_190 : decode cX7_takeFrom 190 = .ok (.aload_n 0, 1) := by decide +kernel
theorem dX7_takeFrom_191 : decode cX7_takeFrom 191 = .ok (.aload_n 1, 1) := by decide +kernel
theorem dX7_takeFrom_192 : decode cX7_takeFrom 192 = .ok (.getfield 61, 3) := by decide +kernel
theorem dX7_takeFrom_195 : decode cX7_takeFrom 195 = .ok (.putfield 61, 3) := by decide +kernel
theorem dX7_takeFrom_198 : decode cX7_takeFrom 198 = .ok (.return_, 1) := by decide +kernel
theorem dX7_addChimney_0 : decode cX7_addChimney 0 = .ok (.aload_n 0, 1) := by decide +kernel
theorem dX7_addChimney_1 : decode cX7_addChimney 1 = .ok (.getfield 45, 3) := by decide +kernel
theorem dX7_addChimney_4 : decode cX7_addChimney 4 = .ok (.bipush 10, 2) := by decide +kernel
theorem dX7_addChimney_6 : decode cX7_addChimney 6 = .ok (.if_icmp .ge 53, 3) := by decide +kernel
theorem dX7_addChimney_9 : decode cX7_addChimney 9 = .ok (.aload_n 0, 1) := by decide +kernel
theorem dX7_addChimney_10 : decode cX7_addChimney 10 = .ok (.getfield 9, 3) := by decide +kernel
theorem dX7_addChimney_13 : decode cX7_addChimney 13 = .ok (.aload_n 0, 1) := by decide +kernel
theorem dX7_addChimney_14 : decode cX7_addChimney 14 = .ok (.getfield 45, 3) := by decide +kernel
theorem dX7_addChimney_17 : decode cX7_addChimney 17 = .ok (.iload_n 1, 1) := by decide +kernel
theorem dX7_addChimney_18 : decode cX7_addChimney 18 = .ok (.iastore, 1) := by decide +kernel
theorem dX7_addChimney_19 : decode cX7_addChimney 19 = .ok (.aload_n 0, 1) := by decide +kernel
theorem dX7_addChimney_20 : decode cX7_addChimney 20 = .ok (.getfield 15, 3) := by decide +kernel
theorem dX7_addChimney_23 : decode cX7_addChimney 23 = .ok (.aload_n 0, 1) := by decide +kernel
theorem dX7_addChimney_24 : decode cX7_addChimney 24 = .ok (.getfield 45, 3) := by decide +kernel
theorem dX7_addChimney_27 : decode cX7_addChimney 27 = .ok (.iload_n 2, 1) := by decide +kernel
theorem dX7_addChimney_28 : decode cX7_addChimney 28 = .ok (.iastore, 1) := by decide +kernel
theorem dX7_addChimney_29 : decode cX7_addChimney 29 = .ok (.aload_n 0, 1) := by decide +kernel
theorem dX7_addChimney_30 : decode cX7_addChimney 30 = .ok (.getfield 24, 3) := by decide +kernel
theorem dX7_addChimney_33 : decode cX7_addChimney 33 = .ok (.aload_n 0, 1) := by decide +kernel
theorem dX7_addChimney_34 : decode cX7_addChimney 34 = .ok (.getfield 45, 3) := by decide +kernel
theorem dX7_addChimney_37 : decode cX7_addChimney 37 = .ok (.iconst 0, 1) := by decide +kernel
theorem dX7_addChimney_38 : decode cX7_addChimney 38 = .ok (.iastore, 1) := by decide +kernel
theorem dX7_addChimney_39 : decode cX7_addChimney 39 = .ok (.aload_n 0, 1) := by decide +kernel
theorem dX7_addChimney_40 : decode cX7_addChimney 40 = .ok (.getfield 30, 3) := by decide +kernel
theorem dX7_addChimney_43 : decode cX7_addChimney 43 = .ok (.aload_n 0, 1) := by decide +kernel
theorem dX7_addChimney_44 : decode cX7_addChimney 44 = .ok (.getfield 45, 3) := by decide +kernel
theorem dX7_addChimney_47 : decode cX7_addChimney 47 = .ok (.iconst (-1), 1) := by decide +kernel
theorem dX7_addChimney_48 : decode cX7_addChimney 48 = .ok (.iastore, 1) := by decide +kernel
theorem dX7_addChimney_49 : decode cX7_addChimney 49 = .ok (.aload_n 0, 1) := by decide +kernel
theorem dX7_addChimney_50 : decode cX7_addChimney 50 = .ok (.dup, 1) := by decide +kernel
theorem dX7_addChimney_51 : decode cX7_addChimney 51 = .ok (.getfield 45, 3) := by decide +kernel
theorem dX7_addChimney_54 : decode cX7_addChimney 54 = .ok (.iconst 1, 1) := by decide +kernel
theorem dX7_addChimney_55 : decode cX7_addChimney 55 = .ok (.iadd, 1) := by decide +kernel
theorem dX7_addChimney_56 : decode cX7_addChimney 56 = .ok (.putfield 45, 3) := by decide +kernel
theorem dX7_addChimney_59 : decode cX7_addChimney 59 = .ok (.return_, 1) := by decide +kernel
theorem dX7_addSmoke_0 : decode cX7_addSmoke 0 = .ok (.aload_n 0, 1) := by decide +kernel
theorem dX7_addSmoke_1 : decode cX7_addSmoke 1 = .ok (.getfield 45, 3) := by decide +kernel
theorem dX7_addSmoke_4 : decode cX7_addSmoke 4 = .ok (.iconst 1, 1) := by decide +kernel
theorem dX7_addSmoke_5 : decode cX7_addSmoke 5 = .ok (.isub, 1) := by decide +kernel
theorem dX7_addSmoke_6 : decode cX7_addSmoke 6 = .ok (.istore_n 2, 1) := by decide +kernel
theorem dX7_addSmoke_7 : decode cX7_addSmoke 7 = .ok (.iload_n 2, 1) := by decide +kernel
theorem dX7_addSmoke_8 : decode cX7_addSmoke 8 = .ok (.ifCond .lt 41, 3) := by decide +kernel
theorem dX7_addSmoke_11 : decode cX7_addSmoke 11 = .ok (.aload_n 0, 1) := by decide +kernel
theorem dX7_addSmoke_12 : decode cX7_addSmoke 12 = .ok (.getfield 24, 3) := by decide +kernel
theorem dX7_addSmoke_15 : decode cX7_addSmoke 15 = .ok (.iload_n 2, 1) := by decide +kernel
theorem dX7_addSmoke_16 : decode cX7_addSmoke 16 = .ok (.iaload, 1) := by decide +kernel
theorem dX7_addSmoke_17 : decode cX7_addSmoke 17 = .ok (.bipush 6, 2) := by decide +kernel
theorem dX7_addSmoke_19 : decode cX7_addSmoke 19 = .ok (.if_icmp .ge 30, 3) := by decide +kernel
theorem dX7_addSmoke_22 : decode cX7_addSmoke 22 = .ok (.aload_n 0, 1) := by decide +kernel
theorem dX7_addSmoke_23 : decode cX7_addSmoke 23 = .ok (.getfield 27, 3) := by decide +kernel
theorem dX7_addSmoke_26 : decode cX7_addSmoke 26 = .ok (.iload_n 2, 1) := by decide +kernel
theorem dX7_addSmoke_27 : decode cX7_addSmoke 27 = .ok (.bipush 6, 2) := by decide +kernel
theorem dX7_addSmoke_29 : decode cX7_addSmoke 29 = .ok (.imul, 1) := by decide +kernel
theorem dX7_addSmoke_30 : decode cX7_addSmoke 30 = .ok (.aload_n 0, 1) := by decide +kernel
theorem dX7_addSmoke_31 : decode cX7_addSmoke 31 = .ok (.getfield 24, 3) := by decide +kernel
theorem dX7_addSmoke_34 : decode cX7_addSmoke 34 = .ok (.iload_n 2, 1) := by decide +kernel
theorem dX7_addSmoke_35 : decode cX7_addSmoke 35 = .ok (.iaload, 1) := by decide +kernel
theorem dX7_addSmoke_36 : decode cX7_addSmoke 36 = .ok (.iadd, 1) := by decide +kernel
theorem dX7_addSmoke_37 : decode cX7_addSmoke 37 = .ok (.iload_n 1, 1) := by decide +kernel
theorem dX7_addSmoke_38 : decode cX7_addSmoke 38 = .ok (.iastore, 1) := by decide +kernel
theorem dX7_addSmoke_39 : decode cX7_addSmoke 39 = .ok (.aload_n 0, 1) := by decide +kernel
theorem dX7_addSmoke_40 : decode cX7_addSmoke 40 = .ok (.getfield 24, 3) := by decide +kernel
theorem dX7_addSmoke_43 : decode cX7_addSmoke 43 = .ok (.iload_n 2, 1) := by decide +kernel
theorem dX7_addSmoke_44 : decode cX7_addSmoke 44 = .ok (.dup2, 1) := by decide +kernel
theorem dX7_addSmoke_45 : decode cX7_addSmoke 45 = .ok (.iaload, 1) := by decide +kernel
theorem dX7_addSmoke_46 : decode cX7_addSmoke 46 = .ok (.iconst 1, 1) := by decide +kernel
theorem dX7_addSmoke_47 : decode cX7_addSmoke 47 = .ok (.iadd, 1) := by decide +kernel
theorem dX7_addSmoke_48 : decode cX7_addSmoke 48 = .ok (.iastore, 1) := by decide +kernel
theorem dX7_addSmoke_49 : decode cX7_addSmoke 49 = .ok (.return_, 1) := by decide +kernel
theorem dX7_bound_0 : decode cX7_bound 0 = .ok (.aload_n 0, 1) := by decide +kernel
theorem dX7_bound_1 : decode cX7_bound 1 = .ok (.getfield 45, 3) := by decide +kernel
theorem dX7_bound_4 : decode cX7_bound 4 = .ok (.ifCond .le 27, 3) := by decide +kernel
theorem dX7_bound_7 : decode cX7_bound 7 = .ok (.aload_n 0, 1) := by decide +kernel
theorem dX7_bound_8 : decode cX7_bound 8 = .ok (.getfield 18, 3) := by decide +kernel
theorem dX7_bound_11 : decode cX7_bound 11 = .ok (.aload_n 0, 1) := by decide +kernel
theorem dX7_bound_12 : decode cX7_bound 12 = .ok (.getfield 45, 3) := by decide +kernel
theorem dX7_bound_15 : decode cX7_bound 15 = .ok (.iconst 1, 1) := by decide +kernel
theorem dX7_bound_16 : decode cX7_bound 16 = .ok (.isub, 1) := by decide +kernel
theorem dX7_bound_17 : decode cX7_bound 17 = .ok (.iload_n 1, 1) := by decide +kernel
theorem dX7_bound_18 : decode cX7_bound 18 = .ok (.iastore, 1) := by decide +kernel
theorem dX7_bound_19 : decode cX7_bound 19 = .ok (.aload_n 0, 1) := by decide +kernel
theorem dX7_bound_20 : decode cX7_bound 20 = .ok (.getfield 21, 3) := by decide +kernel
theorem dX7_bound_23 : decode cX7_bound 23 = .ok (.aload_n 0, 1) := by decide +kernel
theorem dX7_bound_24 : decode cX7_bound 24 = .ok (.getfield 45, 3) := by decide +kernel
theorem dX7_bound_27 : decode cX7_bound 27 = .ok (.iconst 1, 1) := by decide +kernel
theorem dX7_bound_28 : decode cX7_bound 28 = .ok (.isub, 1) := by decide +kernel
theorem dX7_bound_29 : decode cX7_bound 29 = .ok (.iload_n 2, 1) := by decide +kernel
theorem dX7_bound_30 : decode cX7_bound 30 = .ok (.iastore, 1) := by decide +kernel
theorem dX7_bound_31 : decode cX7_bound 31 = .ok (.return_, 1) := by decide +kernel
theorem dX7_addWind_0 : decode cX7_addWind 0 = .ok (.aload_n 0, 1) := by decide +kernel
theorem dX7_addWind_1 : decode cX7_addWind 1 = .ok (.getfield 49, 3) := by decide +kernel
theorem dX7_addWind_4 : decode cX7_addWind 4 = .ok (.bipush 12, 2) := by decide +kernel
theorem dX7_addWind_6 : decode cX7_addWind 6 = .ok (.if_icmp .ge 43, 3) := by decide +kernel
theorem dX7_addWind_9 : decode cX7_addWind 9 = .ok (.aload_n 0, 1) := by decide +kernel
theorem dX7_addWind_10 : decode cX7_addWind 10 = .ok (.getfield 33, 3) := by decide +kernel
theorem dX7_addWind_13 : decode cX7_addWind 13 = .ok (.aload_n 0, 1) := by decide +kernel
theorem dX7_addWind_14 : decode cX7_addWind 14 = .ok (.getfield 49, 3) := by decide +kernel
theorem dX7_addWind_17 : decode cX7_addWind 17 = .ok (.iload_n 1, 1) := by decide +kernel
theorem dX7_addWind_18 : decode cX7_addWind 18 = .ok (.iastore, 1) := by decide +kernel
theorem dX7_addWind_19 : decode cX7_addWind 19 = .ok (.aload_n 0, 1) := by decide +kernel
theorem dX7_addWind_20 : decode cX7_addWind 20 = .ok (.getfield 36, 3) := by decide +kernel
theorem dX7_addWind_23 : decode cX7_addWind 23 = .ok (.aload_n 0, 1) := by decide +kernel
theorem dX7_addWind_24 : decode cX7_addWind 24 = .ok (.getfield 49, 3) := by decide +kernel
theorem dX7_addWind_27 : decode cX7_addWind 27 = .ok (.iload_n 2, 1) := by decide +kernel
theorem dX7_addWind_28 : decode cX7_addWind 28 = .ok (.iastore, 1) := by decide +kernel
theorem dX7_addWind_29 : decode cX7_addWind 29 = .ok (.aload_n 0, 1) := by decide +kernel
theorem dX7_addWind_30 : decode cX7_addWind 30 = .ok (.getfield 39, 3) := by decide +kernel
theorem dX7_addWind_33 : decode cX7_addWind 33 = .ok (.aload_n 0, 1) := by decide +kernel
theorem dX7_addWind_34 : decode cX7_addWind 34 = .ok (.getfield 49, 3) := by decide +kernel
theorem dX7_addWind_37 : decode cX7_addWind 37 = .ok (.iload_n 3, 1) := by decide +kernel
theorem dX7_addWind_38 : decode cX7_addWind 38 = .ok (.iastore, 1) := by decide +kernel
theorem dX7_addWind_39 : decode cX7_addWind 39 = .ok (.aload_n 0, 1) := by decide +kernel
theorem dX7_addWind_40 : decode cX7_addWind 40 = .ok (.dup, 1) := by decide +kernel
theorem dX7_addWind_41 : decode cX7_addWind 41 = .ok (.getfield 49, 3) := by decide +kernel
theorem dX7_addWind_44 : decode cX7_addWind 44 = .ok (.iconst 1, 1) := by decide +kernel
theorem dX7_addWind_45 : decode cX7_addWind 45 = .ok (.iadd, 1) := by decide +kernel
theorem dX7_addWind_46 : decode cX7_addWind 46 = .ok (.putfield 49, 3) := by decide +kernel
theorem dX7_addWind_49 : decode cX7_addWind 49 = .ok (.return_, 1) := by decide +kernel
theorem dX7_has_0 : decode cX7_has 0 = .ok (.iload_n 1, 1) := by decide +kernel
theorem dX7_has_1 : decode cX7_has 1 = .ok (.ifCond .lt 15, 3) := by decide +kernel
theorem dX7_has_4 : decode cX7_has 4 = .ok (.iload_n 1, 1) := by decide +kernel
theorem dX7_has_5 : decode cX7_has 5 = .ok (.aload_n 0, 1) := by decide +kernel
theorem dX7_has_6 : decode cX7_has 6 = .ok (.getfield 45, 3) := by decide +kernel
theorem dX7_has_9 : decode cX7_has 9 = .ok (.if_icmp .ge 7, 3) := by decide +kernel
theorem dX7_has_12 : decode cX7_has 12 = .ok (.iconst 1, 1) := by decide +kernel
theorem dX7_has_13 : decode cX7_has 13 = .ok (.goto 4, 3) := by decide +kernel
theorem dX7_has_16 : decode cX7_has 16 = .ok (.iconst 0, 1) := by decide +kernel
theorem dX7_has_17 : decode cX7_has 17 = .ok (.ireturn, 1) := by decide +kernel
theorem dX7_isLit_0 : decode cX7_isLit 0 = .ok (.aload_n 0, 1) := by decide +kernel
theorem dX7_isLit_1 : decode cX7_isLit 1 = .ok (.iload_n 1, 1) := by decide +kernel
theorem dX7_isLit_2 : decode cX7_isLit 2 = .ok (.invokevirtual 70, 3) := by decide +kernel
theorem dX7_isLit_5 : decode cX7_isLit 5 = .ok (.ifCond .eq 17, 3) := by decide +kernel
theorem dX7_isLit_8 : decode cX7_isLit 8 = .ok (.aload_n 0, 1) := by decide +kernel
theorem dX7_isLit_9 : decode cX7_isLit 9 = .ok (.getfield 30, 3) := by decide +kernel
theorem dX7_isLit_12 : decode cX7_isLit 12 = .ok (.iload_n 1, 1) := by decide +kernel
theorem dX7_isLit_13 : decode cX7_isLit 13 = .ok (.iaload, 1) := by decide +kernel
theorem dX7_isLit_14 : decode cX7_isLit 14 = .ok (.iconst (-1), 1) := by decide +kernel
theorem dX7_isLit_15 : decode cX7_isLit 15 = .ok (.if_icmp .eq 7, 3) := by decide +kernel
theorem dX7_isLit_18 : decode cX7_isLit 18 = .ok (.iconst 1, 1) := by decide +kernel
theorem dX7_isLit_19 : decode cX7_isLit 19 = .ok (.goto 4, 3) := by decide +kernel
theorem dX7_isLit_22 : decode cX7_isLit 22 = .ok (.iconst 0, 1) := by decide +kernel
theorem dX7_isLit_23 : decode cX7_isLit 23 = .ok (.ireturn, 1) := by decide +kernel
theorem dX7_mayBeLit_0 : decode cX7_mayBeLit 0 = .ok (.aload_n 0, 1) := by decide +kernel
theorem dX7_mayBeLit_1 : decode cX7_mayBeLit 1 = .ok (.iload_n 1, 1) := by decide +kernel
theorem dX7_mayBeLit_2 : decode cX7_mayBeLit 2 = .ok (.invokevirtual 70, 3) := by decide +kernel
theorem dX7_mayBeLit_5 : decode cX7_mayBeLit 5 = .ok (.ifCond .eq 27, 3) := by decide +kernel
theorem dX7_mayBeLit_8 : decode cX7_mayBeLit 8 = .ok (.iload_n 2, 1) := by decide +kernel
theorem dX7_mayBeLit_9 : decode cX7_mayBeLit 9 = .ok (.aload_n 0, 1) := by decide +kernel
theorem dX7_mayBeLit_10 : decode cX7_mayBeLit 10 = .ok (.getfield 18, 3) := by decide +kernel
theorem dX7_mayBeLit_13 : decode cX7_mayBeLit 13 = .ok (.iload_n 1, 1) := by decide +kernel
theorem dX7_mayBeLit_14 : decode cX7_mayBeLit 14 = .ok (.iaload, 1) := by decide +kernel
theorem dX7_mayBeLit_15 : decode cX7_mayBeLit 15 = .ok (.if_icmp .lt 17, 3) := by decide +kernel
theorem dX7_mayBeLit_18 : decode cX7_mayBeLit 18 = .ok (.iload_n 2, 1) := by decide +kernel
theorem dX7_mayBeLit_19 : decode cX7_mayBeLit 19 = .ok (.aload_n 0, 1) := by decide +kernel
theorem dX7_mayBeLit_20 : decode cX7_mayBeLit 20 = .ok (.getfield 21, 3) := by decide +kernel
theorem dX7_mayBeLit_23 : decode cX7_mayBeLit 23 = .ok (.iload_n 1, 1) := by decide +kernel
theorem dX7_mayBeLit_24 : decode cX7_mayBeLit 24 = .ok (.iaload, 1) := by decide +kernel
theorem dX7_mayBeLit_25 : decode cX7_mayBeLit 25 = .ok (.if_icmp .gt 7, 3) := by decide +kernel
theorem dX7_mayBeLit_28 : decode cX7_mayBeLit 28 = .ok (.iconst 1, 1) := by decide +kernel
theorem dX7_mayBeLit_29 : decode cX7_mayBeLit 29 = .ok (.goto 4, 3) := by decide +kernel
theorem dX7_mayBeLit_32 : decode cX7_mayBeLit 32 = .ok (.iconst 0, 1) := by decide +kernel
theorem dX7_mayBeLit_33 : decode cX7_mayBeLit 33 = .ok (.ireturn, 1) := by decide +kernel
theorem dX7_smokeOf_0 : decode cX7_smokeOf 0 = .ok (.aload_n 0, 1) := by decide +kernel
theorem dX7_smokeOf_1 : decode cX7_smokeOf 1 = .ok (.iload_n 1, 1) := by decide +kernel
theorem dX7_smokeOf_2 : decode cX7_smokeOf 2 = .ok (.invokevirtual 70, 3) := by decide +kernel
theorem dX7_smokeOf_5 : decode cX7_smokeOf 5 = .ok (.ifCond .eq 31, 3) := by decide +kernel
theorem dX7_smokeOf_8 : decode cX7_smokeOf 8 = .ok (.iload_n 2, 1) := by decide +kernel
theorem dX7_smokeOf_9 : decode cX7_smokeOf 9 = .ok (.ifCond .lt 27, 3) := by decide +kernel
theorem dX7_smokeOf_12 : decode cX7_smokeOf 12 = .ok (.iload_n 2, 1) := by decide +kernel
theorem dX7_smokeOf_13 : decode cX7_smokeOf 13 = .ok (.aload_n 0, 1) := by decide +kernel
theorem dX7_smokeOf_14 : decode cX7_smokeOf 14 = .ok (.getfield 24, 3) := by decide +kernel
theorem dX7_smokeOf_17 : decode cX7_smokeOf 17 = .ok (.iload_n 1, 1) := by decide +kernel
theorem dX7_smokeOf_18 : decode cX7_smokeOf 18 = .ok (.iaload, 1) := by decide +kernel
theorem dX7_smokeOf_19 : decode cX7_smokeOf 19 = .ok (.if_icmp .ge 17, 3) := by decide +kernel
theorem dX7_smokeOf_22 : decode cX7_smokeOf 22 = .ok (.aload_n 0, 1) := by decide +kernel
theorem dX7_smokeOf_23 : decode cX7_smokeOf 23 = .ok (.getfield 27, 3) := by decide +kernel
theorem dX7_smokeOf_26 : decode cX7_smokeOf 26 = .ok (.iload_n 1, 1) := by decide +kernel
theorem dX7_smokeOf_27 : decode cX7_smokeOf 27 = .ok (.bipush 6, 2) := by decide +kernel
theorem dX7_smokeOf_29 : decode cX7_smokeOf 29 = .ok (.imul, 1) := by decide +kernel
theorem dX7_smokeOf_30 : decode cX7_smokeOf 30 = .ok (.iload_n 2, 1) := by decide +kernel
theorem dX7_smokeOf_31 : decode cX7_smokeOf 31 = .ok (.iadd, 1) := by decide +kernel
theorem dX7_smokeOf_32 : decode cX7_smokeOf 32 = .ok (.iaload, 1) := by decide +kernel
theorem dX7_smokeOf_33 : decode cX7_smokeOf 33 = .ok (.goto 4, 3) := by decide +kernel
theorem dX7_smokeOf_36 : decode cX7_smokeOf 36 = .ok (.iconst 0, 1) := by decide +kernel
theorem dX7_smokeOf_37 : decode cX7_smokeOf 37 = .ok (.ireturn, 1) := by decide +kernel
theorem dX7_litLater_0 : decode cX7_litLater 0 = .ok (.aload_n 0, 1) := by decide +kernel
theorem dX7_litLater_1 : decode cX7_litLater 1 = .ok (.iload_n 1, 1) := by decide +kernel
theorem dX7_litLater_2 : decode cX7_litLater 2 = .ok (.invokevirtual 74, 3) := by decide +kernel
theorem dX7_litLater_5 : decode cX7_litLater 5 = .ok (.ifCond .eq 11, 3) := by decide +kernel
theorem dX7_litLater_8 : decode cX7_litLater 8 = .ok (.aload_n 0, 1) := by decide +kernel
theorem dX7_litLater_9 : decode cX7_litLater 9 = .ok (.iload_n 2, 1) := by decide +kernel
theorem dX7_litLater_10 : decode cX7_litLater 10 = .ok (.invokevirtual 74, 3) := by decide +kernel
theorem dX7_litLater_13 : decode cX7_litLater 13 = .ok (.ifCond .ne 5, 3) := by decide +kernel
theorem dX7_litLater_16 : decode cX7_litLater 16 = .ok (.iconst 0, 1) := by decide +kernel
theorem dX7_litLater_17 : decode cX7_litLater 17 = .ok (.ireturn, 1) := by decide +kernel
theorem dX7_litLater_18 : decode cX7_litLater 18 = .ok (.aload_n 0, 1) := by decide +kernel
theorem dX7_litLater_19 : decode cX7_litLater 19 = .ok (.getfield 30, 3) := by decide +kernel
theorem dX7_litLater_22 : decode cX7_litLater 22 = .ok (.iload_n 1, 1) := by decide +kernel
theorem dX7_litLater_23 : decode cX7_litLater 23 = .ok (.iaload, 1) := by decide +kernel
theorem dX7_litLater_24 : decode cX7_litLater 24 = .ok (.aload_n 0, 1) := by decide +kernel
theorem dX7_litLater_25 : decode cX7_litLater 25 = .ok (.getfield 30, 3) := by decide +kernel
theorem dX7_litLater_28 : decode cX7_litLater 28 = .ok (.iload_n 2, 1) := by decide +kernel
theorem dX7_litLater_29 : decode cX7_litLater 29 = .ok (.iaload, 1) := by decide +kernel
theorem dX7_litLater_30 : decode cX7_litLater 30 = .ok (.if_icmp .gt 23, 3) := by decide +kernel
theorem dX7_litLater_33 : decode cX7_litLater 33 = .ok (.aload_n 0, 1) := by decide +kernel
theorem dX7_litLater_34 : decode cX7_litLater 34 = .ok (.getfield 30, 3) := by decide +kernel
theorem dX7_litLater_37 : decode cX7_litLater 37 = .ok (.iload_n 1, 1) := by decide +kernel
theorem dX7_litLater_38 : decode cX7_litLater 38 = .ok (.iaload, 1) := by decide +kernel
theorem dX7_litLater_39 : decode cX7_litLater 39 = .ok (.aload_n 0, 1) := by decide +kernel
theorem dX7_litLater_40 : decode cX7_litLater 40 = .ok (.getfield 30, 3) := by decide +kernel
theorem dX7_litLater_43 : decode cX7_litLater 43 = .ok (.iload_n 2, 1) := by decide +kernel
theorem dX7_litLater_44 : decode cX7_litLater 44 = .ok (.iaload, 1) := by decide +kernel
theorem dX7_litLater_45 : decode cX7_litLater 45 = .ok (.if_icmp .ne 12, 3) := by decide +kernel
theorem dX7_litLater_48 : decode cX7_litLater 48 = .ok (.iload_n 1, 1) := by decide +kernel
theorem dX7_litLater_49 : decode cX7_litLater 49 = .ok (.iload_n 2, 1) := by decide +kernel
theorem dX7_litLater_50 : decode cX7_litLater 50 = .ok (.if_icmp .le 7, 3) := by decide +kernel
theorem dX7_litLater_53 : decode cX7_litLater 53 = .ok (.iconst 1, 1) := by decide +kernel
theorem dX7_litLater_54 : decode cX7_litLater 54 = .ok (.goto 4, 3) := by decide +kernel
theorem dX7_litLater_57 : decode cX7_litLater 57 = .ok (.iconst 0, 1) := by decide +kernel
theorem dX7_litLater_58 : decode cX7_litLater 58 = .ok (.ireturn, 1) := by decide +kernel
theorem dX7_litCount_0 : decode cX7_litCount 0 = .ok (.iconst 0, 1) := by decide +kernel
theorem dX7_litCount_1 : decode cX7_litCount 1 = .ok (.istore_n 1, 1) := by decide +kernel
theorem dX7_litCount_2 : decode cX7_litCount 2 = .ok (.iconst 0, 1) := by decide +kernel
theorem dX7_litCount_3 : decode cX7_litCount 3 = .ok (.istore_n 2, 1) := by decide +kernel
theorem dX7_litCount_4 : decode cX7_litCount 4 = .ok (.iload_n 2, 1) := by decide +kernel
theorem dX7_litCount_5 : decode cX7_litCount 5 = .ok (.aload_n 0, 1) := by decide +kernel
theorem dX7_litCount_6 : decode cX7_litCount 6 = .ok (.getfield 45, 3) := by decide +kernel
theorem dX7_litCount_9 : decode cX7_litCount 9 = .ok (.if_icmp .ge 20, 3) := by decide +kernel
theorem dX7_litCount_12 : decode cX7_litCount 12 = .ok (.aload_n 0, 1) := by decide +kernel
theorem dX7_litCount_13 : decode cX7_litCount 13 = .ok (.iload_n 2, 1) := by decide +kernel
theorem dX7_litCount_14 : decode cX7_litCount 14 = .ok (.invokevirtual 74, 3) := by decide +kernel
theorem dX7_litCount_17 : decode cX7_litCount 17 = .ok (.ifCond .eq 6, 3) := by decide +kernel
theorem dX7_litCount_20 : decode cX7_litCount 20 = .ok (.iinc 1 1, 3) := by decide +kernel
theorem dX7_litCount_23 : decode cX7_litCount 23 = .ok (.iinc 2 1, 3) := by decide +kernel
theorem dX7_litCount_26 : decode cX7_litCount 26 = .ok (.goto (-22), 3) := by decide +kernel
theorem dX7_litCount_29 : decode cX7_litCount 29 = .ok (.iload_n 1, 1) := by decide +kernel
theorem dX7_litCount_30 : decode cX7_litCount 30 = .ok (.ireturn, 1) := by decide +kernel
theorem md_X7_init : yX7_init.cls ≠ "java/lang/invoke/MethodHandle" ∧ yX7_init.cls ≠ "java/lang/invoke/VarHandle" ∧ (parseMethodDescriptor yX7_init.desc).map (fun d => d.parameters.length) = some 0 := by decide +kernel
theorem md_X7_begin : yX7_begin.cls ≠ "java/lang/invoke/MethodHandle" ∧ yX7_begin.cls ≠ "java/lang/invoke/VarHandle" ∧ (parseMethodDescriptor yX7_begin.desc).map (fun d => d.parameters.length) = some 0 := by decide +kernel
theorem md_X7_takeFrom : yX7_takeFrom.cls ≠ "java/lang/invoke/MethodHandle" ∧ yX7_takeFrom.cls ≠ "java/lang/invoke/VarHandle" ∧ (parseMethodDescriptor yX7_takeFrom.desc).map (fun d => d.parameters.length) = some 1 := by decide +kernel
theorem md_X7_addChimney : yX7_addChimney.cls ≠ "java/lang/invoke/MethodHandle" ∧ yX7_addChimney.cls ≠ "java/lang/invoke/VarHandle" ∧ (parseMethodDescriptor yX7_addChimney.desc).map (fun d => d.parameters.length) = some 2 := by decide +kernel
theorem md_X7_addSmoke : yX7_addSmoke.cls ≠ "java/lang/invoke/MethodHandle" ∧ yX7_addSmoke.cls ≠ "java/lang/invoke/VarHandle" ∧ (parseMethodDescriptor yX7_addSmoke.desc).map (fun d => d.parameters.length) = some 1 := by decide +kernel
theorem md_X7_bound : yX7_bound.cls ≠ "java/lang/invoke/MethodHandle" ∧ yX7_bound.cls ≠ "java/lang/invoke/VarHandle" ∧ (parseMethodDescriptor yX7_bound.desc).map (fun d => d.parameters.length) = some 2 := by decide +kernel
theorem md_X7_addWind : yX7_addWind.cls ≠ "java/lang/invoke/MethodHandle" ∧ yX7_addWind.cls ≠ "java/lang/invoke/VarHandle" ∧ (parseMethodDescriptor yX7_addWind.desc).map (fun d => d.parameters.length) = some 3 := by decide +kernel
theorem md_X7_has : yX7_has.cls ≠ "java/lang/invoke/MethodHandle" ∧ yX7_has.cls ≠ "java/lang/invoke/VarHandle" ∧ (parseMethodDescriptor yX7_has.desc).map (fun d => d.parameters.length) = some 1 := by decide +kernel
theorem md_X7_isLit : yX7_isLit.cls ≠ "java/lang/invoke/MethodHandle" ∧ yX7_isLit.cls ≠ "java/lang/invoke/VarHandle" ∧ (parseMethodDescriptor yX7_isLit.desc).map (fun d => d.parameters.length) = some 1 := by decide +kernel
theorem md_X7_mayBeLit : yX7_mayBeLit.cls ≠ "java/lang/invoke/MethodHandle" ∧ yX7_mayBeLit.cls ≠ "java/lang/invoke/VarHandle" ∧ (parseMethodDescriptor yX7_mayBeLit.desc).map (fun d => d.parameters.length) = some 2 := by decide +kernel
theorem md_X7_smokeOf : yX7_smokeOf.cls ≠ "java/lang/invoke/MethodHandle" ∧ yX7_smokeOf.cls ≠ "java/lang/invoke/VarHandle" ∧ (parseMethodDescriptor yX7_smokeOf.desc).map (fun d => d.parameters.length) = some 2 := by decide +kernel
theorem md_X7_litLater : yX7_litLater.cls ≠ "java/lang/invoke/MethodHandle" ∧ yX7_litLater.cls ≠ "java/lang/invoke/VarHandle" ∧ (parseMethodDescriptor yX7_litLater.desc).map (fun d => d.parameters.length) = some 2 := by decide +kernel
theorem md_X7_litCount : yX7_litCount.cls ≠ "java/lang/invoke/MethodHandle" ∧ yX7_litCount.cls ≠ "java/lang/invoke/VarHandle" ∧ (parseMethodDescriptor yX7_litCount.desc).map (fun d => d.parameters.length) = some 0 := by decide +kernel
theorem dX8_init_0 : decode cX8_init 0 = .ok (.aload_n 0, 1) := by decide +kernel
theorem dX8_init_1 : decode cX8_init 1 = .ok (.invokespecial 3, 3) := by decide +kernel
theorem dX8_init_4 : decode cX8_init 4 = .ok (.aload_n 0, 1) := by decide +kernel
theorem dX8_init_5 : decode cX8_init 5 = .ok (.bipush 48, 2) := by decide +kernel
theorem dX8_init_7 : decode cX8_init 7 = .ok (.newarray .int, 2) := by decide +kernel
theorem dX8_init_9 : decode cX8_init 9 = .ok (.putfield 9, 3) := by decide +kernel
theorem dX8_init_12 : decode cX8_init 12 = .ok (.aload_n 0, 1) := by decide +kernel
theorem dX8_init_13 : decode cX8_init 13 = .ok (.bipush 48, 2) := by decide +kernel
theorem dX8_init_15 : decode cX8_init 15 = .ok (.newarray .int, 2) := by decide +kernel
theorem dX8_init_17 : decode cX8_init 17 = .ok (.putfield 15, 3) := by decide +kernel
theorem dX8_init_20 : decode cX8_init 20 = .ok (.return_, 1) := by decide +kernel
theorem dX8_followTold_0 : decode cX8_followTold 0 = .ok (.iconst 0, 1) := by decide +kernel
theorem dX8_followTold_1 : decode cX8_followTold 1 = .ok (.istore_n 2, 1) := by decide +kernel
theorem dX8_followTold_2 : decode cX8_followTold 2 = .ok (.iload_n 2, 1) := by decide +kernel
theorem dX8_followTold_3 : decode cX8_followTold 3 = .ok (.bipush 48, 2) := by decide +kernel
theorem dX8_followTold_5 : decode cX8_followTold 5 = .ok (.if_icmp .ge 57, 3) := by decide +kernel
theorem dX8_followTold_8 : decode cX8_followTold 8 = .ok (.aload_n 1, 1) := by decide +kernel
theorem dX8_followTold_9 : decode cX8_followTold 9 = .ok (.iload_n 2, 1) := by decide +kernel
theorem dX8_followTold_10 : decode cX8_followTold 10 = .ok (.invokestatic 18, 3) := by decide +kernel
theorem dX8_followTold_13 : decode cX8_followTold 13 = .ok (.istore_n 3, 1) := by decide +kernel
theorem dX8_followTold_14 : decode cX8_followTold 14 = .ok (.aload_n 0, 1) := by decide +kernel
theorem dX8_followTold_15 : decode cX8_followTold 15 = .ok (.getfield 9, 3) := by decide +kernel
theorem dX8_followTold_18 : decode cX8_followTold 18 = .ok (.iload_n 2, 1) := by decide +kernel
theorem dX8_followTold_19 : decode cX8_followTold 19 = .ok (.iload_n 3, 1) := by decide +kernel
theorem dX8_followTold_20 : decode cX8_followTold 20 = .ok (.iconst (-1), 1) := by decide +kernel
theorem dX8_followTold_21 : decode cX8_followTold 21 = .ok (.if_icmp .ne 7, 3) := by decide +kernel
theorem dX8_followTold_24 : decode cX8_followTold 24 = .ok (.iconst 3, 1) := by decide +kernel
theorem dX8_followTold_25 : decode cX8_followTold 25 = .ok (.goto 9, 3) := by decide +kernel
theorem dX8_followTold_28 : decode cX8_followTold 28 = .ok (.aload_n 1, 1) := by decide +kernel
theorem dX8_followTold_29 : decode cX8_followTold 29 = .ok (.getfield 22, 3) := by decide +kernel
theorem dX8_followTold_32 : decode cX8_followTold 32 = .ok (.iload_n 3, 1) := by decide +kernel
theorem dX8_followTold_33 : decode cX8_followTold 33 = .ok (.iaload, 1) := by decide +kernel
theorem dX8_followTold_34 : decode cX8_followTold 34 = .ok (.iastore, 1) := by decide +kernel
theorem dX8_followTold_35 : decode cX8_followTold 35 = .ok (.aload_n 0, 1) := by decide +kernel
theorem dX8_followTold_36 : decode cX8_followTold 36 = .ok (.getfield 15, 3) := by decide +kernel
theorem dX8_followTold_39 : decode cX8_followTold 39 = .ok (.iload_n 2, 1) := by decide +kernel
theorem dX8_followTold_40 : decode cX8_followTold 40 = .ok (.iload_n 3, 1) := by decide +kernel
theorem dX8_followTold_41 : decode cX8_followTold 41 = .ok (.iconst (-1), 1) := by decide +kernel
theorem dX8_followTold_42 : decode cX8_followTold 42 = .ok (.if_icmp .ne 7, 3) := by decide +kernel
theorem dX8_followTold_45 : decode cX8_followTold 45 = .ok (.iconst 3, 1) := by decide +kernel
theorem dX8_followTold_46 : decode cX8_followTold 46 = .ok (.goto 9, 3) := by decide +kernel
theorem dX8_followTold_49 : decode cX8_followTold 49 = .ok (.aload_n 1, 1) := by decide +kernel
theorem dX8_followTold_50 : decode cX8_followTold 50 = .ok (.getfield 27, 3) := by decide +kernel
theorem dX8_followTold_53 : decode cX8_followTold 53 = .ok (.iload_n 3, 1) := by decide +kernel
theorem dX8_followTold_54 : decode cX8_followTold 54 = .ok (.iaload, 1) := by decide +kernel
theorem dX8_followTold_55 : decode cX8_followTold 55 = .ok (.iastore, 1) := by decide +kernel
theorem dX8_followTold_56 : decode cX8_followTold 56 = .ok (.iinc 2 1, 3) := by decide +kernel
theorem dX8_followTold_59 : decode cX8_followTold 59 = .ok (.goto (-57), 3) := by decide +kernel
theorem dX8_followTold_62 : decode cX8_followTold 62 = .ok (.return_, 1) := by decide +kernel
theorem dX8_latestTold_0 : decode cX8_latestTold 0 = .ok (.iconst (-1), 1) := by decide +kernel
theorem dX8_latestTold_1 : decode cX8_latestTold 1 = .ok (.istore_n 2, 1) := by decide +kernel
theorem dX8_latestTold_2 : decode cX8_latestTold 2 = .ok (.iconst (-1), 1) := by decide +kernel
theorem dX8_latestTold_3 : decode cX8_latestTold 3 = .ok (.istore_n 3, 1) := by decide +kernel
theorem dX8_latestTold_4 : decode cX8_latestTold 4 = .ok (.iconst 0, 1) := by decide +kernel
theorem dX8_latestTold_5 : decode cX8_latestTold 5 = .ok (.istore 4, 2) := by decide +kernel
theorem dX8_latestTold_7 : decode cX8_latestTold 7 = .ok (.iload 4, 2) := by decide +kernel
theorem dX8_latestTold_9 : decode cX8_latestTold 9 = .ok (.aload_n 0, 1) := by decide +kernel
theorem dX8_latestTold_10 : decode cX8_latestTold 10 = .ok (.getfield 30, 3) := by decide +kernel
theorem dX8_latestTold_13 : decode cX8_latestTold 13 = .ok (.if_icmp .ge 36, 3) := by decide +kernel
theorem dX8_latestTold_16 : decode cX8_latestTold 16 = .ok (.aload_n 0, 1) := by decide +kernel
theorem dX8_latestTold_17 : decode cX8_latestTold 17 = .ok (.getfield 34, 3) := by decide +kernel
theorem dX8_latestTold_20 : decode cX8_latestTold 20 = .ok (.iload 4, 2) := by decide +kernel
theorem dX8_latestTold_22 : decode cX8_latestTold 22 = .ok (.iaload, 1) := by decide +kernel
theorem dX8_latestTold_23 : decode cX8_latestTold 23 = .ok (.istore 5, 2) := by decide +kernel
theorem dX8_latestTold_25 : decode cX8_latestTold 25 = .ok (.iload 5, 2) := by decide +kernel
theorem dX8_latestTold_27 : decode cX8_latestTold 27 = .ok (.iload_n 1, 1) := by decide +kernel
theorem dX8_latestTold_28 : decode cX8_latestTold 28 = .ok (.if_icmp .gt 15, 3) := by decide +kernel
theorem dX8_latestTold_31 : decode cX8_latestTold 31 = .ok (.iload 5, 2) := by decide +kernel
theorem dX8_latestTold_33 : decode cX8_latestTold 33 = .ok (.iload_n 3, 1) := by decide +kernel
theorem dX8_latestTold_34 : decode cX8_latestTold 34 = .ok (.if_icmp .lt 9, 3) := by decide +kernel
theorem dX8_latestTold_37 : decode cX8_latestTold 37 = .ok (.iload 4, 2) := by decide +kernel
theorem dX8_latestTold_39 : decode cX8_latestTold 39 = .ok (.istore_n 2, 1) := by decide +kernel
theorem dX8_latestTold_40 : decode cX8_latestTold 40 = .ok (.iload 5, 2) := by decide +kernel
theorem dX8_latestTold_42 : decode cX8_latestTold 42 = .ok (.istore_n 3, 1) := by decide +kernel
theorem dX8_latestTold_43 : decode cX8_latestTold 43 = .ok (.iinc 4 1, 3) := by decide +kernel
theorem dX8_latestTold_46 : decode cX8_latestTold 46 = .ok (.goto (-39), 3) := by decide +kernel
theorem dX8_latestTold_49 : decode cX8_latestTold 49 = .ok (.iload_n 2, 1) := by decide +kernel
theorem dX8_latestTold_50 : decode cX8_latestTold 50 = .ok (.ireturn, 1) := by decide +kernel
theorem dX8_drawFrom_0 : decode cX8_drawFrom 0 = .ok (.iload_n 1, 1) := by decide +kernel
theorem dX8_drawFrom_1 : decode cX8_drawFrom 1 = .ok (.istore_n 2, 1) := by decide +kernel
theorem dX8_drawFrom_2 : decode cX8_drawFrom 2 = .ok (.iconst 0, 1) := by decide +kernel
theorem dX8_drawFrom_3 : decode cX8_drawFrom 3 = .ok (.istore_n 3, 1) := by decide +kernel
theorem dX8_drawFrom_4 : decode cX8_drawFrom 4 = .ok (.iload_n 3, 1) := by decide +kernel
theorem dX8_drawFrom_5 : decode cX8_drawFrom 5 = .ok (.bipush 48, 2) := by decide +kernel
theorem dX8_drawFrom_7 : decode cX8_drawFrom 7 = .ok (.if_icmp .ge 53, 3) := by decide +kernel
theorem dX8_drawFrom_10 : decode cX8_drawFrom 10 = .ok (.ldc 37, 2) := by decide +kernel
theorem dX8_drawFrom_12 : decode cX8_drawFrom 12 = .ok (.iload_n 2, 1) := by decide +kernel
theorem dX8_drawFrom_13 : decode cX8_drawFrom 13 = .ok (.imul, 1) := by decide +kernel
theorem dX8_drawFrom_14 : decode cX8_drawFrom 14 = .ok (.sipush 12345, 3) := by decide +kernel
theorem dX8_drawFrom_17 : decode cX8_drawFrom 17 = .ok (.iadd, 1) := by decide +kernel
theorem dX8_drawFrom_18 : decode cX8_drawFrom 18 = .ok (.istore_n 2, 1) := by decide +kernel
theorem dX8_drawFrom_19 : decode cX8_drawFrom 19 = .ok (.aload_n 0, 1) := by decide +kernel
theorem dX8_drawFrom_20 : decode cX8_drawFrom 20 = .ok (.getfield 9, 3) := by decide +kernel
theorem dX8_drawFrom_23 : decode cX8_drawFrom 23 = .ok (.iload_n 3, 1) := by decide +kernel
theorem dX8_drawFrom_24 : decode cX8_drawFrom 24 = .ok (.iload_n 2, 1) := by decide +kernel
theorem dX8_drawFrom_25 : decode cX8_drawFrom 25 = .ok (.bipush 16, 2) := by decide +kernel
theorem dX8_drawFrom_27 : decode cX8_drawFrom 27 = .ok (.iushr, 1) := by decide +kernel
theorem dX8_drawFrom_28 : decode cX8_drawFrom 28 = .ok (.bipush 7, 2) := by decide +kernel
theorem dX8_drawFrom_30 : decode cX8_drawFrom 30 = .ok (.irem, 1) := by decide +kernel
theorem dX8_drawFrom_31 : decode cX8_drawFrom 31 = .ok (.iastore, 1) := by decide +kernel
theorem dX8_drawFrom_32 : decode cX8_drawFrom 32 = .ok (.ldc 37, 2) := by decide +kernel
theorem dX8_drawFrom_34 : decode cX8_drawFrom 34 = .ok (.iload_n 2, 1) := by decide +kernel
theorem dX8_drawFrom_35 : decode cX8_drawFrom 35 = .ok (.imul, 1) := by decide +kernel
theorem dX8_drawFrom_36 : decode cX8_drawFrom 36 = .ok (.sipush 12345, 3) := by decide +kernel
theorem dX8_drawFrom_39 : decode cX8_drawFrom 39 = .ok (.iadd, 1) := by decide +kernel
theorem dX8_drawFrom_40 : decode cX8_drawFrom 40 = .ok (.istore_n 2, 1) := by decide +kernel
theorem dX8_drawFrom_41 : decode cX8_drawFrom 41 = .ok (.aload_n 0, 1) := by decide +kernel
theorem dX8_drawFrom_42 : decode cX8_drawFrom 42 = .ok (.getfield 15, 3) := by decide +kernel
theorem dX8_drawFrom_45 : decode cX8_drawFrom 45 = .ok (.iload_n 3, 1) := by decide +kernel
theorem dX8_drawFrom_46 : decode cX8_drawFrom 46 = .ok (.iload_n 2, 1) := by decide +kernel
theorem dX8_drawFrom_47 : decode cX8_drawFrom 47 = .ok (.bipush 16, 2) := by decide +kernel
theorem dX8_drawFrom_49 : decode cX8_drawFrom 49 = .ok (.iushr, 1) := by decide +kernel
theorem dX8_drawFrom_50 : decode cX8_drawFrom 50 = .ok (.bipush 7, 2) := by decide +kernel
theorem dX8_drawFrom_52 : decode cX8_drawFrom 52 = .ok (.irem, 1) := by decide +kernel
theorem dX8_drawFrom_53 : decode cX8_drawFrom 53 = .ok (.iastore, 1) := by decide +kernel
theorem dX8_drawFrom_54 : decode cX8_drawFrom 54 = .ok (.iinc 3 1, 3) := by decide +kernel
theorem dX8_drawFrom_57 : decode cX8_drawFrom 57 = .ok (.goto (-53), 3) := by decide +kernel
theorem dX8_drawFrom_60 : decode cX8_drawFrom 60 = .ok (.return_, 1) := by decide +kernel
theorem dX8_blowSteadily_0 : decode cX8_blowSteadily 0 = .ok (.aload_n 0, 1) := by decide +kernel
theorem dX8_blowSteadily_1 : decode cX8_blowSteadily 1 = .ok (.getfield 9, 3) := by decide +kernel
theorem dX8_blowSteadily_4 : decode cX8_blowSteadily 4 = .ok (.iload_n 1, 1) := by decide +kernel
theorem dX8_blowSteadily_5 : decode cX8_blowSteadily 5 = .ok (.invokestatic 38, 3) := by decide +kernel
theorem dX8_blowSteadily_8 : decode cX8_blowSteadily 8 = .ok (.aload_n 0, 1) := by decide +kernel
theorem dX8_blowSteadily_9 : decode cX8_blowSteadily 9 = .ok (.getfield 15, 3) := by decide +kernel
theorem dX8_blowSteadily_12 : decode cX8_blowSteadily 12 = .ok (.iload_n 2, 1) := by decide +kernel
theorem dX8_blowSteadily_13 : decode cX8_blowSteadily 13 = .ok (.invokestatic 38, 3) := by decide +kernel
theorem dX8_blowSteadily_16 : decode cX8_blowSteadily 16 = .ok (.return_, 1) := by decide +kernel
theorem md_X8_init : yX8_init.cls ≠ "java/lang/invoke/MethodHandle" ∧ yX8_init.cls ≠ "java/lang/invoke/VarHandle" ∧ (parseMethodDescriptor yX8_init.desc).map (fun d => d.parameters.length) = some 0 := by decide +kernel
theorem md_X8_followTold : yX8_followTold.cls ≠ "java/lang/invoke/MethodHandle" ∧ yX8_followTold.cls ≠ "java/lang/invoke/VarHandle" ∧ (parseMethodDescriptor yX8_followTold.desc).map (fun d => d.parameters.length) = some 1 := by decide +kernel
theorem md_X8_latestTold : yX8_latestTold.cls ≠ "java/lang/invoke/MethodHandle" ∧ yX8_latestTold.cls ≠ "java/lang/invoke/VarHandle" ∧ (parseMethodDescriptor yX8_latestTold.desc).map (fun d => d.parameters.length) = some 2 := by decide +kernel
theorem md_X8_drawFrom : yX8_drawFrom.cls ≠ "java/lang/invoke/MethodHandle" ∧ yX8_drawFrom.cls ≠ "java/lang/invoke/VarHandle" ∧ (parseMethodDescriptor yX8_drawFrom.desc).map (fun d => d.parameters.length) = some 1 := by decide +kernel
theorem md_X8_blowSteadily : yX8_blowSteadily.cls ≠ "java/lang/invoke/MethodHandle" ∧ yX8_blowSteadily.cls ≠ "java/lang/invoke/VarHandle" ∧ (parseMethodDescriptor yX8_blowSteadily.desc).map (fun d => d.parameters.length) = some 2 := by decide +kernel
theorem dX4_init_0 : decode cX4_init 0 = .ok (.aload_n 0, 1) := by decide +kernel
theorem dX4_init_1 : decode cX4_init 1 = .ok (.invokespecial 3, 3) := by decide +kernel
theorem dX4_init_4 : decode cX4_init 4 = .ok (.aload_n 0, 1) := by decide +kernel
theorem dX4_init_5 : decode cX4_init 5 = .ok (.bipush 10, 2) := by decide +kernel
theorem dX4_init_7 : decode cX4_init 7 = .ok (.newarray .int, 2) := by decide +kernel
theorem dX4_init_9 : decode cX4_init 9 = .ok (.putfield 9, 3) := by decide +kernel
theorem dX4_init_12 : decode cX4_init 12 = .ok (.aload_n 0, 1) := by decide +kernel
theorem dX4_init_13 : decode cX4_init 13 = .ok (.sipush 2610, 3) := by decide +kernel
theorem dX4_init_16 : decode cX4_init 16 = .ok (.newarray .int, 2) := by decide +kernel
theorem dX4_init_18 : decode cX4_init 18 = .ok (.putfield 15, 3) := by decide +kernel
theorem dX4_init_21 : decode cX4_init 21 = .ok (.aload_n 0, 1) := by decide +kernel
theorem dX4_init_22 : decode cX4_init 22 = .ok (.aload_n 1, 1) := by decide +kernel
theorem dX4_init_23 : decode cX4_init 23 = .ok (.putfield 18, 3) := by decide +kernel
theorem dX4_init_26 : decode cX4_init 26 = .ok (.aload_n 0, 1) := by decide +kernel
theorem dX4_init_27 : decode cX4_init 27 = .ok (.aload_n 2, 1) := by decide +kernel
theorem dX4_init_28 : decode cX4_init 28 = .ok (.putfield 22, 3) := by decide +kernel
theorem dX4_init_31 : decode cX4_init 31 = .ok (.return_, 1) := by decide +kernel
theorem dX4_layAll_0 : decode cX4_layAll 0 = .ok (.iconst 0, 1) := by decide +kernel
theorem dX4_layAll_1 : decode cX4_layAll 1 = .ok (.istore_n 1, 1) := by decide +kernel
theorem dX4_layAll_2 : decode cX4_layAll 2 = .ok (.iload_n 1, 1) := by decide +kernel
theorem dX4_layAll_3 : decode cX4_layAll 3 = .ok (.aload_n 0, 1) := by decide +kernel
theorem dX4_layAll_4 : decode cX4_layAll 4 = .ok (.getfield 18, 3) := by decide +kernel
theorem dX4_layAll_7 : decode cX4_layAll 7 = .ok (.getfield 26, 3) := by decide +kernel
theorem dX4_layAll_10 : decode cX4_layAll 10 = .ok (.if_icmp .ge 14, 3) := by decide +kernel
theorem dX4_layAll_13 : decode cX4_layAll 13 = .ok (.aload_n 0, 1) := by decide +kernel
theorem dX4_layAll_14 : decode cX4_layAll 14 = .ok (.iload_n 1, 1) := by decide +kernel
theorem dX4_layAll_15 : decode cX4_layAll 15 = .ok (.invokevirtual 32, 3) := by decide +kernel
theorem dX4_layAll_18 : decode cX4_layAll 18 = .ok (.iinc 1 1, 3) := by decide +kernel
theorem dX4_layAll_21 : decode cX4_layAll 21 = .ok (.goto (-19), 3) := by decide +kernel
theorem dX4_layAll_24 : decode cX4_layAll 24 = .ok (.return_, 1) := by decide +kernel
theorem dX4_layWhole_0 : decode cX4_layWhole 0 = .ok (.aload_n 0, 1) := by decide +kernel
theorem dX4_layWhole_1 : decode cX4_layWhole 1 = .ok (.getfield 18, 3) := by decide +kernel
theorem dX4_layWhole_4 : decode cX4_layWhole 4 = .ok (.iload_n 1, 1) := by decide +kernel
theorem dX4_layWhole_5 : decode cX4_layWhole 5 = .ok (.invokevirtual 36, 3) := by decide +kernel
theorem dX4_layWhole_8 : decode cX4_layWhole 8 = .ok (.ifCond .eq 45, 3) := by decide +kernel
theorem dX4_layWhole_11 : decode cX4_layWhole 11 = .ok (.aload_n 0, 1) := by decide +kernel
theorem dX4_layWhole_12 : decode cX4_layWhole 12 = .ok (.iload_n 1, 1) := by decide +kernel
theorem dX4_layWhole_13 : decode cX4_layWhole 13 = .ok (.aload_n 0, 1) := by decide +kernel
theorem dX4_layWhole_14 : decode cX4_layWhole 14 = .ok (.getfield 18, 3) := by decide +kernel
theorem dX4_layWhole_17 : decode cX4_layWhole 17 = .ok (.getfield 40, 3) := by decide +kernel
theorem dX4_layWhole_20 : decode cX4_layWhole 20 = .ok (.iload_n 1, 1) := by decide +kernel
theorem dX4_layWhole_21 : decode cX4_layWhole 21 = .ok (.iaload, 1) := by decide +kernel
theorem dX4_layWhole_22 : decode cX4_layWhole 22 = .ok (.aload_n 0, 1) := by decide +kernel
theorem dX4_layWhole_23 : decode cX4_layWhole 23 = .ok (.getfield 18, 3) := by decide +kernel
theorem dX4_layWhole_26 : decode cX4_layWhole 26 = .ok (.getfield 41, 3) := by decide +kernel
theorem dX4_layWhole_29 : decode cX4_layWhole 29 = .ok (.iload_n 1, 1) := by decide +kernel
theorem dX4_layWhole_30 : decode cX4_layWhole 30 = .ok (.iaload, 1) := by decide +kernel
theorem dX4_layWhole_31 : decode cX4_layWhole 31 = .ok (.aload_n 0, 1) := by decide +kernel
theorem dX4_layWhole_32 : decode cX4_layWhole 32 = .ok (.getfield 18, 3) := by decide +kernel
theorem dX4_layWhole_35 : decode cX4_layWhole 35 = .ok (.getfield 44, 3) := by decide +kernel
theorem dX4_layWhole_38 : decode cX4_layWhole 38 = .ok (.iload_n 1, 1) := by decide +kernel
theorem dX4_layWhole_39 : decode cX4_layWhole 39 = .ok (.iaload, 1) := by decide +kernel
theorem dX4_layWhole_40 : decode cX4_layWhole 40 = .ok (.aload_n 0, 1) := by decide +kernel
theorem dX4_layWhole_41 : decode cX4_layWhole 41 = .ok (.getfield 18, 3) := by decide +kernel
theorem dX4_layWhole_44 : decode cX4_layWhole 44 = .ok (.getfield 47, 3) := by decide +kernel
theorem dX4_layWhole_47 : decode cX4_layWhole 47 = .ok (.iload_n 1, 1) := by decide +kernel
theorem dX4_layWhole_48 : decode cX4_layWhole 48 = .ok (.iaload, 1) := by decide +kernel
theorem dX4_layWhole_49 : decode cX4_layWhole 49 = .ok (.iadd, 1) := by decide +kernel
theorem dX4_layWhole_50 : decode cX4_layWhole 50 = .ok (.invokevirtual 50, 3) := by decide +kernel
theorem dX4_layWhole_53 : decode cX4_layWhole 53 = .ok (.return_, 1) := by decide +kernel
theorem dX4_layLit_0 : decode cX4_layLit 0 = .ok (.iconst 0, 1) := by decide +kernel
theorem dX4_layLit_1 : decode cX4_layLit 1 = .ok (.istore_n 1, 1) := by decide +kernel
theorem dX4_layLit_2 : decode cX4_layLit 2 = .ok (.iload_n 1, 1) := by decide +kernel
theorem dX4_layLit_3 : decode cX4_layLit 3 = .ok (.aload_n 0, 1) := by decide +kernel
theorem dX4_layLit_4 : decode cX4_layLit 4 = .ok (.getfield 18, 3) := by decide +kernel
theorem dX4_layLit_7 : decode cX4_layLit 7 = .ok (.getfield 26, 3) := by decide +kernel
theorem dX4_layLit_10 : decode cX4_layLit 10 = .ok (.if_icmp .ge 26, 3) := by decide +kernel
theorem dX4_layLit_13 : decode cX4_layLit 13 = .ok (.aload_n 0, 1) := by decide +kernel
theorem dX4_layLit_14 : decode cX4_layLit 14 = .ok (.getfield 18, 3) := by decide +kernel
theorem dX4_layLit_17 : decode cX4_layLit 17 = .ok (.iload_n 1, 1) := by decide +kernel
theorem dX4_layLit_18 : decode cX4_layLit 18 = .ok (.invokevirtual 54, 3) := by decide +kernel
theorem dX4_layLit_21 : decode cX4_layLit 21 = .ok (.ifCond .eq 9, 3) := by decide +kernel
theorem dX4_layLit_24 : decode cX4_layLit 24 = .ok (.aload_n 0, 1) := by decide +kernel
theorem dX4_layLit_25 : decode cX4_layLit 25 = .ok (.iload_n 1, 1) := by decide +kernel
theorem dX4_layLit_26 : decode cX4_layLit 26 = .ok (.iconst 0, 1) := by decide +kernel
theorem dX4_layLit_27 : decode cX4_layLit 27 = .ok (.invokevirtual 57, 3) := by decide +kernel
theorem dX4_layLit_30 : decode cX4_layLit 30 = .ok (.iinc 1 1, 3) := by decide +kernel
theorem dX4_layLit_33 : decode cX4_layLit 33 = .ok (.goto (-31), 3) := by decide +kernel
theorem dX4_layLit_36 : decode cX4_layLit 36 = .ok (.return_, 1) := by decide +kernel
theorem dX4_layRaised_0 : decode cX4_layRaised 0 = .ok (.aload_n 0, 1) := by decide +kernel
theorem dX4_layRaised_1 : decode cX4_layRaised 1 = .ok (.getfield 18, 3) := by decide +kernel
theorem dX4_layRaised_4 : decode cX4_layRaised 4 = .ok (.iload_n 1, 1) := by decide +kernel
theorem dX4_layRaised_5 : decode cX4_layRaised 5 = .ok (.invokevirtual 54, 3) := by decide +kernel
theorem dX4_layRaised_8 : decode cX4_layRaised 8 = .ok (.ifCond .eq 41, 3) := by decide +kernel
theorem dX4_layRaised_11 : decode cX4_layRaised 11 = .ok (.aload_n 0, 1) := by decide +kernel
theorem dX4_layRaised_12 : decode cX4_layRaised 12 = .ok (.getfield 18, 3) := by decide +kernel
theorem dX4_layRaised_15 : decode cX4_layRaised 15 = .ok (.getfield 61, 3) := by decide +kernel
theorem dX4_layRaised_18 : decode cX4_layRaised 18 = .ok (.iload_n 1, 1) := by decide +kernel
theorem dX4_layRaised_19 : decode cX4_layRaised 19 = .ok (.iaload, 1) := by decide +kernel
theorem dX4_layRaised_20 : decode cX4_layRaised 20 = .ok (.istore_n 3, 1) := by decide +kernel
theorem dX4_layRaised_21 : decode cX4_layRaised 21 = .ok (.aload_n 0, 1) := by decide +kernel
theorem dX4_layRaised_22 : decode cX4_layRaised 22 = .ok (.iload_n 1, 1) := by decide +kernel
theorem dX4_layRaised_23 : decode cX4_layRaised 23 = .ok (.aload_n 0, 1) := by decide +kernel
theorem dX4_layRaised_24 : decode cX4_layRaised 24 = .ok (.getfield 18, 3) := by decide +kernel
theorem dX4_layRaised_27 : decode cX4_layRaised 27 = .ok (.getfield 40, 3) := by decide +kernel
theorem dX4_layRaised_30 : decode cX4_layRaised 30 = .ok (.iload_n 1, 1) := by decide +kernel
theorem dX4_layRaised_31 : decode cX4_layRaised 31 = .ok (.iaload, 1) := by decide +kernel
theorem dX4_layRaised_32 : decode cX4_layRaised 32 = .ok (.iload_n 2, 1) := by decide +kernel
theorem dX4_layRaised_33 : decode cX4_layRaised 33 = .ok (.iadd, 1) := by decide +kernel
theorem dX4_layRaised_34 : decode cX4_layRaised 34 = .ok (.iload_n 3, 1) := by decide +kernel
theorem dX4_layRaised_35 : decode cX4_layRaised 35 = .ok (.iload_n 3, 1) := by decide +kernel
theorem dX4_layRaised_36 : decode cX4_layRaised 36 = .ok (.aload_n 0, 1) := by decide +kernel
theorem dX4_layRaised_37 : decode cX4_layRaised 37 = .ok (.getfield 18, 3) := by decide +kernel
theorem dX4_layRaised_40 : decode cX4_layRaised 40 = .ok (.getfield 47, 3) := by decide +kernel
theorem dX4_layRaised_43 : decode cX4_layRaised 43 = .ok (.iload_n 1, 1) := by decide +kernel
theorem dX4_layRaised_44 : decode cX4_layRaised 44 = .ok (.iaload, 1) := by decide +kernel
theorem dX4_layRaised_45 : decode cX4_layRaised 45 = .ok (.iadd, 1) := by decide +kernel
theorem dX4_layRaised_46 : decode cX4_layRaised 46 = .ok (.invokevirtual 50, 3) := by decide +kernel
theorem dX4_layRaised_49 : decode cX4_layRaised 49 = .ok (.return_, 1) := by decide +kernel
theorem dX4_layWays_0 : decode cX4_layWays 0 = .ok (.aload_n 0, 1) := by decide +kernel
theorem dX4_layWays_1 : decode cX4_layWays 1 = .ok (.getfield 9, 3) := by decide +kernel
theorem dX4_layWays_4 : decode cX4_layWays 4 = .ok (.iload_n 1, 1) := by decide +kernel
theorem dX4_layWays_5 : decode cX4_layWays 5 = .ok (.iload_n 2, 1) := by decide +kernel
theorem dX4_layWays_6 : decode cX4_layWays 6 = .ok (.iastore, 1) := by decide +kernel
theorem dX4_layWays_7 : decode cX4_layWays 7 = .ok (.iload_n 3, 1) := by decide +kernel
theorem dX4_layWays_8 : decode cX4_layWays 8 = .ok (.iconst 0, 1) := by decide +kernel
theorem dX4_layWays_9 : decode cX4_layWays 9 = .ok (.invokestatic 64, 3) := by decide +kernel
theorem dX4_layWays_12 : decode cX4_layWays 12 = .ok (.istore 5, 2) := by decide +kernel
theorem dX4_layWays_14 : decode cX4_layWays 14 = .ok (.iload 5, 2) := by decide +kernel
theorem dX4_layWays_16 : decode cX4_layWays 16 = .ok (.iload 4, 2) := by decide +kernel
theorem dX4_layWays_18 : decode cX4_layWays 18 = .ok (.bipush 29, 2) := by decide +kernel
theorem dX4_layWays_20 : decode cX4_layWays 20 = .ok (.invokestatic 70, 3) := by decide +kernel
theorem dX4_layWays_23 : decode cX4_layWays 23 = .ok (.if_icmp .ge 16, 3) := by decide +kernel
theorem dX4_layWays_26 : decode cX4_layWays 26 = .ok (.aload_n 0, 1) := by decide +kernel
theorem dX4_layWays_27 : decode cX4_layWays 27 = .ok (.iload_n 1, 1) := by decide +kernel
theorem dX4_layWays_28 : decode cX4_layWays 28 = .ok (.iload 5, 2) := by decide +kernel
theorem dX4_layWays_30 : decode cX4_layWays 30 = .ok (.invokevirtual 73, 3) := by decide +kernel
theorem dX4_layWays_33 : decode cX4_layWays 33 = .ok (.iinc 5 1, 3) := by decide +kernel
theorem dX4_layWays_36 : decode cX4_layWays 36 = .ok (.goto (-22), 3) := by decide +kernel
theorem dX4_layWays_39 : decode cX4_layWays 39 = .ok (.return_, 1) := by decide +kernel
theorem dX4_layWay_0 : decode cX4_layWay 0 = .ok (.iload_n 1, 1) := by decide +kernel
theorem dX4_layWay_1 : decode cX4_layWay 1 = .ok (.bipush 29, 2) := by decide +kernel
theorem dX4_layWay_3 : decode cX4_layWay 3 = .ok (.imul, 1) := by decide +kernel
theorem dX4_layWay_4 : decode cX4_layWay 4 = .ok (.iload_n 2, 1) := by decide +kernel
theorem dX4_layWay_5 : decode cX4_layWay 5 = .ok (.iadd, 1) := by decide +kernel
theorem dX4_layWay_6 : decode cX4_layWay 6 = .ok (.bipush 9, 2) := by decide +kernel
theorem dX4_layWay_8 : decode cX4_layWay 8 = .ok (.imul, 1) := by decide +kernel
theorem dX4_layWay_9 : decode cX4_layWay 9 = .ok (.istore_n 3, 1) := by decide +kernel
theorem dX4_layWay_10 : decode cX4_layWay 10 = .ok (.aload_n 0, 1) := by decide +kernel
theorem dX4_layWay_11 : decode cX4_layWay 11 = .ok (.getfield 18, 3) := by decide +kernel
theorem dX4_layWay_14 : decode cX4_layWay 14 = .ok (.getfield 76, 3) := by decide +kernel
theorem dX4_layWay_17 : decode cX4_layWay 17 = .ok (.iload_n 1, 1) := by decide +kernel
theorem dX4_layWay_18 : decode cX4_layWay 18 = .ok (.iaload, 1) := by decide +kernel
theorem dX4_layWay_19 : decode cX4_layWay 19 = .ok (.istore 4, 2) := by decide +kernel
theorem dX4_layWay_21 : decode cX4_layWay 21 = .ok (.aload_n 0, 1) := by decide +kernel
theorem dX4_layWay_22 : decode cX4_layWay 22 = .ok (.getfield 9, 3) := by decide +kernel
theorem dX4_layWay_25 : decode cX4_layWay 25 = .ok (.iload_n 1, 1) := by decide +kernel
theorem dX4_layWay_26 : decode cX4_layWay 26 = .ok (.iaload, 1) := by decide +kernel
theorem dX4_layWay_27 : decode cX4_layWay 27 = .ok (.istore 5, 2) := by decide +kernel
theorem dX4_layWay_29 : decode cX4_layWay 29 = .ok (.aload_n 0, 1) := by decide +kernel
theorem dX4_layWay_30 : decode cX4_layWay 30 = .ok (.getfield 15, 3) := by decide +kernel
theorem dX4_layWay_33 : decode cX4_layWay 33 = .ok (.iload_n 3, 1) := by decide +kernel
theorem dX4_layWay_34 : decode cX4_layWay 34 = .ok (.iload 4, 2) := by decide +kernel
theorem dX4_layWay_36 : decode cX4_layWay 36 = .ok (.iastore, 1) := by decide +kernel
theorem dX4_layWay_37 : decode cX4_layWay 37 = .ok (.iconst 1, 1) := by decide +kernel
theorem dX4_layWay_38 : decode cX4_layWay 38 = .ok (.istore 6, 2) := by decide +kernel
theorem dX4_layWay_40 : decode cX4_layWay 40 = .ok (.iload 6, 2) := by decide +kernel
theorem dX4_layWay_42 : decode cX4_layWay 42 = .ok (.bipush 9, 2) := by decide +kernel
theorem dX4_layWay_44 : decode cX4_layWay 44 = .ok (.if_icmp .ge 95, 3) := by decide +kernel
theorem dX4_layWay_47 : decode cX4_layWay 47 = .ok (.iload 4, 2) := by decide +kernel
theorem dX4_layWay_49 : decode cX4_layWay 49 = .ok (.iconst (-1), 1) := by decide +kernel
theorem dX4_layWay_50 : decode cX4_layWay 50 = .ok (.if_icmp .eq 72, 3) := by decide +kernel
theorem dX4_layWay_53 : decode cX4_layWay 53 = .ok (.iload_n 2, 1) := by decide +kernel
theorem dX4_layWay_54 : decode cX4_layWay 54 = .ok (.iload 6, 2) := by decide +kernel
theorem dX4_layWay_56 : decode cX4_layWay 56 = .ok (.iadd, 1) := by decide +kernel
theorem dX4_layWay_57 : decode cX4_layWay 57 = .ok (.istore 7, 2) := by decide +kernel
theorem dX4_layWay_59 : decode cX4_layWay 59 = .ok (.iload 4, 2) := by decide +kernel
theorem dX4_layWay_61 : decode cX4_layWay 61 = .ok (.iload 5, 2) := by decide +kernel
theorem dX4_layWay_63 : decode cX4_layWay 63 = .ok (.aload_n 0, 1) := by decide +kernel
theorem dX4_layWay_64 : decode cX4_layWay 64 = .ok (.getfield 18, 3) := by decide +kernel
theorem dX4_layWay_67 : decode cX4_layWay 67 = .ok (.getfield 79, 3) := by decide +kernel
theorem dX4_layWay_70 : decode cX4_layWay 70 = .ok (.if_icmp .ge 16, 3) := by decide +kernel
theorem dX4_layWay_73 : decode cX4_layWay 73 = .ok (.aload_n 0, 1) := by decide +kernel
theorem dX4_layWay_74 : decode cX4_layWay 74 = .ok (.getfield 22, 3) := by decide +kernel
theorem dX4_layWay_77 : decode cX4_layWay 77 = .ok (.getfield 82, 3) := by decide +kernel
theorem dX4_layWay_80 : decode cX4_layWay 80 = .ok (.iload 7, 2) := by decide +kernel
theorem dX4_layWay_82 : decode cX4_layWay 82 = .ok (.iaload, 1) := by decide +kernel
theorem dX4_layWay_83 : decode cX4_layWay 83 = .ok (.goto 13, 3) := by decide +kernel
theorem dX4_layWay_86 : decode cX4_layWay 86 = .ok (.aload_n 0, 1) := by decide +kernel
theorem dX4_layWay_87 : decode cX4_layWay 87 = .ok (.getfield 22, 3) := by decide +kernel
theorem dX4_layWay_90 : decode cX4_layWay 90 = .ok (.getfield 87, 3) := by decide +kernel
theorem dX4_layWay_93 : decode cX4_layWay 93 = .ok (.iload 7, 2) := by decide +kernel
theorem dX4_layWay_95 : decode cX4_layWay 95 = .ok (.iaload, 1) := by decide +kernel
theorem dX4_layWay_96 : decode cX4_layWay 96 = .ok (.iconst 3, 1) := by decide +kernel
theorem dX4_layWay_97 : decode cX4_layWay 97 = .ok (.isub, 1) := by decide +kernel
theorem dX4_layWay_98 : decode cX4_layWay 98 = .ok (.iadd, 1) := by decide +kernel
theorem dX4_layWay_99 : decode cX4_layWay 99 = .ok (.istore 4, 2) := by decide +kernel
theorem dX4_layWay_101 : decode cX4_layWay 101 = .ok (.iinc 5 1, 3) := by decide +kernel
theorem dX4_layWay_104 : decode cX4_layWay 104 = .ok (.iload 4, 2) := by decide +kernel
theorem dX4_layWay_106 : decode cX4_layWay 106 = .ok (.invokestatic 90, 3) := by decide +kernel
theorem dX4_layWay_109 : decode cX4_layWay 109 = .ok (.ifCond .eq 10, 3) := by decide +kernel
theorem dX4_layWay_112 : decode cX4_layWay 112 = .ok (.iload 5, 2) := by decide +kernel
theorem dX4_layWay_114 : decode cX4_layWay 114 = .ok (.bipush 25, 2) := by decide +kernel
theorem dX4_layWay_116 : decode cX4_layWay 116 = .ok (.if_icmp .lt 6, 3) := by decide +kernel
theorem dX4_layWay_119 : decode cX4_layWay 119 = .ok (.iconst (-1), 1) := by decide +kernel
theorem dX4_layWay_120 : decode cX4_layWay 120 = .ok (.istore 4, 2) := by decide +kernel
theorem dX4_layWay_122 : decode cX4_layWay 122 = .ok (.aload_n 0, 1) := by decide +kernel
theorem dX4_layWay_123 : decode cX4_layWay 123 = .ok (.getfield 15, 3) := by decide +kernel
theorem dX4_layWay_126 : decode cX4_layWay 126 = .ok (.iload_n 3, 1) := by decide +kernel
theorem dX4_layWay_127 : decode cX4_layWay 127 = .ok (.iload 6, 2) := by decide +kernel
theorem dX4_layWay_129 : decode cX4_layWay 129 = .ok (.iadd, 1) := by decide +kernel
theorem dX4_layWay_130 : decode cX4_layWay 130 = .ok (.iload 4, 2) := by decide +kernel
theorem dX4_layWay_132 : decode cX4_layWay 132 = .ok (.iastore, 1) := by decide +kernel
theorem dX4_layWay_133 : decode cX4_layWay 133 = .ok (.iinc 6 1, 3) := by decide +kernel
theorem dX4_layWay_136 : decode cX4_layWay 136 = .ok (.goto (-96), 3) := by decide +kernel
theorem dX4_layWay_139 : decode cX4_layWay 139 = .ok (.return_, 1) := by decide +kernel
theorem dX4_xOnWay_0 : decode cX4_xOnWay 0 = .ok (.iload_n 3, 1) := by decide +kernel
theorem dX4_xOnWay_1 : decode cX4_xOnWay 1 = .ok (.iload_n 2, 1) := by decide +kernel
theorem dX4_xOnWay_2 : decode cX4_xOnWay 2 = .ok (.isub, 1) := by decide +kernel
theorem dX4_xOnWay_3 : decode cX4_xOnWay 3 = .ok (.istore 4, 2) := by decide +kernel
theorem dX4_xOnWay_5 : decode cX4_xOnWay 5 = .ok (.iload_n 1, 1) := by decide +kernel
theorem dX4_xOnWay_6 : decode cX4_xOnWay 6 = .ok (.ifCond .lt 36, 3) := by decide +kernel
theorem dX4_xOnWay_9 : decode cX4_xOnWay 9 = .ok (.iload_n 1, 1) := by decide +kernel
theorem dX4_xOnWay_10 : decode cX4_xOnWay 10 = .ok (.aload_n 0, 1) := by decide +kernel
theorem dX4_xOnWay_11 : decode cX4_xOnWay 11 = .ok (.getfield 18, 3) := by decide +kernel
theorem dX4_xOnWay_14 : decode cX4_xOnWay 14 = .ok (.getfield 26, 3) := by decide +kernel
theorem dX4_xOnWay_17 : decode cX4_xOnWay 17 = .ok (.if_icmp .ge 25, 3) := by decide +kernel
theorem dX4_xOnWay_20 : decode cX4_xOnWay 20 = .ok (.iload_n 2, 1) := by decide +kernel
theorem dX4_xOnWay_21 : decode cX4_xOnWay 21 = .ok (.ifCond .lt 21, 3) := by decide +kernel
theorem dX4_xOnWay_24 : decode cX4_xOnWay 24 = .ok (.iload_n 2, 1) := by decide +kernel
theorem dX4_xOnWay_25 : decode cX4_xOnWay 25 = .ok (.bipush 29, 2) := by decide +kernel
theorem dX4_xOnWay_27 : decode cX4_xOnWay 27 = .ok (.if_icmp .ge 15, 3) := by decide +kernel
theorem dX4_xOnWay_30 : decode cX4_xOnWay 30 = .ok (.iload 4, 2) := by decide +kernel
theorem dX4_xOnWay_32 : decode cX4_xOnWay 32 = .ok (.ifCond .lt 10, 3) := by decide +kernel
theorem dX4_xOnWay_35 : decode cX4_xOnWay 35 = .ok (.iload 4, 2) := by decide +kernel
theorem dX4_xOnWay_37 : decode cX4_xOnWay 37 = .ok (.bipush 9, 2) := by decide +kernel
theorem dX4_xOnWay_39 : decode cX4_xOnWay 39 = .ok (.if_icmp .lt 5, 3) := by decide +kernel
theorem dX4_xOnWay_42 : decode cX4_xOnWay 42 = .ok (.iconst (-1), 1) := by decide +kernel
theorem dX4_xOnWay_43 : decode cX4_xOnWay 43 = .ok (.ireturn, 1) := by decide +kernel
theorem dX4_xOnWay_44 : decode cX4_xOnWay 44 = .ok (.aload_n 0, 1) := by decide +kernel
theorem dX4_xOnWay_45 : decode cX4_xOnWay 45 = .ok (.getfield 15, 3) := by decide +kernel
theorem dX4_xOnWay_48 : decode cX4_xOnWay 48 = .ok (.iload_n 1, 1) := by decide +kernel
theorem dX4_xOnWay_49 : decode cX4_xOnWay 49 = .ok (.bipush 29, 2) := by decide +kernel
theorem dX4_xOnWay_51 : decode cX4_xOnWay 51 = .ok (.imul, 1) := by decide +kernel
theorem dX4_xOnWay_52 : decode cX4_xOnWay 52 = .ok (.iload_n 2, 1) := by decide +kernel
theorem dX4_xOnWay_53 : decode cX4_xOnWay 53 = .ok (.iadd, 1) := by decide +kernel
theorem dX4_xOnWay_54 : decode cX4_xOnWay 54 = .ok (.bipush 9, 2) := by decide +kernel
theorem dX4_xOnWay_56 : decode cX4_xOnWay 56 = .ok (.imul, 1) := by decide +kernel
theorem dX4_xOnWay_57 : decode cX4_xOnWay 57 = .ok (.iload 4, 2) := by decide +kernel
theorem dX4_xOnWay_59 : decode cX4_xOnWay 59 = .ok (.iadd, 1) := by decide +kernel
theorem dX4_xOnWay_60 : decode cX4_xOnWay 60 = .ok (.iaload, 1) := by decide +kernel
theorem dX4_xOnWay_61 : decode cX4_xOnWay 61 = .ok (.ireturn, 1) := by decide +kernel
theorem dX4_thicknessOfPuff_0 : decode cX4_thicknessOfPuff 0 = .ok (.aload_n 0, 1) := by decide +kernel
theorem dX4_thicknessOfPuff_1 : decode cX4_thicknessOfPuff 1 = .ok (.getfield 18, 3) := by decide +kernel
theorem dX4_thicknessOfPuff_4 : decode cX4_thicknessOfPuff 4 = .ok (.iload_n 1, 1) := by decide +kernel
theorem dX4_thicknessOfPuff_5 : decode cX4_thicknessOfPuff 5 = .ok (.invokevirtual 54, 3) := by decide +kernel
theorem dX4_thicknessOfPuff_8 : decode cX4_thicknessOfPuff 8 = .ok (.ifCond .ne 5, 3) := by decide +kernel
theorem dX4_thicknessOfPuff_11 : decode cX4_thicknessOfPuff 11 = .ok (.iconst 0, 1) := by decide +kernel
theorem dX4_thicknessOfPuff_12 : decode cX4_thicknessOfPuff 12 = .ok (.ireturn, 1) := by decide +kernel
theorem dX4_thicknessOfPuff_13 : decode cX4_thicknessOfPuff 13 = .ok (.iload_n 3, 1) := by decide +kernel
theorem dX4_thicknessOfPuff_14 : decode cX4_thicknessOfPuff 14 = .ok (.aload_n 0, 1) := by decide +kernel
theorem dX4_thicknessOfPuff_15 : decode cX4_thicknessOfPuff 15 = .ok (.getfield 18, 3) := by decide +kernel
theorem dX4_thicknessOfPuff_18 : decode cX4_thicknessOfPuff 18 = .ok (.getfield 61, 3) := by decide +kernel
theorem dX4_thicknessOfPuff_21 : decode cX4_thicknessOfPuff 21 = .ok (.iload_n 1, 1) := by decide +kernel
theorem dX4_thicknessOfPuff_22 : decode cX4_thicknessOfPuff 22 = .ok (.iaload, 1) := by decide +kernel
theorem dX4_thicknessOfPuff_23 : decode cX4_thicknessOfPuff 23 = .ok (.isub, 1) := by decide +kernel
theorem dX4_thicknessOfPuff_24 : decode cX4_thicknessOfPuff 24 = .ok (.iload_n 2, 1) := by decide +kernel
theorem dX4_thicknessOfPuff_25 : decode cX4_thicknessOfPuff 25 = .ok (.isub, 1) := by decide +kernel
theorem dX4_thicknessOfPuff_26 : decode cX4_thicknessOfPuff 26 = .ok (.istore 4, 2) := by decide +kernel
theorem dX4_thicknessOfPuff_28 : decode cX4_thicknessOfPuff 28 = .ok (.iload 4, 2) := by decide +kernel
theorem dX4_thicknessOfPuff_30 : decode cX4_thicknessOfPuff 30 = .ok (.ifCond .ge 7, 3) := by decide +kernel
theorem dX4_thicknessOfPuff_33 : decode cX4_thicknessOfPuff 33 = .ok (.iconst 0, 1) := by decide +kernel
theorem dX4_thicknessOfPuff_34 : decode cX4_thicknessOfPuff 34 = .ok (.goto 19, 3) := by decide +kernel
theorem dX4_thicknessOfPuff_37 : decode cX4_thicknessOfPuff 37 = .ok (.iconst 0, 1) := by decide +kernel
theorem dX4_thicknessOfPuff_38 : decode cX4_thicknessOfPuff 38 = .ok (.aload_n 0, 1) := by decide +kernel
theorem dX4_thicknessOfPuff_39 : decode cX4_thicknessOfPuff 39 = .ok (.getfield 18, 3) := by decide +kernel
theorem dX4_thicknessOfPuff_42 : decode cX4_thicknessOfPuff 42 = .ok (.iload_n 1, 1) := by decide +kernel
theorem dX4_thicknessOfPuff_43 : decode cX4_thicknessOfPuff 43 = .ok (.iload_n 2, 1) := by decide +kernel
theorem dX4_thicknessOfPuff_44 : decode cX4_thicknessOfPuff 44 = .ok (.invokevirtual 93, 3) := by decide +kernel
theorem dX4_thicknessOfPuff_47 : decode cX4_thicknessOfPuff 47 = .ok (.iload 4, 2) := by decide +kernel
theorem dX4_thicknessOfPuff_49 : decode cX4_thicknessOfPuff 49 = .ok (.isub, 1) := by decide +kernel
theorem dX4_thicknessOfPuff_50 : decode cX4_thicknessOfPuff 50 = .ok (.invokestatic 64, 3) := by decide +kernel
theorem dX4_thicknessOfPuff_53 : decode cX4_thicknessOfPuff 53 = .ok (.ireturn, 1) := by decide +kernel
theorem dX4_xOfPuff_0 : decode cX4_xOfPuff 0 = .ok (.aload_n 0, 1) := by decide +kernel
theorem dX4_xOfPuff_1 : decode cX4_xOfPuff 1 = .ok (.iload_n 1, 1) := by decide +kernel
theorem dX4_xOfPuff_2 : decode cX4_xOfPuff 2 = .ok (.iload_n 2, 1) := by decide +kernel
theorem dX4_xOfPuff_3 : decode cX4_xOfPuff 3 = .ok (.iload_n 3, 1) := by decide +kernel
theorem dX4_xOfPuff_4 : decode cX4_xOfPuff 4 = .ok (.invokevirtual 96, 3) := by decide +kernel
theorem dX4_xOfPuff_7 : decode cX4_xOfPuff 7 = .ok (.ifCond .ne 5, 3) := by decide +kernel
theorem dX4_xOfPuff_10 : decode cX4_xOfPuff 10 = .ok (.iconst (-1), 1) := by decide +kernel
theorem dX4_xOfPuff_11 : decode cX4_xOfPuff 11 = .ok (.ireturn, 1) := by decide +kernel
theorem dX4_xOfPuff_12 : decode cX4_xOfPuff 12 = .ok (.aload_n 0, 1) := by decide +kernel
theorem dX4_xOfPuff_13 : decode cX4_xOfPuff 13 = .ok (.iload_n 1, 1) := by decide +kernel
theorem dX4_xOfPuff_14 : decode cX4_xOfPuff 14 = .ok (.aload_n 0, 1) := by decide +kernel
theorem dX4_xOfPuff_15 : decode cX4_xOfPuff 15 = .ok (.getfield 18, 3) := by decide +kernel
theorem dX4_xOfPuff_18 : decode cX4_xOfPuff 18 = .ok (.getfield 61, 3) := by decide +kernel
theorem dX4_xOfPuff_21 : decode cX4_xOfPuff 21 = .ok (.iload_n 1, 1) := by decide +kernel
theorem dX4_xOfPuff_22 : decode cX4_xOfPuff 22 = .ok (.iaload, 1) := by decide +kernel
theorem dX4_xOfPuff_23 : decode cX4_xOfPuff 23 = .ok (.iload_n 2, 1) := by decide +kernel
theorem dX4_xOfPuff_24 : decode cX4_xOfPuff 24 = .ok (.iadd, 1) := by decide +kernel
theorem dX4_xOfPuff_25 : decode cX4_xOfPuff 25 = .ok (.iload_n 3, 1) := by decide +kernel
theorem dX4_xOfPuff_26 : decode cX4_xOfPuff 26 = .ok (.invokevirtual 100, 3) := by decide +kernel
theorem dX4_xOfPuff_29 : decode cX4_xOfPuff 29 = .ok (.ireturn, 1) := by decide +kernel
theorem dX4_heightOfPuff_0 : decode cX4_heightOfPuff 0 = .ok (.aload_n 0, 1) := by decide +kernel
theorem dX4_heightOfPuff_1 : decode cX4_heightOfPuff 1 = .ok (.getfield 18, 3) := by decide +kernel
theorem dX4_heightOfPuff_4 : decode cX4_heightOfPuff 4 = .ok (.iload_n 1, 1) := by decide +kernel
theorem dX4_heightOfPuff_5 : decode cX4_heightOfPuff 5 = .ok (.invokevirtual 54, 3) := by decide +kernel
theorem dX4_heightOfPuff_8 : decode cX4_heightOfPuff 8 = .ok (.ifCond .eq 26, 3) := by decide +kernel
theorem dX4_heightOfPuff_11 : decode cX4_heightOfPuff 11 = .ok (.aload_n 0, 1) := by decide +kernel
theorem dX4_heightOfPuff_12 : decode cX4_heightOfPuff 12 = .ok (.getfield 9, 3) := by decide +kernel
theorem dX4_heightOfPuff_15 : decode cX4_heightOfPuff 15 = .ok (.iload_n 1, 1) := by decide +kernel
theorem dX4_heightOfPuff_16 : decode cX4_heightOfPuff 16 = .ok (.iaload, 1) := by decide +kernel
theorem dX4_heightOfPuff_17 : decode cX4_heightOfPuff 17 = .ok (.iload_n 3, 1) := by decide +kernel
theorem dX4_heightOfPuff_18 : decode cX4_heightOfPuff 18 = .ok (.iadd, 1) := by decide +kernel
theorem dX4_heightOfPuff_19 : decode cX4_heightOfPuff 19 = .ok (.aload_n 0, 1) := by decide +kernel
theorem dX4_heightOfPuff_20 : decode cX4_heightOfPuff 20 = .ok (.getfield 18, 3) := by decide +kernel
theorem dX4_heightOfPuff_23 : decode cX4_heightOfPuff 23 = .ok (.getfield 61, 3) := by decide +kernel
theorem dX4_heightOfPuff_26 : decode cX4_heightOfPuff 26 = .ok (.iload_n 1, 1) := by decide +kernel
theorem dX4_heightOfPuff_27 : decode cX4_heightOfPuff 27 = .ok (.iaload, 1) := by decide +kernel
theorem dX4_heightOfPuff_28 : decode cX4_heightOfPuff 28 = .ok (.isub, 1) := by decide +kernel
theorem dX4_heightOfPuff_29 : decode cX4_heightOfPuff 29 = .ok (.iload_n 2, 1) := by decide +kernel
theorem dX4_heightOfPuff_30 : decode cX4_heightOfPuff 30 = .ok (.isub, 1) := by decide +kernel
theorem dX4_heightOfPuff_31 : decode cX4_heightOfPuff 31 = .ok (.goto 4, 3) := by decide +kernel
theorem dX4_heightOfPuff_34 : decode cX4_heightOfPuff 34 = .ok (.iconst (-1), 1) := by decide +kernel
theorem dX4_heightOfPuff_35 : decode cX4_heightOfPuff 35 = .ok (.ireturn, 1) := by decide +kernel
theorem dX4_addSoot_0 : decode cX4_addSoot 0 = .ok (.iconst 0, 1) := by decide +kernel
theorem dX4_addSoot_1 : decode cX4_addSoot 1 = .ok (.istore 4, 2) := by decide +kernel
theorem dX4_addSoot_3 : decode cX4_addSoot 3 = .ok (.iload 4, 2) := by decide +kernel
theorem dX4_addSoot_5 : decode cX4_addSoot 5 = .ok (.bipush 6, 2) := by decide +kernel
theorem dX4_addSoot_7 : decode cX4_addSoot 7 = .ok (.if_icmp .ge 79, 3) := by decide +kernel
theorem dX4_addSoot_10 : decode cX4_addSoot 10 = .ok (.aload_n 0, 1) := by decide +kernel
theorem dX4_addSoot_11 : decode cX4_addSoot 11 = .ok (.getfield 18, 3) := by decide +kernel
theorem dX4_addSoot_14 : decode cX4_addSoot 14 = .ok (.iload_n 1, 1) := by decide +kernel
theorem dX4_addSoot_15 : decode cX4_addSoot 15 = .ok (.iload 4, 2) := by decide +kernel
theorem dX4_addSoot_17 : decode cX4_addSoot 17 = .ok (.invokevirtual 93, 3) := by decide +kernel
theorem dX4_addSoot_20 : decode cX4_addSoot 20 = .ok (.istore 5, 2) := by decide +kernel
theorem dX4_addSoot_22 : decode cX4_addSoot 22 = .ok (.iconst 0, 1) := by decide +kernel
theorem dX4_addSoot_23 : decode cX4_addSoot 23 = .ok (.istore 6, 2) := by decide +kernel
theorem dX4_addSoot_25 : decode cX4_addSoot 25 = .ok (.iload 6, 2) := by decide +kernel
theorem dX4_addSoot_27 : decode cX4_addSoot 27 = .ok (.iload 5, 2) := by decide +kernel
theorem dX4_addSoot_29 : decode cX4_addSoot 29 = .ok (.if_icmp .ge 51, 3) := by decide +kernel
theorem dX4_addSoot_32 : decode cX4_addSoot 32 = .ok (.aload_n 0, 1) := by decide +kernel
theorem dX4_addSoot_33 : decode cX4_addSoot 33 = .ok (.iload_n 1, 1) := by decide +kernel
theorem dX4_addSoot_34 : decode cX4_addSoot 34 = .ok (.iload_n 2, 1) := by decide +kernel
theorem dX4_addSoot_35 : decode cX4_addSoot 35 = .ok (.iload 4, 2) := by decide +kernel
theorem dX4_addSoot_37 : decode cX4_addSoot 37 = .ok (.iadd, 1) := by decide +kernel
theorem dX4_addSoot_38 : decode cX4_addSoot 38 = .ok (.iload_n 2, 1) := by decide +kernel
theorem dX4_addSoot_39 : decode cX4_addSoot 39 = .ok (.iload 4, 2) := by decide +kernel
theorem dX4_addSoot_41 : decode cX4_addSoot 41 = .ok (.iadd, 1) := by decide +kernel
theorem dX4_addSoot_42 : decode cX4_addSoot 42 = .ok (.iload 6, 2) := by decide +kernel
theorem dX4_addSoot_44 : decode cX4_addSoot 44 = .ok (.iadd, 1) := by decide +kernel
theorem dX4_addSoot_45 : decode cX4_addSoot 45 = .ok (.invokevirtual 100, 3) := by decide +kernel
theorem dX4_addSoot_48 : decode cX4_addSoot 48 = .ok (.istore 7, 2) := by decide +kernel
theorem dX4_addSoot_50 : decode cX4_addSoot 50 = .ok (.iload 7, 2) := by decide +kernel
theorem dX4_addSoot_52 : decode cX4_addSoot 52 = .ok (.ifCond .lt 22, 3) := by decide +kernel
theorem dX4_addSoot_55 : decode cX4_addSoot 55 = .ok (.iload 7, 2) := by decide +kernel
theorem dX4_addSoot_57 : decode cX4_addSoot 57 = .ok (.aload_n 3, 1) := by decide +kernel
theorem dX4_addSoot_58 : decode cX4_addSoot 58 = .ok (.arraylength, 1) := by decide +kernel
theorem dX4_addSoot_59 : decode cX4_addSoot 59 = .ok (.if_icmp .ge 15, 3) := by decide +kernel
theorem dX4_addSoot_62 : decode cX4_addSoot 62 = .ok (.aload_n 3, 1) := by decide +kernel
theorem dX4_addSoot_63 : decode cX4_addSoot 63 = .ok (.iload 7, 2) := by decide +kernel
theorem dX4_addSoot_65 : decode cX4_addSoot 65 = .ok (.dup2, 1) := by decide +kernel
theorem dX4_addSoot_66 : decode cX4_addSoot 66 = .ok (.iaload, 1) := by decide +kernel
theorem dX4_addSoot_67 : decode cX4_addSoot 67 = .ok (.iload 5, 2) := by decide +kernel
theorem dX4_addSoot_69 : decode cX4_addSoot 69 = .ok (.iload 6, 2) := by decide +kernel
theorem dX4_addSoot_71 : decode cX4_addSoot 71 = .ok (.isub, 1) := by decide +kernel
theorem dX4_addSoot_72 : decode cX4_addSoot 72 = .ok (.iadd, 1) := by decide +kernel
theorem dX4_addSoot_73 : decode cX4_addSoot 73 = .ok (.iastore, 1) := by decide +kernel
theorem dX4_addSoot_74 : decode cX4_addSoot 74 = .ok (.iinc 6 1, 3) := by decide +kernel
theorem dX4_addSoot_77 : decode cX4_addSoot 77 = .ok (.goto (-52), 3) := by decide +kernel
theorem dX4_addSoot_80 : decode cX4_addSoot 80 = .ok (.iinc 4 1, 3) := by decide +kernel
theorem dX4_addSoot_83 : decode cX4_addSoot 83 = .ok (.goto (-80), 3) := by decide +kernel
theorem dX4_addSoot_86 : decode cX4_addSoot 86 = .ok (.return_, 1) := by decide +kernel
theorem dX4_meeting_0 : decode cX4_meeting 0 = .ok (.iload_n 2, 1) := by decide +kernel
theorem dX4_meeting_1 : decode cX4_meeting 1 = .ok (.iload 4, 2) := by decide +kernel
theorem dX4_meeting_3 : decode cX4_meeting 3 = .ok (.invokestatic 70, 3) := by decide +kernel
theorem dX4_meeting_6 : decode cX4_meeting 6 = .ok (.bipush 9, 2) := by decide +kernel
theorem dX4_meeting_8 : decode cX4_meeting 8 = .ok (.iadd, 1) := by decide +kernel
theorem dX4_meeting_9 : decode cX4_meeting 9 = .ok (.istore 5, 2) := by decide +kernel
theorem dX4_meeting_11 : decode cX4_meeting 11 = .ok (.iload_n 2, 1) := by decide +kernel
theorem dX4_meeting_12 : decode cX4_meeting 12 = .ok (.iload 4, 2) := by decide +kernel
theorem dX4_meeting_14 : decode cX4_meeting 14 = .ok (.invokestatic 64, 3) := by decide +kernel
theorem dX4_meeting_17 : decode cX4_meeting 17 = .ok (.istore 6, 2) := by decide +kernel
theorem dX4_meeting_19 : decode cX4_meeting 19 = .ok (.iload 6, 2) := by decide +kernel
theorem dX4_meeting_21 : decode cX4_meeting 21 = .ok (.iload 5, 2) := by decide +kernel
theorem dX4_meeting_23 : decode cX4_meeting 23 = .ok (.if_icmp .ge 44, 3) := by decide +kernel
theorem dX4_meeting_26 : decode cX4_meeting 26 = .ok (.aload_n 0, 1) := by decide +kernel
theorem dX4_meeting_27 : decode cX4_meeting 27 = .ok (.iload_n 1, 1) := by decide +kernel
theorem dX4_meeting_28 : decode cX4_meeting 28 = .ok (.iload_n 2, 1) := by decide +kernel
theorem dX4_meeting_29 : decode cX4_meeting 29 = .ok (.iload 6, 2) := by decide +kernel
theorem dX4_meeting_31 : decode cX4_meeting 31 = .ok (.invokevirtual 100, 3) := by decide +kernel
theorem dX4_meeting_34 : decode cX4_meeting 34 = .ok (.istore 7, 2) := by decide +kernel
theorem dX4_meeting_36 : decode cX4_meeting 36 = .ok (.iload 7, 2) := by decide +kernel
theorem dX4_meeting_38 : decode cX4_meeting 38 = .ok (.iconst (-1), 1) := by decide +kernel
theorem dX4_meeting_39 : decode cX4_meeting 39 = .ok (.if_icmp .ne 5, 3) := by decide +kernel
theorem dX4_meeting_42 : decode cX4_meeting 42 = .ok (.iconst (-1), 1) := by decide +kernel
theorem dX4_meeting_43 : decode cX4_meeting 43 = .ok (.ireturn, 1) := by decide +kernel
theorem dX4_meeting_44 : decode cX4_meeting 44 = .ok (.iload 7, 2) := by decide +kernel
theorem dX4_meeting_46 : decode cX4_meeting 46 = .ok (.aload_n 0, 1) := by decide +kernel
theorem dX4_meeting_47 : decode cX4_meeting 47 = .ok (.iload_n 3, 1) := by decide +kernel
theorem dX4_meeting_48 : decode cX4_meeting 48 = .ok (.iload 4, 2) := by decide +kernel
theorem dX4_meeting_50 : decode cX4_meeting 50 = .ok (.iload 6, 2) := by decide +kernel
theorem dX4_meeting_52 : decode cX4_meeting 52 = .ok (.invokevirtual 100, 3) := by decide +kernel
theorem dX4_meeting_55 : decode cX4_meeting 55 = .ok (.if_icmp .ne 6, 3) := by decide +kernel
theorem dX4_meeting_58 : decode cX4_meeting 58 = .ok (.iload 6, 2) := by decide +kernel
theorem dX4_meeting_60 : decode cX4_meeting 60 = .ok (.ireturn, 1) := by decide +kernel
theorem dX4_meeting_61 : decode cX4_meeting 61 = .ok (.iinc 6 1, 3) := by decide +kernel
theorem dX4_meeting_64 : decode cX4_meeting 64 = .ok (.goto (-45), 3) := by decide +kernel
theorem dX4_meeting_67 : decode cX4_meeting 67 = .ok (.iconst (-1), 1) := by decide +kernel
theorem dX4_meeting_68 : decode cX4_meeting 68 = .ok (.ireturn, 1) := by decide +kernel
theorem dX4_levelBeginning_0 : decode cX4_levelBeginning 0 = .ok (.iload_n 2, 1) := by decide +kernel
theorem dX4_levelBeginning_1 : decode cX4_levelBeginning 1 = .ok (.aload_n 0, 1) := by decide +kernel
theorem dX4_levelBeginning_2 : decode cX4_levelBeginning 2 = .ok (.getfield 9, 3) := by decide +kernel
theorem dX4_levelBeginning_5 : decode cX4_levelBeginning 5 = .ok (.iload_n 3, 1) := by decide +kernel
theorem dX4_levelBeginning_6 : decode cX4_levelBeginning 6 = .ok (.iaload, 1) := by decide +kernel
theorem dX4_levelBeginning_7 : decode cX4_levelBeginning 7 = .ok (.iadd, 1) := by decide +kernel
theorem dX4_levelBeginning_8 : decode cX4_levelBeginning 8 = .ok (.aload_n 0, 1) := by decide +kernel
theorem dX4_levelBeginning_9 : decode cX4_levelBeginning 9 = .ok (.getfield 9, 3) := by decide +kernel
theorem dX4_levelBeginning_12 : decode cX4_levelBeginning 12 = .ok (.iload_n 1, 1) := by decide +kernel
theorem dX4_levelBeginning_13 : decode cX4_levelBeginning 13 = .ok (.iaload, 1) := by decide +kernel
theorem dX4_levelBeginning_14 : decode cX4_levelBeginning 14 = .ok (.isub, 1) := by decide +kernel
theorem dX4_levelBeginning_15 : decode cX4_levelBeginning 15 = .ok (.ireturn, 1) := by decide +kernel
theorem dX4_meetingOfPuff_0 : decode cX4_meetingOfPuff 0 = .ok (.aload_n 0, 1) := by decide +kernel
theorem dX4_meetingOfPuff_1 : decode cX4_meetingOfPuff 1 = .ok (.getfield 18, 3) := by decide +kernel
theorem dX4_meetingOfPuff_4 : decode cX4_meetingOfPuff 4 = .ok (.getfield 61, 3) := by decide +kernel
theorem dX4_meetingOfPuff_7 : decode cX4_meetingOfPuff 7 = .ok (.iload_n 1, 1) := by decide +kernel
theorem dX4_meetingOfPuff_8 : decode cX4_meetingOfPuff 8 = .ok (.iaload, 1) := by decide +kernel
theorem dX4_meetingOfPuff_9 : decode cX4_meetingOfPuff 9 = .ok (.iload_n 2, 1) := by decide +kernel
theorem dX4_meetingOfPuff_10 : decode cX4_meetingOfPuff 10 = .ok (.iadd, 1) := by decide +kernel
theorem dX4_meetingOfPuff_11 : decode cX4_meetingOfPuff 11 = .ok (.istore 4, 2) := by decide +kernel
theorem dX4_meetingOfPuff_13 : decode cX4_meetingOfPuff 13 = .ok (.aload_n 0, 1) := by decide +kernel
theorem dX4_meetingOfPuff_14 : decode cX4_meetingOfPuff 14 = .ok (.iload_n 1, 1) := by decide +kernel
theorem dX4_meetingOfPuff_15 : decode cX4_meetingOfPuff 15 = .ok (.iload 4, 2) := by decide +kernel
theorem dX4_meetingOfPuff_17 : decode cX4_meetingOfPuff 17 = .ok (.iload_n 3, 1) := by decide +kernel
theorem dX4_meetingOfPuff_18 : decode cX4_meetingOfPuff 18 = .ok (.invokevirtual 103, 3) := by decide +kernel
theorem dX4_meetingOfPuff_21 : decode cX4_meetingOfPuff 21 = .ok (.istore 5, 2) := by decide +kernel
theorem dX4_meetingOfPuff_23 : decode cX4_meetingOfPuff 23 = .ok (.aload_n 0, 1) := by decide +kernel
theorem dX4_meetingOfPuff_24 : decode cX4_meetingOfPuff 24 = .ok (.getfield 18, 3) := by decide +kernel
theorem dX4_meetingOfPuff_27 : decode cX4_meetingOfPuff 27 = .ok (.iload_n 3, 1) := by decide +kernel
theorem dX4_meetingOfPuff_28 : decode cX4_meetingOfPuff 28 = .ok (.iload 5, 2) := by decide +kernel
theorem dX4_meetingOfPuff_30 : decode cX4_meetingOfPuff 30 = .ok (.aload_n 0, 1) := by decide +kernel
theorem dX4_meetingOfPuff_31 : decode cX4_meetingOfPuff 31 = .ok (.getfield 18, 3) := by decide +kernel
theorem dX4_meetingOfPuff_34 : decode cX4_meetingOfPuff 34 = .ok (.getfield 61, 3) := by decide +kernel
theorem dX4_meetingOfPuff_37 : decode cX4_meetingOfPuff 37 = .ok (.iload_n 3, 1) := by decide +kernel
theorem dX4_meetingOfPuff_38 : decode cX4_meetingOfPuff 38 = .ok (.iaload, 1) := by decide +kernel
theorem dX4_meetingOfPuff_39 : decode cX4_meetingOfPuff 39 = .ok (.isub, 1) := by decide +kernel
theorem dX4_meetingOfPuff_40 : decode cX4_meetingOfPuff 40 = .ok (.invokevirtual 93, 3) := by decide +kernel
theorem dX4_meetingOfPuff_43 : decode cX4_meetingOfPuff 43 = .ok (.ifCond .ne 7, 3) := by decide +kernel
theorem dX4_meetingOfPuff_46 : decode cX4_meetingOfPuff 46 = .ok (.iconst (-1), 1) := by decide +kernel
theorem dX4_meetingOfPuff_47 : decode cX4_meetingOfPuff 47 = .ok (.goto 13, 3) := by decide +kernel
theorem dX4_meetingOfPuff_50 : decode cX4_meetingOfPuff 50 = .ok (.aload_n 0, 1) := by decide +kernel
theorem dX4_meetingOfPuff_51 : decode cX4_meetingOfPuff 51 = .ok (.iload_n 1, 1) := by decide +kernel
theorem dX4_meetingOfPuff_52 : decode cX4_meetingOfPuff 52 = .ok (.iload 4, 2) := by decide +kernel
theorem dX4_meetingOfPuff_54 : decode cX4_meetingOfPuff 54 = .ok (.iload_n 3, 1) := by decide +kernel
theorem dX4_meetingOfPuff_55 : decode cX4_meetingOfPuff 55 = .ok (.iload 5, 2) := by decide +kernel
theorem dX4_meetingOfPuff_57 : decode cX4_meetingOfPuff 57 = .ok (.invokevirtual 106, 3) := by decide +kernel
theorem dX4_meetingOfPuff_60 : decode cX4_meetingOfPuff 60 = .ok (.ireturn, 1) := by decide +kernel
theorem dX4_partingOfPuff_0 : decode cX4_partingOfPuff 0 = .ok (.aload_n 0, 1) := by decide +kernel
theorem dX4_partingOfPuff_1 : decode cX4_partingOfPuff 1 = .ok (.getfield 18, 3) := by decide +kernel
theorem dX4_partingOfPuff_4 : decode cX4_partingOfPuff 4 = .ok (.getfield 61, 3) := by decide +kernel
theorem dX4_partingOfPuff_7 : decode cX4_partingOfPuff 7 = .ok (.iload_n 1, 1) := by decide +kernel
theorem dX4_partingOfPuff_8 : decode cX4_partingOfPuff 8 = .ok (.iaload, 1) := by decide +kernel
theorem dX4_partingOfPuff_9 : decode cX4_partingOfPuff 9 = .ok (.iload_n 2, 1) := by decide +kernel
theorem dX4_partingOfPuff_10 : decode cX4_partingOfPuff 10 = .ok (.iadd, 1) := by decide +kernel
theorem dX4_partingOfPuff_11 : decode cX4_partingOfPuff 11 = .ok (.istore 4, 2) := by decide +kernel
theorem dX4_partingOfPuff_13 : decode cX4_partingOfPuff 13 = .ok (.aload_n 0, 1) := by decide +kernel
theorem dX4_partingOfPuff_14 : decode cX4_partingOfPuff 14 = .ok (.iload_n 1, 1) := by decide +kernel
theorem dX4_partingOfPuff_15 : decode cX4_partingOfPuff 15 = .ok (.iload 4, 2) := by decide +kernel
theorem dX4_partingOfPuff_17 : decode cX4_partingOfPuff 17 = .ok (.iload_n 3, 1) := by decide +kernel
theorem dX4_partingOfPuff_18 : decode cX4_partingOfPuff 18 = .ok (.invokevirtual 103, 3) := by decide +kernel
theorem dX4_partingOfPuff_21 : decode cX4_partingOfPuff 21 = .ok (.istore 5, 2) := by decide +kernel
theorem dX4_partingOfPuff_23 : decode cX4_partingOfPuff 23 = .ok (.iload 4, 2) := by decide +kernel
theorem dX4_partingOfPuff_25 : decode cX4_partingOfPuff 25 = .ok (.aload_n 0, 1) := by decide +kernel
theorem dX4_partingOfPuff_26 : decode cX4_partingOfPuff 26 = .ok (.getfield 18, 3) := by decide +kernel
theorem dX4_partingOfPuff_29 : decode cX4_partingOfPuff 29 = .ok (.iload_n 1, 1) := by decide +kernel
theorem dX4_partingOfPuff_30 : decode cX4_partingOfPuff 30 = .ok (.iload_n 2, 1) := by decide +kernel
theorem dX4_partingOfPuff_31 : decode cX4_partingOfPuff 31 = .ok (.invokevirtual 93, 3) := by decide +kernel
theorem dX4_partingOfPuff_34 : decode cX4_partingOfPuff 34 = .ok (.iadd, 1) := by decide +kernel
theorem dX4_partingOfPuff_35 : decode cX4_partingOfPuff 35 = .ok (.iload 5, 2) := by decide +kernel
theorem dX4_partingOfPuff_37 : decode cX4_partingOfPuff 37 = .ok (.aload_n 0, 1) := by decide +kernel
theorem dX4_partingOfPuff_38 : decode cX4_partingOfPuff 38 = .ok (.getfield 18, 3) := by decide +kernel
theorem dX4_partingOfPuff_41 : decode cX4_partingOfPuff 41 = .ok (.iload_n 3, 1) := by decide +kernel
theorem dX4_partingOfPuff_42 : decode cX4_partingOfPuff 42 = .ok (.iload 5, 2) := by decide +kernel
theorem dX4_partingOfPuff_44 : decode cX4_partingOfPuff 44 = .ok (.aload_n 0, 1) := by decide +kernel
theorem dX4_partingOfPuff_45 : decode cX4_partingOfPuff 45 = .ok (.getfield 18, 3) := by decide +kernel
theorem dX4_partingOfPuff_48 : decode cX4_partingOfPuff 48 = .ok (.getfield 61, 3) := by decide +kernel
theorem dX4_partingOfPuff_51 : decode cX4_partingOfPuff 51 = .ok (.iload_n 3, 1) := by decide +kernel
theorem dX4_partingOfPuff_52 : decode cX4_partingOfPuff 52 = .ok (.iaload, 1) := by decide +kernel
theorem dX4_partingOfPuff_53 : decode cX4_partingOfPuff 53 = .ok (.isub, 1) := by decide +kernel
theorem dX4_partingOfPuff_54 : decode cX4_partingOfPuff 54 = .ok (.invokevirtual 93, 3) := by decide +kernel
theorem dX4_partingOfPuff_57 : decode cX4_partingOfPuff 57 = .ok (.iadd, 1) := by decide +kernel
theorem dX4_partingOfPuff_58 : decode cX4_partingOfPuff 58 = .ok (.invokestatic 70, 3) := by decide +kernel
theorem dX4_partingOfPuff_61 : decode cX4_partingOfPuff 61 = .ok (.ireturn, 1) := by decide +kernel
theorem dX4_touchQuarters_0 : decode cX4_touchQuarters 0 = .ok (.aload_n 0, 1) := by decide +kernel
theorem dX4_touchQuarters_1 : decode cX4_touchQuarters 1 = .ok (.getfield 18, 3) := by decide +kernel
theorem dX4_touchQuarters_4 : decode cX4_touchQuarters 4 = .ok (.iload_n 1, 1) := by decide +kernel
theorem dX4_touchQuarters_5 : decode cX4_touchQuarters 5 = .ok (.invokevirtual 54, 3) := by decide +kernel
theorem dX4_touchQuarters_8 : decode cX4_touchQuarters 8 = .ok (.ifCond .eq 14, 3) := by decide +kernel
theorem dX4_touchQuarters_11 : decode cX4_touchQuarters 11 = .ok (.aload_n 0, 1) := by decide +kernel
theorem dX4_touchQuarters_12 : decode cX4_touchQuarters 12 = .ok (.getfield 18, 3) := by decide +kernel
theorem dX4_touchQuarters_15 : decode cX4_touchQuarters 15 = .ok (.iload_n 2, 1) := by decide +kernel
theorem dX4_touchQuarters_16 : decode cX4_touchQuarters 16 = .ok (.invokevirtual 54, 3) := by decide +kernel
theorem dX4_touchQuarters_19 : decode cX4_touchQuarters 19 = .ok (.ifCond .ne 5, 3) := by decide +kernel
theorem dX4_touchQuarters_22 : decode cX4_touchQuarters 22 = .ok (.lconst 0, 1) := by decide +kernel
theorem dX4_touchQuarters_23 : decode cX4_touchQuarters 23 = .ok (.lreturn, 1) := by decide +kernel
theorem dX4_touchQuarters_24 : decode cX4_touchQuarters 24 = .ok (.lconst 0, 1) := by decide +kernel
theorem dX4_touchQuarters_25 : decode cX4_touchQuarters 25 = .ok (.lstore_n 3, 1) := by decide +kernel
theorem dX4_touchQuarters_26 : decode cX4_touchQuarters 26 = .ok (.iconst 0, 1) := by decide +kernel
theorem dX4_touchQuarters_27 : decode cX4_touchQuarters 27 = .ok (.istore 5, 2) := by decide +kernel
theorem dX4_touchQuarters_29 : decode cX4_touchQuarters 29 = .ok (.iload 5, 2) := by decide +kernel
theorem dX4_touchQuarters_31 : decode cX4_touchQuarters 31 = .ok (.aload_n 0, 1) := by decide +kernel
theorem dX4_touchQuarters_32 : decode cX4_touchQuarters 32 = .ok (.getfield 18, 3) := by decide +kernel
theorem dX4_touchQuarters_35 : decode cX4_touchQuarters 35 = .ok (.getfield 47, 3) := by decide +kernel
theorem dX4_touchQuarters_38 : decode cX4_touchQuarters 38 = .ok (.iload_n 1, 1) := by decide +kernel
theorem dX4_touchQuarters_39 : decode cX4_touchQuarters 39 = .ok (.iaload, 1) := by decide +kernel
theorem dX4_touchQuarters_40 : decode cX4_touchQuarters 40 = .ok (.if_icmp .ge 67, 3) := by decide +kernel
theorem dX4_touchQuarters_43 : decode cX4_touchQuarters 43 = .ok (.aload_n 0, 1) := by decide +kernel
theorem dX4_touchQuarters_44 : decode cX4_touchQuarters 44 = .ok (.iload_n 1, 1) := by decide +kernel
theorem dX4_touchQuarters_45 : decode cX4_touchQuarters 45 = .ok (.iload 5, 2) := by decide +kernel
theorem dX4_touchQuarters_47 : decode cX4_touchQuarters 47 = .ok (.iload_n 2, 1) := by decide +kernel
theorem dX4_touchQuarters_48 : decode cX4_touchQuarters 48 = .ok (.invokevirtual 110, 3) := by decide +kernel
theorem dX4_touchQuarters_51 : decode cX4_touchQuarters 51 = .ok (.istore 6, 2) := by decide +kernel
theorem dX4_touchQuarters_53 : decode cX4_touchQuarters 53 = .ok (.iload 6, 2) := by decide +kernel
theorem dX4_touchQuarters_55 : decode cX4_touchQuarters 55 = .ok (.iconst (-1), 1) := by decide +kernel
theorem dX4_touchQuarters_56 : decode cX4_touchQuarters 56 = .ok (.if_icmp .eq 45, 3) := by decide +kernel
theorem dX4_touchQuarters_59 : decode cX4_touchQuarters 59 = .ok (.aload_n 0, 1) := by decide +kernel
theorem dX4_touchQuarters_60 : decode cX4_touchQuarters 60 = .ok (.iload_n 1, 1) := by decide +kernel
theorem dX4_touchQuarters_61 : decode cX4_touchQuarters 61 = .ok (.iload 5, 2) := by decide +kernel
theorem dX4_touchQuarters_63 : decode cX4_touchQuarters 63 = .ok (.iload_n 2, 1) := by decide +kernel
theorem dX4_touchQuarters_64 : decode cX4_touchQuarters 64 = .ok (.invokevirtual 113, 3) := by decide +kernel
theorem dX4_touchQuarters_67 : decode cX4_touchQuarters 67 = .ok (.aload_n 0, 1) := by decide +kernel
theorem dX4_touchQuarters_68 : decode cX4_touchQuarters 68 = .ok (.getfield 18, 3) := by decide +kernel
theorem dX4_touchQuarters_71 : decode cX4_touchQuarters 71 = .ok (.getfield 116, 3) := by decide +kernel
theorem dX4_touchQuarters_74 : decode cX4_touchQuarters 74 = .ok (.isub, 1) := by decide +kernel
theorem dX4_touchQuarters_75 : decode cX4_touchQuarters 75 = .ok (.istore 7, 2) := by decide +kernel
theorem dX4_touchQuarters_77 : decode cX4_touchQuarters 77 = .ok (.lload_n 3, 1) := by decide +kernel
theorem dX4_touchQuarters_78 : decode cX4_touchQuarters 78 = .ok (.aload_n 0, 1) := by decide +kernel
theorem dX4_touchQuarters_79 : decode cX4_touchQuarters 79 = .ok (.iload_n 1, 1) := by decide +kernel
theorem dX4_touchQuarters_80 : decode cX4_touchQuarters 80 = .ok (.aload_n 0, 1) := by decide +kernel
theorem dX4_touchQuarters_81 : decode cX4_touchQuarters 81 = .ok (.getfield 18, 3) := by decide +kernel
theorem dX4_touchQuarters_84 : decode cX4_touchQuarters 84 = .ok (.getfield 61, 3) := by decide +kernel
theorem dX4_touchQuarters_87 : decode cX4_touchQuarters 87 = .ok (.iload_n 1, 1) := by decide +kernel
theorem dX4_touchQuarters_88 : decode cX4_touchQuarters 88 = .ok (.iaload, 1) := by decide +kernel
theorem dX4_touchQuarters_89 : decode cX4_touchQuarters 89 = .ok (.iload 5, 2) := by decide +kernel
theorem dX4_touchQuarters_91 : decode cX4_touchQuarters 91 = .ok (.iadd, 1) := by decide +kernel
theorem dX4_touchQuarters_92 : decode cX4_touchQuarters 92 = .ok (.iload 6, 2) := by decide +kernel
theorem dX4_touchQuarters_94 : decode cX4_touchQuarters 94 = .ok (.iload 7, 2) := by decide +kernel
theorem dX4_touchQuarters_96 : decode cX4_touchQuarters 96 = .ok (.invokevirtual 119, 3) := by decide +kernel
theorem dX4_touchQuarters_99 : decode cX4_touchQuarters 99 = .ok (.lor, 1) := by decide +kernel
theorem dX4_touchQuarters_100 : decode cX4_touchQuarters 100 = .ok (.lstore_n 3, 1) := by decide +kernel
theorem dX4_touchQuarters_101 : decode cX4_touchQuarters 101 = .ok (.iinc 5 1, 3) := by decide +kernel
theorem dX4_touchQuarters_104 : decode cX4_touchQuarters 104 = .ok (.goto (-75), 3) := by decide +kernel
theorem dX4_touchQuarters_107 : decode cX4_touchQuarters 107 = .ok (.lload_n 3, 1) := by decide +kernel
theorem dX4_touchQuarters_108 : decode cX4_touchQuarters 108 = .ok (.lreturn, 1) := by decide +kernel
theorem dX4_quartersTogether_0 : decode cX4_quartersTogether 0 = .ok (.lconst 0, 1) := by decide +kernel
theorem dX4_quartersTogether_1 : decode cX4_quartersTogether 1 = .ok (.lstore 5, 2) := by decide +kernel
theorem dX4_quartersTogether_3 : decode cX4_quartersTogether 3 = .ok (.iload_n 3, 1) := by decide +kernel
theorem dX4_quartersTogether_4 : decode cX4_quartersTogether 4 = .ok (.istore 7, 2) := by decide +kernel
theorem dX4_quartersTogether_6 : decode cX4_quartersTogether 6 = .ok (.iload 7, 2) := by decide +kernel
theorem dX4_quartersTogether_8 : decode cX4_quartersTogether 8 = .ok (.iload 4, 2) := by decide +kernel
theorem dX4_quartersTogether_10 : decode cX4_quartersTogether 10 = .ok (.if_icmp .gt 30, 3) := by decide +kernel
theorem dX4_quartersTogether_13 : decode cX4_quartersTogether 13 = .ok (.aload_n 0, 1) := by decide +kernel
theorem dX4_quartersTogether_14 : decode cX4_quartersTogether 14 = .ok (.iload_n 1, 1) := by decide +kernel
theorem dX4_quartersTogether_15 : decode cX4_quartersTogether 15 = .ok (.iload_n 2, 1) := by decide +kernel
theorem dX4_quartersTogether_16 : decode cX4_quartersTogether 16 = .ok (.iload 7, 2) := by decide +kernel
theorem dX4_quartersTogether_18 : decode cX4_quartersTogether 18 = .ok (.invokevirtual 100, 3) := by decide +kernel
theorem dX4_quartersTogether_21 : decode cX4_quartersTogether 21 = .ok (.iconst (-1), 1) := by decide +kernel
theorem dX4_quartersTogether_22 : decode cX4_quartersTogether 22 = .ok (.if_icmp .eq 18, 3) := by decide +kernel
theorem dX4_quartersTogether_25 : decode cX4_quartersTogether 25 = .ok (.lload 5, 2) := by decide +kernel
theorem dX4_quartersTogether_27 : decode cX4_quartersTogether 27 = .ok (.lconst 1, 1) := by decide +kernel
theorem dX4_quartersTogether_28 : decode cX4_quartersTogether 28 = .ok (.iload 7, 2) := by decide +kernel
theorem dX4_quartersTogether_30 : decode cX4_quartersTogether 30 = .ok (.lshl, 1) := by decide +kernel
theorem dX4_quartersTogether_31 : decode cX4_quartersTogether 31 = .ok (.lor, 1) := by decide +kernel
theorem dX4_quartersTogether_32 : decode cX4_quartersTogether 32 = .ok (.lstore 5, 2) := by decide +kernel
theorem dX4_quartersTogether_34 : decode cX4_quartersTogether 34 = .ok (.iinc 7 1, 3) := by decide +kernel
theorem dX4_quartersTogether_37 : decode cX4_quartersTogether 37 = .ok (.goto (-31), 3) := by decide +kernel
theorem dX4_quartersTogether_40 : decode cX4_quartersTogether 40 = .ok (.lload 5, 2) := by decide +kernel
theorem dX4_quartersTogether_42 : decode cX4_quartersTogether 42 = .ok (.lreturn, 1) := by decide +kernel
theorem dX4_closeness_0 : decode cX4_closeness 0 = .ok (.aload_n 0, 1) := by decide +kernel
theorem dX4_closeness_1 : decode cX4_closeness 1 = .ok (.getfield 18, 3) := by decide +kernel
theorem dX4_closeness_4 : decode cX4_closeness 4 = .ok (.iload_n 1, 1) := by decide +kernel
theorem dX4_closeness_5 : decode cX4_closeness 5 = .ok (.invokevirtual 54, 3) := by decide +kernel
theorem dX4_closeness_8 : decode cX4_closeness 8 = .ok (.ifCond .eq 14, 3) := by decide +kernel
theorem dX4_closeness_11 : decode cX4_closeness 11 = .ok (.aload_n 0, 1) := by decide +kernel
theorem dX4_closeness_12 : decode cX4_closeness 12 = .ok (.getfield 18, 3) := by decide +kernel
theorem dX4_closeness_15 : decode cX4_closeness 15 = .ok (.iload_n 2, 1) := by decide +kernel
theorem dX4_closeness_16 : decode cX4_closeness 16 = .ok (.invokevirtual 54, 3) := by decide +kernel
theorem dX4_closeness_19 : decode cX4_closeness 19 = .ok (.ifCond .ne 5, 3) := by decide +kernel
theorem dX4_closeness_22 : decode cX4_closeness 22 = .ok (.iconst 0, 1) := by decide +kernel
theorem dX4_closeness_23 : decode cX4_closeness 23 = .ok (.ireturn, 1) := by decide +kernel
theorem dX4_closeness_24 : decode cX4_closeness 24 = .ok (.iconst 0, 1) := by decide +kernel
theorem dX4_closeness_25 : decode cX4_closeness 25 = .ok (.istore_n 3, 1) := by decide +kernel
theorem dX4_closeness_26 : decode cX4_closeness 26 = .ok (.iconst 0, 1) := by decide +kernel
theorem dX4_closeness_27 : decode cX4_closeness 27 = .ok (.istore 4, 2) := by decide +kernel
theorem dX4_closeness_29 : decode cX4_closeness 29 = .ok (.iload 4, 2) := by decide +kernel
theorem dX4_closeness_31 : decode cX4_closeness 31 = .ok (.aload_n 0, 1) := by decide +kernel
theorem dX4_closeness_32 : decode cX4_closeness 32 = .ok (.getfield 18, 3) := by decide +kernel
theorem dX4_closeness_35 : decode cX4_closeness 35 = .ok (.getfield 47, 3) := by decide +kernel
theorem dX4_closeness_38 : decode cX4_closeness 38 = .ok (.iload_n 1, 1) := by decide +kernel
theorem dX4_closeness_39 : decode cX4_closeness 39 = .ok (.iaload, 1) := by decide +kernel
theorem dX4_closeness_40 : decode cX4_closeness 40 = .ok (.if_icmp .ge 41, 3) := by decide +kernel
theorem dX4_closeness_43 : decode cX4_closeness 43 = .ok (.aload_n 0, 1) := by decide +kernel
theorem dX4_closeness_44 : decode cX4_closeness 44 = .ok (.iload_n 1, 1) := by decide +kernel
theorem dX4_closeness_45 : decode cX4_closeness 45 = .ok (.iload 4, 2) := by decide +kernel
theorem dX4_closeness_47 : decode cX4_closeness 47 = .ok (.iload_n 2, 1) := by decide +kernel
theorem dX4_closeness_48 : decode cX4_closeness 48 = .ok (.invokevirtual 110, 3) := by decide +kernel
theorem dX4_closeness_51 : decode cX4_closeness 51 = .ok (.istore 5, 2) := by decide +kernel
theorem dX4_closeness_53 : decode cX4_closeness 53 = .ok (.iload 5, 2) := by decide +kernel
theorem dX4_closeness_55 : decode cX4_closeness 55 = .ok (.iconst (-1), 1) := by decide +kernel
theorem dX4_closeness_56 : decode cX4_closeness 56 = .ok (.if_icmp .eq 19, 3) := by decide +kernel
theorem dX4_closeness_59 : decode cX4_closeness 59 = .ok (.iload_n 3, 1) := by decide +kernel
theorem dX4_closeness_60 : decode cX4_closeness 60 = .ok (.aload_n 0, 1) := by decide +kernel
theorem dX4_closeness_61 : decode cX4_closeness 61 = .ok (.iload_n 1, 1) := by decide +kernel
theorem dX4_closeness_62 : decode cX4_closeness 62 = .ok (.iload 4, 2) := by decide +kernel
theorem dX4_closeness_64 : decode cX4_closeness 64 = .ok (.iload_n 2, 1) := by decide +kernel
theorem dX4_closeness_65 : decode cX4_closeness 65 = .ok (.invokevirtual 113, 3) := by decide +kernel
theorem dX4_closeness_68 : decode cX4_closeness 68 = .ok (.iload 5, 2) := by decide +kernel
theorem dX4_closeness_70 : decode cX4_closeness 70 = .ok (.isub, 1) := by decide +kernel
theorem dX4_closeness_71 : decode cX4_closeness 71 = .ok (.invokestatic 64, 3) := by decide +kernel
theorem dX4_closeness_74 : decode cX4_closeness 74 = .ok (.istore_n 3, 1) := by decide +kernel
theorem dX4_closeness_75 : decode cX4_closeness 75 = .ok (.iinc 4 1, 3) := by decide +kernel
theorem dX4_closeness_78 : decode cX4_closeness 78 = .ok (.goto (-49), 3) := by decide +kernel
theorem dX4_closeness_81 : decode cX4_closeness 81 = .ok (.iload_n 3, 1) := by decide +kernel
theorem dX4_closeness_82 : decode cX4_closeness 82 = .ok (.ireturn, 1) := by decide +kernel
theorem dX4_touchesSome_0 : decode cX4_touchesSome 0 = .ok (.iconst 0, 1) := by decide +kernel
theorem dX4_touchesSome_1 : decode cX4_touchesSome 1 = .ok (.istore_n 2, 1) := by decide +kernel
theorem dX4_touchesSome_2 : decode cX4_touchesSome 2 = .ok (.iload_n 2, 1) := by decide +kernel
theorem dX4_touchesSome_3 : decode cX4_touchesSome 3 = .ok (.aload_n 0, 1) := by decide +kernel
theorem dX4_touchesSome_4 : decode cX4_touchesSome 4 = .ok (.getfield 18, 3) := by decide +kernel
theorem dX4_touchesSome_7 : decode cX4_touchesSome 7 = .ok (.getfield 26, 3) := by decide +kernel
theorem dX4_touchesSome_10 : decode cX4_touchesSome 10 = .ok (.if_icmp .ge 32, 3) := by decide +kernel
theorem dX4_touchesSome_13 : decode cX4_touchesSome 13 = .ok (.iload_n 2, 1) := by decide +kernel
theorem dX4_touchesSome_14 : decode cX4_touchesSome 14 = .ok (.iload_n 1, 1) := by decide +kernel
theorem dX4_touchesSome_15 : decode cX4_touchesSome 15 = .ok (.if_icmp .eq 21, 3) := by decide +kernel
theorem dX4_touchesSome_18 : decode cX4_touchesSome 18 = .ok (.aload_n 0, 1) := by decide +kernel
theorem dX4_touchesSome_19 : decode cX4_touchesSome 19 = .ok (.iload_n 1, 1) := by decide +kernel
theorem dX4_touchesSome_20 : decode cX4_touchesSome 20 = .ok (.iload_n 2, 1) := by decide +kernel
theorem dX4_touchesSome_21 : decode cX4_touchesSome 21 = .ok (.invokevirtual 123, 3) := by decide +kernel
theorem dX4_touchesSome_24 : decode cX4_touchesSome 24 = .ok (.aload_n 0, 1) := by decide +kernel
theorem dX4_touchesSome_25 : decode cX4_touchesSome 25 = .ok (.getfield 18, 3) := by decide +kernel
theorem dX4_touchesSome_28 : decode cX4_touchesSome 28 = .ok (.getfield 116, 3) := by decide +kernel
theorem dX4_touchesSome_31 : decode cX4_touchesSome 31 = .ok (.if_icmp .lt 5, 3) := by decide +kernel
theorem dX4_touchesSome_34 : decode cX4_touchesSome 34 = .ok (.iconst 1, 1) := by decide +kernel
theorem dX4_touchesSome_35 : decode cX4_touchesSome 35 = .ok (.ireturn, 1) := by decide +kernel
theorem dX4_touchesSome_36 : decode cX4_touchesSome 36 = .ok (.iinc 2 1, 3) := by decide +kernel
theorem dX4_touchesSome_39 : decode cX4_touchesSome 39 = .ok (.goto (-37), 3) := by decide +kernel
theorem dX4_touchesSome_42 : decode cX4_touchesSome 42 = .ok (.iconst 0, 1) := by decide +kernel
theorem dX4_touchesSome_43 : decode cX4_touchesSome 43 = .ok (.ireturn, 1) := by decide +kernel
theorem dX4_someTouch_0 : decode cX4_someTouch 0 = .ok (.iconst 0, 1) := by decide +kernel
theorem dX4_someTouch_1 : decode cX4_someTouch 1 = .ok (.istore_n 1, 1) := by decide +kernel
theorem dX4_someTouch_2 : decode cX4_someTouch 2 = .ok (.iload_n 1, 1) := by decide +kernel
theorem dX4_someTouch_3 : decode cX4_someTouch 3 = .ok (.aload_n 0, 1) := by decide +kernel
theorem dX4_someTouch_4 : decode cX4_someTouch 4 = .ok (.getfield 18, 3) := by decide +kernel
theorem dX4_someTouch_7 : decode cX4_someTouch 7 = .ok (.getfield 26, 3) := by decide +kernel
theorem dX4_someTouch_10 : decode cX4_someTouch 10 = .ok (.if_icmp .ge 48, 3) := by decide +kernel
theorem dX4_someTouch_13 : decode cX4_someTouch 13 = .ok (.iload_n 1, 1) := by decide +kernel
theorem dX4_someTouch_14 : decode cX4_someTouch 14 = .ok (.iconst 1, 1) := by decide +kernel
theorem dX4_someTouch_15 : decode cX4_someTouch 15 = .ok (.iadd, 1) := by decide +kernel
theorem dX4_someTouch_16 : decode cX4_someTouch 16 = .ok (.istore_n 2, 1) := by decide +kernel
theorem dX4_someTouch_17 : decode cX4_someTouch 17 = .ok (.iload_n 2, 1) := by decide +kernel
theorem dX4_someTouch_18 : decode cX4_someTouch 18 = .ok (.aload_n 0, 1) := by decide +kernel
theorem dX4_someTouch_19 : decode cX4_someTouch 19 = .ok (.getfield 18, 3) := by decide +kernel
theorem dX4_someTouch_22 : decode cX4_someTouch 22 = .ok (.getfield 26, 3) := by decide +kernel
theorem dX4_someTouch_25 : decode cX4_someTouch 25 = .ok (.if_icmp .ge 27, 3) := by decide +kernel
theorem dX4_someTouch_28 : decode cX4_someTouch 28 = .ok (.aload_n 0, 1) := by decide +kernel
theorem dX4_someTouch_29 : decode cX4_someTouch 29 = .ok (.iload_n 1, 1) := by decide +kernel
theorem dX4_someTouch_30 : decode cX4_someTouch 30 = .ok (.iload_n 2, 1) := by decide +kernel
theorem dX4_someTouch_31 : decode cX4_someTouch 31 = .ok (.invokevirtual 123, 3) := by decide +kernel
theorem dX4_someTouch_34 : decode cX4_someTouch 34 = .ok (.aload_n 0, 1) := by decide +kernel
theorem dX4_someTouch_35 : decode cX4_someTouch 35 = .ok (.getfield 18, 3) := by decide +kernel
theorem dX4_someTouch_38 : decode cX4_someTouch 38 = .ok (.getfield 116, 3) := by decide +kernel
theorem dX4_someTouch_41 : decode cX4_someTouch 41 = .ok (.if_icmp .lt 5, 3) := by decide +kernel
theorem dX4_someTouch_44 : decode cX4_someTouch 44 = .ok (.iconst 1, 1) := by decide +kernel
theorem dX4_someTouch_45 : decode cX4_someTouch 45 = .ok (.ireturn, 1) := by decide +kernel
theorem dX4_someTouch_46 : decode cX4_someTouch 46 = .ok (.iinc 2 1, 3) := by decide +kernel
theorem dX4_someTouch_49 : decode cX4_someTouch 49 = .ok (.goto (-32), 3) := by decide +kernel
theorem dX4_someTouch_52 : decode cX4_someTouch 52 = .ok (.iinc 1 1, 3) := by decide +kernel
theorem dX4_someTouch_55 : decode cX4_someTouch 55 = .ok (.goto (-53), 3) := by decide +kernel
theorem dX4_someTouch_58 : decode cX4_someTouch 58 = .ok (.iconst 0, 1) := by decide +kernel
theorem dX4_someTouch_59 : decode cX4_someTouch 59 = .ok (.ireturn, 1) := by decide +kernel
theorem dX4_touchingPairs_0 : decode cX4_touchingPairs 0 = .ok (.iconst 0, 1) := by decide +kernel
theorem dX4_touchingPairs_1 : decode cX4_touchingPairs 1 = .ok (.istore_n 1, 1) := by decide +kernel
theorem dX4_touchingPairs_2 : decode cX4_touchingPairs 2 = .ok (.iconst 0, 1) := by decide +kernel
theorem dX4_touchingPairs_3 : decode cX4_touchingPairs 3 = .ok (.istore_n 2, 1) := by decide +kernel
theorem dX4_touchingPairs_4 : decode cX4_touchingPairs 4 = .ok (.iload_n 2, 1) := by decide +kernel
theorem dX4_touchingPairs_5 : decode cX4_touchingPairs 5 = .ok (.aload_n 0, 1) := by decide +kernel
theorem dX4_touchingPairs_6 : decode cX4_touchingPairs 6 = .ok (.getfield 18, 3) := by decide +kernel
theorem dX4_touchingPairs_9 : decode cX4_touchingPairs 9 = .ok (.getfield 26, 3) := by decide +kernel
theorem dX4_touchingPairs_12 : decode cX4_touchingPairs 12 = .ok (.if_icmp .ge 49, 3) := by decide +kernel
theorem dX4_touchingPairs_15 : decode cX4_touchingPairs 15 = .ok (.iload_n 2, 1) := by decide +kernel
theorem dX4_touchingPairs_16 : decode cX4_touchingPairs 16 = .ok (.iconst 1, 1) := by decide +kernel
theorem dX4_touchingPairs_17 : decode cX4_touchingPairs 17 = .ok (.iadd, 1) := by decide +kernel
theorem dX4_touchingPairs_18 : decode cX4_touchingPairs 18 = .ok (.istore_n 3, 1) := by decide +kernel
theorem dX4_touchingPairs_19 : decode cX4_touchingPairs 19 = .ok (.iload_n 3, 1) := by decide +kernel
theorem dX4_touchingPairs_20 : decode cX4_touchingPairs 20 = .ok (.aload_n 0, 1) := by decide +kernel
theorem dX4_touchingPairs_21 : decode cX4_touchingPairs 21 = .ok (.getfield 18, 3) := by decide +kernel
theorem dX4_touchingPairs_24 : decode cX4_touchingPairs 24 = .ok (.getfield 26, 3) := by decide +kernel
theorem dX4_touchingPairs_27 : decode cX4_touchingPairs 27 = .ok (.if_icmp .ge 28, 3) := by decide +kernel
theorem dX4_touchingPairs_30 : decode cX4_touchingPairs 30 = .ok (.aload_n 0, 1) := by decide +kernel
theorem dX4_touchingPairs_31 : decode cX4_touchingPairs 31 = .ok (.iload_n 2, 1) := by decide +kernel
theorem dX4_touchingPairs_32 : decode cX4_touchingPairs 32 = .ok (.iload_n 3, 1) := by decide +kernel
theorem dX4_touchingPairs_33 : decode cX4_touchingPairs 33 = .ok (.invokevirtual 123, 3) := by decide +kernel
theorem dX4_touchingPairs_36 : decode cX4_touchingPairs 36 = .ok (.aload_n 0, 1) := by decide +kernel
theorem dX4_touchingPairs_37 : decode cX4_touchingPairs 37 = .ok (.getfield 18, 3) := by decide +kernel
theorem dX4_touchingPairs_40 : decode cX4_touchingPairs 40 = .ok (.getfield 116, 3) := by decide +kernel
theorem dX4_touchingPairs_43 : decode cX4_touchingPairs 43 = .ok (.if_icmp .lt 6, 3) := by decide +kernel
theorem dX4_touchingPairs_46 : decode cX4_touchingPairs 46 = .ok (.iinc 1 1, 3) := by decide +kernel
theorem dX4_touchingPairs_49 : decode cX4_touchingPairs 49 = .ok (.iinc 3 1, 3) := by decide +kernel
theorem dX4_touchingPairs_52 : decode cX4_touchingPairs 52 = .ok (.goto (-33), 3) := by decide +kernel
theorem dX4_touchingPairs_55 : decode cX4_touchingPairs 55 = .ok (.iinc 2 1, 3) := by decide +kernel
theorem dX4_touchingPairs_58 : decode cX4_touchingPairs 58 = .ok (.goto (-54), 3) := by decide +kernel
theorem dX4_touchingPairs_61 : decode cX4_touchingPairs 61 = .ok (.iload_n 1, 1) := by decide +kernel
theorem dX4_touchingPairs_62 : decode cX4_touchingPairs 62 = .ok (.ireturn, 1) := by decide +kernel
theorem dX4_lightingsThatTouch_0 : decode cX4_lightingsThatTouch 0 = .ok (.iconst 0, 1) := by decide +kernel
theorem dX4_lightingsThatTouch_1 : decode cX4_lightingsThatTouch 1 = .ok (.istore 5, 2) := by decide +kernel
theorem dX4_lightingsThatTouch_3 : decode cX4_lightingsThatTouch 3 = .ok (.iload 4, 2) := by decide +kernel
theorem dX4_lightingsThatTouch_5 : decode cX4_lightingsThatTouch 5 = .ok (.iload_n 3, 1) := by decide +kernel
theorem dX4_lightingsThatTouch_6 : decode cX4_lightingsThatTouch 6 = .ok (.isub, 1) := by decide +kernel
theorem dX4_lightingsThatTouch_7 : decode cX4_lightingsThatTouch 7 = .ok (.aload_n 0, 1) := by decide +kernel
theorem dX4_lightingsThatTouch_8 : decode cX4_lightingsThatTouch 8 = .ok (.getfield 18, 3) := by decide +kernel
theorem dX4_lightingsThatTouch_11 : decode cX4_lightingsThatTouch 11 = .ok (.getfield 116, 3) := by decide +kernel
theorem dX4_lightingsThatTouch_14 : decode cX4_lightingsThatTouch 14 = .ok (.if_icmp .ge 5, 3) := by decide +kernel
theorem dX4_lightingsThatTouch_17 : decode cX4_lightingsThatTouch 17 = .ok (.iconst 0, 1) := by decide +kernel
theorem dX4_lightingsThatTouch_18 : decode cX4_lightingsThatTouch 18 = .ok (.ireturn, 1) := by decide +kernel
theorem dX4_lightingsThatTouch_19 : decode cX4_lightingsThatTouch 19 = .ok (.iconst 0, 1) := by decide +kernel
theorem dX4_lightingsThatTouch_20 : decode cX4_lightingsThatTouch 20 = .ok (.istore 6, 2) := by decide +kernel
theorem dX4_lightingsThatTouch_22 : decode cX4_lightingsThatTouch 22 = .ok (.iload 6, 2) := by decide +kernel
theorem dX4_lightingsThatTouch_24 : decode cX4_lightingsThatTouch 24 = .ok (.aload_n 0, 1) := by decide +kernel
theorem dX4_lightingsThatTouch_25 : decode cX4_lightingsThatTouch 25 = .ok (.getfield 18, 3) := by decide +kernel
theorem dX4_lightingsThatTouch_28 : decode cX4_lightingsThatTouch 28 = .ok (.getfield 47, 3) := by decide +kernel
theorem dX4_lightingsThatTouch_31 : decode cX4_lightingsThatTouch 31 = .ok (.iload_n 1, 1) := by decide +kernel
theorem dX4_lightingsThatTouch_32 : decode cX4_lightingsThatTouch 32 = .ok (.iaload, 1) := by decide +kernel
theorem dX4_lightingsThatTouch_33 : decode cX4_lightingsThatTouch 33 = .ok (.if_icmp .ge 61, 3) := by decide +kernel
theorem dX4_lightingsThatTouch_36 : decode cX4_lightingsThatTouch 36 = .ok (.iload_n 2, 1) := by decide +kernel
theorem dX4_lightingsThatTouch_37 : decode cX4_lightingsThatTouch 37 = .ok (.iload 6, 2) := by decide +kernel
theorem dX4_lightingsThatTouch_39 : decode cX4_lightingsThatTouch 39 = .ok (.isub, 1) := by decide +kernel
theorem dX4_lightingsThatTouch_40 : decode cX4_lightingsThatTouch 40 = .ok (.istore 7, 2) := by decide +kernel
theorem dX4_lightingsThatTouch_42 : decode cX4_lightingsThatTouch 42 = .ok (.aload_n 0, 1) := by decide +kernel
theorem dX4_lightingsThatTouch_43 : decode cX4_lightingsThatTouch 43 = .ok (.getfield 18, 3) := by decide +kernel
theorem dX4_lightingsThatTouch_46 : decode cX4_lightingsThatTouch 46 = .ok (.iload_n 1, 1) := by decide +kernel
theorem dX4_lightingsThatTouch_47 : decode cX4_lightingsThatTouch 47 = .ok (.iload 7, 2) := by decide +kernel
theorem dX4_lightingsThatTouch_49 : decode cX4_lightingsThatTouch 49 = .ok (.invokevirtual 126, 3) := by decide +kernel
theorem dX4_lightingsThatTouch_52 : decode cX4_lightingsThatTouch 52 = .ok (.ifCond .eq 36, 3) := by decide +kernel
theorem dX4_lightingsThatTouch_55 : decode cX4_lightingsThatTouch 55 = .ok (.iload_n 2, 1) := by decide +kernel
theorem dX4_lightingsThatTouch_56 : decode cX4_lightingsThatTouch 56 = .ok (.aload_n 0, 1) := by decide +kernel
theorem dX4_lightingsThatTouch_57 : decode cX4_lightingsThatTouch 57 = .ok (.getfield 18, 3) := by decide +kernel
theorem dX4_lightingsThatTouch_60 : decode cX4_lightingsThatTouch 60 = .ok (.iload_n 1, 1) := by decide +kernel
theorem dX4_lightingsThatTouch_61 : decode cX4_lightingsThatTouch 61 = .ok (.iload 6, 2) := by decide +kernel
theorem dX4_lightingsThatTouch_63 : decode cX4_lightingsThatTouch 63 = .ok (.invokevirtual 93, 3) := by decide +kernel
theorem dX4_lightingsThatTouch_66 : decode cX4_lightingsThatTouch 66 = .ok (.iadd, 1) := by decide +kernel
theorem dX4_lightingsThatTouch_67 : decode cX4_lightingsThatTouch 67 = .ok (.iload_n 3, 1) := by decide +kernel
theorem dX4_lightingsThatTouch_68 : decode cX4_lightingsThatTouch 68 = .ok (.isub, 1) := by decide +kernel
theorem dX4_lightingsThatTouch_69 : decode cX4_lightingsThatTouch 69 = .ok (.aload_n 0, 1) := by decide +kernel
theorem dX4_lightingsThatTouch_70 : decode cX4_lightingsThatTouch 70 = .ok (.getfield 18, 3) := by decide +kernel
theorem dX4_lightingsThatTouch_73 : decode cX4_lightingsThatTouch 73 = .ok (.getfield 116, 3) := by decide +kernel
theorem dX4_lightingsThatTouch_76 : decode cX4_lightingsThatTouch 76 = .ok (.if_icmp .lt 12, 3) := by decide +kernel
theorem dX4_lightingsThatTouch_79 : decode cX4_lightingsThatTouch 79 = .ok (.iload 5, 2) := by decide +kernel
theorem dX4_lightingsThatTouch_81 : decode cX4_lightingsThatTouch 81 = .ok (.iconst 1, 1) := by decide +kernel
theorem dX4_lightingsThatTouch_82 : decode cX4_lightingsThatTouch 82 = .ok (.iload 7, 2) := by decide +kernel
theorem dX4_lightingsThatTouch_84 : decode cX4_lightingsThatTouch 84 = .ok (.ishl, 1) := by decide +kernel
theorem dX4_lightingsThatTouch_85 : decode cX4_lightingsThatTouch 85 = .ok (.ior, 1) := by decide +kernel
theorem dX4_lightingsThatTouch_86 : decode cX4_lightingsThatTouch 86 = .ok (.istore 5, 2) := by decide +kernel
theorem dX4_lightingsThatTouch_88 : decode cX4_lightingsThatTouch 88 = .ok (.iinc 6 1, 3) := by decide +kernel
theorem dX4_lightingsThatTouch_91 : decode cX4_lightingsThatTouch 91 = .ok (.goto (-69), 3) := by decide +kernel
theorem dX4_lightingsThatTouch_94 : decode cX4_lightingsThatTouch 94 = .ok (.iload 5, 2) := by decide +kernel
theorem dX4_lightingsThatTouch_96 : decode cX4_lightingsThatTouch 96 = .ok (.ireturn, 1) := by decide +kernel
theorem dX4_clashesWithLit_0 : decode cX4_clashesWithLit 0 = .ok (.iconst 0, 1) := by decide +kernel
theorem dX4_clashesWithLit_1 : decode cX4_clashesWithLit 1 = .ok (.istore_n 3, 1) := by decide +kernel
theorem dX4_clashesWithLit_2 : decode cX4_clashesWithLit 2 = .ok (.iconst 0, 1) := by decide +kernel
theorem dX4_clashesWithLit_3 : decode cX4_clashesWithLit 3 = .ok (.istore 4, 2) := by decide +kernel
theorem dX4_clashesWithLit_5 : decode cX4_clashesWithLit 5 = .ok (.iload 4, 2) := by decide +kernel
theorem dX4_clashesWithLit_7 : decode cX4_clashesWithLit 7 = .ok (.aload_n 0, 1) := by decide +kernel
theorem dX4_clashesWithLit_8 : decode cX4_clashesWithLit 8 = .ok (.getfield 18, 3) := by decide +kernel
theorem dX4_clashesWithLit_11 : decode cX4_clashesWithLit 11 = .ok (.getfield 47, 3) := by decide +kernel
theorem dX4_clashesWithLit_14 : decode cX4_clashesWithLit 14 = .ok (.iload_n 2, 1) := by decide +kernel
theorem dX4_clashesWithLit_15 : decode cX4_clashesWithLit 15 = .ok (.iaload, 1) := by decide +kernel
theorem dX4_clashesWithLit_16 : decode cX4_clashesWithLit 16 = .ok (.if_icmp .ge 76, 3) := by decide +kernel
theorem dX4_clashesWithLit_19 : decode cX4_clashesWithLit 19 = .ok (.aload_n 0, 1) := by decide +kernel
theorem dX4_clashesWithLit_20 : decode cX4_clashesWithLit 20 = .ok (.getfield 18, 3) := by decide +kernel
theorem dX4_clashesWithLit_23 : decode cX4_clashesWithLit 23 = .ok (.getfield 61, 3) := by decide +kernel
theorem dX4_clashesWithLit_26 : decode cX4_clashesWithLit 26 = .ok (.iload_n 2, 1) := by decide +kernel
theorem dX4_clashesWithLit_27 : decode cX4_clashesWithLit 27 = .ok (.iaload, 1) := by decide +kernel
theorem dX4_clashesWithLit_28 : decode cX4_clashesWithLit 28 = .ok (.iload 4, 2) := by decide +kernel
theorem dX4_clashesWithLit_30 : decode cX4_clashesWithLit 30 = .ok (.iadd, 1) := by decide +kernel
theorem dX4_clashesWithLit_31 : decode cX4_clashesWithLit 31 = .ok (.istore 5, 2) := by decide +kernel
theorem dX4_clashesWithLit_33 : decode cX4_clashesWithLit 33 = .ok (.aload_n 0, 1) := by decide +kernel
theorem dX4_clashesWithLit_34 : decode cX4_clashesWithLit 34 = .ok (.iload_n 2, 1) := by decide +kernel
theorem dX4_clashesWithLit_35 : decode cX4_clashesWithLit 35 = .ok (.iload 5, 2) := by decide +kernel
theorem dX4_clashesWithLit_37 : decode cX4_clashesWithLit 37 = .ok (.iload_n 1, 1) := by decide +kernel
theorem dX4_clashesWithLit_38 : decode cX4_clashesWithLit 38 = .ok (.invokevirtual 103, 3) := by decide +kernel
theorem dX4_clashesWithLit_41 : decode cX4_clashesWithLit 41 = .ok (.istore 6, 2) := by decide +kernel
theorem dX4_clashesWithLit_43 : decode cX4_clashesWithLit 43 = .ok (.aload_n 0, 1) := by decide +kernel
theorem dX4_clashesWithLit_44 : decode cX4_clashesWithLit 44 = .ok (.iload_n 1, 1) := by decide +kernel
theorem dX4_clashesWithLit_45 : decode cX4_clashesWithLit 45 = .ok (.iload 6, 2) := by decide +kernel
theorem dX4_clashesWithLit_47 : decode cX4_clashesWithLit 47 = .ok (.iload_n 2, 1) := by decide +kernel
theorem dX4_clashesWithLit_48 : decode cX4_clashesWithLit 48 = .ok (.iload 5, 2) := by decide +kernel
theorem dX4_clashesWithLit_50 : decode cX4_clashesWithLit 50 = .ok (.invokevirtual 106, 3) := by decide +kernel
theorem dX4_clashesWithLit_53 : decode cX4_clashesWithLit 53 = .ok (.istore 7, 2) := by decide +kernel
theorem dX4_clashesWithLit_55 : decode cX4_clashesWithLit 55 = .ok (.iload 7, 2) := by decide +kernel
theorem dX4_clashesWithLit_57 : decode cX4_clashesWithLit 57 = .ok (.iconst (-1), 1) := by decide +kernel
theorem dX4_clashesWithLit_58 : decode cX4_clashesWithLit 58 = .ok (.if_icmp .eq 28, 3) := by decide +kernel
theorem dX4_clashesWithLit_61 : decode cX4_clashesWithLit 61 = .ok (.iload_n 3, 1) := by decide +kernel
theorem dX4_clashesWithLit_62 : decode cX4_clashesWithLit 62 = .ok (.aload_n 0, 1) := by decide +kernel
theorem dX4_clashesWithLit_63 : decode cX4_clashesWithLit 63 = .ok (.iload_n 1, 1) := by decide +kernel
theorem dX4_clashesWithLit_64 : decode cX4_clashesWithLit 64 = .ok (.iload 6, 2) := by decide +kernel
theorem dX4_clashesWithLit_66 : decode cX4_clashesWithLit 66 = .ok (.iload 7, 2) := by decide +kernel
theorem dX4_clashesWithLit_68 : decode cX4_clashesWithLit 68 = .ok (.iload 5, 2) := by decide +kernel
theorem dX4_clashesWithLit_70 : decode cX4_clashesWithLit 70 = .ok (.aload_n 0, 1) := by decide +kernel
theorem dX4_clashesWithLit_71 : decode cX4_clashesWithLit 71 = .ok (.getfield 18, 3) := by decide +kernel
theorem dX4_clashesWithLit_74 : decode cX4_clashesWithLit 74 = .ok (.iload_n 2, 1) := by decide +kernel
theorem dX4_clashesWithLit_75 : decode cX4_clashesWithLit 75 = .ok (.iload 4, 2) := by decide +kernel
theorem dX4_clashesWithLit_77 : decode cX4_clashesWithLit 77 = .ok (.invokevirtual 93, 3) := by decide +kernel
theorem dX4_clashesWithLit_80 : decode cX4_clashesWithLit 80 = .ok (.iadd, 1) := by decide +kernel
theorem dX4_clashesWithLit_81 : decode cX4_clashesWithLit 81 = .ok (.invokevirtual 130, 3) := by decide +kernel
theorem dX4_clashesWithLit_84 : decode cX4_clashesWithLit 84 = .ok (.ior, 1) := by decide +kernel
theorem dX4_clashesWithLit_85 : decode cX4_clashesWithLit 85 = .ok (.istore_n 3, 1) := by decide +kernel
theorem dX4_clashesWithLit_86 : decode cX4_clashesWithLit 86 = .ok (.iinc 4 1, 3) := by decide +kernel
theorem dX4_clashesWithLit_89 : decode cX4_clashesWithLit 89 = .ok (.goto (-84), 3) := by decide +kernel
theorem dX4_clashesWithLit_92 : decode cX4_clashesWithLit 92 = .ok (.iload_n 3, 1) := by decide +kernel
theorem dX4_clashesWithLit_93 : decode cX4_clashesWithLit 93 = .ok (.ireturn, 1) := by decide +kernel
theorem dX4_freeQuarters_0 : decode cX4_freeQuarters 0 = .ok (.aload_n 0, 1) := by decide +kernel
theorem dX4_freeQuarters_1 : decode cX4_freeQuarters 1 = .ok (.getfield 18, 3) := by decide +kernel
theorem dX4_freeQuarters_4 : decode cX4_freeQuarters 4 = .ok (.iload_n 1, 1) := by decide +kernel
theorem dX4_freeQuarters_5 : decode cX4_freeQuarters 5 = .ok (.invokevirtual 36, 3) := by decide +kernel
theorem dX4_freeQuarters_8 : decode cX4_freeQuarters 8 = .ok (.ifCond .ne 5, 3) := by decide +kernel
theorem dX4_freeQuarters_11 : decode cX4_freeQuarters 11 = .ok (.iconst 0, 1) := by decide +kernel
theorem dX4_freeQuarters_12 : decode cX4_freeQuarters 12 = .ok (.ireturn, 1) := by decide +kernel
theorem dX4_freeQuarters_13 : decode cX4_freeQuarters 13 = .ok (.iconst 2, 1) := by decide +kernel
theorem dX4_freeQuarters_14 : decode cX4_freeQuarters 14 = .ok (.aload_n 0, 1) := by decide +kernel
theorem dX4_freeQuarters_15 : decode cX4_freeQuarters 15 = .ok (.getfield 18, 3) := by decide +kernel
theorem dX4_freeQuarters_18 : decode cX4_freeQuarters 18 = .ok (.getfield 44, 3) := by decide +kernel
theorem dX4_freeQuarters_21 : decode cX4_freeQuarters 21 = .ok (.iload_n 1, 1) := by decide +kernel
theorem dX4_freeQuarters_22 : decode cX4_freeQuarters 22 = .ok (.iaload, 1) := by decide +kernel
theorem dX4_freeQuarters_23 : decode cX4_freeQuarters 23 = .ok (.ishl, 1) := by decide +kernel
theorem dX4_freeQuarters_24 : decode cX4_freeQuarters 24 = .ok (.iconst 1, 1) := by decide +kernel
theorem dX4_freeQuarters_25 : decode cX4_freeQuarters 25 = .ok (.aload_n 0, 1) := by decide +kernel
theorem dX4_freeQuarters_26 : decode cX4_freeQuarters 26 = .ok (.getfield 18, 3) := by decide +kernel
theorem dX4_freeQuarters_29 : decode cX4_freeQuarters 29 = .ok (.getfield 41, 3) := by decide +kernel
theorem dX4_freeQuarters_32 : decode cX4_freeQuarters 32 = .ok (.iload_n 1, 1) := by decide +kernel
theorem dX4_freeQuarters_33 : decode cX4_freeQuarters 33 = .ok (.iaload, 1) := by decide +kernel
theorem dX4_freeQuarters_34 : decode cX4_freeQuarters 34 = .ok (.ishl, 1) := by decide +kernel
theorem dX4_freeQuarters_35 : decode cX4_freeQuarters 35 = .ok (.isub, 1) := by decide +kernel
theorem dX4_freeQuarters_36 : decode cX4_freeQuarters 36 = .ok (.istore_n 2, 1) := by decide +kernel
theorem dX4_freeQuarters_37 : decode cX4_freeQuarters 37 = .ok (.iconst 0, 1) := by decide +kernel
theorem dX4_freeQuarters_38 : decode cX4_freeQuarters 38 = .ok (.istore_n 3, 1) := by decide +kernel
theorem dX4_freeQuarters_39 : decode cX4_freeQuarters 39 = .ok (.iload_n 3, 1) := by decide +kernel
theorem dX4_freeQuarters_40 : decode cX4_freeQuarters 40 = .ok (.aload_n 0, 1) := by decide +kernel
theorem dX4_freeQuarters_41 : decode cX4_freeQuarters 41 = .ok (.getfield 18, 3) := by decide +kernel
theorem dX4_freeQuarters_44 : decode cX4_freeQuarters 44 = .ok (.getfield 26, 3) := by decide +kernel
theorem dX4_freeQuarters_47 : decode cX4_freeQuarters 47 = .ok (.if_icmp .ge 36, 3) := by decide +kernel
theorem dX4_freeQuarters_50 : decode cX4_freeQuarters 50 = .ok (.iload_n 3, 1) := by decide +kernel
theorem dX4_freeQuarters_51 : decode cX4_freeQuarters 51 = .ok (.iload_n 1, 1) := by decide +kernel
theorem dX4_freeQuarters_52 : decode cX4_freeQuarters 52 = .ok (.if_icmp .eq 25, 3) := by decide +kernel
theorem dX4_freeQuarters_55 : decode cX4_freeQuarters 55 = .ok (.aload_n 0, 1) := by decide +kernel
theorem dX4_freeQuarters_56 : decode cX4_freeQuarters 56 = .ok (.getfield 18, 3) := by decide +kernel
theorem dX4_freeQuarters_59 : decode cX4_freeQuarters 59 = .ok (.iload_n 3, 1) := by decide +kernel
theorem dX4_freeQuarters_60 : decode cX4_freeQuarters 60 = .ok (.invokevirtual 54, 3) := by decide +kernel
theorem dX4_freeQuarters_63 : decode cX4_freeQuarters 63 = .ok (.ifCond .eq 14, 3) := by decide +kernel
theorem dX4_freeQuarters_66 : decode cX4_freeQuarters 66 = .ok (.iload_n 2, 1) := by decide +kernel
theorem dX4_freeQuarters_67 : decode cX4_freeQuarters 67 = .ok (.aload_n 0, 1) := by decide +kernel
theorem dX4_freeQuarters_68 : decode cX4_freeQuarters 68 = .ok (.iload_n 1, 1) := by decide +kernel
theorem dX4_freeQuarters_69 : decode cX4_freeQuarters 69 = .ok (.iload_n 3, 1) := by decide +kernel
theorem dX4_freeQuarters_70 : decode cX4_freeQuarters 70 = .ok (.invokevirtual 133, 3) := by decide +kernel
theorem dX4_freeQuarters_73 : decode cX4_freeQuarters 73 = .ok (.iconst (-1), 1) := by decide +kernel
theorem dX4_freeQuarters_74 : decode cX4_freeQuarters 74 = .ok (.ixor, 1) := by decide +kernel
theorem dX4_freeQuarters_75 : decode cX4_freeQuarters 75 = .ok (.iand, 1) := by decide +kernel
theorem dX4_freeQuarters_76 : decode cX4_freeQuarters 76 = .ok (.istore_n 2, 1) := by decide +kernel
theorem dX4_freeQuarters_77 : decode cX4_freeQuarters 77 = .ok (.iinc 3 1, 3) := by decide +kernel
theorem dX4_freeQuarters_80 : decode cX4_freeQuarters 80 = .ok (.goto (-41), 3) := by decide +kernel
theorem dX4_freeQuarters_83 : decode cX4_freeQuarters 83 = .ok (.iload_n 2, 1) := by decide +kernel
theorem dX4_freeQuarters_84 : decode cX4_freeQuarters 84 = .ok (.ireturn, 1) := by decide +kernel
theorem md_X4_init : yX4_init.cls ≠ "java/lang/invoke/MethodHandle" ∧ yX4_init.cls ≠ "java/lang/invoke/VarHandle" ∧ (parseMethodDescriptor yX4_init.desc).map (fun d => d.parameters.length) = some 2 := by decide +kernel
theorem md_X4_layAll : yX4_layAll.cls ≠ "java/lang/invoke/MethodHandle" ∧ yX4_layAll.cls ≠ "java/lang/invoke/VarHandle" ∧ (parseMethodDescriptor yX4_layAll.desc).map (fun d => d.parameters.length) = some 0 := by decide +kernel
theorem md_X4_layWhole : yX4_layWhole.cls ≠ "java/lang/invoke/MethodHandle" ∧ yX4_layWhole.cls ≠ "java/lang/invoke/VarHandle" ∧ (parseMethodDescriptor yX4_layWhole.desc).map (fun d => d.parameters.length) = some 1 := by decide +kernel
theorem md_X4_layLit : yX4_layLit.cls ≠ "java/lang/invoke/MethodHandle" ∧ yX4_layLit.cls ≠ "java/lang/invoke/VarHandle" ∧ (parseMethodDescriptor yX4_layLit.desc).map (fun d => d.parameters.length) = some 0 := by decide +kernel
theorem md_X4_layRaised : yX4_layRaised.cls ≠ "java/lang/invoke/MethodHandle" ∧ yX4_layRaised.cls ≠ "java/lang/invoke/VarHandle" ∧ (parseMethodDescriptor yX4_layRaised.desc).map (fun d => d.parameters.length) = some 2 := by decide +kernel
theorem md_X4_layWays : yX4_layWays.cls ≠ "java/lang/invoke/MethodHandle" ∧ yX4_layWays.cls ≠ "java/lang/invoke/VarHandle" ∧ (parseMethodDescriptor yX4_layWays.desc).map (fun d => d.parameters.length) = some 4 := by decide +kernel
theorem md_X4_layWay : yX4_layWay.cls ≠ "java/lang/invoke/MethodHandle" ∧ yX4_layWay.cls ≠ "java/lang/invoke/VarHandle" ∧ (parseMethodDescriptor yX4_layWay.desc).map (fun d => d.parameters.length) = some 2 := by decide +kernel
theorem md_X4_xOnWay : yX4_xOnWay.cls ≠ "java/lang/invoke/MethodHandle" ∧ yX4_xOnWay.cls ≠ "java/lang/invoke/VarHandle" ∧ (parseMethodDescriptor yX4_xOnWay.desc).map (fun d => d.parameters.length) = some 3 := by decide +kernel
theorem md_X4_thicknessOfPuff : yX4_thicknessOfPuff.cls ≠ "java/lang/invoke/MethodHandle" ∧ yX4_thicknessOfPuff.cls ≠ "java/lang/invoke/VarHandle" ∧ (parseMethodDescriptor yX4_thicknessOfPuff.desc).map (fun d => d.parameters.length) = some 3 := by decide +kernel
theorem md_X4_xOfPuff : yX4_xOfPuff.cls ≠ "java/lang/invoke/MethodHandle" ∧ yX4_xOfPuff.cls ≠ "java/lang/invoke/VarHandle" ∧ (parseMethodDescriptor yX4_xOfPuff.desc).map (fun d => d.parameters.length) = some 3 := by decide +kernel
theorem md_X4_heightOfPuff : yX4_heightOfPuff.cls ≠ "java/lang/invoke/MethodHandle" ∧ yX4_heightOfPuff.cls ≠ "java/lang/invoke/VarHandle" ∧ (parseMethodDescriptor yX4_heightOfPuff.desc).map (fun d => d.parameters.length) = some 3 := by decide +kernel
theorem md_X4_addSoot : yX4_addSoot.cls ≠ "java/lang/invoke/MethodHandle" ∧ yX4_addSoot.cls ≠ "java/lang/invoke/VarHandle" ∧ (parseMethodDescriptor yX4_addSoot.desc).map (fun d => d.parameters.length) = some 3 := by decide +kernel
theorem md_X4_meeting : yX4_meeting.cls ≠ "java/lang/invoke/MethodHandle" ∧ yX4_meeting.cls ≠ "java/lang/invoke/VarHandle" ∧ (parseMethodDescriptor yX4_meeting.desc).map (fun d => d.parameters.length) = some 4 := by decide +kernel
theorem md_X4_levelBeginning : yX4_levelBeginning.cls ≠ "java/lang/invoke/MethodHandle" ∧ yX4_levelBeginning.cls ≠ "java/lang/invoke/VarHandle" ∧ (parseMethodDescriptor yX4_levelBeginning.desc).map (fun d => d.parameters.length) = some 3 := by decide +kernel
theorem md_X4_meetingOfPuff : yX4_meetingOfPuff.cls ≠ "java/lang/invoke/MethodHandle" ∧ yX4_meetingOfPuff.cls ≠ "java/lang/invoke/VarHandle" ∧ (parseMethodDescriptor yX4_meetingOfPuff.desc).map (fun d => d.parameters.length) = some 3 := by decide +kernel
theorem md_X4_partingOfPuff : yX4_partingOfPuff.cls ≠ "java/lang/invoke/MethodHandle" ∧ yX4_partingOfPuff.cls ≠ "java/lang/invoke/VarHandle" ∧ (parseMethodDescriptor yX4_partingOfPuff.desc).map (fun d => d.parameters.length) = some 3 := by decide +kernel
theorem md_X4_touchQuarters : yX4_touchQuarters.cls ≠ "java/lang/invoke/MethodHandle" ∧ yX4_touchQuarters.cls ≠ "java/lang/invoke/VarHandle" ∧ (parseMethodDescriptor yX4_touchQuarters.desc).map (fun d => d.parameters.length) = some 2 := by decide +kernel
theorem md_X4_quartersTogether : yX4_quartersTogether.cls ≠ "java/lang/invoke/MethodHandle" ∧ yX4_quartersTogether.cls ≠ "java/lang/invoke/VarHandle" ∧ (parseMethodDescriptor yX4_quartersTogether.desc).map (fun d => d.parameters.length) = some 4 := by decide +kernel
theorem md_X4_closeness : yX4_closeness.cls ≠ "java/lang/invoke/MethodHandle" ∧ yX4_closeness.cls ≠ "java/lang/invoke/VarHandle" ∧ (parseMethodDescriptor yX4_closeness.desc).map (fun d => d.parameters.length) = some 2 := by decide +kernel
theorem md_X4_touchesSome : yX4_touchesSome.cls ≠ "java/lang/invoke/MethodHandle" ∧ yX4_touchesSome.cls ≠ "java/lang/invoke/VarHandle" ∧ (parseMethodDescriptor yX4_touchesSome.desc).map (fun d => d.parameters.length) = some 1 := by decide +kernel
theorem md_X4_someTouch : yX4_someTouch.cls ≠ "java/lang/invoke/MethodHandle" ∧ yX4_someTouch.cls ≠ "java/lang/invoke/VarHandle" ∧ (parseMethodDescriptor yX4_someTouch.desc).map (fun d => d.parameters.length) = some 0 := by decide +kernel
theorem md_X4_touchingPairs : yX4_touchingPairs.cls ≠ "java/lang/invoke/MethodHandle" ∧ yX4_touchingPairs.cls ≠ "java/lang/invoke/VarHandle" ∧ (parseMethodDescriptor yX4_touchingPairs.desc).map (fun d => d.parameters.length) = some 0 := by decide +kernel
theorem md_X4_lightingsThatTouch : yX4_lightingsThatTouch.cls ≠ "java/lang/invoke/MethodHandle" ∧ yX4_lightingsThatTouch.cls ≠ "java/lang/invoke/VarHandle" ∧ (parseMethodDescriptor yX4_lightingsThatTouch.desc).map (fun d => d.parameters.length) = some 4 := by decide +kernel
theorem md_X4_clashesWithLit : yX4_clashesWithLit.cls ≠ "java/lang/invoke/MethodHandle" ∧ yX4_clashesWithLit.cls ≠ "java/lang/invoke/VarHandle" ∧ (parseMethodDescriptor yX4_clashesWithLit.desc).map (fun d => d.parameters.length) = some 2 := by decide +kernel
theorem md_X4_freeQuarters : yX4_freeQuarters.cls ≠ "java/lang/invoke/MethodHandle" ∧ yX4_freeQuarters.cls ≠ "java/lang/invoke/VarHandle" ∧ (parseMethodDescriptor yX4_freeQuarters.desc).map (fun d => d.parameters.length) = some 1 := by decide +kernel
theorem dX3_init_0 : decode cX3_init 0 = .ok (.aload_n 0, 1) := by decide +kernel
theorem dX3_init_1 : decode cX3_init 1 = .ok (.invokespecial 3, 3) := by decide +kernel
theorem dX3_init_4 : decode cX3_init 4 = .ok (.aload_n 0, 1) := by decide +kernel
theorem dX3_init_5 : decode cX3_init 5 = .ok (.bipush 40, 2) := by decide +kernel
theorem dX3_init_7 : decode cX3_init 7 = .ok (.newarray .long, 2) := by decide +kernel
theorem dX3_init_9 : decode cX3_init 9 = .ok (.putfield 9, 3) := by decide +kernel
theorem dX3_init_12 : decode cX3_init 12 = .ok (.aload_n 0, 1) := by decide +kernel
theorem dX3_init_13 : decode cX3_init 13 = .ok (.iconst (-1), 1) := by decide +kernel
theorem dX3_init_14 : decode cX3_init 14 = .ok (.putfield 15, 3) := by decide +kernel
theorem dX3_init_17 : decode cX3_init 17 = .ok (.return_, 1) := by decide +kernel
theorem dX3_isMissing_0 : decode cX3_isMissing 0 = .ok (.aload_n 0, 1) := by decide +kernel
theorem dX3_isMissing_1 : decode cX3_isMissing 1 = .ok (.getfield 15, 3) := by decide +kernel
theorem dX3_isMissing_4 : decode cX3_isMissing 4 = .ok (.iconst (-1), 1) := by decide +kernel
theorem dX3_isMissing_5 : decode cX3_isMissing 5 = .ok (.if_icmp .ne 7, 3) := by decide +kernel
theorem dX3_isMissing_8 : decode cX3_isMissing 8 = .ok (.iconst 1, 1) := by decide +kernel
theorem dX3_isMissing_9 : decode cX3_isMissing 9 = .ok (.goto 4, 3) := by decide +kernel
theorem dX3_isMissing_12 : decode cX3_isMissing 12 = .ok (.iconst 0, 1) := by decide +kernel
theorem dX3_isMissing_13 : decode cX3_isMissing 13 = .ok (.ireturn, 1) := by decide +kernel
theorem dX3_begin_0 : decode cX3_begin 0 = .ok (.aload_n 0, 1) := by decide +kernel
theorem dX3_begin_1 : decode cX3_begin 1 = .ok (.iload_n 1, 1) := by decide +kernel
theorem dX3_begin_2 : decode cX3_begin 2 = .ok (.putfield 19, 3) := by decide +kernel
theorem dX3_begin_5 : decode cX3_begin 5 = .ok (.aload_n 0, 1) := by decide +kernel
theorem dX3_begin_6 : decode cX3_begin 6 = .ok (.iload_n 2, 1) := by decide +kernel
theorem dX3_begin_7 : decode cX3_begin 7 = .ok (.putfield 15, 3) := by decide +kernel
theorem dX3_begin_10 : decode cX3_begin 10 = .ok (.aload_n 0, 1) := by decide +kernel
theorem dX3_begin_11 : decode cX3_begin 11 = .ok (.getfield 9, 3) := by decide +kernel
theorem dX3_begin_14 : decode cX3_begin 14 = .ok (.lconst 0, 1) := by decide +kernel
theorem dX3_begin_15 : decode cX3_begin 15 = .ok (.invokestatic 22, 3) := by decide +kernel
theorem dX3_begin_18 : decode cX3_begin 18 = .ok (.return_, 1) := by decide +kernel
theorem dX3_hasPlace_0 : decode cX3_hasPlace 0 = .ok (.iload_n 1, 1) := by decide +kernel
theorem dX3_hasPlace_1 : decode cX3_hasPlace 1 = .ok (.ifCond .lt 15, 3) := by decide +kernel
theorem dX3_hasPlace_4 : decode cX3_hasPlace 4 = .ok (.iload_n 1, 1) := by decide +kernel
theorem dX3_hasPlace_5 : decode cX3_hasPlace 5 = .ok (.aload_n 0, 1) := by decide +kernel
theorem dX3_hasPlace_6 : decode cX3_hasPlace 6 = .ok (.getfield 15, 3) := by decide +kernel
theorem dX3_hasPlace_9 : decode cX3_hasPlace 9 = .ok (.if_icmp .ge 7, 3) := by decide +kernel
theorem dX3_hasPlace_12 : decode cX3_hasPlace 12 = .ok (.iconst 1, 1) := by decide +kernel
theorem dX3_hasPlace_13 : decode cX3_hasPlace 13 = .ok (.goto 4, 3) := by decide +kernel
theorem dX3_hasPlace_16 : decode cX3_hasPlace 16 = .ok (.iconst 0, 1) := by decide +kernel
theorem dX3_hasPlace_17 : decode cX3_hasPlace 17 = .ok (.ireturn, 1) := by decide +kernel
theorem dX3_at_0 : decode cX3_at 0 = .ok (.aload_n 0, 1) := by decide +kernel
theorem dX3_at_1 : decode cX3_at 1 = .ok (.iload_n 1, 1) := by decide +kernel
theorem dX3_at_2 : decode cX3_at 2 = .ok (.invokevirtual 28, 3) := by decide +kernel
theorem dX3_at_5 : decode cX3_at 5 = .ok (.ifCond .eq 12, 3) := by decide +kernel
theorem dX3_at_8 : decode cX3_at 8 = .ok (.aload_n 0, 1) := by decide +kernel
theorem dX3_at_9 : decode cX3_at 9 = .ok (.getfield 9, 3) := by decide +kernel
theorem dX3_at_12 : decode cX3_at 12 = .ok (.iload_n 1, 1) := by decide +kernel
theorem dX3_at_13 : decode cX3_at 13 = .ok (.laload, 1) := by decide +kernel
theorem dX3_at_14 : decode cX3_at 14 = .ok (.goto 4, 3) := by decide +kernel
theorem dX3_at_17 : decode cX3_at 17 = .ok (.lconst 0, 1) := by decide +kernel
theorem dX3_at_18 : decode cX3_at 18 = .ok (.lreturn, 1) := by decide +kernel
theorem dX3_put_0 : decode cX3_put 0 = .ok (.aload_n 0, 1) := by decide +kernel
theorem dX3_put_1 : decode cX3_put 1 = .ok (.iload_n 1, 1) := by decide +kernel
theorem dX3_put_2 : decode cX3_put 2 = .ok (.invokevirtual 28, 3) := by decide +kernel
theorem dX3_put_5 : decode cX3_put 5 = .ok (.ifCond .ne 5, 3) := by decide +kernel
theorem dX3_put_8 : decode cX3_put 8 = .ok (.lconst 0, 1) := by decide +kernel
theorem dX3_put_9 : decode cX3_put 9 = .ok (.lreturn, 1) := by decide +kernel
theorem dX3_put_10 : decode cX3_put 10 = .ok (.aload_n 0, 1) := by decide +kernel
theorem dX3_put_11 : decode cX3_put 11 = .ok (.getfield 9, 3) := by decide +kernel
theorem dX3_put_14 : decode cX3_put 14 = .ok (.iload_n 1, 1) := by decide +kernel
theorem dX3_put_15 : decode cX3_put 15 = .ok (.aload_n 0, 1) := by decide +kernel
theorem dX3_put_16 : decode cX3_put 16 = .ok (.lload_n 2, 1) := by decide +kernel
theorem dX3_put_17 : decode cX3_put 17 = .ok (.invokevirtual 32, 3) := by decide +kernel
theorem dX3_put_20 : decode cX3_put 20 = .ok (.lastore, 1) := by decide +kernel
theorem dX3_put_21 : decode cX3_put 21 = .ok (.aload_n 0, 1) := by decide +kernel
theorem dX3_put_22 : decode cX3_put 22 = .ok (.getfield 9, 3) := by decide +kernel
theorem dX3_put_25 : decode cX3_put 25 = .ok (.iload_n 1, 1) := by decide +kernel
theorem dX3_put_26 : decode cX3_put 26 = .ok (.laload, 1) := by decide +kernel
theorem dX3_put_27 : decode cX3_put 27 = .ok (.lreturn, 1) := by decide +kernel
theorem dX3_cut_0 : decode cX3_cut 0 = .ok (.aload_n 0, 1) := by decide +kernel
theorem dX3_cut_1 : decode cX3_cut 1 = .ok (.getfield 19, 3) := by decide +kernel
theorem dX3_cut_4 : decode cX3_cut 4 = .ok (.tableswitch 42 0 2 #[28, 33, 38], 28) := by decide +kernel
theorem dX3_cut_32 : decode cX3_cut 32 = .ok (.lload_n 1, 1) := by decide +kernel
theorem dX3_cut_33 : decode cX3_cut 33 = .ok (.l2i, 1) := by decide +kernel
theorem dX3_cut_34 : decode cX3_cut 34 = .ok (.i2b, 1) := by decide +kernel
theorem dX3_cut_35 : decode cX3_cut 35 = .ok (.i2l, 1) := by decide +kernel
theorem dX3_cut_36 : decode cX3_cut 36 = .ok (.lreturn, 1) := by decide +kernel
theorem dX3_cut_37 : decode cX3_cut 37 = .ok (.lload_n 1, 1) := by decide +kernel
theorem dX3_cut_38 : decode cX3_cut 38 = .ok (.l2i, 1) := by decide +kernel
theorem dX3_cut_39 : decode cX3_cut 39 = .ok (.i2s, 1) := by decide +kernel
theorem dX3_cut_40 : decode cX3_cut 40 = .ok (.i2l, 1) := by decide +kernel
theorem dX3_cut_41 : decode cX3_cut 41 = .ok (.lreturn, 1) := by decide +kernel
theorem dX3_cut_42 : decode cX3_cut 42 = .ok (.lload_n 1, 1) := by decide +kernel
theorem dX3_cut_43 : decode cX3_cut 43 = .ok (.l2i, 1) := by decide +kernel
theorem dX3_cut_44 : decode cX3_cut 44 = .ok (.i2l, 1) := by decide +kernel
theorem dX3_cut_45 : decode cX3_cut 45 = .ok (.lreturn, 1) := by decide +kernel
theorem dX3_cut_46 : decode cX3_cut 46 = .ok (.lload_n 1, 1) := by decide +kernel
theorem dX3_cut_47 : decode cX3_cut 47 = .ok (.lreturn, 1) := by decide +kernel
theorem md_X3_init : yX3_init.cls ≠ "java/lang/invoke/MethodHandle" ∧ yX3_init.cls ≠ "java/lang/invoke/VarHandle" ∧ (parseMethodDescriptor yX3_init.desc).map (fun d => d.parameters.length) = some 0 := by decide +kernel
theorem md_X3_isMissing : yX3_isMissing.cls ≠ "java/lang/invoke/MethodHandle" ∧ yX3_isMissing.cls ≠ "java/lang/invoke/VarHandle" ∧ (parseMethodDescriptor yX3_isMissing.desc).map (fun d => d.parameters.length) = some 0 := by decide +kernel
theorem md_X3_begin : yX3_begin.cls ≠ "java/lang/invoke/MethodHandle" ∧ yX3_begin.cls ≠ "java/lang/invoke/VarHandle" ∧ (parseMethodDescriptor yX3_begin.desc).map (fun d => d.parameters.length) = some 2 := by decide +kernel
theorem md_X3_hasPlace : yX3_hasPlace.cls ≠ "java/lang/invoke/MethodHandle" ∧ yX3_hasPlace.cls ≠ "java/lang/invoke/VarHandle" ∧ (parseMethodDescriptor yX3_hasPlace.desc).map (fun d => d.parameters.length) = some 1 := by decide +kernel
theorem md_X3_at : yX3_at.cls ≠ "java/lang/invoke/MethodHandle" ∧ yX3_at.cls ≠ "java/lang/invoke/VarHandle" ∧ (parseMethodDescriptor yX3_at.desc).map (fun d => d.parameters.length) = some 1 := by decide +kernel
theorem md_X3_put : yX3_put.cls ≠ "java/lang/invoke/MethodHandle" ∧ yX3_put.cls ≠ "java/lang/invoke/VarHandle" ∧ (parseMethodDescriptor yX3_put.desc).map (fun d => d.parameters.length) = some 2 := by decide +kernel
theorem md_X3_cut : yX3_cut.cls ≠ "java/lang/invoke/MethodHandle" ∧ yX3_cut.cls ≠ "java/lang/invoke/VarHandle" ∧ (parseMethodDescriptor yX3_cut.desc).map (fun d => d.parameters.length) = some 1 := by decide +kernel
theorem dX2_init_0 : decode cX2_init 0 = .ok (.aload_n 0, 1) := by decide +kernel
theorem dX2_init_1 : decode cX2_init 1 = .ok (.invokespecial 3, 3) := by decide +kernel
theorem dX2_init_4 : decode cX2_init 4 = .ok (.aload_n 0, 1) := by decide +kernel
theorem dX2_init_5 : decode cX2_init 5 = .ok (.bipush 10, 2) := by decide +kernel
theorem dX2_init_7 : decode cX2_init 7 = .ok (.newarray .int, 2) := by decide +kernel
theorem dX2_init_9 : decode cX2_init 9 = .ok (.putfield 9, 3) := by decide +kernel
theorem dX2_init_12 : decode cX2_init 12 = .ok (.aload_n 0, 1) := by decide +kernel
theorem dX2_init_13 : decode cX2_init 13 = .ok (.iconst (-1), 1) := by decide +kernel
theorem dX2_init_14 : decode cX2_init 14 = .ok (.putfield 15, 3) := by decide +kernel
theorem dX2_init_17 : decode cX2_init 17 = .ok (.aload_n 0, 1) := by decide +kernel
theorem dX2_init_18 : decode cX2_init 18 = .ok (.aload_n 1, 1) := by decide +kernel
theorem dX2_init_19 : decode cX2_init 19 = .ok (.putfield 19, 3) := by decide +kernel
theorem dX2_init_22 : decode cX2_init 22 = .ok (.aload_n 0, 1) := by decide +kernel
theorem dX2_init_23 : decode cX2_init 23 = .ok (.aload_n 2, 1) := by decide +kernel
theorem dX2_init_24 : decode cX2_init 24 = .ok (.putfield 23, 3) := by decide +kernel
theorem dX2_init_27 : decode cX2_init 27 = .ok (.return_, 1) := by decide +kernel
theorem dX2_lightRow_0 : decode cX2_lightRow 0 = .ok (.aload_n 0, 1) := by decide +kernel
theorem dX2_lightRow_1 : decode cX2_lightRow 1 = .ok (.getfield 19, 3) := by decide +kernel
theorem dX2_lightRow_4 : decode cX2_lightRow 4 = .ok (.getfield 27, 3) := by decide +kernel
theorem dX2_lightRow_7 : decode cX2_lightRow 7 = .ok (.iconst 0, 1) := by decide +kernel
theorem dX2_lightRow_8 : decode cX2_lightRow 8 = .ok (.aload_n 0, 1) := by decide +kernel
theorem dX2_lightRow_9 : decode cX2_lightRow 9 = .ok (.getfield 9, 3) := by decide +kernel
theorem dX2_lightRow_12 : decode cX2_lightRow 12 = .ok (.iconst 0, 1) := by decide +kernel
theorem dX2_lightRow_13 : decode cX2_lightRow 13 = .ok (.bipush 10, 2) := by decide +kernel
theorem dX2_lightRow_15 : decode cX2_lightRow 15 = .ok (.invokestatic 32, 3) := by decide +kernel
theorem dX2_lightRow_18 : decode cX2_lightRow 18 = .ok (.aload_n 0, 1) := by decide +kernel
theorem dX2_lightRow_19 : decode cX2_lightRow 19 = .ok (.iconst (-1), 1) := by decide +kernel
theorem dX2_lightRow_20 : decode cX2_lightRow 20 = .ok (.putfield 15, 3) := by decide +kernel
theorem dX2_lightRow_23 : decode cX2_lightRow 23 = .ok (.aload_n 0, 1) := by decide +kernel
theorem dX2_lightRow_24 : decode cX2_lightRow 24 = .ok (.iconst 0, 1) := by decide +kernel
theorem dX2_lightRow_25 : decode cX2_lightRow 25 = .ok (.putfield 38, 3) := by decide +kernel
theorem dX2_lightRow_28 : decode cX2_lightRow 28 = .ok (.iconst 0, 1) := by decide +kernel
theorem dX2_lightRow_29 : decode cX2_lightRow 29 = .ok (.istore_n 3, 1) := by decide +kernel
theorem dX2_lightRow_30 : decode cX2_lightRow 30 = .ok (.iload_n 3, 1) := by decide +kernel
theorem dX2_lightRow_31 : decode cX2_lightRow 31 = .ok (.aload_n 1, 1) := by decide +kernel
theorem dX2_lightRow_32 : decode cX2_lightRow 32 = .ok (.getfield 41, 3) := by decide +kernel
theorem dX2_lightRow_35 : decode cX2_lightRow 35 = .ok (.if_icmp .ge 68, 3) := by decide +kernel
theorem dX2_lightRow_38 : decode cX2_lightRow 38 = .ok (.aload_n 0, 1) := by decide +kernel
theorem dX2_lightRow_39 : decode cX2_lightRow 39 = .ok (.getfield 38, 3) := by decide +kernel
theorem dX2_lightRow_42 : decode cX2_lightRow 42 = .ok (.ifCond .ne 61, 3) := by decide +kernel
theorem dX2_lightRow_45 : decode cX2_lightRow 45 = .ok (.aload_n 1, 1) := by decide +kernel
theorem dX2_lightRow_46 : decode cX2_lightRow 46 = .ok (.iload_n 3, 1) := by decide +kernel
theorem dX2_lightRow_47 : decode cX2_lightRow 47 = .ok (.invokevirtual 46, 3) := by decide +kernel
theorem dX2_lightRow_50 : decode cX2_lightRow 50 = .ok (.lstore 4, 2) := by decide +kernel
theorem dX2_lightRow_52 : decode cX2_lightRow 52 = .ok (.aload_n 0, 1) := by decide +kernel
theorem dX2_lightRow_53 : decode cX2_lightRow 53 = .ok (.aload_n 0, 1) := by decide +kernel
theorem dX2_lightRow_54 : decode cX2_lightRow 54 = .ok (.lload 4, 2) := by decide +kernel
theorem dX2_lightRow_56 : decode cX2_lightRow 56 = .ok (.invokevirtual 50, 3) := by decide +kernel
theorem dX2_lightRow_59 : decode cX2_lightRow 59 = .ok (.putfield 38, 3) := by decide +kernel
theorem dX2_lightRow_62 : decode cX2_lightRow 62 = .ok (.aload_n 0, 1) := by decide +kernel
theorem dX2_lightRow_63 : decode cX2_lightRow 63 = .ok (.getfield 38, 3) := by decide +kernel
theorem dX2_lightRow_66 : decode cX2_lightRow 66 = .ok (.ifCond .ne 29, 3) := by decide +kernel
theorem dX2_lightRow_69 : decode cX2_lightRow 69 = .ok (.aload_n 0, 1) := by decide +kernel
theorem dX2_lightRow_70 : decode cX2_lightRow 70 = .ok (.getfield 19, 3) := by decide +kernel
theorem dX2_lightRow_73 : decode cX2_lightRow 73 = .ok (.getfield 27, 3) := by decide +kernel
theorem dX2_lightRow_76 : decode cX2_lightRow 76 = .ok (.lload 4, 2) := by decide +kernel
theorem dX2_lightRow_78 : decode cX2_lightRow 78 = .ok (.iconst 5, 1) := by decide +kernel
theorem dX2_lightRow_79 : decode cX2_lightRow 79 = .ok (.lshr, 1) := by decide +kernel
theorem dX2_lightRow_80 : decode cX2_lightRow 80 = .ok (.l2i, 1) := by decide +kernel
theorem dX2_lightRow_81 : decode cX2_lightRow 81 = .ok (.lload 4, 2) := by decide +kernel
theorem dX2_lightRow_83 : decode cX2_lightRow 83 = .ok (.ldc2_w 54, 3) := by decide +kernel
theorem dX2_lightRow_86 : decode cX2_lightRow 86 = .ok (.land, 1) := by decide +kernel
theorem dX2_lightRow_87 : decode cX2_lightRow 87 = .ok (.l2i, 1) := by decide +kernel
theorem dX2_lightRow_88 : decode cX2_lightRow 88 = .ok (.iastore, 1) := by decide +kernel
theorem dX2_lightRow_89 : decode cX2_lightRow 89 = .ok (.iinc 3 1, 3) := by decide +kernel
theorem dX2_lightRow_92 : decode cX2_lightRow 92 = .ok (.goto 8, 3) := by decide +kernel
theorem dX2_lightRow_95 : decode cX2_lightRow 95 = .ok (.aload_n 0, 1) := by decide +kernel
theorem dX2_lightRow_96 : decode cX2_lightRow 96 = .ok (.iload_n 3, 1) := by decide +kernel
theorem dX2_lightRow_97 : decode cX2_lightRow 97 = .ok (.putfield 15, 3) := by decide +kernel
theorem dX2_lightRow_100 : decode cX2_lightRow 100 = .ok (.goto (-70), 3) := by decide +kernel
theorem dX2_lightRow_103 : decode cX2_lightRow 103 = .ok (.aload_n 0, 1) := by decide +kernel
theorem dX2_lightRow_104 : decode cX2_lightRow 104 = .ok (.aload_n 0, 1) := by decide +kernel
theorem dX2_lightRow_105 : decode cX2_lightRow 105 = .ok (.getfield 19, 3) := by decide +kernel
theorem dX2_lightRow_108 : decode cX2_lightRow 108 = .ok (.invokevirtual 56, 3) := by decide +kernel
theorem dX2_lightRow_111 : decode cX2_lightRow 111 = .ok (.putfield 60, 3) := by decide +kernel
theorem dX2_lightRow_114 : decode cX2_lightRow 114 = .ok (.iload_n 2, 1) := by decide +kernel
theorem dX2_lightRow_115 : decode cX2_lightRow 115 = .ok (.ifCond .ne 21, 3) := by decide +kernel
theorem dX2_lightRow_118 : decode cX2_lightRow 118 = .ok (.aload_n 0, 1) := by decide +kernel
theorem dX2_lightRow_119 : decode cX2_lightRow 119 = .ok (.getfield 9, 3) := by decide +kernel
theorem dX2_lightRow_122 : decode cX2_lightRow 122 = .ok (.iconst 0, 1) := by decide +kernel
theorem dX2_lightRow_123 : decode cX2_lightRow 123 = .ok (.aload_n 0, 1) := by decide +kernel
theorem dX2_lightRow_124 : decode cX2_lightRow 124 = .ok (.getfield 19, 3) := by decide +kernel
theorem dX2_lightRow_127 : decode cX2_lightRow 127 = .ok (.getfield 27, 3) := by decide +kernel
theorem dX2_lightRow_130 : decode cX2_lightRow 130 = .ok (.iconst 0, 1) := by decide +kernel
theorem dX2_lightRow_131 : decode cX2_lightRow 131 = .ok (.bipush 10, 2) := by decide +kernel
theorem dX2_lightRow_133 : decode cX2_lightRow 133 = .ok (.invokestatic 32, 3) := by decide +kernel
theorem dX2_lightRow_136 : decode cX2_lightRow 136 = .ok (.iload_n 3, 1) := by decide +kernel
theorem dX2_lightRow_137 : decode cX2_lightRow 137 = .ok (.ireturn, 1) := by decide +kernel
theorem dX2_obstacle_0 : decode cX2_obstacle 0 = .ok (.lload_n 1, 1) := by decide +kernel
theorem dX2_obstacle_1 : decode cX2_obstacle 1 = .ok (.iconst 5, 1) := by decide +kernel
theorem dX2_obstacle_2 : decode cX2_obstacle 2 = .ok (.lshr, 1) := by decide +kernel
theorem dX2_obstacle_3 : decode cX2_obstacle 3 = .ok (.lstore_n 3, 1) := by decide +kernel
theorem dX2_obstacle_4 : decode cX2_obstacle 4 = .ok (.lload_n 1, 1) := by decide +kernel
theorem dX2_obstacle_5 : decode cX2_obstacle 5 = .ok (.ldc2_w 54, 3) := by decide +kernel
theorem dX2_obstacle_8 : decode cX2_obstacle 8 = .ok (.land, 1) := by decide +kernel
theorem dX2_obstacle_9 : decode cX2_obstacle 9 = .ok (.l2i, 1) := by decide +kernel
theorem dX2_obstacle_10 : decode cX2_obstacle 10 = .ok (.istore 5, 2) := by decide +kernel
theorem dX2_obstacle_12 : decode cX2_obstacle 12 = .ok (.lload_n 3, 1) := by decide +kernel
theorem dX2_obstacle_13 : decode cX2_obstacle 13 = .ok (.lconst 0, 1) := by decide +kernel
theorem dX2_obstacle_14 : decode cX2_obstacle 14 = .ok (.lcmp, 1) := by decide +kernel
theorem dX2_obstacle_15 : decode cX2_obstacle 15 = .ok (.ifCond .lt 24, 3) := by decide +kernel
theorem dX2_obstacle_18 : decode cX2_obstacle 18 = .ok (.lload_n 3, 1) := by decide +kernel
theorem dX2_obstacle_19 : decode cX2_obstacle 19 = .ok (.aload_n 0, 1) := by decide +kernel
theorem dX2_obstacle_20 : decode cX2_obstacle 20 = .ok (.getfield 19, 3) := by decide +kernel
theorem dX2_obstacle_23 : decode cX2_obstacle 23 = .ok (.getfield 63, 3) := by decide +kernel
theorem dX2_obstacle_26 : decode cX2_obstacle 26 = .ok (.i2l, 1) := by decide +kernel
theorem dX2_obstacle_27 : decode cX2_obstacle 27 = .ok (.lcmp, 1) := by decide +kernel
theorem dX2_obstacle_28 : decode cX2_obstacle 28 = .ok (.ifCond .ge 11, 3) := by decide +kernel
theorem dX2_obstacle_31 : decode cX2_obstacle 31 = .ok (.iload 5, 2) := by decide +kernel
theorem dX2_obstacle_33 : decode cX2_obstacle 33 = .ok (.invokestatic 66, 3) := by decide +kernel
theorem dX2_obstacle_36 : decode cX2_obstacle 36 = .ok (.ifCond .ne 5, 3) := by decide +kernel
theorem dX2_obstacle_39 : decode cX2_obstacle 39 = .ok (.iconst 1, 1) := by decide +kernel
theorem dX2_obstacle_40 : decode cX2_obstacle 40 = .ok (.ireturn, 1) := by decide +kernel
theorem dX2_obstacle_41 : decode cX2_obstacle 41 = .ok (.lload_n 3, 1) := by decide +kernel
theorem dX2_obstacle_42 : decode cX2_obstacle 42 = .ok (.l2i, 1) := by decide +kernel
theorem dX2_obstacle_43 : decode cX2_obstacle 43 = .ok (.istore 6, 2) := by decide +kernel
theorem dX2_obstacle_45 : decode cX2_obstacle 45 = .ok (.aload_n 0, 1) := by decide +kernel
theorem dX2_obstacle_46 : decode cX2_obstacle 46 = .ok (.getfield 19, 3) := by decide +kernel
theorem dX2_obstacle_49 : decode cX2_obstacle 49 = .ok (.iload 6, 2) := by decide +kernel
theorem dX2_obstacle_51 : decode cX2_obstacle 51 = .ok (.invokevirtual 70, 3) := by decide +kernel
theorem dX2_obstacle_54 : decode cX2_obstacle 54 = .ok (.ifCond .eq 5, 3) := by decide +kernel
theorem dX2_obstacle_57 : decode cX2_obstacle 57 = .ok (.iconst 2, 1) := by decide +kernel
theorem dX2_obstacle_58 : decode cX2_obstacle 58 = .ok (.ireturn, 1) := by decide +kernel
theorem dX2_obstacle_59 : decode cX2_obstacle 59 = .ok (.aload_n 0, 1) := by decide +kernel
theorem dX2_obstacle_60 : decode cX2_obstacle 60 = .ok (.getfield 19, 3) := by decide +kernel
theorem dX2_obstacle_63 : decode cX2_obstacle 63 = .ok (.iload 6, 2) := by decide +kernel
theorem dX2_obstacle_65 : decode cX2_obstacle 65 = .ok (.iload 5, 2) := by decide +kernel
theorem dX2_obstacle_67 : decode cX2_obstacle 67 = .ok (.invokevirtual 73, 3) := by decide +kernel
theorem dX2_obstacle_70 : decode cX2_obstacle 70 = .ok (.ifCond .ne 5, 3) := by decide +kernel
theorem dX2_obstacle_73 : decode cX2_obstacle 73 = .ok (.iconst 3, 1) := by decide +kernel
theorem dX2_obstacle_74 : decode cX2_obstacle 74 = .ok (.ireturn, 1) := by decide +kernel
theorem dX2_obstacle_75 : decode cX2_obstacle 75 = .ok (.aload_n 0, 1) := by decide +kernel
theorem dX2_obstacle_76 : decode cX2_obstacle 76 = .ok (.getfield 23, 3) := by decide +kernel
theorem dX2_obstacle_79 : decode cX2_obstacle 79 = .ok (.iload 6, 2) := by decide +kernel
theorem dX2_obstacle_81 : decode cX2_obstacle 81 = .ok (.invokevirtual 77, 3) := by decide +kernel
theorem dX2_obstacle_84 : decode cX2_obstacle 84 = .ok (.iload 5, 2) := by decide +kernel
theorem dX2_obstacle_86 : decode cX2_obstacle 86 = .ok (.ishr, 1) := by decide +kernel
theorem dX2_obstacle_87 : decode cX2_obstacle 87 = .ok (.iconst 1, 1) := by decide +kernel
theorem dX2_obstacle_88 : decode cX2_obstacle 88 = .ok (.iand, 1) := by decide +kernel
theorem dX2_obstacle_89 : decode cX2_obstacle 89 = .ok (.ifCond .ne 7, 3) := by decide +kernel
theorem dX2_obstacle_92 : decode cX2_obstacle 92 = .ok (.iconst 4, 1) := by decide +kernel
theorem dX2_obstacle_93 : decode cX2_obstacle 93 = .ok (.goto 4, 3) := by decide +kernel
theorem dX2_obstacle_96 : decode cX2_obstacle 96 = .ok (.iconst 0, 1) := by decide +kernel
theorem dX2_obstacle_97 : decode cX2_obstacle 97 = .ok (.ireturn, 1) := by decide +kernel
theorem md_X2_init : yX2_init.cls ≠ "java/lang/invoke/MethodHandle" ∧ yX2_init.cls ≠ "java/lang/invoke/VarHandle" ∧ (parseMethodDescriptor yX2_init.desc).map (fun d => d.parameters.length) = some 2 := by decide +kernel
theorem md_X2_lightRow : yX2_lightRow.cls ≠ "java/lang/invoke/MethodHandle" ∧ yX2_lightRow.cls ≠ "java/lang/invoke/VarHandle" ∧ (parseMethodDescriptor yX2_lightRow.desc).map (fun d => d.parameters.length) = some 2 := by decide +kernel
theorem md_X2_obstacle : yX2_obstacle.cls ≠ "java/lang/invoke/MethodHandle" ∧ yX2_obstacle.cls ≠ "java/lang/invoke/VarHandle" ∧ (parseMethodDescriptor yX2_obstacle.desc).map (fun d => d.parameters.length) = some 1 := by decide +kernel
theorem dJ6_numberOfTrailingZeros_0f7a4_0 : decode cJ6_numberOfTrailingZeros_0f7a4 0 = .ok (.iload_n 0, 1) := by decide +kernel
theorem dJ6_numberOfTrailingZeros_0f7a4_1 : decode cJ6_numberOfTrailingZeros_0f7a4 1 = .ok (.iconst (-1), 1) := by decide +kernel
theorem dJ6_numberOfTrailingZeros_0f7a4_2 : decode cJ6_numberOfTrailingZeros_0f7a4 2 = .ok (.ixor, 1) := by decide +kernel
theorem dJ6_numberOfTrailingZeros_0f7a4_3 : decode cJ6_numberOfTrailingZeros_0f7a4 3 = .ok (.iload_n 0, 1) := by decide +kernel
theorem dJ6_numberOfTrailingZeros_0f7a4_4 : decode cJ6_numberOfTrailingZeros_0f7a4 4 = .ok (.iconst 1, 1) := by decide +kernel
theorem dJ6_numberOfTrailingZeros_0f7a4_5 : decode cJ6_numberOfTrailingZeros_0f7a4 5 = .ok (.isub, 1) := by decide +kernel
theorem dJ6_numberOfTrailingZeros_0f7a4_6 : decode cJ6_numberOfTrailingZeros_0f7a4 6 = .ok (.iand, 1) := by decide +kernel
theorem dJ6_numberOfTrailingZeros_0f7a4_7 : decode cJ6_numberOfTrailingZeros_0f7a4 7 = .ok (.istore_n 0, 1) := by decide +kernel
theorem dJ6_numberOfTrailingZeros_0f7a4_8 : decode cJ6_numberOfTrailingZeros_0f7a4 8 = .ok (.iload_n 0, 1) := by decide +kernel
theorem dJ6_numberOfTrailingZeros_0f7a4_9 : decode cJ6_numberOfTrailingZeros_0f7a4 9 = .ok (.ifCond .gt 8, 3) := by decide +kernel
theorem dJ6_numberOfTrailingZeros_0f7a4_12 : decode cJ6_numberOfTrailingZeros_0f7a4 12 = .ok (.iload_n 0, 1) := by decide +kernel
theorem dJ6_numberOfTrailingZeros_0f7a4_13 : decode cJ6_numberOfTrailingZeros_0f7a4 13 = .ok (.bipush 32, 2) := by decide +kernel
theorem dJ6_numberOfTrailingZeros_0f7a4_15 : decode cJ6_numberOfTrailingZeros_0f7a4 15 = .ok (.iand, 1) := by decide +kernel
theorem dJ6_numberOfTrailingZeros_0f7a4_16 : decode cJ6_numberOfTrailingZeros_0f7a4 16 = .ok (.ireturn, 1) := by decide +kernel
theorem dJ6_numberOfTrailingZeros_0f7a4_17 : decode cJ6_numberOfTrailingZeros_0f7a4 17 = .ok (.iconst 1, 1) := by decide +kernel
theorem dJ6_numberOfTrailingZeros_0f7a4_18 : decode cJ6_numberOfTrailingZeros_0f7a4 18 = .ok (.istore_n 1, 1) := by decide +kernel
theorem dJ6_numberOfTrailingZeros_0f7a4_19 : decode cJ6_numberOfTrailingZeros_0f7a4 19 = .ok (.iload_n 0, 1) := by decide +kernel
theorem dJ6_numberOfTrailingZeros_0f7a4_20 : decode cJ6_numberOfTrailingZeros_0f7a4 20 = .ok (.ldc_w 264, 3) := by decide +kernel
theorem dJ6_numberOfTrailingZeros_0f7a4_23 : decode cJ6_numberOfTrailingZeros_0f7a4 23 = .ok (.if_icmp .le 11, 3) := by decide +kernel
theorem dJ6_numberOfTrailingZeros_0f7a4_26 : decode cJ6_numberOfTrailingZeros_0f7a4 26 = .ok (.iinc 1 16, 3) := by decide +kernel
theorem dJ6_numberOfTrailingZeros_0f7a4_29 : decode cJ6_numberOfTrailingZeros_0f7a4 29 = .ok (.iload_n 0, 1) := by decide +kernel
theorem dJ6_numberOfTrailingZeros_0f7a4_30 : decode cJ6_numberOfTrailingZeros_0f7a4 30 = .ok (.bipush 16, 2) := by decide +kernel
theorem dJ6_numberOfTrailingZeros_0f7a4_32 : decode cJ6_numberOfTrailingZeros_0f7a4 32 = .ok (.iushr, 1) := by decide +kernel
theorem dJ6_numberOfTrailingZeros_0f7a4_33 : decode cJ6_numberOfTrailingZeros_0f7a4 33 = .ok (.istore_n 0, 1) := by decide +kernel
theorem dJ6_numberOfTrailingZeros_0f7a4_34 : decode cJ6_numberOfTrailingZeros_0f7a4 34 = .ok (.iload_n 0, 1) := by decide +kernel
theorem dJ6_numberOfTrailingZeros_0f7a4_35 : decode cJ6_numberOfTrailingZeros_0f7a4 35 = .ok (.sipush 256, 3) := by decide +kernel
theorem dJ6_numberOfTrailingZeros_0f7a4_38 : decode cJ6_numberOfTrailingZeros_0f7a4 38 = .ok (.if_icmp .le 11, 3) := by decide +kernel
theorem dJ6_numberOfTrailingZeros_0f7a4_41 : decode cJ6_numberOfTrailingZeros_0f7a4 41 = .ok (.iinc 1 8, 3) := by decide +kernel
theorem dJ6_numberOfTrailingZeros_0f7a4_44 : decode cJ6_numberOfTrailingZeros_0f7a4 44 = .ok (.iload_n 0, 1) := by decide +kernel
theorem dJ6_numberOfTrailingZeros_0f7a4_45 : decode cJ6_numberOfTrailingZeros_0f7a4 45 = .ok (.bipush 8, 2) := by decide +kernel
theorem dJ6_numberOfTrailingZeros_0f7a4_47 : decode cJ6_numberOfTrailingZeros_0f7a4 47 = .ok (.iushr, 1) := by decide +kernel
theorem dJ6_numberOfTrailingZeros_0f7a4_48 : decode cJ6_numberOfTrailingZeros_0f7a4 48 = .ok (.istore_n 0, 1) := by decide +kernel
theorem dJ6_numberOfTrailingZeros_0f7a4_49 : decode cJ6_numberOfTrailingZeros_0f7a4 49 = .ok (.iload_n 0, 1) := by decide +kernel
theorem dJ6_numberOfTrailingZeros_0f7a4_50 : decode cJ6_numberOfTrailingZeros_0f7a4 50 = .ok (.bipush 16, 2) := by decide +kernel
theorem dJ6_numberOfTrailingZeros_0f7a4_52 : decode cJ6_numberOfTrailingZeros_0f7a4 52 = .ok (.if_icmp .le 10, 3) := by decide +kernel
theorem dJ6_numberOfTrailingZeros_0f7a4_55 : decode cJ6_numberOfTrailingZeros_0f7a4 55 = .ok (.iinc 1 4, 3) := by decide +kernel
theorem dJ6_numberOfTrailingZeros_0f7a4_58 : decode cJ6_numberOfTrailingZeros_0f7a4 58 = .ok (.iload_n 0, 1) := by decide +kernel
theorem dJ6_numberOfTrailingZeros_0f7a4_59 : decode cJ6_numberOfTrailingZeros_0f7a4 59 = .ok (.iconst 4, 1) := by decide +kernel
theorem dJ6_numberOfTrailingZeros_0f7a4_60 : decode cJ6_numberOfTrailingZeros_0f7a4 60 = .ok (.iushr, 1) := by decide +kernel
theorem dJ6_numberOfTrailingZeros_0f7a4_61 : decode cJ6_numberOfTrailingZeros_0f7a4 61 = .ok (.istore_n 0, 1) := by decide +kernel
theorem dJ6_numberOfTrailingZeros_0f7a4_62 : decode cJ6_numberOfTrailingZeros_0f7a4 62 = .ok (.iload_n 0, 1) := by decide +kernel
theorem dJ6_numberOfTrailingZeros_0f7a4_63 : decode cJ6_numberOfTrailingZeros_0f7a4 63 = .ok (.iconst 4, 1) := by decide +kernel
theorem dJ6_numberOfTrailingZeros_0f7a4_64 : decode cJ6_numberOfTrailingZeros_0f7a4 64 = .ok (.if_icmp .le 10, 3) := by decide +kernel
theorem dJ6_numberOfTrailingZeros_0f7a4_67 : decode cJ6_numberOfTrailingZeros_0f7a4 67 = .ok (.iinc 1 2, 3) := by decide +kernel
theorem dJ6_numberOfTrailingZeros_0f7a4_70 : decode cJ6_numberOfTrailingZeros_0f7a4 70 = .ok (.iload_n 0, 1) := by decide +kernel
theorem dJ6_numberOfTrailingZeros_0f7a4_71 : decode cJ6_numberOfTrailingZeros_0f7a4 71 = .ok (.iconst 2, 1) := by decide +kernel
theorem dJ6_numberOfTrailingZeros_0f7a4_72 : decode cJ6_numberOfTrailingZeros_0f7a4 72 = .ok (.iushr, 1) := by decide +kernel
theorem dJ6_numberOfTrailingZeros_0f7a4_73 : decode cJ6_numberOfTrailingZeros_0f7a4 73 = .ok (.istore_n 0, 1) := by decide +kernel
theorem dJ6_numberOfTrailingZeros_0f7a4_74 : decode cJ6_numberOfTrailingZeros_0f7a4 74 = .ok (.iload_n 1, 1) := by decide +kernel
theorem dJ6_numberOfTrailingZeros_0f7a4_75 : decode cJ6_numberOfTrailingZeros_0f7a4 75 = .ok (.iload_n 0, 1) := by decide +kernel
theorem dJ6_numberOfTrailingZeros_0f7a4_76 : decode cJ6_numberOfTrailingZeros_0f7a4 76 = .ok (.iconst 1, 1) := by decide +kernel
theorem dJ6_numberOfTrailingZeros_0f7a4_77 : decode cJ6_numberOfTrailingZeros_0f7a4 77 = .ok (.iushr, 1) := by decide +kernel
theorem dJ6_numberOfTrailingZeros_0f7a4_78 : decode cJ6_numberOfTrailingZeros_0f7a4 78 = .ok (.iadd, 1) := by decide +kernel
theorem dJ6_numberOfTrailingZeros_0f7a4_79 : decode cJ6_numberOfTrailingZeros_0f7a4 79 = .ok (.ireturn, 1) := by decide +kernel
theorem dJ6_bitCount_0f7a4_0 : decode cJ6_bitCount_0f7a4 0 = .ok (.iload_n 0, 1) := by decide +kernel
theorem dJ6_bitCount_0f7a4_1 : decode cJ6_bitCount_0f7a4 1 = .ok (.iload_n 0, 1) := by decide +kernel
theorem dJ6_bitCount_0f7a4_2 : decode cJ6_bitCount_0f7a4 2 = .ok (.iconst 1, 1) := by decide +kernel
theorem dJ6_bitCount_0f7a4_3 : decode cJ6_bitCount_0f7a4 3 = .ok (.iushr, 1) := by decide +kernel
theorem dJ6_bitCount_0f7a4_4 : decode cJ6_bitCount_0f7a4 4 = .ok (.ldc_w 265, 3) := by decide +kernel
theorem dJ6_bitCount_0f7a4_7 : decode cJ6_bitCount_0f7a4 7 = .ok (.iand, 1) := by decide +kernel
theorem dJ6_bitCount_0f7a4_8 : decode cJ6_bitCount_0f7a4 8 = .ok (.isub, 1) := by decide +kernel
theorem dJ6_bitCount_0f7a4_9 : decode cJ6_bitCount_0f7a4 9 = .ok (.istore_n 0, 1) := by decide +kernel
theorem dJ6_bitCount_0f7a4_10 : decode cJ6_bitCount_0f7a4 10 = .ok (.iload_n 0, 1) := by decide +kernel
theorem dJ6_bitCount_0f7a4_11 : decode cJ6_bitCount_0f7a4 11 = .ok (.ldc_w 266, 3) := by decide +kernel
theorem dJ6_bitCount_0f7a4_14 : decode cJ6_bitCount_0f7a4 14 = .ok (.iand, 1) := by decide +kernel
theorem dJ6_bitCount_0f7a4_15 : decode cJ6_bitCount_0f7a4 15 = .ok (.iload_n 0, 1) := by decide +kernel
theorem dJ6_bitCount_0f7a4_16 : decode cJ6_bitCount_0f7a4 16 = .ok (.iconst 2, 1) := by decide +kernel
theorem dJ6_bitCount_0f7a4_17 : decode cJ6_bitCount_0f7a4 17 = .ok (.iushr, 1) := by decide +kernel
theorem dJ6_bitCount_0f7a4_18 : decode cJ6_bitCount_0f7a4 18 = .ok (.ldc_w 266, 3) := by decide +kernel
theorem dJ6_bitCount_0f7a4_21 : decode cJ6_bitCount_0f7a4 21 = .ok (.iand, 1) := by decide +kernel
theorem dJ6_bitCount_0f7a4_22 : decode cJ6_bitCount_0f7a4 22 = .ok (.iadd, 1) := by decide +kernel
theorem dJ6_bitCount_0f7a4_23 : decode cJ6_bitCount_0f7a4 23 = .ok (.istore_n 0, 1) := by decide +kernel
theorem dJ6_bitCount_0f7a4_24 : decode cJ6_bitCount_0f7a4 24 = .ok (.iload_n 0, 1) := by decide +kernel
theorem dJ6_bitCount_0f7a4_25 : decode cJ6_bitCount_0f7a4 25 = .ok (.iload_n 0, 1) := by decide +kernel
theorem dJ6_bitCount_0f7a4_26 : decode cJ6_bitCount_0f7a4 26 = .ok (.iconst 4, 1) := by decide +kernel
theorem dJ6_bitCount_0f7a4_27 : decode cJ6_bitCount_0f7a4 27 = .ok (.iushr, 1) := by decide +kernel
theorem dJ6_bitCount_0f7a4_28 : decode cJ6_bitCount_0f7a4 28 = .ok (.iadd, 1) := by decide +kernel
theorem dJ6_bitCount_0f7a4_29 : decode cJ6_bitCount_0f7a4 29 = .ok (.ldc_w 267, 3) := by decide +kernel
theorem dJ6_bitCount_0f7a4_32 : decode cJ6_bitCount_0f7a4 32 = .ok (.iand, 1) := by decide +kernel
theorem dJ6_bitCount_0f7a4_33 : decode cJ6_bitCount_0f7a4 33 = .ok (.istore_n 0, 1) := by decide +kernel
theorem dJ6_bitCount_0f7a4_34 : decode cJ6_bitCount_0f7a4 34 = .ok (.iload_n 0, 1) := by decide +kernel
theorem dJ6_bitCount_0f7a4_35 : decode cJ6_bitCount_0f7a4 35 = .ok (.iload_n 0, 1) := by decide +kernel
theorem dJ6_bitCount_0f7a4_36 : decode cJ6_bitCount_0f7a4 36 = .ok (.bipush 8, 2) := by decide +kernel
theorem dJ6_bitCount_0f7a4_38 : decode cJ6_bitCount_0f7a4 38 = .ok (.iushr, 1) := by decide +kernel
theorem dJ6_bitCount_0f7a4_39 : decode cJ6_bitCount_0f7a4 39 = .ok (.iadd, 1) := by decide +kernel
theorem dJ6_bitCount_0f7a4_40 : decode cJ6_bitCount_0f7a4 40 = .ok (.istore_n 0, 1) := by decide +kernel
theorem dJ6_bitCount_0f7a4_41 : decode cJ6_bitCount_0f7a4 41 = .ok (.iload_n 0, 1) := by decide +kernel
theorem dJ6_bitCount_0f7a4_42 : decode cJ6_bitCount_0f7a4 42 = .ok (.iload_n 0, 1) := by decide +kernel
theorem dJ6_bitCount_0f7a4_43 : decode cJ6_bitCount_0f7a4 43 = .ok (.bipush 16, 2) := by decide +kernel
theorem dJ6_bitCount_0f7a4_45 : decode cJ6_bitCount_0f7a4 45 = .ok (.iushr, 1) := by decide +kernel
theorem dJ6_bitCount_0f7a4_46 : decode cJ6_bitCount_0f7a4 46 = .ok (.iadd, 1) := by decide +kernel
theorem dJ6_bitCount_0f7a4_47 : decode cJ6_bitCount_0f7a4 47 = .ok (.istore_n 0, 1) := by decide +kernel
theorem dJ6_bitCount_0f7a4_48 : decode cJ6_bitCount_0f7a4 48 = .ok (.iload_n 0, 1) := by decide +kernel
theorem dJ6_bitCount_0f7a4_49 : decode cJ6_bitCount_0f7a4 49 = .ok (.bipush 63, 2) := by decide +kernel
theorem dJ6_bitCount_0f7a4_51 : decode cJ6_bitCount_0f7a4 51 = .ok (.iand, 1) := by decide +kernel
theorem dJ6_bitCount_0f7a4_52 : decode cJ6_bitCount_0f7a4 52 = .ok (.ireturn, 1) := by decide +kernel
theorem md_J6_numberOfTrailingZeros_0f7a4 : yJ6_numberOfTrailingZeros_0f7a4.cls ≠ "java/lang/invoke/MethodHandle" ∧ yJ6_numberOfTrailingZeros_0f7a4.cls ≠ "java/lang/invoke/VarHandle" ∧ (parseMethodDescriptor yJ6_numberOfTrailingZeros_0f7a4.desc).map (fun d => d.parameters.length) = some 1 := by decide +kernel
theorem md_J6_bitCount_0f7a4 : yJ6_bitCount_0f7a4.cls ≠ "java/lang/invoke/MethodHandle" ∧ yJ6_bitCount_0f7a4.cls ≠ "java/lang/invoke/VarHandle" ∧ (parseMethodDescriptor yJ6_bitCount_0f7a4.desc).map (fun d => d.parameters.length) = some 1 := by decide +kernel
theorem dJ13_numberOfTrailingZeros_95d88_0 : decode cJ13_numberOfTrailingZeros_95d88 0 = .ok (.lload_n 0, 1) := by decide +kernel
theorem dJ13_numberOfTrailingZeros_95d88_1 : decode cJ13_numberOfTrailingZeros_95d88 1 = .ok (.l2i, 1) := by decide +kernel
theorem dJ13_numberOfTrailingZeros_95d88_2 : decode cJ13_numberOfTrailingZeros_95d88 2 = .ok (.istore_n 2, 1) := by decide +kernel
theorem dJ13_numberOfTrailingZeros_95d88_3 : decode cJ13_numberOfTrailingZeros_95d88 3 = .ok (.iload_n 2, 1) := by decide +kernel
theorem dJ13_numberOfTrailingZeros_95d88_4 : decode cJ13_numberOfTrailingZeros_95d88 4 = .ok (.ifCond .ne 17, 3) := by decide +kernel
theorem dJ13_numberOfTrailingZeros_95d88_7 : decode cJ13_numberOfTrailingZeros_95d88 7 = .ok (.bipush 32, 2) := by decide +kernel
theorem dJ13_numberOfTrailingZeros_95d88_9 : decode cJ13_numberOfTrailingZeros_95d88 9 = .ok (.lload_n 0, 1) := by decide +kernel
theorem dJ13_numberOfTrailingZeros_95d88_10 : decode cJ13_numberOfTrailingZeros_95d88 10 = .ok (.bipush 32, 2) := by decide +kernel
theorem dJ13_numberOfTrailingZeros_95d88_12 : decode cJ13_numberOfTrailingZeros_95d88 12 = .ok (.lushr, 1) := by decide +kernel
theorem dJ13_numberOfTrailingZeros_95d88_13 : decode cJ13_numberOfTrailingZeros_95d88 13 = .ok (.l2i, 1) := by decide +kernel
theorem dJ13_numberOfTrailingZeros_95d88_14 : decode cJ13_numberOfTrailingZeros_95d88 14 = .ok (.invokestatic 311, 3) := by decide +kernel
theorem dJ13_numberOfTrailingZeros_95d88_17 : decode cJ13_numberOfTrailingZeros_95d88 17 = .ok (.iadd, 1) := by decide +kernel
theorem dJ13_numberOfTrailingZeros_95d88_18 : decode cJ13_numberOfTrailingZeros_95d88 18 = .ok (.goto 7, 3) := by decide +kernel
theorem dJ13_numberOfTrailingZeros_95d88_21 : decode cJ13_numberOfTrailingZeros_95d88 21 = .ok (.iload_n 2, 1) := by decide +kernel
theorem dJ13_numberOfTrailingZeros_95d88_22 : decode cJ13_numberOfTrailingZeros_95d88 22 = .ok (.invokestatic 311, 3) := by decide +kernel
theorem dJ13_numberOfTrailingZeros_95d88_25 : decode cJ13_numberOfTrailingZeros_95d88 25 = .ok (.ireturn, 1) := by decide +kernel
theorem dJ13_bitCount_95d88_0 : decode cJ13_bitCount_95d88 0 = .ok (.lload_n 0, 1) := by decide +kernel
theorem dJ13_bitCount_95d88_1 : decode cJ13_bitCount_95d88 1 = .ok (.lload_n 0, 1) := by decide +kernel
theorem dJ13_bitCount_95d88_2 : decode cJ13_bitCount_95d88 2 = .ok (.iconst 1, 1) := by decide +kernel
theorem dJ13_bitCount_95d88_3 : decode cJ13_bitCount_95d88 3 = .ok (.lushr, 1) := by decide +kernel
theorem dJ13_bitCount_95d88_4 : decode cJ13_bitCount_95d88 4 = .ok (.ldc2_w 314, 3) := by decide +kernel
theorem dJ13_bitCount_95d88_7 : decode cJ13_bitCount_95d88 7 = .ok (.land, 1) := by decide +kernel
theorem dJ13_bitCount_95d88_8 : decode cJ13_bitCount_95d88 8 = .ok (.lsub, 1) := by decide +kernel
theorem dJ13_bitCount_95d88_9 : decode cJ13_bitCount_95d88 9 = .ok (.lstore_n 0, 1) := by decide +kernel
theorem dJ13_bitCount_95d88_10 : decode cJ13_bitCount_95d88 10 = .ok (.lload_n 0, 1) := by decide +kernel
theorem dJ13_bitCount_95d88_11 : decode cJ13_bitCount_95d88 11 = .ok (.ldc2_w 316, 3) := by decide +kernel
theorem dJ13_bitCount_95d88_14 : decode cJ13_bitCount_95d88 14 = .ok (.land, 1) := by decide +kernel
theorem dJ13_bitCount_95d88_15 : decode cJ13_bitCount_95d88 15 = .ok (.lload_n 0, 1) := by decide +kernel
theorem dJ13_bitCount_95d88_16 : decode cJ13_bitCount_95d88 16 = .ok (.iconst 2, 1) := by decide +kernel
theorem dJ13_bitCount_95d88_17 : decode cJ13_bitCount_95d88 17 = .ok (.lushr, 1) := by decide +kernel
theorem dJ13_bitCount_95d88_18 : decode cJ13_bitCount_95d88 18 = .ok (.ldc2_w 316, 3) := by decide +kernel
theorem dJ13_bitCount_95d88_21 : decode cJ13_bitCount_95d88 21 = .ok (.land, 1) := by decide +kernel
theorem dJ13_bitCount_95d88_22 : decode cJ13_bitCount_95d88 22 = .ok (.ladd, 1) := by decide +kernel
theorem dJ13_bitCount_95d88_23 : decode cJ13_bitCount_95d88 23 = .ok (.lstore_n 0, 1) := by decide +kernel
theorem dJ13_bitCount_95d88_24 : decode cJ13_bitCount_95d88 24 = .ok (.lload_n 0, 1) := by decide +kernel
theorem dJ13_bitCount_95d88_25 : decode cJ13_bitCount_95d88 25 = .ok (.lload_n 0, 1) := by decide +kernel
theorem dJ13_bitCount_95d88_26 : decode cJ13_bitCount_95d88 26 = .ok (.iconst 4, 1) := by decide +kernel
theorem dJ13_bitCount_95d88_27 : decode cJ13_bitCount_95d88 27 = .ok (.lushr, 1) := by decide +kernel
theorem dJ13_bitCount_95d88_28 : decode cJ13_bitCount_95d88 28 = .ok (.ladd, 1) := by decide +kernel
theorem dJ13_bitCount_95d88_29 : decode cJ13_bitCount_95d88 29 = .ok (.ldc2_w 318, 3) := by decide +kernel
theorem dJ13_bitCount_95d88_32 : decode cJ13_bitCount_95d88 32 = .ok (.land, 1) := by decide +kernel
theorem dJ13_bitCount_95d88_33 : decode cJ13_bitCount_95d88 33 = .ok (.lstore_n 0, 1) := by decide +kernel
theorem dJ13_bitCount_95d88_34 : decode cJ13_bitCount_95d88 34 = .ok (.lload_n 0, 1) := by decide +kernel
theorem dJ13_bitCount_95d88_35 : decode cJ13_bitCount_95d88 35 = .ok (.lload_n 0, 1) := by decide +kernel
theorem dJ13_bitCount_95d88_36 : decode cJ13_bitCount_95d88 36 = .ok (.bipush 8, 2) := by decide +kernel
theorem dJ13_bitCount_95d88_38 : decode cJ13_bitCount_95d88 38 = .ok (.lushr, 1) := by decide +kernel
theorem dJ13_bitCount_95d88_39 : decode cJ13_bitCount_95d88 39 = .ok (.ladd, 1) := by decide +kernel
theorem dJ13_bitCount_95d88_40 : decode cJ13_bitCount_95d88 40 = .ok (.lstore_n 0, 1) := by decide +kernel
theorem dJ13_bitCount_95d88_41 : decode cJ13_bitCount_95d88 41 = .ok (.lload_n 0, 1) := by decide +kernel
theorem dJ13_bitCount_95d88_42 : decode cJ13_bitCount_95d88 42 = .ok (.lload_n 0, 1) := by decide +kernel
theorem dJ13_bitCount_95d88_43 : decode cJ13_bitCount_95d88 43 = .ok (.bipush 16, 2) := by decide +kernel
theorem dJ13_bitCount_95d88_45 : decode cJ13_bitCount_95d88 45 = .ok (.lushr, 1) := by decide +kernel
theorem dJ13_bitCount_95d88_46 : decode cJ13_bitCount_95d88 46 = .ok (.ladd, 1) := by decide +kernel
theorem dJ13_bitCount_95d88_47 : decode cJ13_bitCount_95d88 47 = .ok (.lstore_n 0, 1) := by decide +kernel
theorem dJ13_bitCount_95d88_48 : decode cJ13_bitCount_95d88 48 = .ok (.lload_n 0, 1) := by decide +kernel
theorem dJ13_bitCount_95d88_49 : decode cJ13_bitCount_95d88 49 = .ok (.lload_n 0, 1) := by decide +kernel
theorem dJ13_bitCount_95d88_50 : decode cJ13_bitCount_95d88 50 = .ok (.bipush 32, 2) := by decide +kernel
theorem dJ13_bitCount_95d88_52 : decode cJ13_bitCount_95d88 52 = .ok (.lushr, 1) := by decide +kernel
theorem dJ13_bitCount_95d88_53 : decode cJ13_bitCount_95d88 53 = .ok (.ladd, 1) := by decide +kernel
theorem dJ13_bitCount_95d88_54 : decode cJ13_bitCount_95d88 54 = .ok (.lstore_n 0, 1) := by decide +kernel
theorem dJ13_bitCount_95d88_55 : decode cJ13_bitCount_95d88 55 = .ok (.lload_n 0, 1) := by decide +kernel
theorem dJ13_bitCount_95d88_56 : decode cJ13_bitCount_95d88 56 = .ok (.l2i, 1) := by decide +kernel
theorem dJ13_bitCount_95d88_57 : decode cJ13_bitCount_95d88 57 = .ok (.bipush 127, 2) := by decide +kernel
theorem dJ13_bitCount_95d88_59 : decode cJ13_bitCount_95d88 59 = .ok (.iand, 1) := by decide +kernel
theorem dJ13_bitCount_95d88_60 : decode cJ13_bitCount_95d88 60 = .ok (.ireturn, 1) := by decide +kernel
theorem md_J13_numberOfTrailingZeros_95d88 : yJ13_numberOfTrailingZeros_95d88.cls ≠ "java/lang/invoke/MethodHandle" ∧ yJ13_numberOfTrailingZeros_95d88.cls ≠ "java/lang/invoke/VarHandle" ∧ (parseMethodDescriptor yJ13_numberOfTrailingZeros_95d88.desc).map (fun d => d.parameters.length) = some 1 := by decide +kernel
theorem md_J13_bitCount_95d88 : yJ13_bitCount_95d88.cls ≠ "java/lang/invoke/MethodHandle" ∧ yJ13_bitCount_95d88.cls ≠ "java/lang/invoke/VarHandle" ∧ (parseMethodDescriptor yJ13_bitCount_95d88.desc).map (fun d => d.parameters.length) = some 1 := by decide +kernel
theorem dJ9_max_7cf53_0 : decode cJ9_max_7cf53 0 = .ok (.iload_n 0, 1) := by decide +kernel
theorem dJ9_max_7cf53_1 : decode cJ9_max_7cf53 1 = .ok (.iload_n 1, 1) := by decide +kernel
theorem dJ9_max_7cf53_2 : decode cJ9_max_7cf53 2 = .ok (.if_icmp .lt 7, 3) := by decide +kernel
theorem dJ9_max_7cf53_5 : decode cJ9_max_7cf53 5 = .ok (.iload_n 0, 1) := by decide +kernel
theorem dJ9_max_7cf53_6 : decode cJ9_max_7cf53 6 = .ok (.goto 4, 3) := by decide +kernel
theorem dJ9_max_7cf53_9 : decode cJ9_max_7cf53 9 = .ok (.iload_n 1, 1) := by decide +kernel
theorem dJ9_max_7cf53_10 : decode cJ9_max_7cf53 10 = .ok (.ireturn, 1) := by decide +kernel
theorem dJ9_min_7cf53_0 : decode cJ9_min_7cf53 0 = .ok (.iload_n 0, 1) := by decide +kernel
theorem dJ9_min_7cf53_1 : decode cJ9_min_7cf53 1 = .ok (.iload_n 1, 1) := by decide +kernel
theorem dJ9_min_7cf53_2 : decode cJ9_min_7cf53 2 = .ok (.if_icmp .gt 7, 3) := by decide +kernel
theorem dJ9_min_7cf53_5 : decode cJ9_min_7cf53 5 = .ok (.iload_n 0, 1) := by decide +kernel
theorem dJ9_min_7cf53_6 : decode cJ9_min_7cf53 6 = .ok (.goto 4, 3) := by decide +kernel
theorem dJ9_min_7cf53_9 : decode cJ9_min_7cf53 9 = .ok (.iload_n 1, 1) := by decide +kernel
theorem dJ9_min_7cf53_10 : decode cJ9_min_7cf53 10 = .ok (.ireturn, 1) := by decide +kernel
theorem md_J9_max_7cf53 : yJ9_max_7cf53.cls ≠ "java/lang/invoke/MethodHandle" ∧ yJ9_max_7cf53.cls ≠ "java/lang/invoke/VarHandle" ∧ (parseMethodDescriptor yJ9_max_7cf53.desc).map (fun d => d.parameters.length) = some 2 := by decide +kernel
theorem md_J9_min_7cf53 : yJ9_min_7cf53.cls ≠ "java/lang/invoke/MethodHandle" ∧ yJ9_min_7cf53.cls ≠ "java/lang/invoke/VarHandle" ∧ (parseMethodDescriptor yJ9_min_7cf53.desc).map (fun d => d.parameters.length) = some 2 := by decide +kernel
theorem dJ7_fill_d0a16_0 : decode cJ7_fill_d0a16 0 = .ok (.iconst 0, 1) := by decide +kernel
theorem dJ7_fill_d0a16_1 : decode cJ7_fill_d0a16 1 = .ok (.istore_n 3, 1) := by decide +kernel
theorem dJ7_fill_d0a16_2 : decode cJ7_fill_d0a16 2 = .ok (.aload_n 0, 1) := by decide +kernel
theorem dJ7_fill_d0a16_3 : decode cJ7_fill_d0a16 3 = .ok (.arraylength, 1) := by decide +kernel
theorem dJ7_fill_d0a16_4 : decode cJ7_fill_d0a16 4 = .ok (.istore 4, 2) := by decide +kernel
theorem dJ7_fill_d0a16_6 : decode cJ7_fill_d0a16 6 = .ok (.iload_n 3, 1) := by decide +kernel
theorem dJ7_fill_d0a16_7 : decode cJ7_fill_d0a16 7 = .ok (.iload 4, 2) := by decide +kernel
theorem dJ7_fill_d0a16_9 : decode cJ7_fill_d0a16 9 = .ok (.if_icmp .ge 13, 3) := by decide +kernel
theorem dJ7_fill_d0a16_12 : decode cJ7_fill_d0a16 12 = .ok (.aload_n 0, 1) := by decide +kernel
theorem dJ7_fill_d0a16_13 : decode cJ7_fill_d0a16 13 = .ok (.iload_n 3, 1) := by decide +kernel
theorem dJ7_fill_d0a16_14 : decode cJ7_fill_d0a16 14 = .ok (.lload_n 1, 1) := by decide +kernel
theorem dJ7_fill_d0a16_15 : decode cJ7_fill_d0a16 15 = .ok (.lastore, 1) := by decide +kernel
theorem dJ7_fill_d0a16_16 : decode cJ7_fill_d0a16 16 = .ok (.iinc 3 1, 3) := by decide +kernel
theorem dJ7_fill_d0a16_19 : decode cJ7_fill_d0a16 19 = .ok (.goto (-13), 3) := by decide +kernel
theorem dJ7_fill_d0a16_22 : decode cJ7_fill_d0a16 22 = .ok (.return_, 1) := by decide +kernel
theorem dJ7_fill_53178_0 : decode cJ7_fill_53178 0 = .ok (.iconst 0, 1) := by decide +kernel
theorem dJ7_fill_53178_1 : decode cJ7_fill_53178 1 = .ok (.istore_n 2, 1) := by decide +kernel
theorem dJ7_fill_53178_2 : decode cJ7_fill_53178 2 = .ok (.aload_n 0, 1) := by decide +kernel
theorem dJ7_fill_53178_3 : decode cJ7_fill_53178 3 = .ok (.arraylength, 1) := by decide +kernel
theorem dJ7_fill_53178_4 : decode cJ7_fill_53178 4 = .ok (.istore_n 3, 1) := by decide +kernel
theorem dJ7_fill_53178_5 : decode cJ7_fill_53178 5 = .ok (.iload_n 2, 1) := by decide +kernel
theorem dJ7_fill_53178_6 : decode cJ7_fill_53178 6 = .ok (.iload_n 3, 1) := by decide +kernel
theorem dJ7_fill_53178_7 : decode cJ7_fill_53178 7 = .ok (.if_icmp .ge 13, 3) := by decide +kernel
theorem dJ7_fill_53178_10 : decode cJ7_fill_53178 10 = .ok (.aload_n 0, 1) := by decide +kernel
theorem dJ7_fill_53178_11 : decode cJ7_fill_53178 11 = .ok (.iload_n 2, 1) := by decide +kernel
theorem dJ7_fill_53178_12 : decode cJ7_fill_53178 12 = .ok (.iload_n 1, 1) := by decide +kernel
theorem dJ7_fill_53178_13 : decode cJ7_fill_53178 13 = .ok (.iastore, 1) := by decide +kernel
theorem dJ7_fill_53178_14 : decode cJ7_fill_53178 14 = .ok (.iinc 2 1, 3) := by decide +kernel
theorem dJ7_fill_53178_17 : decode cJ7_fill_53178 17 = .ok (.goto (-12), 3) := by decide +kernel
theorem dJ7_fill_53178_20 : decode cJ7_fill_53178 20 = .ok (.return_, 1) := by decide +kernel
theorem md_J7_fill_d0a16 : yJ7_fill_d0a16.cls ≠ "java/lang/invoke/MethodHandle" ∧ yJ7_fill_d0a16.cls ≠ "java/lang/invoke/VarHandle" ∧ (parseMethodDescriptor yJ7_fill_d0a16.desc).map (fun d => d.parameters.length) = some 2 := by decide +kernel
theorem md_J7_fill_53178 : yJ7_fill_53178.cls ≠ "java/lang/invoke/MethodHandle" ∧ yJ7_fill_53178.cls ≠ "java/lang/invoke/VarHandle" ∧ (parseMethodDescriptor yJ7_fill_53178.desc).map (fun d => d.parameters.length) = some 2 := by decide +kernel
theorem dJ0_length_8abf5_0 : decode cJ0_length_8abf5 0 = .ok (.aload_n 0, 1) := by decide +kernel
theorem dJ0_length_8abf5_1 : decode cJ0_length_8abf5 1 = .ok (.getfield 9, 3) := by decide +kernel
theorem dJ0_length_8abf5_4 : decode cJ0_length_8abf5 4 = .ok (.arraylength, 1) := by decide +kernel
theorem dJ0_length_8abf5_5 : decode cJ0_length_8abf5 5 = .ok (.aload_n 0, 1) := by decide +kernel
theorem dJ0_length_8abf5_6 : decode cJ0_length_8abf5 6 = .ok (.invokevirtual 335, 3) := by decide +kernel
theorem dJ0_length_8abf5_9 : decode cJ0_length_8abf5 9 = .ok (.ishr, 1) := by decide +kernel
theorem dJ0_length_8abf5_10 : decode cJ0_length_8abf5 10 = .ok (.ireturn, 1) := by decide +kernel
theorem dJ0_charAt_5068e_0 : decode cJ0_charAt_5068e 0 = .ok (.aload_n 0, 1) := by decide +kernel
theorem dJ0_charAt_5068e_1 : decode cJ0_charAt_5068e 1 = .ok (.invokevirtual 492, 3) := by decide +kernel
theorem dJ0_charAt_5068e_4 : decode cJ0_charAt_5068e 4 = .ok (.ifCond .eq 12, 3) := by decide +kernel
theorem dJ0_charAt_5068e_7 : decode cJ0_charAt_5068e 7 = .ok (.aload_n 0, 1) := by decide +kernel
theorem dJ0_charAt_5068e_8 : decode cJ0_charAt_5068e 8 = .ok (.getfield 9, 3) := by decide +kernel
theorem dJ0_charAt_5068e_11 : decode cJ0_charAt_5068e 11 = .ok (.iload_n 1, 1) := by decide +kernel
theorem dJ0_charAt_5068e_12 : decode cJ0_charAt_5068e 12 = .ok (.invokestatic 495, 3) := by decide +kernel
theorem dJ0_charAt_5068e_15 : decode cJ0_charAt_5068e 15 = .ok (.ireturn, 1) := by decide +kernel
theorem dJ0_charAt_5068e_16 : decode cJ0_charAt_5068e 16 = .ok (.aload_n 0, 1) := by decide +kernel
theorem dJ0_charAt_5068e_17 : decode cJ0_charAt_5068e 17 = .ok (.getfield 9, 3) := by decide +kernel
theorem dJ0_charAt_5068e_20 : decode cJ0_charAt_5068e 20 = .ok (.iload_n 1, 1) := by decide +kernel
theorem dJ0_charAt_5068e_21 : decode cJ0_charAt_5068e 21 = .ok (.invokestatic 498, 3) := by decide +kernel
theorem dJ0_charAt_5068e_24 : decode cJ0_charAt_5068e 24 = .ok (.ireturn, 1) := by decide +kernel
theorem dJ0_coder_7d493_0 : decode cJ0_coder_7d493 0 = .ok (.getstatic 38, 3) := by decide +kernel
theorem dJ0_coder_7d493_3 : decode cJ0_coder_7d493 3 = .ok (.ifCond .eq 10, 3) := by decide +kernel
theorem dJ0_coder_7d493_6 : decode cJ0_coder_7d493 6 = .ok (.aload_n 0, 1) := by decide +kernel
theorem dJ0_coder_7d493_7 : decode cJ0_coder_7d493 7 = .ok (.getfield 15, 3) := by decide +kernel
theorem dJ0_coder_7d493_10 : decode cJ0_coder_7d493 10 = .ok (.goto 4, 3) := by decide +kernel
theorem dJ0_coder_7d493_13 : decode cJ0_coder_7d493 13 = .ok (.iconst 1, 1) := by decide +kernel
theorem dJ0_coder_7d493_14 : decode cJ0_coder_7d493 14 = .ok (.ireturn, 1) := by decide +kernel
theorem dJ0_isLatin1_aae02_0 : decode cJ0_isLatin1_aae02 0 = .ok (.getstatic 38, 3) := by decide +kernel
theorem dJ0_isLatin1_aae02_3 : decode cJ0_isLatin1_aae02 3 = .ok (.ifCond .eq 14, 3) := by decide +kernel
theorem dJ0_isLatin1_aae02_6 : decode cJ0_isLatin1_aae02 6 = .ok (.aload_n 0, 1) := by decide +kernel
theorem dJ0_isLatin1_aae02_7 : decode cJ0_isLatin1_aae02 7 = .ok (.getfield 15, 3) := by decide +kernel
theorem dJ0_isLatin1_aae02_10 : decode cJ0_isLatin1_aae02 10 = .ok (.ifCond .ne 7, 3) := by decide +kernel
theorem dJ0_isLatin1_aae02_13 : decode cJ0_isLatin1_aae02 13 = .ok (.iconst 1, 1) := by decide +kernel
theorem dJ0_isLatin1_aae02_14 : decode cJ0_isLatin1_aae02 14 = .ok (.goto 4, 3) := by decide +kernel
theorem dJ0_isLatin1_aae02_17 : decode cJ0_isLatin1_aae02 17 = .ok (.iconst 0, 1) := by decide +kernel
theorem dJ0_isLatin1_aae02_18 : decode cJ0_isLatin1_aae02 18 = .ok (.ireturn, 1) := by decide +kernel
theorem dJ0_checkIndex_df160_0 : decode cJ0_checkIndex_df160 0 = .ok (.iload_n 0, 1) := by decide +kernel
theorem dJ0_checkIndex_df160_1 : decode cJ0_checkIndex_df160 1 = .ok (.iload_n 1, 1) := by decide +kernel
theorem dJ0_checkIndex_df160_2 : decode cJ0_checkIndex_df160 2 = .ok (.getstatic 1053, 3) := by decide +kernel
theorem dJ0_checkIndex_df160_5 : decode cJ0_checkIndex_df160 5 = .ok (.invokestatic 1059, 3) := by decide +kernel
theorem dJ0_checkIndex_df160_8 : decode cJ0_checkIndex_df160 8 = .ok (.pop, 1) := by decide +kernel
theorem dJ0_checkIndex_df160_9 : decode cJ0_checkIndex_df160 9 = .ok (.return_, 1) := by decide +kernel
theorem md_J0_length_8abf5 : yJ0_length_8abf5.cls ≠ "java/lang/invoke/MethodHandle" ∧ yJ0_length_8abf5.cls ≠ "java/lang/invoke/VarHandle" ∧ (parseMethodDescriptor yJ0_length_8abf5.desc).map (fun d => d.parameters.length) = some 0 := by decide +kernel
theorem md_J0_charAt_5068e : yJ0_charAt_5068e.cls ≠ "java/lang/invoke/MethodHandle" ∧ yJ0_charAt_5068e.cls ≠ "java/lang/invoke/VarHandle" ∧ (parseMethodDescriptor yJ0_charAt_5068e.desc).map (fun d => d.parameters.length) = some 1 := by decide +kernel
theorem md_J0_coder_7d493 : yJ0_coder_7d493.cls ≠ "java/lang/invoke/MethodHandle" ∧ yJ0_coder_7d493.cls ≠ "java/lang/invoke/VarHandle" ∧ (parseMethodDescriptor yJ0_coder_7d493.desc).map (fun d => d.parameters.length) = some 0 := by decide +kernel
theorem md_J0_isLatin1_aae02 : yJ0_isLatin1_aae02.cls ≠ "java/lang/invoke/MethodHandle" ∧ yJ0_isLatin1_aae02.cls ≠ "java/lang/invoke/VarHandle" ∧ (parseMethodDescriptor yJ0_isLatin1_aae02.desc).map (fun d => d.parameters.length) = some 0 := by decide +kernel
theorem md_J0_checkIndex_df160 : yJ0_checkIndex_df160.cls ≠ "java/lang/invoke/MethodHandle" ∧ yJ0_checkIndex_df160.cls ≠ "java/lang/invoke/VarHandle" ∧ (parseMethodDescriptor yJ0_checkIndex_df160.desc).map (fun d => d.parameters.length) = some 2 := by decide +kernel
theorem dJ1_charAt_3b067_0 : decode cJ1_charAt_3b067 0 = .ok (.iload_n 1, 1) := by decide +kernel
theorem dJ1_charAt_3b067_1 : decode cJ1_charAt_3b067 1 = .ok (.aload_n 0, 1) := by decide +kernel
theorem dJ1_charAt_3b067_2 : decode cJ1_charAt_3b067 2 = .ok (.arraylength, 1) := by decide +kernel
theorem dJ1_charAt_3b067_3 : decode cJ1_charAt_3b067 3 = .ok (.invokestatic 9, 3) := by decide +kernel
theorem dJ1_charAt_3b067_6 : decode cJ1_charAt_3b067 6 = .ok (.aload_n 0, 1) := by decide +kernel
theorem dJ1_charAt_3b067_7 : decode cJ1_charAt_3b067 7 = .ok (.iload_n 1, 1) := by decide +kernel
theorem dJ1_charAt_3b067_8 : decode cJ1_charAt_3b067 8 = .ok (.baload, 1) := by decide +kernel
theorem dJ1_charAt_3b067_9 : decode cJ1_charAt_3b067 9 = .ok (.sipush 255, 3) := by decide +kernel
theorem dJ1_charAt_3b067_12 : decode cJ1_charAt_3b067 12 = .ok (.iand, 1) := by decide +kernel
theorem dJ1_charAt_3b067_13 : decode cJ1_charAt_3b067 13 = .ok (.i2c, 1) := by decide +kernel
theorem dJ1_charAt_3b067_14 : decode cJ1_charAt_3b067 14 = .ok (.ireturn, 1) := by decide +kernel
theorem md_J1_charAt_3b067 : yJ1_charAt_3b067.cls ≠ "java/lang/invoke/MethodHandle" ∧ yJ1_charAt_3b067.cls ≠ "java/lang/invoke/VarHandle" ∧ (parseMethodDescriptor yJ1_charAt_3b067.desc).map (fun d => d.parameters.length) = some 2 := by decide +kernel
theorem dJ3_checkIndex_8e157_0 : decode cJ3_checkIndex_8e157 0 = .ok (.iload_n 0, 1) := by decide +kernel
theorem dJ3_checkIndex_8e157_1 : decode cJ3_checkIndex_8e157 1 = .ok (.ifCond .lt 8, 3) := by decide +kernel
theorem dJ3_checkIndex_8e157_4 : decode cJ3_checkIndex_8e157 4 = .ok (.iload_n 0, 1) := by decide +kernel
theorem dJ3_checkIndex_8e157_5 : decode cJ3_checkIndex_8e157 5 = .ok (.iload_n 1, 1) := by decide +kernel
theorem dJ3_checkIndex_8e157_6 : decode cJ3_checkIndex_8e157 6 = .ok (.if_icmp .lt 10, 3) := by decide +kernel
theorem dJ3_checkIndex_8e157_9 : decode cJ3_checkIndex_8e157 9 = .ok (.aload_n 2, 1) := by decide +kernel
theorem dJ3_checkIndex_8e157_10 : decode cJ3_checkIndex_8e157 10 = .ok (.iload_n 0, 1) := by decide +kernel
theorem dJ3_checkIndex_8e157_11 : decode cJ3_checkIndex_8e157 11 = .ok (.iload_n 1, 1) := by decide +kernel
theorem dJ3_checkIndex_8e157_12 : decode cJ3_checkIndex_8e157 12 = .ok (.invokestatic 95, 3) := by decide +kernel
theorem dJ3_checkIndex_8e157_15 : decode cJ3_checkIndex_8e157 15 = .ok (.athrow, 1) := by decide +kernel
theorem dJ3_checkIndex_8e157_16 : decode cJ3_checkIndex_8e157 16 = .ok (.iload_n 0, 1) := by decide +kernel
theorem dJ3_checkIndex_8e157_17 : decode cJ3_checkIndex_8e157 17 = .ok (.ireturn, 1) := by decide +kernel
theorem md_J3_checkIndex_8e157 : yJ3_checkIndex_8e157.cls ≠ "java/lang/invoke/MethodHandle" ∧ yJ3_checkIndex_8e157.cls ≠ "java/lang/invoke/VarHandle" ∧ (parseMethodDescriptor yJ3_checkIndex_8e157.desc).map (fun d => d.parameters.length) = some 3 := by decide +kernel
