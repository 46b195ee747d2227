theorem dX10_within_0 : decode cX10_within 0 = .ok (.lload_n 0, 1) := by decide +kernel
theorem dX10_within_1 : decode cX10_within 1 = .ok (.lload_n 2, 1) := by decide +kernel
theorem dX10_within_2 : decode cX10_within 2 = .ok (.lcmp, 1) := by decide +kernel
theorem dX10_within_3 : decode cX10_within 3 = .ok (.ifCond .lt 14, 3) := by decide +kernel
theorem dX10_within_6 : decode cX10_within 6 = .ok (.lload_n 0, 1) := by decide +kernel
theorem dX10_within_7 : decode cX10_within 7 = .ok (.lload 4, 2) := by decide +kernel
theorem dX10_within_9 : decode cX10_within 9 = .ok (.lcmp, 1) := by decide +kernel
theorem dX10_within_10 : decode cX10_within 10 = .ok (.ifCond .gt 7, 3) := by decide +kernel
theorem dX10_within_13 : decode cX10_within 13 = .ok (.iconst 1, 1) := by decide +kernel
theorem dX10_within_14 : decode cX10_within 14 = .ok (.goto 4, 3) := by decide +kernel
theorem dX10_within_17 : decode cX10_within 17 = .ok (.iconst 0, 1) := by decide +kernel
theorem dX10_within_18 : decode cX10_within 18 = .ok (.ireturn, 1) := by decide +kernel
theorem dX10_init_0 : decode cX10_init 0 = .ok (.aload_n 0, 1) := by decide +kernel
theorem dX10_init_1 : decode cX10_init 1 = .ok (.invokespecial 7, 3) := by decide +kernel
theorem dX10_init_4 : decode cX10_init 4 = .ok (.aload_n 0, 1) := by decide +kernel
theorem dX10_init_5 : decode cX10_init 5 = .ok (.sipush 486, 3) := by decide +kernel
theorem dX10_init_8 : decode cX10_init 8 = .ok (.newarray .int, 2) := by decide +kernel
theorem dX10_init_10 : decode cX10_init 10 = .ok (.putfield 13, 3) := by decide +kernel
theorem dX10_init_13 : decode cX10_init 13 = .ok (.aload_n 0, 1) := by decide +kernel
theorem dX10_init_14 : decode cX10_init 14 = .ok (.iconst 2, 1) := by decide +kernel
theorem dX10_init_15 : decode cX10_init 15 = .ok (.newarray .boolean, 2) := by decide +kernel
theorem dX10_init_17 : decode cX10_init 17 = .ok (.putfield 17, 3) := by decide +kernel
theorem dX10_init_20 : decode cX10_init 20 = .ok (.aload_n 0, 1) := by decide +kernel
theorem dX10_init_21 : decode cX10_init 21 = .ok (.sipush 900, 3) := by decide +kernel
theorem dX10_init_24 : decode cX10_init 24 = .ok (.newarray .int, 2) := by decide +kernel
theorem dX10_init_26 : decode cX10_init 26 = .ok (.putfield 21, 3) := by decide +kernel
theorem dX10_init_29 : decode cX10_init 29 = .ok (.aload_n 0, 1) := by decide +kernel
theorem dX10_init_30 : decode cX10_init 30 = .ok (.sipush 162, 3) := by decide +kernel
theorem dX10_init_33 : decode cX10_init 33 = .ok (.newarray .int, 2) := by decide +kernel
theorem dX10_init_35 : decode cX10_init 35 = .ok (.putfield 24, 3) := by decide +kernel
theorem dX10_init_38 : decode cX10_init 38 = .ok (.aload_n 0, 1) := by decide +kernel
theorem dX10_init_39 : decode cX10_init 39 = .ok (.iconst (-1), 1) := by decide +kernel
theorem dX10_init_40 : decode cX10_init 40 = .ok (.putfield 27, 3) := by decide +kernel
theorem dX10_init_43 : decode cX10_init 43 = .ok (.aload_n 0, 1) := by decide +kernel
theorem dX10_init_44 : decode cX10_init 44 = .ok (.bipush 48, 2) := by decide +kernel
theorem dX10_init_46 : decode cX10_init 46 = .ok (.newarray .int, 2) := by decide +kernel
theorem dX10_init_48 : decode cX10_init 48 = .ok (.putfield 30, 3) := by decide +kernel
theorem dX10_init_51 : decode cX10_init 51 = .ok (.aload_n 0, 1) := by decide +kernel
theorem dX10_init_52 : decode cX10_init 52 = .ok (.bipush 48, 2) := by decide +kernel
theorem dX10_init_54 : decode cX10_init 54 = .ok (.newarray .int, 2) := by decide +kernel
theorem dX10_init_56 : decode cX10_init 56 = .ok (.putfield 33, 3) := by decide +kernel
theorem dX10_init_59 : decode cX10_init 59 = .ok (.aload_n 0, 1) := by decide +kernel
theorem dX10_init_60 : decode cX10_init 60 = .ok (.sipush 7128, 3) := by decide +kernel
theorem dX10_init_63 : decode cX10_init 63 = .ok (.newarray .int, 2) := by decide +kernel
theorem dX10_init_65 : decode cX10_init 65 = .ok (.putfield 36, 3) := by decide +kernel
theorem dX10_init_68 : decode cX10_init 68 = .ok (.aload_n 0, 1) := by decide +kernel
theorem dX10_init_69 : decode cX10_init 69 = .ok (.sipush 132, 3) := by decide +kernel
theorem dX10_init_72 : decode cX10_init 72 = .ok (.newarray .int, 2) := by decide +kernel
theorem dX10_init_74 : decode cX10_init 74 = .ok (.putfield 39, 3) := by decide +kernel
theorem dX10_init_77 : decode cX10_init 77 = .ok (.aload_n 0, 1) := by decide +kernel
theorem dX10_init_78 : decode cX10_init 78 = .ok (.bipush 48, 2) := by decide +kernel
theorem dX10_init_80 : decode cX10_init 80 = .ok (.newarray .boolean, 2) := by decide +kernel
theorem dX10_init_82 : decode cX10_init 82 = .ok (.putfield 42, 3) := by decide +kernel
theorem dX10_init_85 : decode cX10_init 85 = .ok (.aload_n 0, 1) := by decide +kernel
theorem dX10_init_86 : decode cX10_init 86 = .ok (.sipush 162, 3) := by decide +kernel
theorem dX10_init_89 : decode cX10_init 89 = .ok (.newarray .int, 2) := by decide +kernel
theorem dX10_init_91 : decode cX10_init 91 = .ok (.putfield 45, 3) := by decide +kernel
theorem dX10_init_94 : decode cX10_init 94 = .ok (.aload_n 0, 1) := by decide +kernel
theorem dX10_init_95 : decode cX10_init 95 = .ok (.bipush 45, 2) := by decide +kernel
theorem dX10_init_97 : decode cX10_init 97 = .ok (.newarray .int, 2) := by decide +kernel
theorem dX10_init_99 : decode cX10_init 99 = .ok (.putfield 48, 3) := by decide +kernel
theorem dX10_init_102 : decode cX10_init 102 = .ok (.aload_n 0, 1) := by decide +kernel
theorem dX10_init_103 : decode cX10_init 103 = .ok (.iconst 5, 1) := by decide +kernel
theorem dX10_init_104 : decode cX10_init 104 = .ok (.newarray .int, 2) := by decide +kernel
theorem dX10_init_106 : decode cX10_init 106 = .ok (.putfield 51, 3) := by decide +kernel
theorem dX10_init_109 : decode cX10_init 109 = .ok (.aload_n 0, 1) := by decide +kernel
theorem dX10_init_110 : decode cX10_init 110 = .ok (.iconst 5, 1) := by decide +kernel
theorem dX10_init_111 : decode cX10_init 111 = .ok (.newarray .int, 2) := by decide +kernel
theorem dX10_init_113 : decode cX10_init 113 = .ok (.putfield 54, 3) := by decide +kernel
theorem dX10_init_116 : decode cX10_init 116 = .ok (.aload_n 0, 1) := by decide +kernel
theorem dX10_init_117 : decode cX10_init 117 = .ok (.iconst 5, 1) := by decide +kernel
theorem dX10_init_118 : decode cX10_init 118 = .ok (.newarray .int, 2) := by decide +kernel
theorem dX10_init_120 : decode cX10_init 120 = .ok (.putfield 57, 3) := by decide +kernel
theorem dX10_init_123 : decode cX10_init 123 = .ok (.aload_n 0, 1) := by decide +kernel
theorem dX10_init_124 : decode cX10_init 124 = .ok (.iconst 5, 1) := by decide +kernel
theorem dX10_init_125 : decode cX10_init 125 = .ok (.newarray .int, 2) := by decide +kernel
theorem dX10_init_127 : decode cX10_init 127 = .ok (.putfield 60, 3) := by decide +kernel
theorem dX10_init_130 : decode cX10_init 130 = .ok (.aload_n 0, 1) := by decide +kernel
theorem dX10_init_131 : decode cX10_init 131 = .ok (.sipush 14400, 3) := by decide +kernel
theorem dX10_init_134 : decode cX10_init 134 = .ok (.newarray .boolean, 2) := by decide +kernel
theorem dX10_init_136 : decode cX10_init 136 = .ok (.putfield 63, 3) := by decide +kernel
theorem dX10_init_139 : decode cX10_init 139 = .ok (.aload_n 0, 1) := by decide +kernel
theorem dX10_init_140 : decode cX10_init 140 = .ok (.sipush 3000, 3) := by decide +kernel
theorem dX10_init_143 : decode cX10_init 143 = .ok (.newarray .int, 2) := by decide +kernel
theorem dX10_init_145 : decode cX10_init 145 = .ok (.putfield 66, 3) := by decide +kernel
theorem dX10_init_148 : decode cX10_init 148 = .ok (.aload_n 0, 1) := by decide +kernel
theorem dX10_init_149 : decode cX10_init 149 = .ok (.bipush 24, 2) := by decide +kernel
theorem dX10_init_151 : decode cX10_init 151 = .ok (.newarray .int, 2) := by decide +kernel
theorem dX10_init_153 : decode cX10_init 153 = .ok (.putfield 69, 3) := by decide +kernel
theorem dX10_init_156 : decode cX10_init 156 = .ok (.aload_n 0, 1) := by decide +kernel
theorem dX10_init_157 : decode cX10_init 157 = .ok (.sipush 1000, 3) := by decide +kernel
theorem dX10_init_160 : decode cX10_init 160 = .ok (.newarray .boolean, 2) := by decide +kernel
theorem dX10_init_162 : decode cX10_init 162 = .ok (.putfield 72, 3) := by decide +kernel
theorem dX10_init_165 : decode cX10_init 165 = .ok (.aload_n 0, 1) := by decide +kernel
theorem dX10_init_166 : decode cX10_init 166 = .ok (.iconst 4, 1) := by decide +kernel
theorem dX10_init_167 : decode cX10_init 167 = .ok (.newarray .int, 2) := by decide +kernel
theorem dX10_init_169 : decode cX10_init 169 = .ok (.dup, 1) := by decide +kernel
theorem dX10_init_170 : decode cX10_init 170 = .ok (.iconst 0, 1) := by decide +kernel
theorem dX10_init_171 : decode cX10_init 171 = .ok (.iconst (-1), 1) := by decide +kernel
theorem dX10_init_172 : decode cX10_init 172 = .ok (.iastore, 1) := by decide +kernel
theorem dX10_init_173 : decode cX10_init 173 = .ok (.dup, 1) := by decide +kernel
theorem dX10_init_174 : decode cX10_init 174 = .ok (.iconst 1, 1) := by decide +kernel
theorem dX10_init_175 : decode cX10_init 175 = .ok (.iconst (-1), 1) := by decide +kernel
theorem dX10_init_176 : decode cX10_init 176 = .ok (.iastore, 1) := by decide +kernel
theorem dX10_init_177 : decode cX10_init 177 = .ok (.dup, 1) := by decide +kernel
theorem dX10_init_178 : decode cX10_init 178 = .ok (.iconst 2, 1) := by decide +kernel
theorem dX10_init_179 : decode cX10_init 179 = .ok (.iconst (-1), 1) := by decide +kernel
theorem dX10_init_180 : decode cX10_init 180 = .ok (.iastore, 1) := by decide +kernel
theorem dX10_init_181 : decode cX10_init 181 = .ok (.dup, 1) := by decide +kernel
theorem dX10_init_182 : decode cX10_init 182 = .ok (.iconst 3, 1) := by decide +kernel
theorem dX10_init_183 : decode cX10_init 183 = .ok (.iconst (-1), 1) := by decide +kernel
theorem dX10_init_184 : decode cX10_init 184 = .ok (.iastore, 1) := by decide +kernel
theorem dX10_init_185 : decode cX10_init 185 = .ok (.putfield 75, 3) := by decide +kernel
theorem dX10_init_188 : decode cX10_init 188 = .ok (.aload_n 0, 1) := by decide +kernel
theorem dX10_init_189 : decode cX10_init 189 = .ok (.iconst 4, 1) := by decide +kernel
theorem dX10_init_190 : decode cX10_init 190 = .ok (.newarray .int, 2) := by decide +kernel
theorem dX10_init_192 : decode cX10_init 192 = .ok (.putfield 78, 3) := by decide +kernel
theorem dX10_init_195 : decode cX10_init 195 = .ok (.aload_n 0, 1) := by decide +kernel
theorem dX10_init_196 : decode cX10_init 196 = .ok (.sipush 160, 3) := by decide +kernel
theorem dX10_init_199 : decode cX10_init 199 = .ok (.newarray .long, 2) := by decide +kernel
theorem dX10_init_201 : decode cX10_init 201 = .ok (.putfield 81, 3) := by decide +kernel
theorem dX10_init_204 : decode cX10_init 204 = .ok (.aload_n 0, 1) := by decide +kernel
theorem dX10_init_205 : decode cX10_init 205 = .ok (.getfield 13, 3) := by decide +kernel
theorem dX10_init_208 : decode cX10_init 208 = .ok (.invokestatic 85, 3) := by decide +kernel
theorem dX10_init_211 : decode cX10_init 211 = .ok (.return_, 1) := by decide +kernel
theorem dX10_plain_0 : decode cX10_plain 0 = .ok (.iconst 0, 1) := by decide +kernel
theorem dX10_plain_1 : decode cX10_plain 1 = .ok (.istore_n 1, 1) := by decide +kernel
theorem dX10_plain_2 : decode cX10_plain 2 = .ok (.iload_n 1, 1) := by decide +kernel
theorem dX10_plain_3 : decode cX10_plain 3 = .ok (.sipush 162, 3) := by decide +kernel
theorem dX10_plain_6 : decode cX10_plain 6 = .ok (.if_icmp .ge 13, 3) := by decide +kernel
theorem dX10_plain_9 : decode cX10_plain 9 = .ok (.aload_n 0, 1) := by decide +kernel
theorem dX10_plain_10 : decode cX10_plain 10 = .ok (.iload_n 1, 1) := by decide +kernel
theorem dX10_plain_11 : decode cX10_plain 11 = .ok (.iconst 0, 1) := by decide +kernel
theorem dX10_plain_12 : decode cX10_plain 12 = .ok (.iastore, 1) := by decide +kernel
theorem dX10_plain_13 : decode cX10_plain 13 = .ok (.iinc 1 1, 3) := by decide +kernel
theorem dX10_plain_16 : decode cX10_plain 16 = .ok (.goto (-14), 3) := by decide +kernel
theorem dX10_plain_19 : decode cX10_plain 19 = .ok (.aload_n 0, 1) := by decide +kernel
theorem dX10_plain_20 : decode cX10_plain 20 = .ok (.iconst 2, 1) := by decide +kernel
theorem dX10_plain_21 : decode cX10_plain 21 = .ok (.bipush 6, 2) := by decide +kernel
theorem dX10_plain_23 : decode cX10_plain 23 = .ok (.iastore, 1) := by decide +kernel
theorem dX10_plain_24 : decode cX10_plain 24 = .ok (.aload_n 0, 1) := by decide +kernel
theorem dX10_plain_25 : decode cX10_plain 25 = .ok (.iconst 3, 1) := by decide +kernel
theorem dX10_plain_26 : decode cX10_plain 26 = .ok (.iconst 2, 1) := by decide +kernel
theorem dX10_plain_27 : decode cX10_plain 27 = .ok (.iastore, 1) := by decide +kernel
theorem dX10_plain_28 : decode cX10_plain 28 = .ok (.aload_n 0, 1) := by decide +kernel
theorem dX10_plain_29 : decode cX10_plain 29 = .ok (.iconst 4, 1) := by decide +kernel
theorem dX10_plain_30 : decode cX10_plain 30 = .ok (.iconst 5, 1) := by decide +kernel
theorem dX10_plain_31 : decode cX10_plain 31 = .ok (.iastore, 1) := by decide +kernel
theorem dX10_plain_32 : decode cX10_plain 32 = .ok (.return_, 1) := by decide +kernel
theorem dX10_feed_0 : decode cX10_feed 0 = .ok (.aload_n 0, 1) := by decide +kernel
theorem dX10_feed_1 : decode cX10_feed 1 = .ok (.iconst 0, 1) := by decide +kernel
theorem dX10_feed_2 : decode cX10_feed 2 = .ok (.putfield 1, 3) := by decide +kernel
theorem dX10_feed_5 : decode cX10_feed 5 = .ok (.aload_n 0, 1) := by decide +kernel
theorem dX10_feed_6 : decode cX10_feed 6 = .ok (.getfield 89, 3) := by decide +kernel
theorem dX10_feed_9 : decode cX10_feed 9 = .ok (.bipush 20, 2) := by decide +kernel
theorem dX10_feed_11 : decode cX10_feed 11 = .ok (.iadd, 1) := by decide +kernel
theorem dX10_feed_12 : decode cX10_feed 12 = .ok (.sipush 900, 3) := by decide +kernel
theorem dX10_feed_15 : decode cX10_feed 15 = .ok (.if_icmp .le 6, 3) := by decide +kernel
theorem dX10_feed_18 : decode cX10_feed 18 = .ok (.bipush (-5), 2) := by decide +kernel
theorem dX10_feed_20 : decode cX10_feed 20 = .ok (.ireturn, 1) := by decide +kernel
theorem dX10_feed_21 : decode cX10_feed 21 = .ok (.iconst 0, 1) := by decide +kernel
theorem dX10_feed_22 : decode cX10_feed 22 = .ok (.istore 6, 2) := by decide +kernel
theorem dX10_feed_24 : decode cX10_feed 24 = .ok (.iload 6, 2) := by decide +kernel
theorem dX10_feed_26 : decode cX10_feed 26 = .ok (.bipush 20, 2) := by decide +kernel
theorem dX10_feed_28 : decode cX10_feed 28 = .ok (.if_icmp .ge 93, 3) := by decide +kernel
theorem dX10_feed_31 : decode cX10_feed 31 = .ok (.iload 6, 2) := by decide +kernel
theorem dX10_feed_33 : decode cX10_feed 33 = .ok (.iconst 4, 1) := by decide +kernel
theorem dX10_feed_34 : decode cX10_feed 34 = .ok (.if_icmp .ge 7, 3) := by decide +kernel
theorem dX10_feed_37 : decode cX10_feed 37 = .ok (.iload_n 1, 1) := by decide +kernel
theorem dX10_feed_38 : decode cX10_feed 38 = .ok (.goto 39, 3) := by decide +kernel
theorem dX10_feed_41 : decode cX10_feed 41 = .ok (.iload 6, 2) := by decide +kernel
theorem dX10_feed_43 : decode cX10_feed 43 = .ok (.bipush 8, 2) := by decide +kernel
theorem dX10_feed_45 : decode cX10_feed 45 = .ok (.if_icmp .ge 7, 3) := by decide +kernel
theorem dX10_feed_48 : decode cX10_feed 48 = .ok (.iload_n 2, 1) := by decide +kernel
theorem dX10_feed_49 : decode cX10_feed 49 = .ok (.goto 28, 3) := by decide +kernel
theorem dX10_feed_52 : decode cX10_feed 52 = .ok (.iload 6, 2) := by decide +kernel
theorem dX10_feed_54 : decode cX10_feed 54 = .ok (.bipush 12, 2) := by decide +kernel
theorem dX10_feed_56 : decode cX10_feed 56 = .ok (.if_icmp .ge 7, 3) := by decide +kernel
theorem dX10_feed_59 : decode cX10_feed 59 = .ok (.iload_n 3, 1) := by decide +kernel
theorem dX10_feed_60 : decode cX10_feed 60 = .ok (.goto 17, 3) := by decide +kernel
theorem dX10_feed_63 : decode cX10_feed 63 = .ok (.iload 6, 2) := by decide +kernel
theorem dX10_feed_65 : decode cX10_feed 65 = .ok (.bipush 16, 2) := by decide +kernel
theorem dX10_feed_67 : decode cX10_feed 67 = .ok (.if_icmp .ge 8, 3) := by decide +kernel
theorem dX10_feed_70 : decode cX10_feed 70 = .ok (.iload 4, 2) := by decide +kernel
theorem dX10_feed_72 : decode cX10_feed 72 = .ok (.goto 5, 3) := by decide +kernel
theorem dX10_feed_75 : decode cX10_feed 75 = .ok (.iload 5, 2) := by decide +kernel
theorem dX10_feed_77 : decode cX10_feed 77 = .ok (.istore 7, 2) := by decide +kernel
theorem dX10_feed_79 : decode cX10_feed 79 = .ok (.aload_n 0, 1) := by decide +kernel
theorem dX10_feed_80 : decode cX10_feed 80 = .ok (.getfield 21, 3) := by decide +kernel
theorem dX10_feed_83 : decode cX10_feed 83 = .ok (.aload_n 0, 1) := by decide +kernel
theorem dX10_feed_84 : decode cX10_feed 84 = .ok (.getfield 89, 3) := by decide +kernel
theorem dX10_feed_87 : decode cX10_feed 87 = .ok (.iload 7, 2) := by decide +kernel
theorem dX10_feed_89 : decode cX10_feed 89 = .ok (.bipush 24, 2) := by decide +kernel
theorem dX10_feed_91 : decode cX10_feed 91 = .ok (.bipush 8, 2) := by decide +kernel
theorem dX10_feed_93 : decode cX10_feed 93 = .ok (.iload 6, 2) := by decide +kernel
theorem dX10_feed_95 : decode cX10_feed 95 = .ok (.iconst 4, 1) := by decide +kernel
theorem dX10_feed_96 : decode cX10_feed 96 = .ok (.irem, 1) := by decide +kernel
theorem dX10_feed_97 : decode cX10_feed 97 = .ok (.imul, 1) := by decide +kernel
theorem dX10_feed_98 : decode cX10_feed 98 = .ok (.isub, 1) := by decide +kernel
theorem dX10_feed_99 : decode cX10_feed 99 = .ok (.ishr, 1) := by decide +kernel
theorem dX10_feed_100 : decode cX10_feed 100 = .ok (.sipush 255, 3) := by decide +kernel
theorem dX10_feed_103 : decode cX10_feed 103 = .ok (.iand, 1) := by decide +kernel
theorem dX10_feed_104 : decode cX10_feed 104 = .ok (.iastore, 1) := by decide +kernel
theorem dX10_feed_105 : decode cX10_feed 105 = .ok (.aload_n 0, 1) := by decide +kernel
theorem dX10_feed_106 : decode cX10_feed 106 = .ok (.dup, 1) := by decide +kernel
theorem dX10_feed_107 : decode cX10_feed 107 = .ok (.getfield 89, 3) := by decide +kernel
theorem dX10_feed_110 : decode cX10_feed 110 = .ok (.iconst 1, 1) := by decide +kernel
theorem dX10_feed_111 : decode cX10_feed 111 = .ok (.iadd, 1) := by decide +kernel
theorem dX10_feed_112 : decode cX10_feed 112 = .ok (.putfield 89, 3) := by decide +kernel
theorem dX10_feed_115 : decode cX10_feed 115 = .ok (.iinc 6 1, 3) := by decide +kernel
theorem dX10_feed_118 : decode cX10_feed 118 = .ok (.goto (-94), 3) := by decide +kernel
theorem dX10_feed_121 : decode cX10_feed 121 = .ok (.aload_n 0, 1) := by decide +kernel
theorem dX10_feed_122 : decode cX10_feed 122 = .ok (.getfield 89, 3) := by decide +kernel
theorem dX10_feed_125 : decode cX10_feed 125 = .ok (.ireturn, 1) := by decide +kernel
theorem dX10_see_0 : decode cX10_see 0 = .ok (.iload_n 1, 1) := by decide +kernel
theorem dX10_see_1 : decode cX10_see 1 = .ok (.aload_n 0, 1) := by decide +kernel
theorem dX10_see_2 : decode cX10_see 2 = .ok (.getfield 92, 3) := by decide +kernel
theorem dX10_see_5 : decode cX10_see 5 = .ok (.if_icmp .ge 12, 3) := by decide +kernel
theorem dX10_see_8 : decode cX10_see 8 = .ok (.aload_n 0, 1) := by decide +kernel
theorem dX10_see_9 : decode cX10_see 9 = .ok (.getfield 21, 3) := by decide +kernel
theorem dX10_see_12 : decode cX10_see 12 = .ok (.iload_n 1, 1) := by decide +kernel
theorem dX10_see_13 : decode cX10_see 13 = .ok (.iaload, 1) := by decide +kernel
theorem dX10_see_14 : decode cX10_see 14 = .ok (.goto 4, 3) := by decide +kernel
theorem dX10_see_17 : decode cX10_see 17 = .ok (.iconst (-1), 1) := by decide +kernel
theorem dX10_see_18 : decode cX10_see 18 = .ok (.ireturn, 1) := by decide +kernel
theorem dX10_isSmall_0 : decode cX10_isSmall 0 = .ok (.iload_n 0, 1) := by decide +kernel
theorem dX10_isSmall_1 : decode cX10_isSmall 1 = .ok (.bipush 97, 2) := by decide +kernel
theorem dX10_isSmall_3 : decode cX10_isSmall 3 = .ok (.if_icmp .lt 13, 3) := by decide +kernel
theorem dX10_isSmall_6 : decode cX10_isSmall 6 = .ok (.iload_n 0, 1) := by decide +kernel
theorem dX10_isSmall_7 : decode cX10_isSmall 7 = .ok (.bipush 122, 2) := by decide +kernel
theorem dX10_isSmall_9 : decode cX10_isSmall 9 = .ok (.if_icmp .gt 7, 3) := by decide +kernel
theorem dX10_isSmall_12 : decode cX10_isSmall 12 = .ok (.iconst 1, 1) := by decide +kernel
theorem dX10_isSmall_13 : decode cX10_isSmall 13 = .ok (.goto 4, 3) := by decide +kernel
theorem dX10_isSmall_16 : decode cX10_isSmall 16 = .ok (.iconst 0, 1) := by decide +kernel
theorem dX10_isSmall_17 : decode cX10_isSmall 17 = .ok (.ireturn, 1) := by decide +kernel
theorem dX10_isDigit_0 : decode cX10_isDigit 0 = .ok (.iload_n 0, 1) := by decide +kernel
theorem dX10_isDigit_1 : decode cX10_isDigit 1 = .ok (.bipush 48, 2) := by decide +kernel
theorem dX10_isDigit_3 : decode cX10_isDigit 3 = .ok (.if_icmp .lt 13, 3) := by decide +kernel
theorem dX10_isDigit_6 : decode cX10_isDigit 6 = .ok (.iload_n 0, 1) := by decide +kernel
theorem dX10_isDigit_7 : decode cX10_isDigit 7 = .ok (.bipush 57, 2) := by decide +kernel
theorem dX10_isDigit_9 : decode cX10_isDigit 9 = .ok (.if_icmp .gt 7, 3) := by decide +kernel
theorem dX10_isDigit_12 : decode cX10_isDigit 12 = .ok (.iconst 1, 1) := by decide +kernel
theorem dX10_isDigit_13 : decode cX10_isDigit 13 = .ok (.goto 4, 3) := by decide +kernel
theorem dX10_isDigit_16 : decode cX10_isDigit 16 = .ok (.iconst 0, 1) := by decide +kernel
theorem dX10_isDigit_17 : decode cX10_isDigit 17 = .ok (.ireturn, 1) := by decide +kernel
theorem dX10_keyAt_0 : decode cX10_keyAt 0 = .ok (.iconst 0, 1) := by decide +kernel
theorem dX10_keyAt_1 : decode cX10_keyAt 1 = .ok (.istore_n 1, 1) := by decide +kernel
theorem dX10_keyAt_2 : decode cX10_keyAt 2 = .ok (.iconst 1, 1) := by decide +kernel
theorem dX10_keyAt_3 : decode cX10_keyAt 3 = .ok (.istore_n 2, 1) := by decide +kernel
theorem dX10_keyAt_4 : decode cX10_keyAt 4 = .ok (.iload_n 2, 1) := by decide +kernel
theorem dX10_keyAt_5 : decode cX10_keyAt 5 = .ok (.ldc 95, 2) := by decide +kernel
theorem dX10_keyAt_7 : decode cX10_keyAt 7 = .ok (.invokevirtual 97, 3) := by decide +kernel
theorem dX10_keyAt_10 : decode cX10_keyAt 10 = .ok (.if_icmp .ge 113, 3) := by decide +kernel
theorem dX10_keyAt_13 : decode cX10_keyAt 13 = .ok (.iconst 0, 1) := by decide +kernel
theorem dX10_keyAt_14 : decode cX10_keyAt 14 = .ok (.istore_n 3, 1) := by decide +kernel
theorem dX10_keyAt_15 : decode cX10_keyAt 15 = .ok (.ldc 95, 2) := by decide +kernel
theorem dX10_keyAt_17 : decode cX10_keyAt 17 = .ok (.iload_n 2, 1) := by decide +kernel
theorem dX10_keyAt_18 : decode cX10_keyAt 18 = .ok (.iload_n 3, 1) := by decide +kernel
theorem dX10_keyAt_19 : decode cX10_keyAt 19 = .ok (.iadd, 1) := by decide +kernel
theorem dX10_keyAt_20 : decode cX10_keyAt 20 = .ok (.invokevirtual 103, 3) := by decide +kernel
theorem dX10_keyAt_23 : decode cX10_keyAt 23 = .ok (.bipush 32, 2) := by decide +kernel
theorem dX10_keyAt_25 : decode cX10_keyAt 25 = .ok (.if_icmp .eq 44, 3) := by decide +kernel
theorem dX10_keyAt_28 : decode cX10_keyAt 28 = .ok (.aload_n 0, 1) := by decide +kernel
theorem dX10_keyAt_29 : decode cX10_keyAt 29 = .ok (.getfield 107, 3) := by decide +kernel
theorem dX10_keyAt_32 : decode cX10_keyAt 32 = .ok (.iload_n 3, 1) := by decide +kernel
theorem dX10_keyAt_33 : decode cX10_keyAt 33 = .ok (.iadd, 1) := by decide +kernel
theorem dX10_keyAt_34 : decode cX10_keyAt 34 = .ok (.aload_n 0, 1) := by decide +kernel
theorem dX10_keyAt_35 : decode cX10_keyAt 35 = .ok (.getfield 110, 3) := by decide +kernel
theorem dX10_keyAt_38 : decode cX10_keyAt 38 = .ok (.if_icmp .ge 31, 3) := by decide +kernel
theorem dX10_keyAt_41 : decode cX10_keyAt 41 = .ok (.aload_n 0, 1) := by decide +kernel
theorem dX10_keyAt_42 : decode cX10_keyAt 42 = .ok (.getfield 21, 3) := by decide +kernel
theorem dX10_keyAt_45 : decode cX10_keyAt 45 = .ok (.aload_n 0, 1) := by decide +kernel
theorem dX10_keyAt_46 : decode cX10_keyAt 46 = .ok (.getfield 107, 3) := by decide +kernel
theorem dX10_keyAt_49 : decode cX10_keyAt 49 = .ok (.iload_n 3, 1) := by decide +kernel
theorem dX10_keyAt_50 : decode cX10_keyAt 50 = .ok (.iadd, 1) := by decide +kernel
theorem dX10_keyAt_51 : decode cX10_keyAt 51 = .ok (.iaload, 1) := by decide +kernel
theorem dX10_keyAt_52 : decode cX10_keyAt 52 = .ok (.ldc 95, 2) := by decide +kernel
theorem dX10_keyAt_54 : decode cX10_keyAt 54 = .ok (.iload_n 2, 1) := by decide +kernel
theorem dX10_keyAt_55 : decode cX10_keyAt 55 = .ok (.iload_n 3, 1) := by decide +kernel
theorem dX10_keyAt_56 : decode cX10_keyAt 56 = .ok (.iadd, 1) := by decide +kernel
theorem dX10_keyAt_57 : decode cX10_keyAt 57 = .ok (.invokevirtual 103, 3) := by decide +kernel
theorem dX10_keyAt_60 : decode cX10_keyAt 60 = .ok (.if_icmp .ne 9, 3) := by decide +kernel
theorem dX10_keyAt_63 : decode cX10_keyAt 63 = .ok (.iinc 3 1, 3) := by decide +kernel
theorem dX10_keyAt_66 : decode cX10_keyAt 66 = .ok (.goto (-51), 3) := by decide +kernel
theorem dX10_keyAt_69 : decode cX10_keyAt 69 = .ok (.ldc 95, 2) := by decide +kernel
theorem dX10_keyAt_71 : decode cX10_keyAt 71 = .ok (.iload_n 2, 1) := by decide +kernel
theorem dX10_keyAt_72 : decode cX10_keyAt 72 = .ok (.iload_n 3, 1) := by decide +kernel
theorem dX10_keyAt_73 : decode cX10_keyAt 73 = .ok (.iadd, 1) := by decide +kernel
theorem dX10_keyAt_74 : decode cX10_keyAt 74 = .ok (.invokevirtual 103, 3) := by decide +kernel
theorem dX10_keyAt_77 : decode cX10_keyAt 77 = .ok (.bipush 32, 2) := by decide +kernel
theorem dX10_keyAt_79 : decode cX10_keyAt 79 = .ok (.if_icmp .ne 18, 3) := by decide +kernel
theorem dX10_keyAt_82 : decode cX10_keyAt 82 = .ok (.aload_n 0, 1) := by decide +kernel
theorem dX10_keyAt_83 : decode cX10_keyAt 83 = .ok (.getfield 107, 3) := by decide +kernel
theorem dX10_keyAt_86 : decode cX10_keyAt 86 = .ok (.iload_n 3, 1) := by decide +kernel
theorem dX10_keyAt_87 : decode cX10_keyAt 87 = .ok (.iadd, 1) := by decide +kernel
theorem dX10_keyAt_88 : decode cX10_keyAt 88 = .ok (.aload_n 0, 1) := by decide +kernel
theorem dX10_keyAt_89 : decode cX10_keyAt 89 = .ok (.getfield 110, 3) := by decide +kernel
theorem dX10_keyAt_92 : decode cX10_keyAt 92 = .ok (.if_icmp .ne 5, 3) := by decide +kernel
theorem dX10_keyAt_95 : decode cX10_keyAt 95 = .ok (.iload_n 1, 1) := by decide +kernel
theorem dX10_keyAt_96 : decode cX10_keyAt 96 = .ok (.ireturn, 1) := by decide +kernel
theorem dX10_keyAt_97 : decode cX10_keyAt 97 = .ok (.ldc 95, 2) := by decide +kernel
theorem dX10_keyAt_99 : decode cX10_keyAt 99 = .ok (.iload_n 2, 1) := by decide +kernel
theorem dX10_keyAt_100 : decode cX10_keyAt 100 = .ok (.invokevirtual 103, 3) := by decide +kernel
theorem dX10_keyAt_103 : decode cX10_keyAt 103 = .ok (.bipush 32, 2) := by decide +kernel
theorem dX10_keyAt_105 : decode cX10_keyAt 105 = .ok (.if_icmp .eq 9, 3) := by decide +kernel
theorem dX10_keyAt_108 : decode cX10_keyAt 108 = .ok (.iinc 2 1, 3) := by decide +kernel
theorem dX10_keyAt_111 : decode cX10_keyAt 111 = .ok (.goto (-14), 3) := by decide +kernel
theorem dX10_keyAt_114 : decode cX10_keyAt 114 = .ok (.iinc 2 1, 3) := by decide +kernel
theorem dX10_keyAt_117 : decode cX10_keyAt 117 = .ok (.iinc 1 1, 3) := by decide +kernel
theorem dX10_keyAt_120 : decode cX10_keyAt 120 = .ok (.goto (-116), 3) := by decide +kernel
theorem dX10_keyAt_123 : decode cX10_keyAt 123 = .ok (.bipush 7, 2) := by decide +kernel
theorem dX10_keyAt_125 : decode cX10_keyAt 125 = .ok (.ireturn, 1) := by decide +kernel
theorem dX10_next_0 : decode cX10_next 0 = .ok (.aload_n 0, 1) := by decide +kernel
theorem dX10_next_1 : decode cX10_next 1 = .ok (.aload_n 0, 1) := by decide +kernel
theorem dX10_next_2 : decode cX10_next 2 = .ok (.getfield 110, 3) := by decide +kernel
theorem dX10_next_5 : decode cX10_next 5 = .ok (.putfield 107, 3) := by decide +kernel
theorem dX10_next_8 : decode cX10_next 8 = .ok (.aload_n 0, 1) := by decide +kernel
theorem dX10_next_9 : decode cX10_next 9 = .ok (.aload_n 0, 1) := by decide +kernel
theorem dX10_next_10 : decode cX10_next 10 = .ok (.getfield 107, 3) := by decide +kernel
theorem dX10_next_13 : decode cX10_next 13 = .ok (.invokevirtual 113, 3) := by decide +kernel
theorem dX10_next_16 : decode cX10_next 16 = .ok (.bipush 10, 2) := by decide +kernel
theorem dX10_next_18 : decode cX10_next 18 = .ok (.if_icmp .eq 16, 3) := by decide +kernel
theorem dX10_next_21 : decode cX10_next 21 = .ok (.aload_n 0, 1) := by decide +kernel
theorem dX10_next_22 : decode cX10_next 22 = .ok (.aload_n 0, 1) := by decide +kernel
theorem dX10_next_23 : decode cX10_next 23 = .ok (.getfield 107, 3) := by decide +kernel
theorem dX10_next_26 : decode cX10_next 26 = .ok (.invokevirtual 113, 3) := by decide +kernel
theorem dX10_next_29 : decode cX10_next 29 = .ok (.bipush 32, 2) := by decide +kernel
theorem dX10_next_31 : decode cX10_next 31 = .ok (.if_icmp .ne 16, 3) := by decide +kernel
theorem dX10_next_34 : decode cX10_next 34 = .ok (.aload_n 0, 1) := by decide +kernel
theorem dX10_next_35 : decode cX10_next 35 = .ok (.dup, 1) := by decide +kernel
theorem dX10_next_36 : decode cX10_next 36 = .ok (.getfield 107, 3) := by decide +kernel
theorem dX10_next_39 : decode cX10_next 39 = .ok (.iconst 1, 1) := by decide +kernel
theorem dX10_next_40 : decode cX10_next 40 = .ok (.iadd, 1) := by decide +kernel
theorem dX10_next_41 : decode cX10_next 41 = .ok (.putfield 107, 3) := by decide +kernel
theorem dX10_next_44 : decode cX10_next 44 = .ok (.goto (-36), 3) := by decide +kernel
theorem dX10_next_47 : decode cX10_next 47 = .ok (.aload_n 0, 1) := by decide +kernel
theorem dX10_next_48 : decode cX10_next 48 = .ok (.aload_n 0, 1) := by decide +kernel
theorem dX10_next_49 : decode cX10_next 49 = .ok (.getfield 107, 3) := by decide +kernel
theorem dX10_next_52 : decode cX10_next 52 = .ok (.putfield 110, 3) := by decide +kernel
theorem dX10_next_55 : decode cX10_next 55 = .ok (.aload_n 0, 1) := by decide +kernel
theorem dX10_next_56 : decode cX10_next 56 = .ok (.getfield 107, 3) := by decide +kernel
theorem dX10_next_59 : decode cX10_next 59 = .ok (.aload_n 0, 1) := by decide +kernel
theorem dX10_next_60 : decode cX10_next 60 = .ok (.getfield 92, 3) := by decide +kernel
theorem dX10_next_63 : decode cX10_next 63 = .ok (.if_icmp .lt 12, 3) := by decide +kernel
theorem dX10_next_66 : decode cX10_next 66 = .ok (.aload_n 0, 1) := by decide +kernel
theorem dX10_next_67 : decode cX10_next 67 = .ok (.bipush 10, 2) := by decide +kernel
theorem dX10_next_69 : decode cX10_next 69 = .ok (.putfield 117, 3) := by decide +kernel
theorem dX10_next_72 : decode cX10_next 72 = .ok (.goto 198, 3) := by decide +kernel
theorem dX10_next_75 : decode cX10_next 75 = .ok (.aload_n 0, 1) := by decide +kernel
theorem dX10_next_76 : decode cX10_next 76 = .ok (.aload_n 0, 1) := by decide +kernel
theorem dX10_next_77 : decode cX10_next 77 = .ok (.getfield 107, 3) := by decide +kernel
theorem dX10_next_80 : decode cX10_next 80 = .ok (.invokevirtual 113, 3) := by decide +kernel
theorem dX10_next_83 : decode cX10_next 83 = .ok (.invokestatic 120, 3) := by decide +kernel
theorem dX10_next_86 : decode cX10_next 86 = .ok (.ifCond .eq 41, 3) := by decide +kernel
theorem dX10_next_89 : decode cX10_next 89 = .ok (.aload_n 0, 1) := by decide +kernel
theorem dX10_next_90 : decode cX10_next 90 = .ok (.aload_n 0, 1) := by decide +kernel
theorem dX10_next_91 : decode cX10_next 91 = .ok (.getfield 110, 3) := by decide +kernel
theorem dX10_next_94 : decode cX10_next 94 = .ok (.invokevirtual 113, 3) := by decide +kernel
theorem dX10_next_97 : decode cX10_next 97 = .ok (.invokestatic 120, 3) := by decide +kernel
theorem dX10_next_100 : decode cX10_next 100 = .ok (.ifCond .eq 16, 3) := by decide +kernel
theorem dX10_next_103 : decode cX10_next 103 = .ok (.aload_n 0, 1) := by decide +kernel
theorem dX10_next_104 : decode cX10_next 104 = .ok (.dup, 1) := by decide +kernel
theorem dX10_next_105 : decode cX10_next 105 = .ok (.getfield 110, 3) := by decide +kernel
theorem dX10_next_108 : decode cX10_next 108 = .ok (.iconst 1, 1) := by decide +kernel
theorem dX10_next_109 : decode cX10_next 109 = .ok (.iadd, 1) := by decide +kernel
theorem dX10_next_110 : decode cX10_next 110 = .ok (.putfield 110, 3) := by decide +kernel
theorem dX10_next_113 : decode cX10_next 113 = .ok (.goto (-24), 3) := by decide +kernel
theorem dX10_next_116 : decode cX10_next 116 = .ok (.aload_n 0, 1) := by decide +kernel
theorem dX10_next_117 : decode cX10_next 117 = .ok (.aload_n 0, 1) := by decide +kernel
theorem dX10_next_118 : decode cX10_next 118 = .ok (.invokevirtual 124, 3) := by decide +kernel
theorem dX10_next_121 : decode cX10_next 121 = .ok (.putfield 117, 3) := by decide +kernel
theorem dX10_next_124 : decode cX10_next 124 = .ok (.goto 146, 3) := by decide +kernel
theorem dX10_next_127 : decode cX10_next 127 = .ok (.aload_n 0, 1) := by decide +kernel
theorem dX10_next_128 : decode cX10_next 128 = .ok (.aload_n 0, 1) := by decide +kernel
theorem dX10_next_129 : decode cX10_next 129 = .ok (.getfield 107, 3) := by decide +kernel
theorem dX10_next_132 : decode cX10_next 132 = .ok (.invokevirtual 113, 3) := by decide +kernel
theorem dX10_next_135 : decode cX10_next 135 = .ok (.invokestatic 127, 3) := by decide +kernel
theorem dX10_next_138 : decode cX10_next 138 = .ok (.ifCond .eq 98, 3) := by decide +kernel
theorem dX10_next_141 : decode cX10_next 141 = .ok (.aload_n 0, 1) := by decide +kernel
theorem dX10_next_142 : decode cX10_next 142 = .ok (.iconst 0, 1) := by decide +kernel
theorem dX10_next_143 : decode cX10_next 143 = .ok (.putfield 130, 3) := by decide +kernel
theorem dX10_next_146 : decode cX10_next 146 = .ok (.aload_n 0, 1) := by decide +kernel
theorem dX10_next_147 : decode cX10_next 147 = .ok (.aload_n 0, 1) := by decide +kernel
theorem dX10_next_148 : decode cX10_next 148 = .ok (.getfield 110, 3) := by decide +kernel
theorem dX10_next_151 : decode cX10_next 151 = .ok (.invokevirtual 113, 3) := by decide +kernel
theorem dX10_next_154 : decode cX10_next 154 = .ok (.invokestatic 127, 3) := by decide +kernel
theorem dX10_next_157 : decode cX10_next 157 = .ok (.ifCond .eq 52, 3) := by decide +kernel
theorem dX10_next_160 : decode cX10_next 160 = .ok (.aload_n 0, 1) := by decide +kernel
theorem dX10_next_161 : decode cX10_next 161 = .ok (.getfield 110, 3) := by decide +kernel
theorem dX10_next_164 : decode cX10_next 164 = .ok (.aload_n 0, 1) := by decide +kernel
theorem dX10_next_165 : decode cX10_next 165 = .ok (.getfield 107, 3) := by decide +kernel
theorem dX10_next_168 : decode cX10_next 168 = .ok (.isub, 1) := by decide +kernel
theorem dX10_next_169 : decode cX10_next 169 = .ok (.iconst 3, 1) := by decide +kernel
theorem dX10_next_170 : decode cX10_next 170 = .ok (.if_icmp .ge 26, 3) := by decide +kernel
theorem dX10_next_173 : decode cX10_next 173 = .ok (.aload_n 0, 1) := by decide +kernel
theorem dX10_next_174 : decode cX10_next 174 = .ok (.bipush 10, 2) := by decide +kernel
theorem dX10_next_176 : decode cX10_next 176 = .ok (.aload_n 0, 1) := by decide +kernel
theorem dX10_next_177 : decode cX10_next 177 = .ok (.getfield 130, 3) := by decide +kernel
theorem dX10_next_180 : decode cX10_next 180 = .ok (.imul, 1) := by decide +kernel
theorem dX10_next_181 : decode cX10_next 181 = .ok (.aload_n 0, 1) := by decide +kernel
theorem dX10_next_182 : decode cX10_next 182 = .ok (.aload_n 0, 1) := by decide +kernel
theorem dX10_next_183 : decode cX10_next 183 = .ok (.getfield 110, 3) := by decide +kernel
theorem dX10_next_186 : decode cX10_next 186 = .ok (.invokevirtual 113, 3) := by decide +kernel
theorem dX10_next_189 : decode cX10_next 189 = .ok (.iadd, 1) := by decide +kernel
theorem dX10_next_190 : decode cX10_next 190 = .ok (.bipush 48, 2) := by decide +kernel
theorem dX10_next_192 : decode cX10_next 192 = .ok (.isub, 1) := by decide +kernel
theorem dX10_next_193 : decode cX10_next 193 = .ok (.putfield 130, 3) := by decide +kernel
theorem dX10_next_196 : decode cX10_next 196 = .ok (.aload_n 0, 1) := by decide +kernel
theorem dX10_next_197 : decode cX10_next 197 = .ok (.dup, 1) := by decide +kernel
theorem dX10_next_198 : decode cX10_next 198 = .ok (.getfield 110, 3) := by decide +kernel
theorem dX10_next_201 : decode cX10_next 201 = .ok (.iconst 1, 1) := by decide +kernel
theorem dX10_next_202 : decode cX10_next 202 = .ok (.iadd, 1) := by decide +kernel
theorem dX10_next_203 : decode cX10_next 203 = .ok (.putfield 110, 3) := by decide +kernel
theorem dX10_next_206 : decode cX10_next 206 = .ok (.goto (-60), 3) := by decide +kernel
theorem dX10_next_209 : decode cX10_next 209 = .ok (.aload_n 0, 1) := by decide +kernel
theorem dX10_next_210 : decode cX10_next 210 = .ok (.aload_n 0, 1) := by decide +kernel
theorem dX10_next_211 : decode cX10_next 211 = .ok (.getfield 110, 3) := by decide +kernel
theorem dX10_next_214 : decode cX10_next 214 = .ok (.aload_n 0, 1) := by decide +kernel
theorem dX10_next_215 : decode cX10_next 215 = .ok (.getfield 107, 3) := by decide +kernel
theorem dX10_next_218 : decode cX10_next 218 = .ok (.isub, 1) := by decide +kernel
theorem dX10_next_219 : decode cX10_next 219 = .ok (.iconst 3, 1) := by decide +kernel
theorem dX10_next_220 : decode cX10_next 220 = .ok (.if_icmp .le 8, 3) := by decide +kernel
theorem dX10_next_223 : decode cX10_next 223 = .ok (.bipush 11, 2) := by decide +kernel
theorem dX10_next_225 : decode cX10_next 225 = .ok (.goto 5, 3) := by decide +kernel
theorem dX10_next_228 : decode cX10_next 228 = .ok (.bipush 8, 2) := by decide +kernel
theorem dX10_next_230 : decode cX10_next 230 = .ok (.putfield 117, 3) := by decide +kernel
theorem dX10_next_233 : decode cX10_next 233 = .ok (.goto 37, 3) := by decide +kernel
theorem dX10_next_236 : decode cX10_next 236 = .ok (.aload_n 0, 1) := by decide +kernel
theorem dX10_next_237 : decode cX10_next 237 = .ok (.dup, 1) := by decide +kernel
theorem dX10_next_238 : decode cX10_next 238 = .ok (.getfield 110, 3) := by decide +kernel
theorem dX10_next_241 : decode cX10_next 241 = .ok (.iconst 1, 1) := by decide +kernel
theorem dX10_next_242 : decode cX10_next 242 = .ok (.iadd, 1) := by decide +kernel
theorem dX10_next_243 : decode cX10_next 243 = .ok (.putfield 110, 3) := by decide +kernel
theorem dX10_next_246 : decode cX10_next 246 = .ok (.aload_n 0, 1) := by decide +kernel
theorem dX10_next_247 : decode cX10_next 247 = .ok (.aload_n 0, 1) := by decide +kernel
theorem dX10_next_248 : decode cX10_next 248 = .ok (.aload_n 0, 1) := by decide +kernel
theorem dX10_next_249 : decode cX10_next 249 = .ok (.getfield 107, 3) := by decide +kernel
theorem dX10_next_252 : decode cX10_next 252 = .ok (.invokevirtual 113, 3) := by decide +kernel
theorem dX10_next_255 : decode cX10_next 255 = .ok (.bipush 59, 2) := by decide +kernel
theorem dX10_next_257 : decode cX10_next 257 = .ok (.if_icmp .ne 8, 3) := by decide +kernel
theorem dX10_next_260 : decode cX10_next 260 = .ok (.bipush 9, 2) := by decide +kernel
theorem dX10_next_262 : decode cX10_next 262 = .ok (.goto 5, 3) := by decide +kernel
theorem dX10_next_265 : decode cX10_next 265 = .ok (.bipush 11, 2) := by decide +kernel
theorem dX10_next_267 : decode cX10_next 267 = .ok (.putfield 117, 3) := by decide +kernel
theorem dX10_next_270 : decode cX10_next 270 = .ok (.return_, 1) := by decide +kernel
theorem dX10_fails_0 : decode cX10_fails 0 = .ok (.aload_n 0, 1) := by decide +kernel
theorem dX10_fails_1 : decode cX10_fails 1 = .ok (.getfield 133, 3) := by decide +kernel
theorem dX10_fails_4 : decode cX10_fails 4 = .ok (.ifCond .eq 4, 3) := by decide +kernel
theorem dX10_fails_7 : decode cX10_fails 7 = .ok (.return_, 1) := by decide +kernel
theorem dX10_fails_8 : decode cX10_fails 8 = .ok (.aload_n 0, 1) := by decide +kernel
theorem dX10_fails_9 : decode cX10_fails 9 = .ok (.aload_n 0, 1) := by decide +kernel
theorem dX10_fails_10 : decode cX10_fails 10 = .ok (.getfield 117, 3) := by decide +kernel
theorem dX10_fails_13 : decode cX10_fails 13 = .ok (.bipush 11, 2) := by decide +kernel
theorem dX10_fails_15 : decode cX10_fails 15 = .ok (.if_icmp .ne 7, 3) := by decide +kernel
theorem dX10_fails_18 : decode cX10_fails 18 = .ok (.iconst 1, 1) := by decide +kernel
theorem dX10_fails_19 : decode cX10_fails 19 = .ok (.goto 4, 3) := by decide +kernel
theorem dX10_fails_22 : decode cX10_fails 22 = .ok (.iload_n 1, 1) := by decide +kernel
theorem dX10_fails_23 : decode cX10_fails 23 = .ok (.putfield 133, 3) := by decide +kernel
theorem dX10_fails_26 : decode cX10_fails 26 = .ok (.aload_n 0, 1) := by decide +kernel
theorem dX10_fails_27 : decode cX10_fails 27 = .ok (.aload_n 0, 1) := by decide +kernel
theorem dX10_fails_28 : decode cX10_fails 28 = .ok (.getfield 107, 3) := by decide +kernel
theorem dX10_fails_31 : decode cX10_fails 31 = .ok (.putfield 136, 3) := by decide +kernel
theorem dX10_fails_34 : decode cX10_fails 34 = .ok (.return_, 1) := by decide +kernel
theorem dX10_is_0 : decode cX10_is 0 = .ok (.aload_n 0, 1) := by decide +kernel
theorem dX10_is_1 : decode cX10_is 1 = .ok (.getfield 133, 3) := by decide +kernel
theorem dX10_is_4 : decode cX10_is 4 = .ok (.ifCond .ne 15, 3) := by decide +kernel
theorem dX10_is_7 : decode cX10_is 7 = .ok (.aload_n 0, 1) := by decide +kernel
theorem dX10_is_8 : decode cX10_is 8 = .ok (.getfield 117, 3) := by decide +kernel
theorem dX10_is_11 : decode cX10_is 11 = .ok (.iload_n 1, 1) := by decide +kernel
theorem dX10_is_12 : decode cX10_is 12 = .ok (.if_icmp .ne 7, 3) := by decide +kernel
theorem dX10_is_15 : decode cX10_is 15 = .ok (.iconst 1, 1) := by decide +kernel
theorem dX10_is_16 : decode cX10_is 16 = .ok (.goto 4, 3) := by decide +kernel
theorem dX10_is_19 : decode cX10_is 19 = .ok (.iconst 0, 1) := by decide +kernel
theorem dX10_is_20 : decode cX10_is 20 = .ok (.ireturn, 1) := by decide +kernel
theorem dX10_eats_0 : decode cX10_eats 0 = .ok (.aload_n 0, 1) := by decide +kernel
theorem dX10_eats_1 : decode cX10_eats 1 = .ok (.iload_n 1, 1) := by decide +kernel
theorem dX10_eats_2 : decode cX10_eats 2 = .ok (.invokevirtual 139, 3) := by decide +kernel
theorem dX10_eats_5 : decode cX10_eats 5 = .ok (.ifCond .ne 5, 3) := by decide +kernel
theorem dX10_eats_8 : decode cX10_eats 8 = .ok (.iconst 0, 1) := by decide +kernel
theorem dX10_eats_9 : decode cX10_eats 9 = .ok (.ireturn, 1) := by decide +kernel
theorem dX10_eats_10 : decode cX10_eats 10 = .ok (.aload_n 0, 1) := by decide +kernel
theorem dX10_eats_11 : decode cX10_eats 11 = .ok (.invokevirtual 142, 3) := by decide +kernel
theorem dX10_eats_14 : decode cX10_eats 14 = .ok (.iconst 1, 1) := by decide +kernel
theorem dX10_eats_15 : decode cX10_eats 15 = .ok (.ireturn, 1) := by decide +kernel
theorem dX10_takes_0 : decode cX10_takes 0 = .ok (.aload_n 0, 1) := by decide +kernel
theorem dX10_takes_1 : decode cX10_takes 1 = .ok (.bipush 8, 2) := by decide +kernel
theorem dX10_takes_3 : decode cX10_takes 3 = .ok (.invokevirtual 139, 3) := by decide +kernel
theorem dX10_takes_6 : decode cX10_takes 6 = .ok (.ifCond .ne 11, 3) := by decide +kernel
theorem dX10_takes_9 : decode cX10_takes 9 = .ok (.aload_n 0, 1) := by decide +kernel
theorem dX10_takes_10 : decode cX10_takes 10 = .ok (.iconst 2, 1) := by decide +kernel
theorem dX10_takes_11 : decode cX10_takes 11 = .ok (.invokevirtual 145, 3) := by decide +kernel
theorem dX10_takes_14 : decode cX10_takes 14 = .ok (.goto 23, 3) := by decide +kernel
theorem dX10_takes_17 : decode cX10_takes 17 = .ok (.aload_n 0, 1) := by decide +kernel
theorem dX10_takes_18 : decode cX10_takes 18 = .ok (.getfield 130, 3) := by decide +kernel
theorem dX10_takes_21 : decode cX10_takes 21 = .ok (.i2l, 1) := by decide +kernel
theorem dX10_takes_22 : decode cX10_takes 22 = .ok (.iload_n 1, 1) := by decide +kernel
theorem dX10_takes_23 : decode cX10_takes 23 = .ok (.i2l, 1) := by decide +kernel
theorem dX10_takes_24 : decode cX10_takes 24 = .ok (.iload_n 2, 1) := by decide +kernel
theorem dX10_takes_25 : decode cX10_takes 25 = .ok (.i2l, 1) := by decide +kernel
theorem dX10_takes_26 : decode cX10_takes 26 = .ok (.invokestatic 149, 3) := by decide +kernel
theorem dX10_takes_29 : decode cX10_takes 29 = .ok (.ifCond .ne 8, 3) := by decide +kernel
theorem dX10_takes_32 : decode cX10_takes 32 = .ok (.aload_n 0, 1) := by decide +kernel
theorem dX10_takes_33 : decode cX10_takes 33 = .ok (.iconst 3, 1) := by decide +kernel
theorem dX10_takes_34 : decode cX10_takes 34 = .ok (.invokevirtual 145, 3) := by decide +kernel
theorem dX10_takes_37 : decode cX10_takes 37 = .ok (.aload_n 0, 1) := by decide +kernel
theorem dX10_takes_38 : decode cX10_takes 38 = .ok (.getfield 130, 3) := by decide +kernel
theorem dX10_takes_41 : decode cX10_takes 41 = .ok (.istore_n 3, 1) := by decide +kernel
theorem dX10_takes_42 : decode cX10_takes 42 = .ok (.aload_n 0, 1) := by decide +kernel
theorem dX10_takes_43 : decode cX10_takes 43 = .ok (.getfield 133, 3) := by decide +kernel
theorem dX10_takes_46 : decode cX10_takes 46 = .ok (.ifCond .ne 7, 3) := by decide +kernel
theorem dX10_takes_49 : decode cX10_takes 49 = .ok (.aload_n 0, 1) := by decide +kernel
theorem dX10_takes_50 : decode cX10_takes 50 = .ok (.invokevirtual 142, 3) := by decide +kernel
theorem dX10_takes_53 : decode cX10_takes 53 = .ok (.iload_n 3, 1) := by decide +kernel
theorem dX10_takes_54 : decode cX10_takes 54 = .ok (.ireturn, 1) := by decide +kernel
theorem dX10_readChimney_0 : decode cX10_readChimney 0 = .ok (.aload_n 0, 1) := by decide +kernel
theorem dX10_readChimney_1 : decode cX10_readChimney 1 = .ok (.getfield 24, 3) := by decide +kernel
theorem dX10_readChimney_4 : decode cX10_readChimney 4 = .ok (.iconst 0, 1) := by decide +kernel
theorem dX10_readChimney_5 : decode cX10_readChimney 5 = .ok (.iaload, 1) := by decide +kernel
theorem dX10_readChimney_6 : decode cX10_readChimney 6 = .ok (.istore_n 1, 1) := by decide +kernel
theorem dX10_readChimney_7 : decode cX10_readChimney 7 = .ok (.iload_n 1, 1) := by decide +kernel
theorem dX10_readChimney_8 : decode cX10_readChimney 8 = .ok (.bipush 10, 2) := by decide +kernel
theorem dX10_readChimney_10 : decode cX10_readChimney 10 = .ok (.if_icmp .ne 8, 3) := by decide +kernel
theorem dX10_readChimney_13 : decode cX10_readChimney 13 = .ok (.aload_n 0, 1) := by decide +kernel
theorem dX10_readChimney_14 : decode cX10_readChimney 14 = .ok (.iconst 4, 1) := by decide +kernel
theorem dX10_readChimney_15 : decode cX10_readChimney 15 = .ok (.invokevirtual 145, 3) := by decide +kernel
theorem dX10_readChimney_18 : decode cX10_readChimney 18 = .ok (.aload_n 0, 1) := by decide +kernel
theorem dX10_readChimney_19 : decode cX10_readChimney 19 = .ok (.getfield 133, 3) := by decide +kernel
theorem dX10_readChimney_22 : decode cX10_readChimney 22 = .ok (.ifCond .eq 4, 3) := by decide +kernel
theorem dX10_readChimney_25 : decode cX10_readChimney 25 = .ok (.return_, 1) := by decide +kernel
theorem dX10_readChimney_26 : decode cX10_readChimney 26 = .ok (.aload_n 0, 1) := by decide +kernel
theorem dX10_readChimney_27 : decode cX10_readChimney 27 = .ok (.invokevirtual 142, 3) := by decide +kernel
theorem dX10_readChimney_30 : decode cX10_readChimney 30 = .ok (.aload_n 0, 1) := by decide +kernel
theorem dX10_readChimney_31 : decode cX10_readChimney 31 = .ok (.iconst 0, 1) := by decide +kernel
theorem dX10_readChimney_32 : decode cX10_readChimney 32 = .ok (.bipush 39, 2) := by decide +kernel
theorem dX10_readChimney_34 : decode cX10_readChimney 34 = .ok (.invokevirtual 153, 3) := by decide +kernel
theorem dX10_readChimney_37 : decode cX10_readChimney 37 = .ok (.istore_n 2, 1) := by decide +kernel
theorem dX10_readChimney_38 : decode cX10_readChimney 38 = .ok (.aload_n 0, 1) := by decide +kernel
theorem dX10_readChimney_39 : decode cX10_readChimney 39 = .ok (.iconst 0, 1) := by decide +kernel
theorem dX10_readChimney_40 : decode cX10_readChimney 40 = .ok (.bipush 12, 2) := by decide +kernel
theorem dX10_readChimney_42 : decode cX10_readChimney 42 = .ok (.invokevirtual 153, 3) := by decide +kernel
theorem dX10_readChimney_45 : decode cX10_readChimney 45 = .ok (.istore_n 3, 1) := by decide +kernel
theorem dX10_readChimney_46 : decode cX10_readChimney 46 = .ok (.iconst 0, 1) := by decide +kernel
theorem dX10_readChimney_47 : decode cX10_readChimney 47 = .ok (.istore 4, 2) := by decide +kernel
theorem dX10_readChimney_49 : decode cX10_readChimney 49 = .ok (.iload 4, 2) := by decide +kernel
theorem dX10_readChimney_51 : decode cX10_readChimney 51 = .ok (.ifCond .eq 12, 3) := by decide +kernel
theorem dX10_readChimney_54 : decode cX10_readChimney 54 = .ok (.aload_n 0, 1) := by decide +kernel
theorem dX10_readChimney_55 : decode cX10_readChimney 55 = .ok (.bipush 8, 2) := by decide +kernel
theorem dX10_readChimney_57 : decode cX10_readChimney 57 = .ok (.invokevirtual 139, 3) := by decide +kernel
theorem dX10_readChimney_60 : decode cX10_readChimney 60 = .ok (.ifCond .eq 79, 3) := by decide +kernel
theorem dX10_readChimney_63 : decode cX10_readChimney 63 = .ok (.aload_n 0, 1) := by decide +kernel
theorem dX10_readChimney_64 : decode cX10_readChimney 64 = .ok (.bipush 8, 2) := by decide +kernel
theorem dX10_readChimney_66 : decode cX10_readChimney 66 = .ok (.invokevirtual 139, 3) := by decide +kernel
theorem dX10_readChimney_69 : decode cX10_readChimney 69 = .ok (.ifCond .eq 30, 3) := by decide +kernel
theorem dX10_readChimney_72 : decode cX10_readChimney 72 = .ok (.aload_n 0, 1) := by decide +kernel
theorem dX10_readChimney_73 : decode cX10_readChimney 73 = .ok (.getfield 130, 3) := by decide +kernel
theorem dX10_readChimney_76 : decode cX10_readChimney 76 = .ok (.i2l, 1) := by decide +kernel
theorem dX10_readChimney_77 : decode cX10_readChimney 77 = .ok (.lconst 1, 1) := by decide +kernel
theorem dX10_readChimney_78 : decode cX10_readChimney 78 = .ok (.ldc2_w 157, 3) := by decide +kernel
theorem dX10_readChimney_81 : decode cX10_readChimney 81 = .ok (.invokestatic 149, 3) := by decide +kernel
theorem dX10_readChimney_84 : decode cX10_readChimney 84 = .ok (.ifCond .eq 15, 3) := by decide +kernel
theorem dX10_readChimney_87 : decode cX10_readChimney 87 = .ok (.iload 4, 2) := by decide +kernel
theorem dX10_readChimney_89 : decode cX10_readChimney 89 = .ok (.bipush 6, 2) := by decide +kernel
theorem dX10_readChimney_91 : decode cX10_readChimney 91 = .ok (.if_icmp .ne 8, 3) := by decide +kernel
theorem dX10_readChimney_94 : decode cX10_readChimney 94 = .ok (.aload_n 0, 1) := by decide +kernel
theorem dX10_readChimney_95 : decode cX10_readChimney 95 = .ok (.iconst 4, 1) := by decide +kernel
theorem dX10_readChimney_96 : decode cX10_readChimney 96 = .ok (.invokevirtual 145, 3) := by decide +kernel
theorem dX10_readChimney_99 : decode cX10_readChimney 99 = .ok (.aload_n 0, 1) := by decide +kernel
theorem dX10_readChimney_100 : decode cX10_readChimney 100 = .ok (.iconst 1, 1) := by decide +kernel
theorem dX10_readChimney_101 : decode cX10_readChimney 101 = .ok (.bipush 9, 2) := by decide +kernel
theorem dX10_readChimney_103 : decode cX10_readChimney 103 = .ok (.invokevirtual 153, 3) := by decide +kernel
theorem dX10_readChimney_106 : decode cX10_readChimney 106 = .ok (.istore 5, 2) := by decide +kernel
theorem dX10_readChimney_108 : decode cX10_readChimney 108 = .ok (.aload_n 0, 1) := by decide +kernel
theorem dX10_readChimney_109 : decode cX10_readChimney 109 = .ok (.getfield 133, 3) := by decide +kernel
theorem dX10_readChimney_112 : decode cX10_readChimney 112 = .ok (.ifCond .eq 4, 3) := by decide +kernel
theorem dX10_readChimney_115 : decode cX10_readChimney 115 = .ok (.return_, 1) := by decide +kernel
theorem dX10_readChimney_116 : decode cX10_readChimney 116 = .ok (.aload_n 0, 1) := by decide +kernel
theorem dX10_readChimney_117 : decode cX10_readChimney 117 = .ok (.getfield 24, 3) := by decide +kernel
theorem dX10_readChimney_120 : decode cX10_readChimney 120 = .ok (.bipush 66, 2) := by decide +kernel
theorem dX10_readChimney_122 : decode cX10_readChimney 122 = .ok (.bipush 6, 2) := by decide +kernel
theorem dX10_readChimney_124 : decode cX10_readChimney 124 = .ok (.iload_n 1, 1) := by decide +kernel
theorem dX10_readChimney_125 : decode cX10_readChimney 125 = .ok (.imul, 1) := by decide +kernel
theorem dX10_readChimney_126 : decode cX10_readChimney 126 = .ok (.iadd, 1) := by decide +kernel
theorem dX10_readChimney_127 : decode cX10_readChimney 127 = .ok (.iload 4, 2) := by decide +kernel
theorem dX10_readChimney_129 : decode cX10_readChimney 129 = .ok (.iadd, 1) := by decide +kernel
theorem dX10_readChimney_130 : decode cX10_readChimney 130 = .ok (.iload 5, 2) := by decide +kernel
theorem dX10_readChimney_132 : decode cX10_readChimney 132 = .ok (.iastore, 1) := by decide +kernel
theorem dX10_readChimney_133 : decode cX10_readChimney 133 = .ok (.iinc 4 1, 3) := by decide +kernel
theorem dX10_readChimney_136 : decode cX10_readChimney 136 = .ok (.goto (-87), 3) := by decide +kernel
theorem dX10_readChimney_139 : decode cX10_readChimney 139 = .ok (.aload_n 0, 1) := by decide +kernel
theorem dX10_readChimney_140 : decode cX10_readChimney 140 = .ok (.iconst 1, 1) := by decide +kernel
theorem dX10_readChimney_141 : decode cX10_readChimney 141 = .ok (.invokevirtual 159, 3) := by decide +kernel
theorem dX10_readChimney_144 : decode cX10_readChimney 144 = .ok (.ifCond .eq 13, 3) := by decide +kernel
theorem dX10_readChimney_147 : decode cX10_readChimney 147 = .ok (.aload_n 0, 1) := by decide +kernel
theorem dX10_readChimney_148 : decode cX10_readChimney 148 = .ok (.iconst 0, 1) := by decide +kernel
theorem dX10_readChimney_149 : decode cX10_readChimney 149 = .ok (.bipush 23, 2) := by decide +kernel
theorem dX10_readChimney_151 : decode cX10_readChimney 151 = .ok (.invokevirtual 153, 3) := by decide +kernel
theorem dX10_readChimney_154 : decode cX10_readChimney 154 = .ok (.goto 4, 3) := by decide +kernel
theorem dX10_readChimney_157 : decode cX10_readChimney 157 = .ok (.iconst 0, 1) := by decide +kernel
theorem dX10_readChimney_158 : decode cX10_readChimney 158 = .ok (.istore 5, 2) := by decide +kernel
theorem dX10_readChimney_160 : decode cX10_readChimney 160 = .ok (.aload_n 0, 1) := by decide +kernel
theorem dX10_readChimney_161 : decode cX10_readChimney 161 = .ok (.iconst 2, 1) := by decide +kernel
theorem dX10_readChimney_162 : decode cX10_readChimney 162 = .ok (.invokevirtual 159, 3) := by decide +kernel
theorem dX10_readChimney_165 : decode cX10_readChimney 165 = .ok (.ifCond .eq 14, 3) := by decide +kernel
theorem dX10_readChimney_168 : decode cX10_readChimney 168 = .ok (.aload_n 0, 1) := by decide +kernel
theorem dX10_readChimney_169 : decode cX10_readChimney 169 = .ok (.iload 5, 2) := by decide +kernel
theorem dX10_readChimney_171 : decode cX10_readChimney 171 = .ok (.bipush 23, 2) := by decide +kernel
theorem dX10_readChimney_173 : decode cX10_readChimney 173 = .ok (.invokevirtual 153, 3) := by decide +kernel
theorem dX10_readChimney_176 : decode cX10_readChimney 176 = .ok (.goto 5, 3) := by decide +kernel
theorem dX10_readChimney_179 : decode cX10_readChimney 179 = .ok (.bipush 23, 2) := by decide +kernel
theorem dX10_readChimney_181 : decode cX10_readChimney 181 = .ok (.istore 6, 2) := by decide +kernel
theorem dX10_readChimney_183 : decode cX10_readChimney 183 = .ok (.aload_n 0, 1) := by decide +kernel
theorem dX10_readChimney_184 : decode cX10_readChimney 184 = .ok (.getfield 133, 3) := by decide +kernel
theorem dX10_readChimney_187 : decode cX10_readChimney 187 = .ok (.ifCond .eq 4, 3) := by decide +kernel
theorem dX10_readChimney_190 : decode cX10_readChimney 190 = .ok (.return_, 1) := by decide +kernel
theorem dX10_readChimney_191 : decode cX10_readChimney 191 = .ok (.aload_n 0, 1) := by decide +kernel
theorem dX10_readChimney_192 : decode cX10_readChimney 192 = .ok (.getfield 24, 3) := by decide +kernel
theorem dX10_readChimney_195 : decode cX10_readChimney 195 = .ok (.bipush 6, 2) := by decide +kernel
theorem dX10_readChimney_197 : decode cX10_readChimney 197 = .ok (.iload_n 1, 1) := by decide +kernel
theorem dX10_readChimney_198 : decode cX10_readChimney 198 = .ok (.iadd, 1) := by decide +kernel
theorem dX10_readChimney_199 : decode cX10_readChimney 199 = .ok (.iload_n 2, 1) := by decide +kernel
theorem dX10_readChimney_200 : decode cX10_readChimney 200 = .ok (.iastore, 1) := by decide +kernel
theorem dX10_readChimney_201 : decode cX10_readChimney 201 = .ok (.aload_n 0, 1) := by decide +kernel
theorem dX10_readChimney_202 : decode cX10_readChimney 202 = .ok (.getfield 24, 3) := by decide +kernel
theorem dX10_readChimney_205 : decode cX10_readChimney 205 = .ok (.bipush 16, 2) := by decide +kernel
theorem dX10_readChimney_207 : decode cX10_readChimney 207 = .ok (.iload_n 1, 1) := by decide +kernel
theorem dX10_readChimney_208 : decode cX10_readChimney 208 = .ok (.iadd, 1) := by decide +kernel
theorem dX10_readChimney_209 : decode cX10_readChimney 209 = .ok (.iload_n 3, 1) := by decide +kernel
theorem dX10_readChimney_210 : decode cX10_readChimney 210 = .ok (.iastore, 1) := by decide +kernel
theorem dX10_readChimney_211 : decode cX10_readChimney 211 = .ok (.aload_n 0, 1) := by decide +kernel
theorem dX10_readChimney_212 : decode cX10_readChimney 212 = .ok (.getfield 24, 3) := by decide +kernel
theorem dX10_readChimney_215 : decode cX10_readChimney 215 = .ok (.bipush 26, 2) := by decide +kernel
theorem dX10_readChimney_217 : decode cX10_readChimney 217 = .ok (.iload_n 1, 1) := by decide +kernel
theorem dX10_readChimney_218 : decode cX10_readChimney 218 = .ok (.iadd, 1) := by decide +kernel
theorem dX10_readChimney_219 : decode cX10_readChimney 219 = .ok (.iload 5, 2) := by decide +kernel
theorem dX10_readChimney_221 : decode cX10_readChimney 221 = .ok (.iastore, 1) := by decide +kernel
theorem dX10_readChimney_222 : decode cX10_readChimney 222 = .ok (.aload_n 0, 1) := by decide +kernel
theorem dX10_readChimney_223 : decode cX10_readChimney 223 = .ok (.getfield 24, 3) := by decide +kernel
theorem dX10_readChimney_226 : decode cX10_readChimney 226 = .ok (.bipush 36, 2) := by decide +kernel
theorem dX10_readChimney_228 : decode cX10_readChimney 228 = .ok (.iload_n 1, 1) := by decide +kernel
theorem dX10_readChimney_229 : decode cX10_readChimney 229 = .ok (.iadd, 1) := by decide +kernel
theorem dX10_readChimney_230 : decode cX10_readChimney 230 = .ok (.iload 6, 2) := by decide +kernel
theorem dX10_readChimney_232 : decode cX10_readChimney 232 = .ok (.iastore, 1) := by decide +kernel
theorem dX10_readChimney_233 : decode cX10_readChimney 233 = .ok (.aload_n 0, 1) := by decide +kernel
theorem dX10_readChimney_234 : decode cX10_readChimney 234 = .ok (.getfield 24, 3) := by decide +kernel
theorem dX10_readChimney_237 : decode cX10_readChimney 237 = .ok (.bipush 46, 2) := by decide +kernel
theorem dX10_readChimney_239 : decode cX10_readChimney 239 = .ok (.iload_n 1, 1) := by decide +kernel
theorem dX10_readChimney_240 : decode cX10_readChimney 240 = .ok (.iadd, 1) := by decide +kernel
theorem dX10_readChimney_241 : decode cX10_readChimney 241 = .ok (.iload 4, 2) := by decide +kernel
theorem dX10_readChimney_243 : decode cX10_readChimney 243 = .ok (.iastore, 1) := by decide +kernel
theorem dX10_readChimney_244 : decode cX10_readChimney 244 = .ok (.aload_n 0, 1) := by decide +kernel
theorem dX10_readChimney_245 : decode cX10_readChimney 245 = .ok (.getfield 24, 3) := by decide +kernel
theorem dX10_readChimney_248 : decode cX10_readChimney 248 = .ok (.iconst 0, 1) := by decide +kernel
theorem dX10_readChimney_249 : decode cX10_readChimney 249 = .ok (.dup2, 1) := by decide +kernel
theorem dX10_readChimney_250 : decode cX10_readChimney 250 = .ok (.iaload, 1) := by decide +kernel
theorem dX10_readChimney_251 : decode cX10_readChimney 251 = .ok (.iconst 1, 1) := by decide +kernel
theorem dX10_readChimney_252 : decode cX10_readChimney 252 = .ok (.iadd, 1) := by decide +kernel
theorem dX10_readChimney_253 : decode cX10_readChimney 253 = .ok (.iastore, 1) := by decide +kernel
theorem dX10_readChimney_254 : decode cX10_readChimney 254 = .ok (.return_, 1) := by decide +kernel
theorem dX10_readWind_0 : decode cX10_readWind 0 = .ok (.aload_n 0, 1) := by decide +kernel
theorem dX10_readWind_1 : decode cX10_readWind 1 = .ok (.getfield 24, 3) := by decide +kernel
theorem dX10_readWind_4 : decode cX10_readWind 4 = .ok (.iconst 1, 1) := by decide +kernel
theorem dX10_readWind_5 : decode cX10_readWind 5 = .ok (.iaload, 1) := by decide +kernel
theorem dX10_readWind_6 : decode cX10_readWind 6 = .ok (.istore_n 1, 1) := by decide +kernel
theorem dX10_readWind_7 : decode cX10_readWind 7 = .ok (.iload_n 1, 1) := by decide +kernel
theorem dX10_readWind_8 : decode cX10_readWind 8 = .ok (.bipush 12, 2) := by decide +kernel
theorem dX10_readWind_10 : decode cX10_readWind 10 = .ok (.if_icmp .ne 8, 3) := by decide +kernel
theorem dX10_readWind_13 : decode cX10_readWind 13 = .ok (.aload_n 0, 1) := by decide +kernel
theorem dX10_readWind_14 : decode cX10_readWind 14 = .ok (.iconst 4, 1) := by decide +kernel
theorem dX10_readWind_15 : decode cX10_readWind 15 = .ok (.invokevirtual 145, 3) := by decide +kernel
theorem dX10_readWind_18 : decode cX10_readWind 18 = .ok (.aload_n 0, 1) := by decide +kernel
theorem dX10_readWind_19 : decode cX10_readWind 19 = .ok (.getfield 133, 3) := by decide +kernel
theorem dX10_readWind_22 : decode cX10_readWind 22 = .ok (.ifCond .eq 4, 3) := by decide +kernel
theorem dX10_readWind_25 : decode cX10_readWind 25 = .ok (.return_, 1) := by decide +kernel
theorem dX10_readWind_26 : decode cX10_readWind 26 = .ok (.aload_n 0, 1) := by decide +kernel
theorem dX10_readWind_27 : decode cX10_readWind 27 = .ok (.invokevirtual 142, 3) := by decide +kernel
theorem dX10_readWind_30 : decode cX10_readWind 30 = .ok (.aload_n 0, 1) := by decide +kernel
theorem dX10_readWind_31 : decode cX10_readWind 31 = .ok (.iconst 0, 1) := by decide +kernel
theorem dX10_readWind_32 : decode cX10_readWind 32 = .ok (.bipush 47, 2) := by decide +kernel
theorem dX10_readWind_34 : decode cX10_readWind 34 = .ok (.invokevirtual 153, 3) := by decide +kernel
theorem dX10_readWind_37 : decode cX10_readWind 37 = .ok (.istore_n 2, 1) := by decide +kernel
theorem dX10_readWind_38 : decode cX10_readWind 38 = .ok (.aload_n 0, 1) := by decide +kernel
theorem dX10_readWind_39 : decode cX10_readWind 39 = .ok (.iconst 0, 1) := by decide +kernel
theorem dX10_readWind_40 : decode cX10_readWind 40 = .ok (.bipush 6, 2) := by decide +kernel
theorem dX10_readWind_42 : decode cX10_readWind 42 = .ok (.invokevirtual 153, 3) := by decide +kernel
theorem dX10_readWind_45 : decode cX10_readWind 45 = .ok (.istore_n 3, 1) := by decide +kernel
theorem dX10_readWind_46 : decode cX10_readWind 46 = .ok (.aload_n 0, 1) := by decide +kernel
theorem dX10_readWind_47 : decode cX10_readWind 47 = .ok (.iconst 0, 1) := by decide +kernel
theorem dX10_readWind_48 : decode cX10_readWind 48 = .ok (.bipush 6, 2) := by decide +kernel
theorem dX10_readWind_50 : decode cX10_readWind 50 = .ok (.invokevirtual 153, 3) := by decide +kernel
theorem dX10_readWind_53 : decode cX10_readWind 53 = .ok (.istore 4, 2) := by decide +kernel
theorem dX10_readWind_55 : decode cX10_readWind 55 = .ok (.aload_n 0, 1) := by decide +kernel
theorem dX10_readWind_56 : decode cX10_readWind 56 = .ok (.getfield 133, 3) := by decide +kernel
theorem dX10_readWind_59 : decode cX10_readWind 59 = .ok (.ifCond .eq 4, 3) := by decide +kernel
theorem dX10_readWind_62 : decode cX10_readWind 62 = .ok (.return_, 1) := by decide +kernel
theorem dX10_readWind_63 : decode cX10_readWind 63 = .ok (.aload_n 0, 1) := by decide +kernel
theorem dX10_readWind_64 : decode cX10_readWind 64 = .ok (.getfield 24, 3) := by decide +kernel
theorem dX10_readWind_67 : decode cX10_readWind 67 = .ok (.bipush 126, 2) := by decide +kernel
theorem dX10_readWind_69 : decode cX10_readWind 69 = .ok (.iconst 3, 1) := by decide +kernel
theorem dX10_readWind_70 : decode cX10_readWind 70 = .ok (.iload_n 1, 1) := by decide +kernel
theorem dX10_readWind_71 : decode cX10_readWind 71 = .ok (.imul, 1) := by decide +kernel
theorem dX10_readWind_72 : decode cX10_readWind 72 = .ok (.iadd, 1) := by decide +kernel
theorem dX10_readWind_73 : decode cX10_readWind 73 = .ok (.iload_n 2, 1) := by decide +kernel
theorem dX10_readWind_74 : decode cX10_readWind 74 = .ok (.iastore, 1) := by decide +kernel
theorem dX10_readWind_75 : decode cX10_readWind 75 = .ok (.aload_n 0, 1) := by decide +kernel
theorem dX10_readWind_76 : decode cX10_readWind 76 = .ok (.getfield 24, 3) := by decide +kernel
theorem dX10_readWind_79 : decode cX10_readWind 79 = .ok (.bipush 126, 2) := by decide +kernel
theorem dX10_readWind_81 : decode cX10_readWind 81 = .ok (.iconst 3, 1) := by decide +kernel
theorem dX10_readWind_82 : decode cX10_readWind 82 = .ok (.iload_n 1, 1) := by decide +kernel
theorem dX10_readWind_83 : decode cX10_readWind 83 = .ok (.imul, 1) := by decide +kernel
theorem dX10_readWind_84 : decode cX10_readWind 84 = .ok (.iadd, 1) := by decide +kernel
theorem dX10_readWind_85 : decode cX10_readWind 85 = .ok (.iconst 1, 1) := by decide +kernel
theorem dX10_readWind_86 : decode cX10_readWind 86 = .ok (.iadd, 1) := by decide +kernel
theorem dX10_readWind_87 : decode cX10_readWind 87 = .ok (.iload_n 3, 1) := by decide +kernel
theorem dX10_readWind_88 : decode cX10_readWind 88 = .ok (.iastore, 1) := by decide +kernel
theorem dX10_readWind_89 : decode cX10_readWind 89 = .ok (.aload_n 0, 1) := by decide +kernel
theorem dX10_readWind_90 : decode cX10_readWind 90 = .ok (.getfield 24, 3) := by decide +kernel
theorem dX10_readWind_93 : decode cX10_readWind 93 = .ok (.bipush 126, 2) := by decide +kernel
theorem dX10_readWind_95 : decode cX10_readWind 95 = .ok (.iconst 3, 1) := by decide +kernel
theorem dX10_readWind_96 : decode cX10_readWind 96 = .ok (.iload_n 1, 1) := by decide +kernel
theorem dX10_readWind_97 : decode cX10_readWind 97 = .ok (.imul, 1) := by decide +kernel
theorem dX10_readWind_98 : decode cX10_readWind 98 = .ok (.iadd, 1) := by decide +kernel
theorem dX10_readWind_99 : decode cX10_readWind 99 = .ok (.iconst 2, 1) := by decide +kernel
theorem dX10_readWind_100 : decode cX10_readWind 100 = .ok (.iadd, 1) := by decide +kernel
theorem dX10_readWind_101 : decode cX10_readWind 101 = .ok (.iload 4, 2) := by decide +kernel
theorem dX10_readWind_103 : decode cX10_readWind 103 = .ok (.iastore, 1) := by decide +kernel
theorem dX10_readWind_104 : decode cX10_readWind 104 = .ok (.aload_n 0, 1) := by decide +kernel
theorem dX10_readWind_105 : decode cX10_readWind 105 = .ok (.getfield 24, 3) := by decide +kernel
theorem dX10_readWind_108 : decode cX10_readWind 108 = .ok (.iconst 1, 1) := by decide +kernel
theorem dX10_readWind_109 : decode cX10_readWind 109 = .ok (.dup2, 1) := by decide +kernel
theorem dX10_readWind_110 : decode cX10_readWind 110 = .ok (.iaload, 1) := by decide +kernel
theorem dX10_readWind_111 : decode cX10_readWind 111 = .ok (.iconst 1, 1) := by decide +kernel
theorem dX10_readWind_112 : decode cX10_readWind 112 = .ok (.iadd, 1) := by decide +kernel
theorem dX10_readWind_113 : decode cX10_readWind 113 = .ok (.iastore, 1) := by decide +kernel
theorem dX10_readWind_114 : decode cX10_readWind 114 = .ok (.return_, 1) := by decide +kernel
theorem dX10_town_0 : decode cX10_town 0 = .ok (.aload_n 0, 1) := by decide +kernel
theorem dX10_town_1 : decode cX10_town 1 = .ok (.iconst 0, 1) := by decide +kernel
theorem dX10_town_2 : decode cX10_town 2 = .ok (.putfield 1, 3) := by decide +kernel
theorem dX10_town_5 : decode cX10_town 5 = .ok (.iload_n 1, 1) := by decide +kernel
theorem dX10_town_6 : decode cX10_town 6 = .ok (.i2l, 1) := by decide +kernel
theorem dX10_town_7 : decode cX10_town 7 = .ok (.lconst 0, 1) := by decide +kernel
theorem dX10_town_8 : decode cX10_town 8 = .ok (.aload_n 0, 1) := by decide +kernel
theorem dX10_town_9 : decode cX10_town 9 = .ok (.getfield 89, 3) := by decide +kernel
theorem dX10_town_12 : decode cX10_town 12 = .ok (.i2l, 1) := by decide +kernel
theorem dX10_town_13 : decode cX10_town 13 = .ok (.invokestatic 149, 3) := by decide +kernel
theorem dX10_town_16 : decode cX10_town 16 = .ok (.ifCond .ne 6, 3) := by decide +kernel
theorem dX10_town_19 : decode cX10_town 19 = .ok (.bipush (-3), 2) := by decide +kernel
theorem dX10_town_21 : decode cX10_town 21 = .ok (.ireturn, 1) := by decide +kernel
theorem dX10_town_22 : decode cX10_town 22 = .ok (.aload_n 0, 1) := by decide +kernel
theorem dX10_town_23 : decode cX10_town 23 = .ok (.iload_n 1, 1) := by decide +kernel
theorem dX10_town_24 : decode cX10_town 24 = .ok (.putfield 92, 3) := by decide +kernel
theorem dX10_town_27 : decode cX10_town 27 = .ok (.aload_n 0, 1) := by decide +kernel
theorem dX10_town_28 : decode cX10_town 28 = .ok (.iconst 0, 1) := by decide +kernel
theorem dX10_town_29 : decode cX10_town 29 = .ok (.putfield 89, 3) := by decide +kernel
theorem dX10_town_32 : decode cX10_town 32 = .ok (.aload_n 0, 1) := by decide +kernel
theorem dX10_town_33 : decode cX10_town 33 = .ok (.iconst 0, 1) := by decide +kernel
theorem dX10_town_34 : decode cX10_town 34 = .ok (.putfield 110, 3) := by decide +kernel
theorem dX10_town_37 : decode cX10_town 37 = .ok (.aload_n 0, 1) := by decide +kernel
theorem dX10_town_38 : decode cX10_town 38 = .ok (.iconst 0, 1) := by decide +kernel
theorem dX10_town_39 : decode cX10_town 39 = .ok (.putfield 133, 3) := by decide +kernel
theorem dX10_town_42 : decode cX10_town 42 = .ok (.aload_n 0, 1) := by decide +kernel
theorem dX10_town_43 : decode cX10_town 43 = .ok (.getfield 24, 3) := by decide +kernel
theorem dX10_town_46 : decode cX10_town 46 = .ok (.invokestatic 85, 3) := by decide +kernel
theorem dX10_town_49 : decode cX10_town 49 = .ok (.aload_n 0, 1) := by decide +kernel
theorem dX10_town_50 : decode cX10_town 50 = .ok (.invokevirtual 142, 3) := by decide +kernel
theorem dX10_town_53 : decode cX10_town 53 = .ok (.aload_n 0, 1) := by decide +kernel
theorem dX10_town_54 : decode cX10_town 54 = .ok (.getfield 133, 3) := by decide +kernel
theorem dX10_town_57 : decode cX10_town 57 = .ok (.ifCond .ne 147, 3) := by decide +kernel
theorem dX10_town_60 : decode cX10_town 60 = .ok (.aload_n 0, 1) := by decide +kernel
theorem dX10_town_61 : decode cX10_town 61 = .ok (.getfield 117, 3) := by decide +kernel
theorem dX10_town_64 : decode cX10_town 64 = .ok (.bipush 10, 2) := by decide +kernel
theorem dX10_town_66 : decode cX10_town 66 = .ok (.if_icmp .eq 138, 3) := by decide +kernel
theorem dX10_town_69 : decode cX10_town 69 = .ok (.aload_n 0, 1) := by decide +kernel
theorem dX10_town_70 : decode cX10_town 70 = .ok (.iconst 0, 1) := by decide +kernel
theorem dX10_town_71 : decode cX10_town 71 = .ok (.invokevirtual 139, 3) := by decide +kernel
theorem dX10_town_74 : decode cX10_town 74 = .ok (.ifCond .eq 10, 3) := by decide +kernel
theorem dX10_town_77 : decode cX10_town 77 = .ok (.aload_n 0, 1) := by decide +kernel
theorem dX10_town_78 : decode cX10_town 78 = .ok (.invokevirtual 162, 3) := by decide +kernel
theorem dX10_town_81 : decode cX10_town 81 = .ok (.goto 96, 3) := by decide +kernel
theorem dX10_town_84 : decode cX10_town 84 = .ok (.aload_n 0, 1) := by decide +kernel
theorem dX10_town_85 : decode cX10_town 85 = .ok (.iconst 3, 1) := by decide +kernel
theorem dX10_town_86 : decode cX10_town 86 = .ok (.invokevirtual 139, 3) := by decide +kernel
theorem dX10_town_89 : decode cX10_town 89 = .ok (.ifCond .eq 10, 3) := by decide +kernel
theorem dX10_town_92 : decode cX10_town 92 = .ok (.aload_n 0, 1) := by decide +kernel
theorem dX10_town_93 : decode cX10_town 93 = .ok (.invokevirtual 165, 3) := by decide +kernel
theorem dX10_town_96 : decode cX10_town 96 = .ok (.goto 81, 3) := by decide +kernel
theorem dX10_town_99 : decode cX10_town 99 = .ok (.aload_n 0, 1) := by decide +kernel
theorem dX10_town_100 : decode cX10_town 100 = .ok (.iconst 4, 1) := by decide +kernel
theorem dX10_town_101 : decode cX10_town 101 = .ok (.invokevirtual 159, 3) := by decide +kernel
theorem dX10_town_104 : decode cX10_town 104 = .ok (.ifCond .eq 19, 3) := by decide +kernel
theorem dX10_town_107 : decode cX10_town 107 = .ok (.aload_n 0, 1) := by decide +kernel
theorem dX10_town_108 : decode cX10_town 108 = .ok (.getfield 24, 3) := by decide +kernel
theorem dX10_town_111 : decode cX10_town 111 = .ok (.iconst 2, 1) := by decide +kernel
theorem dX10_town_112 : decode cX10_town 112 = .ok (.aload_n 0, 1) := by decide +kernel
theorem dX10_town_113 : decode cX10_town 113 = .ok (.iconst 0, 1) := by decide +kernel
theorem dX10_town_114 : decode cX10_town 114 = .ok (.bipush 20, 2) := by decide +kernel
theorem dX10_town_116 : decode cX10_town 116 = .ok (.invokevirtual 153, 3) := by decide +kernel
theorem dX10_town_119 : decode cX10_town 119 = .ok (.iastore, 1) := by decide +kernel
theorem dX10_town_120 : decode cX10_town 120 = .ok (.goto 57, 3) := by decide +kernel
theorem dX10_town_123 : decode cX10_town 123 = .ok (.aload_n 0, 1) := by decide +kernel
theorem dX10_town_124 : decode cX10_town 124 = .ok (.iconst 5, 1) := by decide +kernel
theorem dX10_town_125 : decode cX10_town 125 = .ok (.invokevirtual 159, 3) := by decide +kernel
theorem dX10_town_128 : decode cX10_town 128 = .ok (.ifCond .eq 19, 3) := by decide +kernel
theorem dX10_town_131 : decode cX10_town 131 = .ok (.aload_n 0, 1) := by decide +kernel
theorem dX10_town_132 : decode cX10_town 132 = .ok (.getfield 24, 3) := by decide +kernel
theorem dX10_town_135 : decode cX10_town 135 = .ok (.iconst 3, 1) := by decide +kernel
theorem dX10_town_136 : decode cX10_town 136 = .ok (.aload_n 0, 1) := by decide +kernel
theorem dX10_town_137 : decode cX10_town 137 = .ok (.iconst 1, 1) := by decide +kernel
theorem dX10_town_138 : decode cX10_town 138 = .ok (.bipush 9, 2) := by decide +kernel
theorem dX10_town_140 : decode cX10_town 140 = .ok (.invokevirtual 153, 3) := by decide +kernel
theorem dX10_town_143 : decode cX10_town 143 = .ok (.iastore, 1) := by decide +kernel
theorem dX10_town_144 : decode cX10_town 144 = .ok (.goto 33, 3) := by decide +kernel
theorem dX10_town_147 : decode cX10_town 147 = .ok (.aload_n 0, 1) := by decide +kernel
theorem dX10_town_148 : decode cX10_town 148 = .ok (.bipush 6, 2) := by decide +kernel
theorem dX10_town_150 : decode cX10_town 150 = .ok (.invokevirtual 159, 3) := by decide +kernel
theorem dX10_town_153 : decode cX10_town 153 = .ok (.ifCond .eq 19, 3) := by decide +kernel
theorem dX10_town_156 : decode cX10_town 156 = .ok (.aload_n 0, 1) := by decide +kernel
theorem dX10_town_157 : decode cX10_town 157 = .ok (.getfield 24, 3) := by decide +kernel
theorem dX10_town_160 : decode cX10_town 160 = .ok (.iconst 4, 1) := by decide +kernel
theorem dX10_town_161 : decode cX10_town 161 = .ok (.aload_n 0, 1) := by decide +kernel
theorem dX10_town_162 : decode cX10_town 162 = .ok (.iconst 0, 1) := by decide +kernel
theorem dX10_town_163 : decode cX10_town 163 = .ok (.bipush 99, 2) := by decide +kernel
theorem dX10_town_165 : decode cX10_town 165 = .ok (.invokevirtual 153, 3) := by decide +kernel
theorem dX10_town_168 : decode cX10_town 168 = .ok (.iastore, 1) := by decide +kernel
theorem dX10_town_169 : decode cX10_town 169 = .ok (.goto 8, 3) := by decide +kernel
theorem dX10_town_172 : decode cX10_town 172 = .ok (.aload_n 0, 1) := by decide +kernel
theorem dX10_town_173 : decode cX10_town 173 = .ok (.iconst 2, 1) := by decide +kernel
theorem dX10_town_174 : decode cX10_town 174 = .ok (.invokevirtual 145, 3) := by decide +kernel
theorem dX10_town_177 : decode cX10_town 177 = .ok (.aload_n 0, 1) := by decide +kernel
theorem dX10_town_178 : decode cX10_town 178 = .ok (.bipush 9, 2) := by decide +kernel
theorem dX10_town_180 : decode cX10_town 180 = .ok (.invokevirtual 159, 3) := by decide +kernel
theorem dX10_town_183 : decode cX10_town 183 = .ok (.ifCond .ne 8, 3) := by decide +kernel
theorem dX10_town_186 : decode cX10_town 186 = .ok (.aload_n 0, 1) := by decide +kernel
theorem dX10_town_187 : decode cX10_town 187 = .ok (.iconst 2, 1) := by decide +kernel
theorem dX10_town_188 : decode cX10_town 188 = .ok (.invokevirtual 145, 3) := by decide +kernel
theorem dX10_town_191 : decode cX10_town 191 = .ok (.aload_n 0, 1) := by decide +kernel
theorem dX10_town_192 : decode cX10_town 192 = .ok (.getfield 24, 3) := by decide +kernel
theorem dX10_town_195 : decode cX10_town 195 = .ok (.iconst 5, 1) := by decide +kernel
theorem dX10_town_196 : decode cX10_town 196 = .ok (.dup2, 1) := by decide +kernel
theorem dX10_town_197 : decode cX10_town 197 = .ok (.iaload, 1) := by decide +kernel
theorem dX10_town_198 : decode cX10_town 198 = .ok (.iconst 1, 1) := by decide +kernel
theorem dX10_town_199 : decode cX10_town 199 = .ok (.iadd, 1) := by decide +kernel
theorem dX10_town_200 : decode cX10_town 200 = .ok (.iastore, 1) := by decide +kernel
theorem dX10_town_201 : decode cX10_town 201 = .ok (.goto (-148), 3) := by decide +kernel
theorem dX10_town_204 : decode cX10_town 204 = .ok (.aload_n 0, 1) := by decide +kernel
theorem dX10_town_205 : decode cX10_town 205 = .ok (.aload_n 0, 1) := by decide +kernel
theorem dX10_town_206 : decode cX10_town 206 = .ok (.getfield 133, 3) := by decide +kernel
theorem dX10_town_209 : decode cX10_town 209 = .ok (.putfield 168, 3) := by decide +kernel
theorem dX10_town_212 : decode cX10_town 212 = .ok (.aload_n 0, 1) := by decide +kernel
theorem dX10_town_213 : decode cX10_town 213 = .ok (.aload_n 0, 1) := by decide +kernel
theorem dX10_town_214 : decode cX10_town 214 = .ok (.getfield 133, 3) := by decide +kernel
theorem dX10_town_217 : decode cX10_town 217 = .ok (.ifCond .ne 7, 3) := by decide +kernel
theorem dX10_town_220 : decode cX10_town 220 = .ok (.iconst (-1), 1) := by decide +kernel
theorem dX10_town_221 : decode cX10_town 221 = .ok (.goto 7, 3) := by decide +kernel
theorem dX10_town_224 : decode cX10_town 224 = .ok (.aload_n 0, 1) := by decide +kernel
theorem dX10_town_225 : decode cX10_town 225 = .ok (.getfield 136, 3) := by decide +kernel
theorem dX10_town_228 : decode cX10_town 228 = .ok (.putfield 27, 3) := by decide +kernel
theorem dX10_town_231 : decode cX10_town 231 = .ok (.aload_n 0, 1) := by decide +kernel
theorem dX10_town_232 : decode cX10_town 232 = .ok (.getfield 133, 3) := by decide +kernel
theorem dX10_town_235 : decode cX10_town 235 = .ok (.ifCond .eq 11, 3) := by decide +kernel
theorem dX10_town_238 : decode cX10_town 238 = .ok (.bipush (-30), 2) := by decide +kernel
theorem dX10_town_240 : decode cX10_town 240 = .ok (.aload_n 0, 1) := by decide +kernel
theorem dX10_town_241 : decode cX10_town 241 = .ok (.getfield 133, 3) := by decide +kernel
theorem dX10_town_244 : decode cX10_town 244 = .ok (.isub, 1) := by decide +kernel
theorem dX10_town_245 : decode cX10_town 245 = .ok (.ireturn, 1) := by decide +kernel
theorem dX10_town_246 : decode cX10_town 246 = .ok (.iconst 0, 1) := by decide +kernel
theorem dX10_town_247 : decode cX10_town 247 = .ok (.istore_n 2, 1) := by decide +kernel
theorem dX10_town_248 : decode cX10_town 248 = .ok (.iload_n 2, 1) := by decide +kernel
theorem dX10_town_249 : decode cX10_town 249 = .ok (.sipush 162, 3) := by decide +kernel
theorem dX10_town_252 : decode cX10_town 252 = .ok (.if_icmp .ge 21, 3) := by decide +kernel
theorem dX10_town_255 : decode cX10_town 255 = .ok (.aload_n 0, 1) := by decide +kernel
theorem dX10_town_256 : decode cX10_town 256 = .ok (.getfield 13, 3) := by decide +kernel
theorem dX10_town_259 : decode cX10_town 259 = .ok (.iload_n 2, 1) := by decide +kernel
theorem dX10_town_260 : decode cX10_town 260 = .ok (.aload_n 0, 1) := by decide +kernel
theorem dX10_town_261 : decode cX10_town 261 = .ok (.getfield 24, 3) := by decide +kernel
theorem dX10_town_264 : decode cX10_town 264 = .ok (.iload_n 2, 1) := by decide +kernel
theorem dX10_town_265 : decode cX10_town 265 = .ok (.iaload, 1) := by decide +kernel
theorem dX10_town_266 : decode cX10_town 266 = .ok (.iastore, 1) := by decide +kernel
theorem dX10_town_267 : decode cX10_town 267 = .ok (.iinc 2 1, 3) := by decide +kernel
theorem dX10_town_270 : decode cX10_town 270 = .ok (.goto (-22), 3) := by decide +kernel
theorem dX10_town_273 : decode cX10_town 273 = .ok (.aload_n 0, 1) := by decide +kernel
theorem dX10_town_274 : decode cX10_town 274 = .ok (.getfield 13, 3) := by decide +kernel
theorem dX10_town_277 : decode cX10_town 277 = .ok (.iconst 5, 1) := by decide +kernel
theorem dX10_town_278 : decode cX10_town 278 = .ok (.iaload, 1) := by decide +kernel
theorem dX10_town_279 : decode cX10_town 279 = .ok (.ireturn, 1) := by decide +kernel
theorem dX10_fault_0 : decode cX10_fault 0 = .ok (.aload_n 0, 1) := by decide +kernel
theorem dX10_fault_1 : decode cX10_fault 1 = .ok (.iconst 0, 1) := by decide +kernel
theorem dX10_fault_2 : decode cX10_fault 2 = .ok (.putfield 1, 3) := by decide +kernel
theorem dX10_fault_5 : decode cX10_fault 5 = .ok (.iload_n 1, 1) := by decide +kernel
theorem dX10_fault_6 : decode cX10_fault 6 = .ok (.ifCond .ne 10, 3) := by decide +kernel
theorem dX10_fault_9 : decode cX10_fault 9 = .ok (.aload_n 0, 1) := by decide +kernel
theorem dX10_fault_10 : decode cX10_fault 10 = .ok (.getfield 168, 3) := by decide +kernel
theorem dX10_fault_13 : decode cX10_fault 13 = .ok (.goto 16, 3) := by decide +kernel
theorem dX10_fault_16 : decode cX10_fault 16 = .ok (.iload_n 1, 1) := by decide +kernel
theorem dX10_fault_17 : decode cX10_fault 17 = .ok (.iconst 1, 1) := by decide +kernel
theorem dX10_fault_18 : decode cX10_fault 18 = .ok (.if_icmp .ne 10, 3) := by decide +kernel
theorem dX10_fault_21 : decode cX10_fault 21 = .ok (.aload_n 0, 1) := by decide +kernel
theorem dX10_fault_22 : decode cX10_fault 22 = .ok (.getfield 27, 3) := by decide +kernel
theorem dX10_fault_25 : decode cX10_fault 25 = .ok (.goto 4, 3) := by decide +kernel
theorem dX10_fault_28 : decode cX10_fault 28 = .ok (.iconst (-1), 1) := by decide +kernel
theorem dX10_fault_29 : decode cX10_fault 29 = .ok (.ireturn, 1) := by decide +kernel
theorem dX10_isChimney_0 : decode cX10_isChimney 0 = .ok (.lload_n 1, 1) := by decide +kernel
theorem dX10_isChimney_1 : decode cX10_isChimney 1 = .ok (.lconst 0, 1) := by decide +kernel
theorem dX10_isChimney_2 : decode cX10_isChimney 2 = .ok (.aload_n 0, 1) := by decide +kernel
theorem dX10_isChimney_3 : decode cX10_isChimney 3 = .ok (.getfield 13, 3) := by decide +kernel
theorem dX10_isChimney_6 : decode cX10_isChimney 6 = .ok (.iconst 0, 1) := by decide +kernel
theorem dX10_isChimney_7 : decode cX10_isChimney 7 = .ok (.iaload, 1) := by decide +kernel
theorem dX10_isChimney_8 : decode cX10_isChimney 8 = .ok (.iconst 1, 1) := by decide +kernel
theorem dX10_isChimney_9 : decode cX10_isChimney 9 = .ok (.isub, 1) := by decide +kernel
theorem dX10_isChimney_10 : decode cX10_isChimney 10 = .ok (.i2l, 1) := by decide +kernel
theorem dX10_isChimney_11 : decode cX10_isChimney 11 = .ok (.invokestatic 149, 3) := by decide +kernel
theorem dX10_isChimney_14 : decode cX10_isChimney 14 = .ok (.ireturn, 1) := by decide +kernel
theorem dX10_isLit_0 : decode cX10_isLit 0 = .ok (.aload_n 0, 1) := by decide +kernel
theorem dX10_isLit_1 : decode cX10_isLit 1 = .ok (.getfield 13, 3) := by decide +kernel
theorem dX10_isLit_4 : decode cX10_isLit 4 = .ok (.bipush 56, 2) := by decide +kernel
theorem dX10_isLit_6 : decode cX10_isLit 6 = .ok (.iload_n 1, 1) := by decide +kernel
theorem dX10_isLit_7 : decode cX10_isLit 7 = .ok (.iadd, 1) := by decide +kernel
theorem dX10_isLit_8 : decode cX10_isLit 8 = .ok (.iaload, 1) := by decide +kernel
theorem dX10_isLit_9 : decode cX10_isLit 9 = .ok (.ifCond .le 7, 3) := by decide +kernel
theorem dX10_isLit_12 : decode cX10_isLit 12 = .ok (.iconst 1, 1) := by decide +kernel
theorem dX10_isLit_13 : decode cX10_isLit 13 = .ok (.goto 4, 3) := by decide +kernel
theorem dX10_isLit_16 : decode cX10_isLit 16 = .ok (.iconst 0, 1) := by decide +kernel
theorem dX10_isLit_17 : decode cX10_isLit 17 = .ok (.ireturn, 1) := by decide +kernel
theorem dX10_litAt_0 : decode cX10_litAt 0 = .ok (.aload_n 0, 1) := by decide +kernel
theorem dX10_litAt_1 : decode cX10_litAt 1 = .ok (.getfield 13, 3) := by decide +kernel
theorem dX10_litAt_4 : decode cX10_litAt 4 = .ok (.bipush 56, 2) := by decide +kernel
theorem dX10_litAt_6 : decode cX10_litAt 6 = .ok (.iload_n 1, 1) := by decide +kernel
theorem dX10_litAt_7 : decode cX10_litAt 7 = .ok (.iadd, 1) := by decide +kernel
theorem dX10_litAt_8 : decode cX10_litAt 8 = .ok (.iaload, 1) := by decide +kernel
theorem dX10_litAt_9 : decode cX10_litAt 9 = .ok (.iconst 1, 1) := by decide +kernel
theorem dX10_litAt_10 : decode cX10_litAt 10 = .ok (.isub, 1) := by decide +kernel
theorem dX10_litAt_11 : decode cX10_litAt 11 = .ok (.ireturn, 1) := by decide +kernel
theorem dX10_isHour_0 : decode cX10_isHour 0 = .ok (.iload_n 1, 1) := by decide +kernel
theorem dX10_isHour_1 : decode cX10_isHour 1 = .ok (.i2l, 1) := by decide +kernel
theorem dX10_isHour_2 : decode cX10_isHour 2 = .ok (.lconst 0, 1) := by decide +kernel
theorem dX10_isHour_3 : decode cX10_isHour 3 = .ok (.ldc2_w 171, 3) := by decide +kernel
theorem dX10_isHour_6 : decode cX10_isHour 6 = .ok (.invokestatic 149, 3) := by decide +kernel
theorem dX10_isHour_9 : decode cX10_isHour 9 = .ok (.ireturn, 1) := by decide +kernel
theorem dX10_chimney_0 : decode cX10_chimney 0 = .ok (.aload_n 0, 1) := by decide +kernel
theorem dX10_chimney_1 : decode cX10_chimney 1 = .ok (.iconst 0, 1) := by decide +kernel
theorem dX10_chimney_2 : decode cX10_chimney 2 = .ok (.putfield 1, 3) := by decide +kernel
theorem dX10_chimney_5 : decode cX10_chimney 5 = .ok (.aload_n 0, 1) := by decide +kernel
theorem dX10_chimney_6 : decode cX10_chimney 6 = .ok (.iload_n 1, 1) := by decide +kernel
theorem dX10_chimney_7 : decode cX10_chimney 7 = .ok (.i2l, 1) := by decide +kernel
theorem dX10_chimney_8 : decode cX10_chimney 8 = .ok (.invokevirtual 173, 3) := by decide +kernel
theorem dX10_chimney_11 : decode cX10_chimney 11 = .ok (.ifCond .eq 21, 3) := by decide +kernel
theorem dX10_chimney_14 : decode cX10_chimney 14 = .ok (.iload_n 2, 1) := by decide +kernel
theorem dX10_chimney_15 : decode cX10_chimney 15 = .ok (.ifCond .lt 17, 3) := by decide +kernel
theorem dX10_chimney_18 : decode cX10_chimney 18 = .ok (.iload_n 2, 1) := by decide +kernel
theorem dX10_chimney_19 : decode cX10_chimney 19 = .ok (.i2l, 1) := by decide +kernel
theorem dX10_chimney_20 : decode cX10_chimney 20 = .ok (.ldc2_w 177, 3) := by decide +kernel
theorem dX10_chimney_23 : decode cX10_chimney 23 = .ok (.ldc2_w 157, 3) := by decide +kernel
theorem dX10_chimney_26 : decode cX10_chimney 26 = .ok (.invokestatic 149, 3) := by decide +kernel
theorem dX10_chimney_29 : decode cX10_chimney 29 = .ok (.ifCond .eq 6, 3) := by decide +kernel
theorem dX10_chimney_32 : decode cX10_chimney 32 = .ok (.bipush (-2), 2) := by decide +kernel
theorem dX10_chimney_34 : decode cX10_chimney 34 = .ok (.ireturn, 1) := by decide +kernel
theorem dX10_chimney_35 : decode cX10_chimney 35 = .ok (.iload_n 2, 1) := by decide +kernel
theorem dX10_chimney_36 : decode cX10_chimney 36 = .ok (.iconst 5, 1) := by decide +kernel
theorem dX10_chimney_37 : decode cX10_chimney 37 = .ok (.if_icmp .ne 9, 3) := by decide +kernel
theorem dX10_chimney_40 : decode cX10_chimney 40 = .ok (.aload_n 0, 1) := by decide +kernel
theorem dX10_chimney_41 : decode cX10_chimney 41 = .ok (.iload_n 1, 1) := by decide +kernel
theorem dX10_chimney_42 : decode cX10_chimney 42 = .ok (.invokevirtual 179, 3) := by decide +kernel
theorem dX10_chimney_45 : decode cX10_chimney 45 = .ok (.ireturn, 1) := by decide +kernel
theorem dX10_chimney_46 : decode cX10_chimney 46 = .ok (.iload_n 2, 1) := by decide +kernel
theorem dX10_chimney_47 : decode cX10_chimney 47 = .ok (.iconst 5, 1) := by decide +kernel
theorem dX10_chimney_48 : decode cX10_chimney 48 = .ok (.if_icmp .ge 18, 3) := by decide +kernel
theorem dX10_chimney_51 : decode cX10_chimney 51 = .ok (.aload_n 0, 1) := by decide +kernel
theorem dX10_chimney_52 : decode cX10_chimney 52 = .ok (.getfield 13, 3) := by decide +kernel
theorem dX10_chimney_55 : decode cX10_chimney 55 = .ok (.bipush 6, 2) := by decide +kernel
theorem dX10_chimney_57 : decode cX10_chimney 57 = .ok (.bipush 10, 2) := by decide +kernel
theorem dX10_chimney_59 : decode cX10_chimney 59 = .ok (.iload_n 2, 1) := by decide +kernel
theorem dX10_chimney_60 : decode cX10_chimney 60 = .ok (.imul, 1) := by decide +kernel
theorem dX10_chimney_61 : decode cX10_chimney 61 = .ok (.iadd, 1) := by decide +kernel
theorem dX10_chimney_62 : decode cX10_chimney 62 = .ok (.iload_n 1, 1) := by decide +kernel
theorem dX10_chimney_63 : decode cX10_chimney 63 = .ok (.iadd, 1) := by decide +kernel
theorem dX10_chimney_64 : decode cX10_chimney 64 = .ok (.iaload, 1) := by decide +kernel
theorem dX10_chimney_65 : decode cX10_chimney 65 = .ok (.ireturn, 1) := by decide +kernel
theorem dX10_chimney_66 : decode cX10_chimney 66 = .ok (.iload_n 2, 1) := by decide +kernel
theorem dX10_chimney_67 : decode cX10_chimney 67 = .ok (.bipush 10, 2) := by decide +kernel
theorem dX10_chimney_69 : decode cX10_chimney 69 = .ok (.isub, 1) := by decide +kernel
theorem dX10_chimney_70 : decode cX10_chimney 70 = .ok (.aload_n 0, 1) := by decide +kernel
theorem dX10_chimney_71 : decode cX10_chimney 71 = .ok (.getfield 13, 3) := by decide +kernel
theorem dX10_chimney_74 : decode cX10_chimney 74 = .ok (.bipush 46, 2) := by decide +kernel
theorem dX10_chimney_76 : decode cX10_chimney 76 = .ok (.iload_n 1, 1) := by decide +kernel
theorem dX10_chimney_77 : decode cX10_chimney 77 = .ok (.iadd, 1) := by decide +kernel
theorem dX10_chimney_78 : decode cX10_chimney 78 = .ok (.iaload, 1) := by decide +kernel
theorem dX10_chimney_79 : decode cX10_chimney 79 = .ok (.if_icmp .ge 23, 3) := by decide +kernel
theorem dX10_chimney_82 : decode cX10_chimney 82 = .ok (.aload_n 0, 1) := by decide +kernel
theorem dX10_chimney_83 : decode cX10_chimney 83 = .ok (.getfield 13, 3) := by decide +kernel
theorem dX10_chimney_86 : decode cX10_chimney 86 = .ok (.bipush 66, 2) := by decide +kernel
theorem dX10_chimney_88 : decode cX10_chimney 88 = .ok (.bipush 6, 2) := by decide +kernel
theorem dX10_chimney_90 : decode cX10_chimney 90 = .ok (.iload_n 1, 1) := by decide +kernel
theorem dX10_chimney_91 : decode cX10_chimney 91 = .ok (.imul, 1) := by decide +kernel
theorem dX10_chimney_92 : decode cX10_chimney 92 = .ok (.iadd, 1) := by decide +kernel
theorem dX10_chimney_93 : decode cX10_chimney 93 = .ok (.iload_n 2, 1) := by decide +kernel
theorem dX10_chimney_94 : decode cX10_chimney 94 = .ok (.iadd, 1) := by decide +kernel
theorem dX10_chimney_95 : decode cX10_chimney 95 = .ok (.bipush 10, 2) := by decide +kernel
theorem dX10_chimney_97 : decode cX10_chimney 97 = .ok (.isub, 1) := by decide +kernel
theorem dX10_chimney_98 : decode cX10_chimney 98 = .ok (.iaload, 1) := by decide +kernel
theorem dX10_chimney_99 : decode cX10_chimney 99 = .ok (.goto 5, 3) := by decide +kernel
theorem dX10_chimney_102 : decode cX10_chimney 102 = .ok (.bipush (-7), 2) := by decide +kernel
theorem dX10_chimney_104 : decode cX10_chimney 104 = .ok (.ireturn, 1) := by decide +kernel
theorem dX10_windOf_0 : decode cX10_windOf 0 = .ok (.iconst (-1), 1) := by decide +kernel
theorem dX10_windOf_1 : decode cX10_windOf 1 = .ok (.istore_n 3, 1) := by decide +kernel
theorem dX10_windOf_2 : decode cX10_windOf 2 = .ok (.iconst 0, 1) := by decide +kernel
theorem dX10_windOf_3 : decode cX10_windOf 3 = .ok (.istore 4, 2) := by decide +kernel
theorem dX10_windOf_5 : decode cX10_windOf 5 = .ok (.iload 4, 2) := by decide +kernel
theorem dX10_windOf_7 : decode cX10_windOf 7 = .ok (.aload_n 0, 1) := by decide +kernel
theorem dX10_windOf_8 : decode cX10_windOf 8 = .ok (.getfield 13, 3) := by decide +kernel
theorem dX10_windOf_11 : decode cX10_windOf 11 = .ok (.iconst 1, 1) := by decide +kernel
theorem dX10_windOf_12 : decode cX10_windOf 12 = .ok (.iaload, 1) := by decide +kernel
theorem dX10_windOf_13 : decode cX10_windOf 13 = .ok (.if_icmp .ge 53, 3) := by decide +kernel
theorem dX10_windOf_16 : decode cX10_windOf 16 = .ok (.aload_n 0, 1) := by decide +kernel
theorem dX10_windOf_17 : decode cX10_windOf 17 = .ok (.getfield 13, 3) := by decide +kernel
theorem dX10_windOf_20 : decode cX10_windOf 20 = .ok (.bipush 126, 2) := by decide +kernel
theorem dX10_windOf_22 : decode cX10_windOf 22 = .ok (.iconst 3, 1) := by decide +kernel
theorem dX10_windOf_23 : decode cX10_windOf 23 = .ok (.iload 4, 2) := by decide +kernel
theorem dX10_windOf_25 : decode cX10_windOf 25 = .ok (.imul, 1) := by decide +kernel
theorem dX10_windOf_26 : decode cX10_windOf 26 = .ok (.iadd, 1) := by decide +kernel
theorem dX10_windOf_27 : decode cX10_windOf 27 = .ok (.iaload, 1) := by decide +kernel
theorem dX10_windOf_28 : decode cX10_windOf 28 = .ok (.istore 5, 2) := by decide +kernel
theorem dX10_windOf_30 : decode cX10_windOf 30 = .ok (.iload 5, 2) := by decide +kernel
theorem dX10_windOf_32 : decode cX10_windOf 32 = .ok (.iload_n 1, 1) := by decide +kernel
theorem dX10_windOf_33 : decode cX10_windOf 33 = .ok (.if_icmp .gt 27, 3) := by decide +kernel
theorem dX10_windOf_36 : decode cX10_windOf 36 = .ok (.iload_n 3, 1) := by decide +kernel
theorem dX10_windOf_37 : decode cX10_windOf 37 = .ok (.iconst (-1), 1) := by decide +kernel
theorem dX10_windOf_38 : decode cX10_windOf 38 = .ok (.if_icmp .eq 19, 3) := by decide +kernel
theorem dX10_windOf_41 : decode cX10_windOf 41 = .ok (.iload 5, 2) := by decide +kernel
theorem dX10_windOf_43 : decode cX10_windOf 43 = .ok (.aload_n 0, 1) := by decide +kernel
theorem dX10_windOf_44 : decode cX10_windOf 44 = .ok (.getfield 13, 3) := by decide +kernel
theorem dX10_windOf_47 : decode cX10_windOf 47 = .ok (.bipush 126, 2) := by decide +kernel
theorem dX10_windOf_49 : decode cX10_windOf 49 = .ok (.iconst 3, 1) := by decide +kernel
theorem dX10_windOf_50 : decode cX10_windOf 50 = .ok (.iload_n 3, 1) := by decide +kernel
theorem dX10_windOf_51 : decode cX10_windOf 51 = .ok (.imul, 1) := by decide +kernel
theorem dX10_windOf_52 : decode cX10_windOf 52 = .ok (.iadd, 1) := by decide +kernel
theorem dX10_windOf_53 : decode cX10_windOf 53 = .ok (.iaload, 1) := by decide +kernel
theorem dX10_windOf_54 : decode cX10_windOf 54 = .ok (.if_icmp .lt 6, 3) := by decide +kernel
theorem dX10_windOf_57 : decode cX10_windOf 57 = .ok (.iload 4, 2) := by decide +kernel
theorem dX10_windOf_59 : decode cX10_windOf 59 = .ok (.istore_n 3, 1) := by decide +kernel
theorem dX10_windOf_60 : decode cX10_windOf 60 = .ok (.iinc 4 1, 3) := by decide +kernel
theorem dX10_windOf_63 : decode cX10_windOf 63 = .ok (.goto (-58), 3) := by decide +kernel
theorem dX10_windOf_66 : decode cX10_windOf 66 = .ok (.iload_n 3, 1) := by decide +kernel
theorem dX10_windOf_67 : decode cX10_windOf 67 = .ok (.iconst (-1), 1) := by decide +kernel
theorem dX10_windOf_68 : decode cX10_windOf 68 = .ok (.if_icmp .ne 7, 3) := by decide +kernel
theorem dX10_windOf_71 : decode cX10_windOf 71 = .ok (.iconst 3, 1) := by decide +kernel
theorem dX10_windOf_72 : decode cX10_windOf 72 = .ok (.goto 18, 3) := by decide +kernel
theorem dX10_windOf_75 : decode cX10_windOf 75 = .ok (.aload_n 0, 1) := by decide +kernel
theorem dX10_windOf_76 : decode cX10_windOf 76 = .ok (.getfield 13, 3) := by decide +kernel
theorem dX10_windOf_79 : decode cX10_windOf 79 = .ok (.bipush 126, 2) := by decide +kernel
theorem dX10_windOf_81 : decode cX10_windOf 81 = .ok (.iconst 3, 1) := by decide +kernel
theorem dX10_windOf_82 : decode cX10_windOf 82 = .ok (.iload_n 3, 1) := by decide +kernel
theorem dX10_windOf_83 : decode cX10_windOf 83 = .ok (.imul, 1) := by decide +kernel
theorem dX10_windOf_84 : decode cX10_windOf 84 = .ok (.iadd, 1) := by decide +kernel
theorem dX10_windOf_85 : decode cX10_windOf 85 = .ok (.iconst 1, 1) := by decide +kernel
theorem dX10_windOf_86 : decode cX10_windOf 86 = .ok (.iadd, 1) := by decide +kernel
theorem dX10_windOf_87 : decode cX10_windOf 87 = .ok (.iload_n 2, 1) := by decide +kernel
theorem dX10_windOf_88 : decode cX10_windOf 88 = .ok (.iadd, 1) := by decide +kernel
theorem dX10_windOf_89 : decode cX10_windOf 89 = .ok (.iaload, 1) := by decide +kernel
theorem dX10_windOf_90 : decode cX10_windOf 90 = .ok (.ireturn, 1) := by decide +kernel
theorem dX10_wind_0 : decode cX10_wind 0 = .ok (.aload_n 0, 1) := by decide +kernel
theorem dX10_wind_1 : decode cX10_wind 1 = .ok (.iconst 0, 1) := by decide +kernel
theorem dX10_wind_2 : decode cX10_wind 2 = .ok (.putfield 1, 3) := by decide +kernel
theorem dX10_wind_5 : decode cX10_wind 5 = .ok (.aload_n 0, 1) := by decide +kernel
theorem dX10_wind_6 : decode cX10_wind 6 = .ok (.iload_n 1, 1) := by decide +kernel
theorem dX10_wind_7 : decode cX10_wind 7 = .ok (.invokevirtual 182, 3) := by decide +kernel
theorem dX10_wind_10 : decode cX10_wind 10 = .ok (.ifCond .eq 20, 3) := by decide +kernel
theorem dX10_wind_13 : decode cX10_wind 13 = .ok (.aload_n 0, 1) := by decide +kernel
theorem dX10_wind_14 : decode cX10_wind 14 = .ok (.iload_n 1, 1) := by decide +kernel
theorem dX10_wind_15 : decode cX10_wind 15 = .ok (.iload_n 2, 1) := by decide +kernel
theorem dX10_wind_16 : decode cX10_wind 16 = .ok (.ifCond .eq 7, 3) := by decide +kernel
theorem dX10_wind_19 : decode cX10_wind 19 = .ok (.iconst 1, 1) := by decide +kernel
theorem dX10_wind_20 : decode cX10_wind 20 = .ok (.goto 4, 3) := by decide +kernel
theorem dX10_wind_23 : decode cX10_wind 23 = .ok (.iconst 0, 1) := by decide +kernel
theorem dX10_wind_24 : decode cX10_wind 24 = .ok (.invokevirtual 185, 3) := by decide +kernel
theorem dX10_wind_27 : decode cX10_wind 27 = .ok (.goto 5, 3) := by decide +kernel
theorem dX10_wind_30 : decode cX10_wind 30 = .ok (.bipush (-3), 2) := by decide +kernel
theorem dX10_wind_32 : decode cX10_wind 32 = .ok (.ireturn, 1) := by decide +kernel
theorem dX10_laysWinds_0 : decode cX10_laysWinds 0 = .ok (.iconst 0, 1) := by decide +kernel
theorem dX10_laysWinds_1 : decode cX10_laysWinds 1 = .ok (.istore_n 1, 1) := by decide +kernel
theorem dX10_laysWinds_2 : decode cX10_laysWinds 2 = .ok (.iload_n 1, 1) := by decide +kernel
theorem dX10_laysWinds_3 : decode cX10_laysWinds 3 = .ok (.bipush 48, 2) := by decide +kernel
theorem dX10_laysWinds_5 : decode cX10_laysWinds 5 = .ok (.if_icmp .ge 33, 3) := by decide +kernel
theorem dX10_laysWinds_8 : decode cX10_laysWinds 8 = .ok (.aload_n 0, 1) := by decide +kernel
theorem dX10_laysWinds_9 : decode cX10_laysWinds 9 = .ok (.getfield 30, 3) := by decide +kernel
theorem dX10_laysWinds_12 : decode cX10_laysWinds 12 = .ok (.iload_n 1, 1) := by decide +kernel
theorem dX10_laysWinds_13 : decode cX10_laysWinds 13 = .ok (.aload_n 0, 1) := by decide +kernel
theorem dX10_laysWinds_14 : decode cX10_laysWinds 14 = .ok (.iload_n 1, 1) := by decide +kernel
theorem dX10_laysWinds_15 : decode cX10_laysWinds 15 = .ok (.iconst 0, 1) := by decide +kernel
theorem dX10_laysWinds_16 : decode cX10_laysWinds 16 = .ok (.invokevirtual 185, 3) := by decide +kernel
theorem dX10_laysWinds_19 : decode cX10_laysWinds 19 = .ok (.iastore, 1) := by decide +kernel
theorem dX10_laysWinds_20 : decode cX10_laysWinds 20 = .ok (.aload_n 0, 1) := by decide +kernel
theorem dX10_laysWinds_21 : decode cX10_laysWinds 21 = .ok (.getfield 33, 3) := by decide +kernel
theorem dX10_laysWinds_24 : decode cX10_laysWinds 24 = .ok (.iload_n 1, 1) := by decide +kernel
theorem dX10_laysWinds_25 : decode cX10_laysWinds 25 = .ok (.aload_n 0, 1) := by decide +kernel
theorem dX10_laysWinds_26 : decode cX10_laysWinds 26 = .ok (.iload_n 1, 1) := by decide +kernel
theorem dX10_laysWinds_27 : decode cX10_laysWinds 27 = .ok (.iconst 1, 1) := by decide +kernel
theorem dX10_laysWinds_28 : decode cX10_laysWinds 28 = .ok (.invokevirtual 185, 3) := by decide +kernel
theorem dX10_laysWinds_31 : decode cX10_laysWinds 31 = .ok (.iastore, 1) := by decide +kernel
theorem dX10_laysWinds_32 : decode cX10_laysWinds 32 = .ok (.iinc 1 1, 3) := by decide +kernel
theorem dX10_laysWinds_35 : decode cX10_laysWinds 35 = .ok (.goto (-33), 3) := by decide +kernel
theorem dX10_laysWinds_38 : decode cX10_laysWinds 38 = .ok (.return_, 1) := by decide +kernel
theorem dX10_laysOther_0 : decode cX10_laysOther 0 = .ok (.iload_n 1, 1) := by decide +kernel
theorem dX10_laysOther_1 : decode cX10_laysOther 1 = .ok (.istore_n 2, 1) := by decide +kernel
theorem dX10_laysOther_2 : decode cX10_laysOther 2 = .ok (.iconst 0, 1) := by decide +kernel
theorem dX10_laysOther_3 : decode cX10_laysOther 3 = .ok (.istore_n 3, 1) := by decide +kernel
theorem dX10_laysOther_4 : decode cX10_laysOther 4 = .ok (.iload_n 3, 1) := by decide +kernel
theorem dX10_laysOther_5 : decode cX10_laysOther 5 = .ok (.bipush 48, 2) := by decide +kernel
theorem dX10_laysOther_7 : decode cX10_laysOther 7 = .ok (.if_icmp .ge 53, 3) := by decide +kernel
theorem dX10_laysOther_10 : decode cX10_laysOther 10 = .ok (.ldc 188, 2) := by decide +kernel
theorem dX10_laysOther_12 : decode cX10_laysOther 12 = .ok (.iload_n 2, 1) := by decide +kernel
theorem dX10_laysOther_13 : decode cX10_laysOther 13 = .ok (.imul, 1) := by decide +kernel
theorem dX10_laysOther_14 : decode cX10_laysOther 14 = .ok (.sipush 12345, 3) := by decide +kernel
theorem dX10_laysOther_17 : decode cX10_laysOther 17 = .ok (.iadd, 1) := by decide +kernel
theorem dX10_laysOther_18 : decode cX10_laysOther 18 = .ok (.istore_n 2, 1) := by decide +kernel
theorem dX10_laysOther_19 : decode cX10_laysOther 19 = .ok (.aload_n 0, 1) := by decide +kernel
theorem dX10_laysOther_20 : decode cX10_laysOther 20 = .ok (.getfield 30, 3) := by decide +kernel
theorem dX10_laysOther_23 : decode cX10_laysOther 23 = .ok (.iload_n 3, 1) := by decide +kernel
theorem dX10_laysOther_24 : decode cX10_laysOther 24 = .ok (.iload_n 2, 1) := by decide +kernel
theorem dX10_laysOther_25 : decode cX10_laysOther 25 = .ok (.bipush 16, 2) := by decide +kernel
theorem dX10_laysOther_27 : decode cX10_laysOther 27 = .ok (.iushr, 1) := by decide +kernel
theorem dX10_laysOther_28 : decode cX10_laysOther 28 = .ok (.bipush 7, 2) := by decide +kernel
theorem dX10_laysOther_30 : decode cX10_laysOther 30 = .ok (.irem, 1) := by decide +kernel
theorem dX10_laysOther_31 : decode cX10_laysOther 31 = .ok (.iastore, 1) := by decide +kernel
theorem dX10_laysOther_32 : decode cX10_laysOther 32 = .ok (.ldc 188, 2) := by decide +kernel
theorem dX10_laysOther_34 : decode cX10_laysOther 34 = .ok (.iload_n 2, 1) := by decide +kernel
theorem dX10_laysOther_35 : decode cX10_laysOther 35 = .ok (.imul, 1) := by decide +kernel
theorem dX10_laysOther_36 : decode cX10_laysOther 36 = .ok (.sipush 12345, 3) := by decide +kernel
theorem dX10_laysOther_39 : decode cX10_laysOther 39 = .ok (.iadd, 1) := by decide +kernel
theorem dX10_laysOther_40 : decode cX10_laysOther 40 = .ok (.istore_n 2, 1) := by decide +kernel
theorem dX10_laysOther_41 : decode cX10_laysOther 41 = .ok (.aload_n 0, 1) := by decide +kernel
theorem dX10_laysOther_42 : decode cX10_laysOther 42 = .ok (.getfield 33, 3) := by decide +kernel
theorem dX10_laysOther_45 : decode cX10_laysOther 45 = .ok (.iload_n 3, 1) := by decide +kernel
theorem dX10_laysOther_46 : decode cX10_laysOther 46 = .ok (.iload_n 2, 1) := by decide +kernel
theorem dX10_laysOther_47 : decode cX10_laysOther 47 = .ok (.bipush 16, 2) := by decide +kernel
theorem dX10_laysOther_49 : decode cX10_laysOther 49 = .ok (.iushr, 1) := by decide +kernel
theorem dX10_laysOther_50 : decode cX10_laysOther 50 = .ok (.bipush 7, 2) := by decide +kernel
theorem dX10_laysOther_52 : decode cX10_laysOther 52 = .ok (.irem, 1) := by decide +kernel
theorem dX10_laysOther_53 : decode cX10_laysOther 53 = .ok (.iastore, 1) := by decide +kernel
theorem dX10_laysOther_54 : decode cX10_laysOther 54 = .ok (.iinc 3 1, 3) := by decide +kernel
theorem dX10_laysOther_57 : decode cX10_laysOther 57 = .ok (.goto (-53), 3) := by decide +kernel
theorem dX10_laysOther_60 : decode cX10_laysOther 60 = .ok (.return_, 1) := by decide +kernel
theorem dX10_laysFire_0 : decode cX10_laysFire 0 = .ok (.aload_n 0, 1) := by decide +kernel
theorem dX10_laysFire_1 : decode cX10_laysFire 1 = .ok (.iload_n 1, 1) := by decide +kernel
theorem dX10_laysFire_2 : decode cX10_laysFire 2 = .ok (.iload_n 2, 1) := by decide +kernel
theorem dX10_laysFire_3 : decode cX10_laysFire 3 = .ok (.iload_n 3, 1) := by decide +kernel
theorem dX10_laysFire_4 : decode cX10_laysFire 4 = .ok (.iload 4, 2) := by decide +kernel
theorem dX10_laysFire_6 : decode cX10_laysFire 6 = .ok (.iconst 0, 1) := by decide +kernel
theorem dX10_laysFire_7 : decode cX10_laysFire 7 = .ok (.aload_n 0, 1) := by decide +kernel
theorem dX10_laysFire_8 : decode cX10_laysFire 8 = .ok (.getfield 13, 3) := by decide +kernel
theorem dX10_laysFire_11 : decode cX10_laysFire 11 = .ok (.bipush 46, 2) := by decide +kernel
theorem dX10_laysFire_13 : decode cX10_laysFire 13 = .ok (.iload_n 2, 1) := by decide +kernel
theorem dX10_laysFire_14 : decode cX10_laysFire 14 = .ok (.iadd, 1) := by decide +kernel
theorem dX10_laysFire_15 : decode cX10_laysFire 15 = .ok (.iaload, 1) := by decide +kernel
theorem dX10_laysFire_16 : decode cX10_laysFire 16 = .ok (.invokevirtual 189, 3) := by decide +kernel
theorem dX10_laysFire_19 : decode cX10_laysFire 19 = .ok (.return_, 1) := by decide +kernel
theorem dX10_laysPuffs_0 : decode cX10_laysPuffs 0 = .ok (.iconst 0, 1) := by decide +kernel
theorem dX10_laysPuffs_1 : decode cX10_laysPuffs 1 = .ok (.istore 7, 2) := by decide +kernel
theorem dX10_laysPuffs_3 : decode cX10_laysPuffs 3 = .ok (.iload 5, 2) := by decide +kernel
theorem dX10_laysPuffs_5 : decode cX10_laysPuffs 5 = .ok (.istore 8, 2) := by decide +kernel
theorem dX10_laysPuffs_7 : decode cX10_laysPuffs 7 = .ok (.iload 8, 2) := by decide +kernel
theorem dX10_laysPuffs_9 : decode cX10_laysPuffs 9 = .ok (.iload 6, 2) := by decide +kernel
theorem dX10_laysPuffs_11 : decode cX10_laysPuffs 11 = .ok (.if_icmp .ge 181, 3) := by decide +kernel
theorem dX10_laysPuffs_14 : decode cX10_laysPuffs 14 = .ok (.aload_n 0, 1) := by decide +kernel
theorem dX10_laysPuffs_15 : decode cX10_laysPuffs 15 = .ok (.getfield 13, 3) := by decide +kernel
theorem dX10_laysPuffs_18 : decode cX10_laysPuffs 18 = .ok (.bipush 6, 2) := by decide +kernel
theorem dX10_laysPuffs_20 : decode cX10_laysPuffs 20 = .ok (.iload_n 2, 1) := by decide +kernel
theorem dX10_laysPuffs_21 : decode cX10_laysPuffs 21 = .ok (.iadd, 1) := by decide +kernel
theorem dX10_laysPuffs_22 : decode cX10_laysPuffs 22 = .ok (.iaload, 1) := by decide +kernel
theorem dX10_laysPuffs_23 : decode cX10_laysPuffs 23 = .ok (.istore 9, 2) := by decide +kernel
theorem dX10_laysPuffs_25 : decode cX10_laysPuffs 25 = .ok (.aload_n 0, 1) := by decide +kernel
theorem dX10_laysPuffs_26 : decode cX10_laysPuffs 26 = .ok (.getfield 13, 3) := by decide +kernel
theorem dX10_laysPuffs_29 : decode cX10_laysPuffs 29 = .ok (.bipush 16, 2) := by decide +kernel
theorem dX10_laysPuffs_31 : decode cX10_laysPuffs 31 = .ok (.iload_n 2, 1) := by decide +kernel
theorem dX10_laysPuffs_32 : decode cX10_laysPuffs 32 = .ok (.iadd, 1) := by decide +kernel
theorem dX10_laysPuffs_33 : decode cX10_laysPuffs 33 = .ok (.iaload, 1) := by decide +kernel
theorem dX10_laysPuffs_34 : decode cX10_laysPuffs 34 = .ok (.iload 4, 2) := by decide +kernel
theorem dX10_laysPuffs_36 : decode cX10_laysPuffs 36 = .ok (.iadd, 1) := by decide +kernel
theorem dX10_laysPuffs_37 : decode cX10_laysPuffs 37 = .ok (.istore 10, 2) := by decide +kernel
theorem dX10_laysPuffs_39 : decode cX10_laysPuffs 39 = .ok (.aload_n 0, 1) := by decide +kernel
theorem dX10_laysPuffs_40 : decode cX10_laysPuffs 40 = .ok (.getfield 13, 3) := by decide +kernel
theorem dX10_laysPuffs_43 : decode cX10_laysPuffs 43 = .ok (.bipush 66, 2) := by decide +kernel
theorem dX10_laysPuffs_45 : decode cX10_laysPuffs 45 = .ok (.bipush 6, 2) := by decide +kernel
theorem dX10_laysPuffs_47 : decode cX10_laysPuffs 47 = .ok (.iload_n 2, 1) := by decide +kernel
theorem dX10_laysPuffs_48 : decode cX10_laysPuffs 48 = .ok (.imul, 1) := by decide +kernel
theorem dX10_laysPuffs_49 : decode cX10_laysPuffs 49 = .ok (.iadd, 1) := by decide +kernel
theorem dX10_laysPuffs_50 : decode cX10_laysPuffs 50 = .ok (.iload 8, 2) := by decide +kernel
theorem dX10_laysPuffs_52 : decode cX10_laysPuffs 52 = .ok (.iadd, 1) := by decide +kernel
theorem dX10_laysPuffs_53 : decode cX10_laysPuffs 53 = .ok (.iaload, 1) := by decide +kernel
theorem dX10_laysPuffs_54 : decode cX10_laysPuffs 54 = .ok (.istore 11, 2) := by decide +kernel
theorem dX10_laysPuffs_56 : decode cX10_laysPuffs 56 = .ok (.iload_n 3, 1) := by decide +kernel
theorem dX10_laysPuffs_57 : decode cX10_laysPuffs 57 = .ok (.iload 8, 2) := by decide +kernel
theorem dX10_laysPuffs_59 : decode cX10_laysPuffs 59 = .ok (.iadd, 1) := by decide +kernel
theorem dX10_laysPuffs_60 : decode cX10_laysPuffs 60 = .ok (.istore 12, 2) := by decide +kernel
theorem dX10_laysPuffs_62 : decode cX10_laysPuffs 62 = .ok (.iload 11, 2) := by decide +kernel
theorem dX10_laysPuffs_64 : decode cX10_laysPuffs 64 = .ok (.ifCond .le 122, 3) := by decide +kernel
theorem dX10_laysPuffs_67 : decode cX10_laysPuffs 67 = .ok (.iload 9, 2) := by decide +kernel
theorem dX10_laysPuffs_69 : decode cX10_laysPuffs 69 = .ok (.i2l, 1) := by decide +kernel
theorem dX10_laysPuffs_70 : decode cX10_laysPuffs 70 = .ok (.lconst 0, 1) := by decide +kernel
theorem dX10_laysPuffs_71 : decode cX10_laysPuffs 71 = .ok (.ldc2_w 193, 3) := by decide +kernel
theorem dX10_laysPuffs_74 : decode cX10_laysPuffs 74 = .ok (.invokestatic 149, 3) := by decide +kernel
theorem dX10_laysPuffs_77 : decode cX10_laysPuffs 77 = .ok (.ifCond .eq 109, 3) := by decide +kernel
theorem dX10_laysPuffs_80 : decode cX10_laysPuffs 80 = .ok (.iload 10, 2) := by decide +kernel
theorem dX10_laysPuffs_82 : decode cX10_laysPuffs 82 = .ok (.bipush 25, 2) := by decide +kernel
theorem dX10_laysPuffs_84 : decode cX10_laysPuffs 84 = .ok (.if_icmp .ge 102, 3) := by decide +kernel
theorem dX10_laysPuffs_87 : decode cX10_laysPuffs 87 = .ok (.aload_n 0, 1) := by decide +kernel
theorem dX10_laysPuffs_88 : decode cX10_laysPuffs 88 = .ok (.getfield 36, 3) := by decide +kernel
theorem dX10_laysPuffs_91 : decode cX10_laysPuffs 91 = .ok (.bipush 54, 2) := by decide +kernel
theorem dX10_laysPuffs_93 : decode cX10_laysPuffs 93 = .ok (.iload_n 1, 1) := by decide +kernel
theorem dX10_laysPuffs_94 : decode cX10_laysPuffs 94 = .ok (.imul, 1) := by decide +kernel
theorem dX10_laysPuffs_95 : decode cX10_laysPuffs 95 = .ok (.iload 7, 2) := by decide +kernel
theorem dX10_laysPuffs_97 : decode cX10_laysPuffs 97 = .ok (.iadd, 1) := by decide +kernel
theorem dX10_laysPuffs_98 : decode cX10_laysPuffs 98 = .ok (.bipush 10, 2) := by decide +kernel
theorem dX10_laysPuffs_100 : decode cX10_laysPuffs 100 = .ok (.sipush 1000, 3) := by decide +kernel
theorem dX10_laysPuffs_103 : decode cX10_laysPuffs 103 = .ok (.iload 12, 2) := by decide +kernel
theorem dX10_laysPuffs_105 : decode cX10_laysPuffs 105 = .ok (.imul, 1) := by decide +kernel
theorem dX10_laysPuffs_106 : decode cX10_laysPuffs 106 = .ok (.bipush 25, 2) := by decide +kernel
theorem dX10_laysPuffs_108 : decode cX10_laysPuffs 108 = .ok (.iload 9, 2) := by decide +kernel
theorem dX10_laysPuffs_110 : decode cX10_laysPuffs 110 = .ok (.imul, 1) := by decide +kernel
theorem dX10_laysPuffs_111 : decode cX10_laysPuffs 111 = .ok (.iadd, 1) := by decide +kernel
theorem dX10_laysPuffs_112 : decode cX10_laysPuffs 112 = .ok (.iload 10, 2) := by decide +kernel
theorem dX10_laysPuffs_114 : decode cX10_laysPuffs 114 = .ok (.iadd, 1) := by decide +kernel
theorem dX10_laysPuffs_115 : decode cX10_laysPuffs 115 = .ok (.imul, 1) := by decide +kernel
theorem dX10_laysPuffs_116 : decode cX10_laysPuffs 116 = .ok (.iload 11, 2) := by decide +kernel
theorem dX10_laysPuffs_118 : decode cX10_laysPuffs 118 = .ok (.iadd, 1) := by decide +kernel
theorem dX10_laysPuffs_119 : decode cX10_laysPuffs 119 = .ok (.iastore, 1) := by decide +kernel
theorem dX10_laysPuffs_120 : decode cX10_laysPuffs 120 = .ok (.iinc 7 1, 3) := by decide +kernel
theorem dX10_laysPuffs_123 : decode cX10_laysPuffs 123 = .ok (.iload 12, 2) := by decide +kernel
theorem dX10_laysPuffs_125 : decode cX10_laysPuffs 125 = .ok (.iconst 1, 1) := by decide +kernel
theorem dX10_laysPuffs_126 : decode cX10_laysPuffs 126 = .ok (.iadd, 1) := by decide +kernel
theorem dX10_laysPuffs_127 : decode cX10_laysPuffs 127 = .ok (.bipush 48, 2) := by decide +kernel
theorem dX10_laysPuffs_129 : decode cX10_laysPuffs 129 = .ok (.if_icmp .ne 6, 3) := by decide +kernel
theorem dX10_laysPuffs_132 : decode cX10_laysPuffs 132 = .ok (.goto 54, 3) := by decide +kernel
theorem dX10_laysPuffs_135 : decode cX10_laysPuffs 135 = .ok (.iload 9, 2) := by decide +kernel
theorem dX10_laysPuffs_137 : decode cX10_laysPuffs 137 = .ok (.iload 10, 2) := by decide +kernel
theorem dX10_laysPuffs_139 : decode cX10_laysPuffs 139 = .ok (.aload_n 0, 1) := by decide +kernel
theorem dX10_laysPuffs_140 : decode cX10_laysPuffs 140 = .ok (.getfield 13, 3) := by decide +kernel
theorem dX10_laysPuffs_143 : decode cX10_laysPuffs 143 = .ok (.iconst 2, 1) := by decide +kernel
theorem dX10_laysPuffs_144 : decode cX10_laysPuffs 144 = .ok (.iaload, 1) := by decide +kernel
theorem dX10_laysPuffs_145 : decode cX10_laysPuffs 145 = .ok (.if_icmp .ge 15, 3) := by decide +kernel
theorem dX10_laysPuffs_148 : decode cX10_laysPuffs 148 = .ok (.aload_n 0, 1) := by decide +kernel
theorem dX10_laysPuffs_149 : decode cX10_laysPuffs 149 = .ok (.getfield 30, 3) := by decide +kernel
theorem dX10_laysPuffs_152 : decode cX10_laysPuffs 152 = .ok (.iload 12, 2) := by decide +kernel
theorem dX10_laysPuffs_154 : decode cX10_laysPuffs 154 = .ok (.iconst 1, 1) := by decide +kernel
theorem dX10_laysPuffs_155 : decode cX10_laysPuffs 155 = .ok (.iadd, 1) := by decide +kernel
theorem dX10_laysPuffs_156 : decode cX10_laysPuffs 156 = .ok (.iaload, 1) := by decide +kernel
theorem dX10_laysPuffs_157 : decode cX10_laysPuffs 157 = .ok (.goto 12, 3) := by decide +kernel
theorem dX10_laysPuffs_160 : decode cX10_laysPuffs 160 = .ok (.aload_n 0, 1) := by decide +kernel
theorem dX10_laysPuffs_161 : decode cX10_laysPuffs 161 = .ok (.getfield 33, 3) := by decide +kernel
theorem dX10_laysPuffs_164 : decode cX10_laysPuffs 164 = .ok (.iload 12, 2) := by decide +kernel
theorem dX10_laysPuffs_166 : decode cX10_laysPuffs 166 = .ok (.iconst 1, 1) := by decide +kernel
theorem dX10_laysPuffs_167 : decode cX10_laysPuffs 167 = .ok (.iadd, 1) := by decide +kernel
theorem dX10_laysPuffs_168 : decode cX10_laysPuffs 168 = .ok (.iaload, 1) := by decide +kernel
theorem dX10_laysPuffs_169 : decode cX10_laysPuffs 169 = .ok (.iconst 3, 1) := by decide +kernel
theorem dX10_laysPuffs_170 : decode cX10_laysPuffs 170 = .ok (.isub, 1) := by decide +kernel
theorem dX10_laysPuffs_171 : decode cX10_laysPuffs 171 = .ok (.iadd, 1) := by decide +kernel
theorem dX10_laysPuffs_172 : decode cX10_laysPuffs 172 = .ok (.istore 9, 2) := by decide +kernel
theorem dX10_laysPuffs_174 : decode cX10_laysPuffs 174 = .ok (.iinc 10 1, 3) := by decide +kernel
theorem dX10_laysPuffs_177 : decode cX10_laysPuffs 177 = .ok (.iinc 11 (-1), 3) := by decide +kernel
theorem dX10_laysPuffs_180 : decode cX10_laysPuffs 180 = .ok (.iinc 12 1, 3) := by decide +kernel
theorem dX10_laysPuffs_183 : decode cX10_laysPuffs 183 = .ok (.goto (-121), 3) := by decide +kernel
theorem dX10_laysPuffs_186 : decode cX10_laysPuffs 186 = .ok (.iinc 8 1, 3) := by decide +kernel
theorem dX10_laysPuffs_189 : decode cX10_laysPuffs 189 = .ok (.goto (-182), 3) := by decide +kernel
theorem dX10_laysPuffs_192 : decode cX10_laysPuffs 192 = .ok (.aload_n 0, 1) := by decide +kernel
theorem dX10_laysPuffs_193 : decode cX10_laysPuffs 193 = .ok (.getfield 39, 3) := by decide +kernel
theorem dX10_laysPuffs_196 : decode cX10_laysPuffs 196 = .ok (.iload_n 1, 1) := by decide +kernel
theorem dX10_laysPuffs_197 : decode cX10_laysPuffs 197 = .ok (.iload 7, 2) := by decide +kernel
theorem dX10_laysPuffs_199 : decode cX10_laysPuffs 199 = .ok (.iastore, 1) := by decide +kernel
theorem dX10_laysPuffs_200 : decode cX10_laysPuffs 200 = .ok (.return_, 1) := by decide +kernel
theorem dX10_puffIn_0 : decode cX10_puffIn 0 = .ok (.aload_n 0, 1) := by decide +kernel
theorem dX10_puffIn_1 : decode cX10_puffIn 1 = .ok (.getfield 36, 3) := by decide +kernel
theorem dX10_puffIn_4 : decode cX10_puffIn 4 = .ok (.bipush 54, 2) := by decide +kernel
theorem dX10_puffIn_6 : decode cX10_puffIn 6 = .ok (.iload_n 1, 1) := by decide +kernel
theorem dX10_puffIn_7 : decode cX10_puffIn 7 = .ok (.imul, 1) := by decide +kernel
theorem dX10_puffIn_8 : decode cX10_puffIn 8 = .ok (.iload_n 2, 1) := by decide +kernel
theorem dX10_puffIn_9 : decode cX10_puffIn 9 = .ok (.iadd, 1) := by decide +kernel
theorem dX10_puffIn_10 : decode cX10_puffIn 10 = .ok (.iaload, 1) := by decide +kernel
theorem dX10_puffIn_11 : decode cX10_puffIn 11 = .ok (.ireturn, 1) := by decide +kernel
theorem dX10_meet_0 : decode cX10_meet 0 = .ok (.iload_n 0, 1) := by decide +kernel
theorem dX10_meet_1 : decode cX10_meet 1 = .ok (.bipush 10, 2) := by decide +kernel
theorem dX10_meet_3 : decode cX10_meet 3 = .ok (.idiv, 1) := by decide +kernel
theorem dX10_meet_4 : decode cX10_meet 4 = .ok (.iload_n 1, 1) := by decide +kernel
theorem dX10_meet_5 : decode cX10_meet 5 = .ok (.bipush 10, 2) := by decide +kernel
theorem dX10_meet_7 : decode cX10_meet 7 = .ok (.idiv, 1) := by decide +kernel
theorem dX10_meet_8 : decode cX10_meet 8 = .ok (.if_icmp .ne 23, 3) := by decide +kernel
theorem dX10_meet_11 : decode cX10_meet 11 = .ok (.iload_n 0, 1) := by decide +kernel
theorem dX10_meet_12 : decode cX10_meet 12 = .ok (.bipush 10, 2) := by decide +kernel
theorem dX10_meet_14 : decode cX10_meet 14 = .ok (.irem, 1) := by decide +kernel
theorem dX10_meet_15 : decode cX10_meet 15 = .ok (.iload_n 2, 1) := by decide +kernel
theorem dX10_meet_16 : decode cX10_meet 16 = .ok (.if_icmp .lt 15, 3) := by decide +kernel
theorem dX10_meet_19 : decode cX10_meet 19 = .ok (.iload_n 1, 1) := by decide +kernel
theorem dX10_meet_20 : decode cX10_meet 20 = .ok (.bipush 10, 2) := by decide +kernel
theorem dX10_meet_22 : decode cX10_meet 22 = .ok (.irem, 1) := by decide +kernel
theorem dX10_meet_23 : decode cX10_meet 23 = .ok (.iload_n 2, 1) := by decide +kernel
theorem dX10_meet_24 : decode cX10_meet 24 = .ok (.if_icmp .lt 7, 3) := by decide +kernel
theorem dX10_meet_27 : decode cX10_meet 27 = .ok (.iconst 1, 1) := by decide +kernel
theorem dX10_meet_28 : decode cX10_meet 28 = .ok (.goto 4, 3) := by decide +kernel
theorem dX10_meet_31 : decode cX10_meet 31 = .ok (.iconst 0, 1) := by decide +kernel
theorem dX10_meet_32 : decode cX10_meet 32 = .ok (.ireturn, 1) := by decide +kernel
theorem dX10_areTouching_0 : decode cX10_areTouching 0 = .ok (.iconst 0, 1) := by decide +kernel
theorem dX10_areTouching_1 : decode cX10_areTouching 1 = .ok (.istore 4, 2) := by decide +kernel
theorem dX10_areTouching_3 : decode cX10_areTouching 3 = .ok (.iload 4, 2) := by decide +kernel
theorem dX10_areTouching_5 : decode cX10_areTouching 5 = .ok (.aload_n 0, 1) := by decide +kernel
theorem dX10_areTouching_6 : decode cX10_areTouching 6 = .ok (.getfield 39, 3) := by decide +kernel
theorem dX10_areTouching_9 : decode cX10_areTouching 9 = .ok (.iload_n 1, 1) := by decide +kernel
theorem dX10_areTouching_10 : decode cX10_areTouching 10 = .ok (.iaload, 1) := by decide +kernel
theorem dX10_areTouching_11 : decode cX10_areTouching 11 = .ok (.if_icmp .ge 52, 3) := by decide +kernel
theorem dX10_areTouching_14 : decode cX10_areTouching 14 = .ok (.iconst 0, 1) := by decide +kernel
theorem dX10_areTouching_15 : decode cX10_areTouching 15 = .ok (.istore 5, 2) := by decide +kernel
theorem dX10_areTouching_17 : decode cX10_areTouching 17 = .ok (.iload 5, 2) := by decide +kernel
theorem dX10_areTouching_19 : decode cX10_areTouching 19 = .ok (.aload_n 0, 1) := by decide +kernel
theorem dX10_areTouching_20 : decode cX10_areTouching 20 = .ok (.getfield 39, 3) := by decide +kernel
theorem dX10_areTouching_23 : decode cX10_areTouching 23 = .ok (.iload_n 2, 1) := by decide +kernel
theorem dX10_areTouching_24 : decode cX10_areTouching 24 = .ok (.iaload, 1) := by decide +kernel
theorem dX10_areTouching_25 : decode cX10_areTouching 25 = .ok (.if_icmp .ge 32, 3) := by decide +kernel
theorem dX10_areTouching_28 : decode cX10_areTouching 28 = .ok (.aload_n 0, 1) := by decide +kernel
theorem dX10_areTouching_29 : decode cX10_areTouching 29 = .ok (.iload_n 1, 1) := by decide +kernel
theorem dX10_areTouching_30 : decode cX10_areTouching 30 = .ok (.iload 4, 2) := by decide +kernel
theorem dX10_areTouching_32 : decode cX10_areTouching 32 = .ok (.invokevirtual 195, 3) := by decide +kernel
theorem dX10_areTouching_35 : decode cX10_areTouching 35 = .ok (.aload_n 0, 1) := by decide +kernel
theorem dX10_areTouching_36 : decode cX10_areTouching 36 = .ok (.iload_n 2, 1) := by decide +kernel
theorem dX10_areTouching_37 : decode cX10_areTouching 37 = .ok (.iload 5, 2) := by decide +kernel
theorem dX10_areTouching_39 : decode cX10_areTouching 39 = .ok (.invokevirtual 195, 3) := by decide +kernel
theorem dX10_areTouching_42 : decode cX10_areTouching 42 = .ok (.iload_n 3, 1) := by decide +kernel
theorem dX10_areTouching_43 : decode cX10_areTouching 43 = .ok (.invokestatic 198, 3) := by decide +kernel
theorem dX10_areTouching_46 : decode cX10_areTouching 46 = .ok (.ifCond .eq 5, 3) := by decide +kernel
theorem dX10_areTouching_49 : decode cX10_areTouching 49 = .ok (.iconst 1, 1) := by decide +kernel
theorem dX10_areTouching_50 : decode cX10_areTouching 50 = .ok (.ireturn, 1) := by decide +kernel
theorem dX10_areTouching_51 : decode cX10_areTouching 51 = .ok (.iinc 5 1, 3) := by decide +kernel
theorem dX10_areTouching_54 : decode cX10_areTouching 54 = .ok (.goto (-37), 3) := by decide +kernel
theorem dX10_areTouching_57 : decode cX10_areTouching 57 = .ok (.iinc 4 1, 3) := by decide +kernel
theorem dX10_areTouching_60 : decode cX10_areTouching 60 = .ok (.goto (-57), 3) := by decide +kernel
theorem dX10_areTouching_63 : decode cX10_areTouching 63 = .ok (.iconst 0, 1) := by decide +kernel
theorem dX10_areTouching_64 : decode cX10_areTouching 64 = .ok (.ireturn, 1) := by decide +kernel
theorem dX10_quarters_0 : decode cX10_quarters 0 = .ok (.iconst 0, 1) := by decide +kernel
theorem dX10_quarters_1 : decode cX10_quarters 1 = .ok (.istore_n 3, 1) := by decide +kernel
theorem dX10_quarters_2 : decode cX10_quarters 2 = .ok (.iload_n 3, 1) := by decide +kernel
theorem dX10_quarters_3 : decode cX10_quarters 3 = .ok (.bipush 48, 2) := by decide +kernel
theorem dX10_quarters_5 : decode cX10_quarters 5 = .ok (.if_icmp .ge 16, 3) := by decide +kernel
theorem dX10_quarters_8 : decode cX10_quarters 8 = .ok (.aload_n 0, 1) := by decide +kernel
theorem dX10_quarters_9 : decode cX10_quarters 9 = .ok (.getfield 42, 3) := by decide +kernel
theorem dX10_quarters_12 : decode cX10_quarters 12 = .ok (.iload_n 3, 1) := by decide +kernel
theorem dX10_quarters_13 : decode cX10_quarters 13 = .ok (.iconst 0, 1) := by decide +kernel
theorem dX10_quarters_14 : decode cX10_quarters 14 = .ok (.bastore, 1) := by decide +kernel
theorem dX10_quarters_15 : decode cX10_quarters 15 = .ok (.iinc 3 1, 3) := by decide +kernel
theorem dX10_quarters_18 : decode cX10_quarters 18 = .ok (.goto (-16), 3) := by decide +kernel
theorem dX10_quarters_21 : decode cX10_quarters 21 = .ok (.iconst 0, 1) := by decide +kernel
theorem dX10_quarters_22 : decode cX10_quarters 22 = .ok (.istore_n 3, 1) := by decide +kernel
theorem dX10_quarters_23 : decode cX10_quarters 23 = .ok (.iload_n 3, 1) := by decide +kernel
theorem dX10_quarters_24 : decode cX10_quarters 24 = .ok (.aload_n 0, 1) := by decide +kernel
theorem dX10_quarters_25 : decode cX10_quarters 25 = .ok (.getfield 39, 3) := by decide +kernel
theorem dX10_quarters_28 : decode cX10_quarters 28 = .ok (.iload_n 1, 1) := by decide +kernel
theorem dX10_quarters_29 : decode cX10_quarters 29 = .ok (.iaload, 1) := by decide +kernel
theorem dX10_quarters_30 : decode cX10_quarters 30 = .ok (.if_icmp .ge 70, 3) := by decide +kernel
theorem dX10_quarters_33 : decode cX10_quarters 33 = .ok (.iconst 0, 1) := by decide +kernel
theorem dX10_quarters_34 : decode cX10_quarters 34 = .ok (.istore 4, 2) := by decide +kernel
theorem dX10_quarters_36 : decode cX10_quarters 36 = .ok (.iload 4, 2) := by decide +kernel
theorem dX10_quarters_38 : decode cX10_quarters 38 = .ok (.aload_n 0, 1) := by decide +kernel
theorem dX10_quarters_39 : decode cX10_quarters 39 = .ok (.getfield 39, 3) := by decide +kernel
theorem dX10_quarters_42 : decode cX10_quarters 42 = .ok (.iload_n 2, 1) := by decide +kernel
theorem dX10_quarters_43 : decode cX10_quarters 43 = .ok (.iaload, 1) := by decide +kernel
theorem dX10_quarters_44 : decode cX10_quarters 44 = .ok (.if_icmp .ge 50, 3) := by decide +kernel
theorem dX10_quarters_47 : decode cX10_quarters 47 = .ok (.aload_n 0, 1) := by decide +kernel
theorem dX10_quarters_48 : decode cX10_quarters 48 = .ok (.iload_n 1, 1) := by decide +kernel
theorem dX10_quarters_49 : decode cX10_quarters 49 = .ok (.iload_n 3, 1) := by decide +kernel
theorem dX10_quarters_50 : decode cX10_quarters 50 = .ok (.invokevirtual 195, 3) := by decide +kernel
theorem dX10_quarters_53 : decode cX10_quarters 53 = .ok (.aload_n 0, 1) := by decide +kernel
theorem dX10_quarters_54 : decode cX10_quarters 54 = .ok (.iload_n 2, 1) := by decide +kernel
theorem dX10_quarters_55 : decode cX10_quarters 55 = .ok (.iload 4, 2) := by decide +kernel
theorem dX10_quarters_57 : decode cX10_quarters 57 = .ok (.invokevirtual 195, 3) := by decide +kernel
theorem dX10_quarters_60 : decode cX10_quarters 60 = .ok (.aload_n 0, 1) := by decide +kernel
theorem dX10_quarters_61 : decode cX10_quarters 61 = .ok (.getfield 13, 3) := by decide +kernel
theorem dX10_quarters_64 : decode cX10_quarters 64 = .ok (.iconst 3, 1) := by decide +kernel
theorem dX10_quarters_65 : decode cX10_quarters 65 = .ok (.iaload, 1) := by decide +kernel
theorem dX10_quarters_66 : decode cX10_quarters 66 = .ok (.invokestatic 198, 3) := by decide +kernel
theorem dX10_quarters_69 : decode cX10_quarters 69 = .ok (.ifCond .eq 19, 3) := by decide +kernel
theorem dX10_quarters_72 : decode cX10_quarters 72 = .ok (.aload_n 0, 1) := by decide +kernel
theorem dX10_quarters_73 : decode cX10_quarters 73 = .ok (.getfield 42, 3) := by decide +kernel
theorem dX10_quarters_76 : decode cX10_quarters 76 = .ok (.aload_n 0, 1) := by decide +kernel
theorem dX10_quarters_77 : decode cX10_quarters 77 = .ok (.iload_n 1, 1) := by decide +kernel
theorem dX10_quarters_78 : decode cX10_quarters 78 = .ok (.iload_n 3, 1) := by decide +kernel
theorem dX10_quarters_79 : decode cX10_quarters 79 = .ok (.invokevirtual 195, 3) := by decide +kernel
theorem dX10_quarters_82 : decode cX10_quarters 82 = .ok (.sipush 10000, 3) := by decide +kernel
theorem dX10_quarters_85 : decode cX10_quarters 85 = .ok (.idiv, 1) := by decide +kernel
theorem dX10_quarters_86 : decode cX10_quarters 86 = .ok (.iconst 1, 1) := by decide +kernel
theorem dX10_quarters_87 : decode cX10_quarters 87 = .ok (.bastore, 1) := by decide +kernel
theorem dX10_quarters_88 : decode cX10_quarters 88 = .ok (.iinc 4 1, 3) := by decide +kernel
theorem dX10_quarters_91 : decode cX10_quarters 91 = .ok (.goto (-55), 3) := by decide +kernel
theorem dX10_quarters_94 : decode cX10_quarters 94 = .ok (.iinc 3 1, 3) := by decide +kernel
theorem dX10_quarters_97 : decode cX10_quarters 97 = .ok (.goto (-74), 3) := by decide +kernel
theorem dX10_quarters_100 : decode cX10_quarters 100 = .ok (.iconst 0, 1) := by decide +kernel
theorem dX10_quarters_101 : decode cX10_quarters 101 = .ok (.istore_n 3, 1) := by decide +kernel
theorem dX10_quarters_102 : decode cX10_quarters 102 = .ok (.iconst 0, 1) := by decide +kernel
theorem dX10_quarters_103 : decode cX10_quarters 103 = .ok (.istore 4, 2) := by decide +kernel
theorem dX10_quarters_105 : decode cX10_quarters 105 = .ok (.iload 4, 2) := by decide +kernel
theorem dX10_quarters_107 : decode cX10_quarters 107 = .ok (.bipush 48, 2) := by decide +kernel
theorem dX10_quarters_109 : decode cX10_quarters 109 = .ok (.if_icmp .ge 27, 3) := by decide +kernel
theorem dX10_quarters_112 : decode cX10_quarters 112 = .ok (.iload_n 3, 1) := by decide +kernel
theorem dX10_quarters_113 : decode cX10_quarters 113 = .ok (.aload_n 0, 1) := by decide +kernel
theorem dX10_quarters_114 : decode cX10_quarters 114 = .ok (.getfield 42, 3) := by decide +kernel
theorem dX10_quarters_117 : decode cX10_quarters 117 = .ok (.iload 4, 2) := by decide +kernel
theorem dX10_quarters_119 : decode cX10_quarters 119 = .ok (.baload, 1) := by decide +kernel
theorem dX10_quarters_120 : decode cX10_quarters 120 = .ok (.ifCond .eq 7, 3) := by decide +kernel
theorem dX10_quarters_123 : decode cX10_quarters 123 = .ok (.iconst 1, 1) := by decide +kernel
theorem dX10_quarters_124 : decode cX10_quarters 124 = .ok (.goto 4, 3) := by decide +kernel
theorem dX10_quarters_127 : decode cX10_quarters 127 = .ok (.iconst 0, 1) := by decide +kernel
theorem dX10_quarters_128 : decode cX10_quarters 128 = .ok (.iadd, 1) := by decide +kernel
theorem dX10_quarters_129 : decode cX10_quarters 129 = .ok (.istore_n 3, 1) := by decide +kernel
theorem dX10_quarters_130 : decode cX10_quarters 130 = .ok (.iinc 4 1, 3) := by decide +kernel
theorem dX10_quarters_133 : decode cX10_quarters 133 = .ok (.goto (-28), 3) := by decide +kernel
theorem dX10_quarters_136 : decode cX10_quarters 136 = .ok (.iload_n 3, 1) := by decide +kernel
theorem dX10_quarters_137 : decode cX10_quarters 137 = .ok (.ireturn, 1) := by decide +kernel
theorem dX10_firstTouch_0 : decode cX10_firstTouch 0 = .ok (.iconst 0, 1) := by decide +kernel
theorem dX10_firstTouch_1 : decode cX10_firstTouch 1 = .ok (.istore_n 1, 1) := by decide +kernel
theorem dX10_firstTouch_2 : decode cX10_firstTouch 2 = .ok (.iload_n 1, 1) := by decide +kernel
theorem dX10_firstTouch_3 : decode cX10_firstTouch 3 = .ok (.bipush 48, 2) := by decide +kernel
theorem dX10_firstTouch_5 : decode cX10_firstTouch 5 = .ok (.if_icmp .ge 20, 3) := by decide +kernel
theorem dX10_firstTouch_8 : decode cX10_firstTouch 8 = .ok (.aload_n 0, 1) := by decide +kernel
theorem dX10_firstTouch_9 : decode cX10_firstTouch 9 = .ok (.getfield 42, 3) := by decide +kernel
theorem dX10_firstTouch_12 : decode cX10_firstTouch 12 = .ok (.iload_n 1, 1) := by decide +kernel
theorem dX10_firstTouch_13 : decode cX10_firstTouch 13 = .ok (.baload, 1) := by decide +kernel
theorem dX10_firstTouch_14 : decode cX10_firstTouch 14 = .ok (.ifCond .eq 5, 3) := by decide +kernel
theorem dX10_firstTouch_17 : decode cX10_firstTouch 17 = .ok (.iload_n 1, 1) := by decide +kernel
theorem dX10_firstTouch_18 : decode cX10_firstTouch 18 = .ok (.ireturn, 1) := by decide +kernel
theorem dX10_firstTouch_19 : decode cX10_firstTouch 19 = .ok (.iinc 1 1, 3) := by decide +kernel
theorem dX10_firstTouch_22 : decode cX10_firstTouch 22 = .ok (.goto (-20), 3) := by decide +kernel
theorem dX10_firstTouch_25 : decode cX10_firstTouch 25 = .ok (.iconst (-1), 1) := by decide +kernel
theorem dX10_firstTouch_26 : decode cX10_firstTouch 26 = .ok (.ireturn, 1) := by decide +kernel
theorem dX10_laysLit_0 : decode cX10_laysLit 0 = .ok (.iconst 0, 1) := by decide +kernel
theorem dX10_laysLit_1 : decode cX10_laysLit 1 = .ok (.istore_n 1, 1) := by decide +kernel
theorem dX10_laysLit_2 : decode cX10_laysLit 2 = .ok (.iload_n 1, 1) := by decide +kernel
theorem dX10_laysLit_3 : decode cX10_laysLit 3 = .ok (.aload_n 0, 1) := by decide +kernel
theorem dX10_laysLit_4 : decode cX10_laysLit 4 = .ok (.getfield 13, 3) := by decide +kernel
theorem dX10_laysLit_7 : decode cX10_laysLit 7 = .ok (.iconst 0, 1) := by decide +kernel
theorem dX10_laysLit_8 : decode cX10_laysLit 8 = .ok (.iaload, 1) := by decide +kernel
theorem dX10_laysLit_9 : decode cX10_laysLit 9 = .ok (.if_icmp .ge 36, 3) := by decide +kernel
theorem dX10_laysLit_12 : decode cX10_laysLit 12 = .ok (.aload_n 0, 1) := by decide +kernel
theorem dX10_laysLit_13 : decode cX10_laysLit 13 = .ok (.getfield 39, 3) := by decide +kernel
theorem dX10_laysLit_16 : decode cX10_laysLit 16 = .ok (.iload_n 1, 1) := by decide +kernel
theorem dX10_laysLit_17 : decode cX10_laysLit 17 = .ok (.iconst 0, 1) := by decide +kernel
theorem dX10_laysLit_18 : decode cX10_laysLit 18 = .ok (.iastore, 1) := by decide +kernel
theorem dX10_laysLit_19 : decode cX10_laysLit 19 = .ok (.aload_n 0, 1) := by decide +kernel
theorem dX10_laysLit_20 : decode cX10_laysLit 20 = .ok (.iload_n 1, 1) := by decide +kernel
theorem dX10_laysLit_21 : decode cX10_laysLit 21 = .ok (.invokevirtual 202, 3) := by decide +kernel
theorem dX10_laysLit_24 : decode cX10_laysLit 24 = .ok (.ifCond .eq 15, 3) := by decide +kernel
theorem dX10_laysLit_27 : decode cX10_laysLit 27 = .ok (.aload_n 0, 1) := by decide +kernel
theorem dX10_laysLit_28 : decode cX10_laysLit 28 = .ok (.iload_n 1, 1) := by decide +kernel
theorem dX10_laysLit_29 : decode cX10_laysLit 29 = .ok (.iload_n 1, 1) := by decide +kernel
theorem dX10_laysLit_30 : decode cX10_laysLit 30 = .ok (.aload_n 0, 1) := by decide +kernel
theorem dX10_laysLit_31 : decode cX10_laysLit 31 = .ok (.iload_n 1, 1) := by decide +kernel
theorem dX10_laysLit_32 : decode cX10_laysLit 32 = .ok (.invokevirtual 179, 3) := by decide +kernel
theorem dX10_laysLit_35 : decode cX10_laysLit 35 = .ok (.iconst 0, 1) := by decide +kernel
theorem dX10_laysLit_36 : decode cX10_laysLit 36 = .ok (.invokevirtual 205, 3) := by decide +kernel
theorem dX10_laysLit_39 : decode cX10_laysLit 39 = .ok (.iinc 1 1, 3) := by decide +kernel
theorem dX10_laysLit_42 : decode cX10_laysLit 42 = .ok (.goto (-40), 3) := by decide +kernel
theorem dX10_laysLit_45 : decode cX10_laysLit 45 = .ok (.return_, 1) := by decide +kernel
theorem dX10_laysNow_0 : decode cX10_laysNow 0 = .ok (.aload_n 0, 1) := by decide +kernel
theorem dX10_laysNow_1 : decode cX10_laysNow 1 = .ok (.invokevirtual 209, 3) := by decide +kernel
theorem dX10_laysNow_4 : decode cX10_laysNow 4 = .ok (.aload_n 0, 1) := by decide +kernel
theorem dX10_laysNow_5 : decode cX10_laysNow 5 = .ok (.invokevirtual 212, 3) := by decide +kernel
theorem dX10_laysNow_8 : decode cX10_laysNow 8 = .ok (.return_, 1) := by decide +kernel
theorem dX10_touchesLit_0 : decode cX10_touchesLit 0 = .ok (.iconst 0, 1) := by decide +kernel
theorem dX10_touchesLit_1 : decode cX10_touchesLit 1 = .ok (.istore 4, 2) := by decide +kernel
theorem dX10_touchesLit_3 : decode cX10_touchesLit 3 = .ok (.iload 4, 2) := by decide +kernel
theorem dX10_touchesLit_5 : decode cX10_touchesLit 5 = .ok (.aload_n 0, 1) := by decide +kernel
theorem dX10_touchesLit_6 : decode cX10_touchesLit 6 = .ok (.getfield 13, 3) := by decide +kernel
theorem dX10_touchesLit_9 : decode cX10_touchesLit 9 = .ok (.iconst 0, 1) := by decide +kernel
theorem dX10_touchesLit_10 : decode cX10_touchesLit 10 = .ok (.iaload, 1) := by decide +kernel
theorem dX10_touchesLit_11 : decode cX10_touchesLit 11 = .ok (.if_icmp .ge 37, 3) := by decide +kernel
theorem dX10_touchesLit_14 : decode cX10_touchesLit 14 = .ok (.iload 4, 2) := by decide +kernel
theorem dX10_touchesLit_16 : decode cX10_touchesLit 16 = .ok (.iload_n 2, 1) := by decide +kernel
theorem dX10_touchesLit_17 : decode cX10_touchesLit 17 = .ok (.if_icmp .eq 25, 3) := by decide +kernel
theorem dX10_touchesLit_20 : decode cX10_touchesLit 20 = .ok (.aload_n 0, 1) := by decide +kernel
theorem dX10_touchesLit_21 : decode cX10_touchesLit 21 = .ok (.iload 4, 2) := by decide +kernel
theorem dX10_touchesLit_23 : decode cX10_touchesLit 23 = .ok (.invokevirtual 202, 3) := by decide +kernel
theorem dX10_touchesLit_26 : decode cX10_touchesLit 26 = .ok (.ifCond .eq 16, 3) := by decide +kernel
theorem dX10_touchesLit_29 : decode cX10_touchesLit 29 = .ok (.aload_n 0, 1) := by decide +kernel
theorem dX10_touchesLit_30 : decode cX10_touchesLit 30 = .ok (.iload_n 1, 1) := by decide +kernel
theorem dX10_touchesLit_31 : decode cX10_touchesLit 31 = .ok (.iload 4, 2) := by decide +kernel
theorem dX10_touchesLit_33 : decode cX10_touchesLit 33 = .ok (.iload_n 3, 1) := by decide +kernel
theorem dX10_touchesLit_34 : decode cX10_touchesLit 34 = .ok (.invokevirtual 215, 3) := by decide +kernel
theorem dX10_touchesLit_37 : decode cX10_touchesLit 37 = .ok (.ifCond .eq 5, 3) := by decide +kernel
theorem dX10_touchesLit_40 : decode cX10_touchesLit 40 = .ok (.iconst 1, 1) := by decide +kernel
theorem dX10_touchesLit_41 : decode cX10_touchesLit 41 = .ok (.ireturn, 1) := by decide +kernel
theorem dX10_touchesLit_42 : decode cX10_touchesLit 42 = .ok (.iinc 4 1, 3) := by decide +kernel
theorem dX10_touchesLit_45 : decode cX10_touchesLit 45 = .ok (.goto (-42), 3) := by decide +kernel
theorem dX10_touchesLit_48 : decode cX10_touchesLit 48 = .ok (.iconst 0, 1) := by decide +kernel
theorem dX10_touchesLit_49 : decode cX10_touchesLit 49 = .ok (.ireturn, 1) := by decide +kernel
theorem dX10_isTime_0 : decode cX10_isTime 0 = .ok (.iload_n 2, 1) := by decide +kernel
theorem dX10_isTime_1 : decode cX10_isTime 1 = .ok (.i2l, 1) := by decide +kernel
theorem dX10_isTime_2 : decode cX10_isTime 2 = .ok (.aload_n 0, 1) := by decide +kernel
theorem dX10_isTime_3 : decode cX10_isTime 3 = .ok (.getfield 13, 3) := by decide +kernel
theorem dX10_isTime_6 : decode cX10_isTime 6 = .ok (.bipush 26, 2) := by decide +kernel
theorem dX10_isTime_8 : decode cX10_isTime 8 = .ok (.iload_n 1, 1) := by decide +kernel
theorem dX10_isTime_9 : decode cX10_isTime 9 = .ok (.iadd, 1) := by decide +kernel
theorem dX10_isTime_10 : decode cX10_isTime 10 = .ok (.iaload, 1) := by decide +kernel
theorem dX10_isTime_11 : decode cX10_isTime 11 = .ok (.i2l, 1) := by decide +kernel
theorem dX10_isTime_12 : decode cX10_isTime 12 = .ok (.aload_n 0, 1) := by decide +kernel
theorem dX10_isTime_13 : decode cX10_isTime 13 = .ok (.getfield 13, 3) := by decide +kernel
theorem dX10_isTime_16 : decode cX10_isTime 16 = .ok (.bipush 36, 2) := by decide +kernel
theorem dX10_isTime_18 : decode cX10_isTime 18 = .ok (.iload_n 1, 1) := by decide +kernel
theorem dX10_isTime_19 : decode cX10_isTime 19 = .ok (.iadd, 1) := by decide +kernel
theorem dX10_isTime_20 : decode cX10_isTime 20 = .ok (.iaload, 1) := by decide +kernel
theorem dX10_isTime_21 : decode cX10_isTime 21 = .ok (.i2l, 1) := by decide +kernel
theorem dX10_isTime_22 : decode cX10_isTime 22 = .ok (.invokestatic 149, 3) := by decide +kernel
theorem dX10_isTime_25 : decode cX10_isTime 25 = .ok (.ireturn, 1) := by decide +kernel
theorem dX10_light_0 : decode cX10_light 0 = .ok (.aload_n 0, 1) := by decide +kernel
theorem dX10_light_1 : decode cX10_light 1 = .ok (.iconst 0, 1) := by decide +kernel
theorem dX10_light_2 : decode cX10_light 2 = .ok (.putfield 1, 3) := by decide +kernel
theorem dX10_light_5 : decode cX10_light 5 = .ok (.aload_n 0, 1) := by decide +kernel
theorem dX10_light_6 : decode cX10_light 6 = .ok (.iload_n 1, 1) := by decide +kernel
theorem dX10_light_7 : decode cX10_light 7 = .ok (.i2l, 1) := by decide +kernel
theorem dX10_light_8 : decode cX10_light 8 = .ok (.invokevirtual 173, 3) := by decide +kernel
theorem dX10_light_11 : decode cX10_light 11 = .ok (.ifCond .ne 6, 3) := by decide +kernel
theorem dX10_light_14 : decode cX10_light 14 = .ok (.bipush (-2), 2) := by decide +kernel
theorem dX10_light_16 : decode cX10_light 16 = .ok (.ireturn, 1) := by decide +kernel
theorem dX10_light_17 : decode cX10_light 17 = .ok (.aload_n 0, 1) := by decide +kernel
theorem dX10_light_18 : decode cX10_light 18 = .ok (.iload_n 1, 1) := by decide +kernel
theorem dX10_light_19 : decode cX10_light 19 = .ok (.invokevirtual 202, 3) := by decide +kernel
theorem dX10_light_22 : decode cX10_light 22 = .ok (.ifCond .eq 6, 3) := by decide +kernel
theorem dX10_light_25 : decode cX10_light 25 = .ok (.bipush (-5), 2) := by decide +kernel
theorem dX10_light_27 : decode cX10_light 27 = .ok (.ireturn, 1) := by decide +kernel
theorem dX10_light_28 : decode cX10_light 28 = .ok (.aload_n 0, 1) := by decide +kernel
theorem dX10_light_29 : decode cX10_light 29 = .ok (.iload_n 1, 1) := by decide +kernel
theorem dX10_light_30 : decode cX10_light 30 = .ok (.iload_n 2, 1) := by decide +kernel
theorem dX10_light_31 : decode cX10_light 31 = .ok (.invokevirtual 218, 3) := by decide +kernel
theorem dX10_light_34 : decode cX10_light 34 = .ok (.ifCond .ne 6, 3) := by decide +kernel
theorem dX10_light_37 : decode cX10_light 37 = .ok (.bipush (-3), 2) := by decide +kernel
theorem dX10_light_39 : decode cX10_light 39 = .ok (.ireturn, 1) := by decide +kernel
theorem dX10_light_40 : decode cX10_light 40 = .ok (.aload_n 0, 1) := by decide +kernel
theorem dX10_light_41 : decode cX10_light 41 = .ok (.getfield 13, 3) := by decide +kernel
theorem dX10_light_44 : decode cX10_light 44 = .ok (.bipush 56, 2) := by decide +kernel
theorem dX10_light_46 : decode cX10_light 46 = .ok (.iload_n 1, 1) := by decide +kernel
theorem dX10_light_47 : decode cX10_light 47 = .ok (.iadd, 1) := by decide +kernel
theorem dX10_light_48 : decode cX10_light 48 = .ok (.iload_n 2, 1) := by decide +kernel
theorem dX10_light_49 : decode cX10_light 49 = .ok (.iconst 1, 1) := by decide +kernel
theorem dX10_light_50 : decode cX10_light 50 = .ok (.iadd, 1) := by decide +kernel
theorem dX10_light_51 : decode cX10_light 51 = .ok (.iastore, 1) := by decide +kernel
theorem dX10_light_52 : decode cX10_light 52 = .ok (.iconst 0, 1) := by decide +kernel
theorem dX10_light_53 : decode cX10_light 53 = .ok (.ireturn, 1) := by decide +kernel
theorem dX10_out_0 : decode cX10_out 0 = .ok (.aload_n 0, 1) := by decide +kernel
theorem dX10_out_1 : decode cX10_out 1 = .ok (.iconst 0, 1) := by decide +kernel
theorem dX10_out_2 : decode cX10_out 2 = .ok (.putfield 1, 3) := by decide +kernel
theorem dX10_out_5 : decode cX10_out 5 = .ok (.aload_n 0, 1) := by decide +kernel
theorem dX10_out_6 : decode cX10_out 6 = .ok (.iload_n 1, 1) := by decide +kernel
theorem dX10_out_7 : decode cX10_out 7 = .ok (.i2l, 1) := by decide +kernel
theorem dX10_out_8 : decode cX10_out 8 = .ok (.invokevirtual 173, 3) := by decide +kernel
theorem dX10_out_11 : decode cX10_out 11 = .ok (.ifCond .ne 6, 3) := by decide +kernel
theorem dX10_out_14 : decode cX10_out 14 = .ok (.bipush (-2), 2) := by decide +kernel
theorem dX10_out_16 : decode cX10_out 16 = .ok (.ireturn, 1) := by decide +kernel
theorem dX10_out_17 : decode cX10_out 17 = .ok (.aload_n 0, 1) := by decide +kernel
theorem dX10_out_18 : decode cX10_out 18 = .ok (.iload_n 1, 1) := by decide +kernel
theorem dX10_out_19 : decode cX10_out 19 = .ok (.invokevirtual 202, 3) := by decide +kernel
theorem dX10_out_22 : decode cX10_out 22 = .ok (.ifCond .ne 6, 3) := by decide +kernel
theorem dX10_out_25 : decode cX10_out 25 = .ok (.bipush (-5), 2) := by decide +kernel
theorem dX10_out_27 : decode cX10_out 27 = .ok (.ireturn, 1) := by decide +kernel
theorem dX10_out_28 : decode cX10_out 28 = .ok (.aload_n 0, 1) := by decide +kernel
theorem dX10_out_29 : decode cX10_out 29 = .ok (.iload_n 1, 1) := by decide +kernel
theorem dX10_out_30 : decode cX10_out 30 = .ok (.invokevirtual 179, 3) := by decide +kernel
theorem dX10_out_33 : decode cX10_out 33 = .ok (.istore_n 2, 1) := by decide +kernel
theorem dX10_out_34 : decode cX10_out 34 = .ok (.aload_n 0, 1) := by decide +kernel
theorem dX10_out_35 : decode cX10_out 35 = .ok (.getfield 13, 3) := by decide +kernel
theorem dX10_out_38 : decode cX10_out 38 = .ok (.bipush 56, 2) := by decide +kernel
theorem dX10_out_40 : decode cX10_out 40 = .ok (.iload_n 1, 1) := by decide +kernel
theorem dX10_out_41 : decode cX10_out 41 = .ok (.iadd, 1) := by decide +kernel
theorem dX10_out_42 : decode cX10_out 42 = .ok (.iconst 0, 1) := by decide +kernel
theorem dX10_out_43 : decode cX10_out 43 = .ok (.iastore, 1) := by decide +kernel
theorem dX10_out_44 : decode cX10_out 44 = .ok (.iload_n 2, 1) := by decide +kernel
theorem dX10_out_45 : decode cX10_out 45 = .ok (.ireturn, 1) := by decide +kernel
theorem dX10_refuses_0 : decode cX10_refuses 0 = .ok (.lload_n 1, 1) := by decide +kernel
theorem dX10_refuses_1 : decode cX10_refuses 1 = .ok (.lconst 0, 1) := by decide +kernel
theorem dX10_refuses_2 : decode cX10_refuses 2 = .ok (.lcmp, 1) := by decide +kernel
theorem dX10_refuses_3 : decode cX10_refuses 3 = .ok (.ifCond .lt 27, 3) := by decide +kernel
theorem dX10_refuses_6 : decode cX10_refuses 6 = .ok (.aload_n 0, 1) := by decide +kernel
theorem dX10_refuses_7 : decode cX10_refuses 7 = .ok (.lload_n 1, 1) := by decide +kernel
theorem dX10_refuses_8 : decode cX10_refuses 8 = .ok (.ldc2_w 222, 3) := by decide +kernel
theorem dX10_refuses_11 : decode cX10_refuses 11 = .ok (.ldiv, 1) := by decide +kernel
theorem dX10_refuses_12 : decode cX10_refuses 12 = .ok (.invokevirtual 173, 3) := by decide +kernel
theorem dX10_refuses_15 : decode cX10_refuses 15 = .ok (.ifCond .eq 15, 3) := by decide +kernel
theorem dX10_refuses_18 : decode cX10_refuses 18 = .ok (.lload_n 1, 1) := by decide +kernel
theorem dX10_refuses_19 : decode cX10_refuses 19 = .ok (.ldc2_w 222, 3) := by decide +kernel
theorem dX10_refuses_22 : decode cX10_refuses 22 = .ok (.lrem, 1) := by decide +kernel
theorem dX10_refuses_23 : decode cX10_refuses 23 = .ok (.ldc2_w 224, 3) := by decide +kernel
theorem dX10_refuses_26 : decode cX10_refuses 26 = .ok (.lcmp, 1) := by decide +kernel
theorem dX10_refuses_27 : decode cX10_refuses 27 = .ok (.ifCond .le 5, 3) := by decide +kernel
theorem dX10_refuses_30 : decode cX10_refuses 30 = .ok (.iconst 1, 1) := by decide +kernel
theorem dX10_refuses_31 : decode cX10_refuses 31 = .ok (.ireturn, 1) := by decide +kernel
theorem dX10_refuses_32 : decode cX10_refuses 32 = .ok (.lload_n 1, 1) := by decide +kernel
theorem dX10_refuses_33 : decode cX10_refuses 33 = .ok (.l2i, 1) := by decide +kernel
theorem dX10_refuses_34 : decode cX10_refuses 34 = .ok (.bipush 32, 2) := by decide +kernel
theorem dX10_refuses_36 : decode cX10_refuses 36 = .ok (.idiv, 1) := by decide +kernel
theorem dX10_refuses_37 : decode cX10_refuses 37 = .ok (.istore_n 3, 1) := by decide +kernel
theorem dX10_refuses_38 : decode cX10_refuses 38 = .ok (.lload_n 1, 1) := by decide +kernel
theorem dX10_refuses_39 : decode cX10_refuses 39 = .ok (.l2i, 1) := by decide +kernel
theorem dX10_refuses_40 : decode cX10_refuses 40 = .ok (.bipush 32, 2) := by decide +kernel
theorem dX10_refuses_42 : decode cX10_refuses 42 = .ok (.irem, 1) := by decide +kernel
theorem dX10_refuses_43 : decode cX10_refuses 43 = .ok (.istore 4, 2) := by decide +kernel
theorem dX10_refuses_45 : decode cX10_refuses 45 = .ok (.aload_n 0, 1) := by decide +kernel
theorem dX10_refuses_46 : decode cX10_refuses 46 = .ok (.iload_n 3, 1) := by decide +kernel
theorem dX10_refuses_47 : decode cX10_refuses 47 = .ok (.invokevirtual 202, 3) := by decide +kernel
theorem dX10_refuses_50 : decode cX10_refuses 50 = .ok (.ifCond .eq 5, 3) := by decide +kernel
theorem dX10_refuses_53 : decode cX10_refuses 53 = .ok (.iconst 2, 1) := by decide +kernel
theorem dX10_refuses_54 : decode cX10_refuses 54 = .ok (.ireturn, 1) := by decide +kernel
theorem dX10_refuses_55 : decode cX10_refuses 55 = .ok (.aload_n 0, 1) := by decide +kernel
theorem dX10_refuses_56 : decode cX10_refuses 56 = .ok (.iload_n 3, 1) := by decide +kernel
theorem dX10_refuses_57 : decode cX10_refuses 57 = .ok (.iload 4, 2) := by decide +kernel
theorem dX10_refuses_59 : decode cX10_refuses 59 = .ok (.invokevirtual 218, 3) := by decide +kernel
theorem dX10_refuses_62 : decode cX10_refuses 62 = .ok (.ifCond .ne 5, 3) := by decide +kernel
theorem dX10_refuses_65 : decode cX10_refuses 65 = .ok (.iconst 3, 1) := by decide +kernel
theorem dX10_refuses_66 : decode cX10_refuses 66 = .ok (.ireturn, 1) := by decide +kernel
theorem dX10_refuses_67 : decode cX10_refuses 67 = .ok (.aload_n 0, 1) := by decide +kernel
theorem dX10_refuses_68 : decode cX10_refuses 68 = .ok (.invokevirtual 226, 3) := by decide +kernel
theorem dX10_refuses_71 : decode cX10_refuses 71 = .ok (.aload_n 0, 1) := by decide +kernel
theorem dX10_refuses_72 : decode cX10_refuses 72 = .ok (.sipush 130, 3) := by decide +kernel
theorem dX10_refuses_75 : decode cX10_refuses 75 = .ok (.iload_n 3, 1) := by decide +kernel
theorem dX10_refuses_76 : decode cX10_refuses 76 = .ok (.iload 4, 2) := by decide +kernel
theorem dX10_refuses_78 : decode cX10_refuses 78 = .ok (.iconst 0, 1) := by decide +kernel
theorem dX10_refuses_79 : decode cX10_refuses 79 = .ok (.invokevirtual 205, 3) := by decide +kernel
theorem dX10_refuses_82 : decode cX10_refuses 82 = .ok (.aload_n 0, 1) := by decide +kernel
theorem dX10_refuses_83 : decode cX10_refuses 83 = .ok (.sipush 130, 3) := by decide +kernel
theorem dX10_refuses_86 : decode cX10_refuses 86 = .ok (.iload_n 3, 1) := by decide +kernel
theorem dX10_refuses_87 : decode cX10_refuses 87 = .ok (.aload_n 0, 1) := by decide +kernel
theorem dX10_refuses_88 : decode cX10_refuses 88 = .ok (.getfield 13, 3) := by decide +kernel
theorem dX10_refuses_91 : decode cX10_refuses 91 = .ok (.iconst 3, 1) := by decide +kernel
theorem dX10_refuses_92 : decode cX10_refuses 92 = .ok (.iaload, 1) := by decide +kernel
theorem dX10_refuses_93 : decode cX10_refuses 93 = .ok (.invokevirtual 229, 3) := by decide +kernel
theorem dX10_refuses_96 : decode cX10_refuses 96 = .ok (.ifCond .eq 7, 3) := by decide +kernel
theorem dX10_refuses_99 : decode cX10_refuses 99 = .ok (.iconst 4, 1) := by decide +kernel
theorem dX10_refuses_100 : decode cX10_refuses 100 = .ok (.goto 4, 3) := by decide +kernel
theorem dX10_refuses_103 : decode cX10_refuses 103 = .ok (.iconst 0, 1) := by decide +kernel
theorem dX10_refuses_104 : decode cX10_refuses 104 = .ok (.ireturn, 1) := by decide +kernel
theorem dX10_lightsAll_0 : decode cX10_lightsAll 0 = .ok (.aload_n 0, 1) := by decide +kernel
theorem dX10_lightsAll_1 : decode cX10_lightsAll 1 = .ok (.iconst 0, 1) := by decide +kernel
theorem dX10_lightsAll_2 : decode cX10_lightsAll 2 = .ok (.putfield 232, 3) := by decide +kernel
theorem dX10_lightsAll_5 : decode cX10_lightsAll 5 = .ok (.iconst 0, 1) := by decide +kernel
theorem dX10_lightsAll_6 : decode cX10_lightsAll 6 = .ok (.istore_n 2, 1) := by decide +kernel
theorem dX10_lightsAll_7 : decode cX10_lightsAll 7 = .ok (.iload_n 2, 1) := by decide +kernel
theorem dX10_lightsAll_8 : decode cX10_lightsAll 8 = .ok (.aload_n 0, 1) := by decide +kernel
theorem dX10_lightsAll_9 : decode cX10_lightsAll 9 = .ok (.getfield 78, 3) := by decide +kernel
theorem dX10_lightsAll_12 : decode cX10_lightsAll 12 = .ok (.iload_n 1, 1) := by decide +kernel
theorem dX10_lightsAll_13 : decode cX10_lightsAll 13 = .ok (.iaload, 1) := by decide +kernel
theorem dX10_lightsAll_14 : decode cX10_lightsAll 14 = .ok (.if_icmp .ge 59, 3) := by decide +kernel
theorem dX10_lightsAll_17 : decode cX10_lightsAll 17 = .ok (.aload_n 0, 1) := by decide +kernel
theorem dX10_lightsAll_18 : decode cX10_lightsAll 18 = .ok (.getfield 81, 3) := by decide +kernel
theorem dX10_lightsAll_21 : decode cX10_lightsAll 21 = .ok (.bipush 40, 2) := by decide +kernel
theorem dX10_lightsAll_23 : decode cX10_lightsAll 23 = .ok (.iload_n 1, 1) := by decide +kernel
theorem dX10_lightsAll_24 : decode cX10_lightsAll 24 = .ok (.imul, 1) := by decide +kernel
theorem dX10_lightsAll_25 : decode cX10_lightsAll 25 = .ok (.iload_n 2, 1) := by decide +kernel
theorem dX10_lightsAll_26 : decode cX10_lightsAll 26 = .ok (.iadd, 1) := by decide +kernel
theorem dX10_lightsAll_27 : decode cX10_lightsAll 27 = .ok (.laload, 1) := by decide +kernel
theorem dX10_lightsAll_28 : decode cX10_lightsAll 28 = .ok (.lstore_n 3, 1) := by decide +kernel
theorem dX10_lightsAll_29 : decode cX10_lightsAll 29 = .ok (.aload_n 0, 1) := by decide +kernel
theorem dX10_lightsAll_30 : decode cX10_lightsAll 30 = .ok (.aload_n 0, 1) := by decide +kernel
theorem dX10_lightsAll_31 : decode cX10_lightsAll 31 = .ok (.lload_n 3, 1) := by decide +kernel
theorem dX10_lightsAll_32 : decode cX10_lightsAll 32 = .ok (.invokevirtual 235, 3) := by decide +kernel
theorem dX10_lightsAll_35 : decode cX10_lightsAll 35 = .ok (.putfield 232, 3) := by decide +kernel
theorem dX10_lightsAll_38 : decode cX10_lightsAll 38 = .ok (.aload_n 0, 1) := by decide +kernel
theorem dX10_lightsAll_39 : decode cX10_lightsAll 39 = .ok (.getfield 232, 3) := by decide +kernel
theorem dX10_lightsAll_42 : decode cX10_lightsAll 42 = .ok (.ifCond .eq 5, 3) := by decide +kernel
theorem dX10_lightsAll_45 : decode cX10_lightsAll 45 = .ok (.iload_n 2, 1) := by decide +kernel
theorem dX10_lightsAll_46 : decode cX10_lightsAll 46 = .ok (.ireturn, 1) := by decide +kernel
theorem dX10_lightsAll_47 : decode cX10_lightsAll 47 = .ok (.aload_n 0, 1) := by decide +kernel
theorem dX10_lightsAll_48 : decode cX10_lightsAll 48 = .ok (.getfield 13, 3) := by decide +kernel
theorem dX10_lightsAll_51 : decode cX10_lightsAll 51 = .ok (.bipush 56, 2) := by decide +kernel
theorem dX10_lightsAll_53 : decode cX10_lightsAll 53 = .ok (.lload_n 3, 1) := by decide +kernel
theorem dX10_lightsAll_54 : decode cX10_lightsAll 54 = .ok (.l2i, 1) := by decide +kernel
theorem dX10_lightsAll_55 : decode cX10_lightsAll 55 = .ok (.bipush 32, 2) := by decide +kernel
theorem dX10_lightsAll_57 : decode cX10_lightsAll 57 = .ok (.idiv, 1) := by decide +kernel
theorem dX10_lightsAll_58 : decode cX10_lightsAll 58 = .ok (.iadd, 1) := by decide +kernel
theorem dX10_lightsAll_59 : decode cX10_lightsAll 59 = .ok (.lload_n 3, 1) := by decide +kernel
theorem dX10_lightsAll_60 : decode cX10_lightsAll 60 = .ok (.l2i, 1) := by decide +kernel
theorem dX10_lightsAll_61 : decode cX10_lightsAll 61 = .ok (.bipush 32, 2) := by decide +kernel
theorem dX10_lightsAll_63 : decode cX10_lightsAll 63 = .ok (.irem, 1) := by decide +kernel
theorem dX10_lightsAll_64 : decode cX10_lightsAll 64 = .ok (.iconst 1, 1) := by decide +kernel
theorem dX10_lightsAll_65 : decode cX10_lightsAll 65 = .ok (.iadd, 1) := by decide +kernel
theorem dX10_lightsAll_66 : decode cX10_lightsAll 66 = .ok (.iastore, 1) := by decide +kernel
theorem dX10_lightsAll_67 : decode cX10_lightsAll 67 = .ok (.iinc 2 1, 3) := by decide +kernel
theorem dX10_lightsAll_70 : decode cX10_lightsAll 70 = .ok (.goto (-63), 3) := by decide +kernel
theorem dX10_lightsAll_73 : decode cX10_lightsAll 73 = .ok (.aload_n 0, 1) := by decide +kernel
theorem dX10_lightsAll_74 : decode cX10_lightsAll 74 = .ok (.getfield 78, 3) := by decide +kernel
theorem dX10_lightsAll_77 : decode cX10_lightsAll 77 = .ok (.iload_n 1, 1) := by decide +kernel
theorem dX10_lightsAll_78 : decode cX10_lightsAll 78 = .ok (.iaload, 1) := by decide +kernel
theorem dX10_lightsAll_79 : decode cX10_lightsAll 79 = .ok (.ireturn, 1) := by decide +kernel
theorem dX10_litMany_0 : decode cX10_litMany 0 = .ok (.iconst 0, 1) := by decide +kernel
theorem dX10_litMany_1 : decode cX10_litMany 1 = .ok (.istore_n 1, 1) := by decide +kernel
theorem dX10_litMany_2 : decode cX10_litMany 2 = .ok (.iconst 0, 1) := by decide +kernel
theorem dX10_litMany_3 : decode cX10_litMany 3 = .ok (.istore_n 2, 1) := by decide +kernel
theorem dX10_litMany_4 : decode cX10_litMany 4 = .ok (.iload_n 2, 1) := by decide +kernel
theorem dX10_litMany_5 : decode cX10_litMany 5 = .ok (.aload_n 0, 1) := by decide +kernel
theorem dX10_litMany_6 : decode cX10_litMany 6 = .ok (.getfield 13, 3) := by decide +kernel
theorem dX10_litMany_9 : decode cX10_litMany 9 = .ok (.iconst 0, 1) := by decide +kernel
theorem dX10_litMany_10 : decode cX10_litMany 10 = .ok (.iaload, 1) := by decide +kernel
theorem dX10_litMany_11 : decode cX10_litMany 11 = .ok (.if_icmp .ge 25, 3) := by decide +kernel
theorem dX10_litMany_14 : decode cX10_litMany 14 = .ok (.iload_n 1, 1) := by decide +kernel
theorem dX10_litMany_15 : decode cX10_litMany 15 = .ok (.aload_n 0, 1) := by decide +kernel
theorem dX10_litMany_16 : decode cX10_litMany 16 = .ok (.iload_n 2, 1) := by decide +kernel
theorem dX10_litMany_17 : decode cX10_litMany 17 = .ok (.invokevirtual 202, 3) := by decide +kernel
theorem dX10_litMany_20 : decode cX10_litMany 20 = .ok (.ifCond .eq 7, 3) := by decide +kernel
theorem dX10_litMany_23 : decode cX10_litMany 23 = .ok (.iconst 1, 1) := by decide +kernel
theorem dX10_litMany_24 : decode cX10_litMany 24 = .ok (.goto 4, 3) := by decide +kernel
theorem dX10_litMany_27 : decode cX10_litMany 27 = .ok (.iconst 0, 1) := by decide +kernel
theorem dX10_litMany_28 : decode cX10_litMany 28 = .ok (.iadd, 1) := by decide +kernel
theorem dX10_litMany_29 : decode cX10_litMany 29 = .ok (.istore_n 1, 1) := by decide +kernel
theorem dX10_litMany_30 : decode cX10_litMany 30 = .ok (.iinc 2 1, 3) := by decide +kernel
theorem dX10_litMany_33 : decode cX10_litMany 33 = .ok (.goto (-29), 3) := by decide +kernel
theorem dX10_litMany_36 : decode cX10_litMany 36 = .ok (.iload_n 1, 1) := by decide +kernel
theorem dX10_litMany_37 : decode cX10_litMany 37 = .ok (.ireturn, 1) := by decide +kernel
theorem dX10_judge_0 : decode cX10_judge 0 = .ok (.aload_n 0, 1) := by decide +kernel
theorem dX10_judge_1 : decode cX10_judge 1 = .ok (.iconst 0, 1) := by decide +kernel
theorem dX10_judge_2 : decode cX10_judge 2 = .ok (.putfield 1, 3) := by decide +kernel
theorem dX10_judge_5 : decode cX10_judge 5 = .ok (.iload_n 1, 1) := by decide +kernel
theorem dX10_judge_6 : decode cX10_judge 6 = .ok (.i2l, 1) := by decide +kernel
theorem dX10_judge_7 : decode cX10_judge 7 = .ok (.lconst 0, 1) := by decide +kernel
theorem dX10_judge_8 : decode cX10_judge 8 = .ok (.ldc2_w 239, 3) := by decide +kernel
theorem dX10_judge_11 : decode cX10_judge 11 = .ok (.invokestatic 149, 3) := by decide +kernel
theorem dX10_judge_14 : decode cX10_judge 14 = .ok (.ifCond .eq 15, 3) := by decide +kernel
theorem dX10_judge_17 : decode cX10_judge 17 = .ok (.iload_n 2, 1) := by decide +kernel
theorem dX10_judge_18 : decode cX10_judge 18 = .ok (.i2l, 1) := by decide +kernel
theorem dX10_judge_19 : decode cX10_judge 19 = .ok (.lconst 0, 1) := by decide +kernel
theorem dX10_judge_20 : decode cX10_judge 20 = .ok (.ldc2_w 241, 3) := by decide +kernel
theorem dX10_judge_23 : decode cX10_judge 23 = .ok (.invokestatic 149, 3) := by decide +kernel
theorem dX10_judge_26 : decode cX10_judge 26 = .ok (.ifCond .ne 6, 3) := by decide +kernel
theorem dX10_judge_29 : decode cX10_judge 29 = .ok (.bipush (-2), 2) := by decide +kernel
theorem dX10_judge_31 : decode cX10_judge 31 = .ok (.ireturn, 1) := by decide +kernel
theorem dX10_judge_32 : decode cX10_judge 32 = .ok (.aload_n 0, 1) := by decide +kernel
theorem dX10_judge_33 : decode cX10_judge 33 = .ok (.getfield 75, 3) := by decide +kernel
theorem dX10_judge_36 : decode cX10_judge 36 = .ok (.iload_n 1, 1) := by decide +kernel
theorem dX10_judge_37 : decode cX10_judge 37 = .ok (.iaload, 1) := by decide +kernel
theorem dX10_judge_38 : decode cX10_judge 38 = .ok (.iconst (-1), 1) := by decide +kernel
theorem dX10_judge_39 : decode cX10_judge 39 = .ok (.if_icmp .ne 6, 3) := by decide +kernel
theorem dX10_judge_42 : decode cX10_judge 42 = .ok (.bipush (-6), 2) := by decide +kernel
theorem dX10_judge_44 : decode cX10_judge 44 = .ok (.ireturn, 1) := by decide +kernel
theorem dX10_judge_45 : decode cX10_judge 45 = .ok (.iconst 0, 1) := by decide +kernel
theorem dX10_judge_46 : decode cX10_judge 46 = .ok (.istore_n 3, 1) := by decide +kernel
theorem dX10_judge_47 : decode cX10_judge 47 = .ok (.iload_n 3, 1) := by decide +kernel
theorem dX10_judge_48 : decode cX10_judge 48 = .ok (.sipush 162, 3) := by decide +kernel
theorem dX10_judge_51 : decode cX10_judge 51 = .ok (.if_icmp .ge 21, 3) := by decide +kernel
theorem dX10_judge_54 : decode cX10_judge 54 = .ok (.aload_n 0, 1) := by decide +kernel
theorem dX10_judge_55 : decode cX10_judge 55 = .ok (.getfield 45, 3) := by decide +kernel
theorem dX10_judge_58 : decode cX10_judge 58 = .ok (.iload_n 3, 1) := by decide +kernel
theorem dX10_judge_59 : decode cX10_judge 59 = .ok (.aload_n 0, 1) := by decide +kernel
theorem dX10_judge_60 : decode cX10_judge 60 = .ok (.getfield 13, 3) := by decide +kernel
theorem dX10_judge_63 : decode cX10_judge 63 = .ok (.iload_n 3, 1) := by decide +kernel
theorem dX10_judge_64 : decode cX10_judge 64 = .ok (.iaload, 1) := by decide +kernel
theorem dX10_judge_65 : decode cX10_judge 65 = .ok (.iastore, 1) := by decide +kernel
theorem dX10_judge_66 : decode cX10_judge 66 = .ok (.iinc 3 1, 3) := by decide +kernel
theorem dX10_judge_69 : decode cX10_judge 69 = .ok (.goto (-22), 3) := by decide +kernel
theorem dX10_judge_72 : decode cX10_judge 72 = .ok (.aload_n 0, 1) := by decide +kernel
theorem dX10_judge_73 : decode cX10_judge 73 = .ok (.iload_n 1, 1) := by decide +kernel
theorem dX10_judge_74 : decode cX10_judge 74 = .ok (.invokevirtual 243, 3) := by decide +kernel
theorem dX10_judge_77 : decode cX10_judge 77 = .ok (.istore_n 3, 1) := by decide +kernel
theorem dX10_judge_78 : decode cX10_judge 78 = .ok (.aload_n 0, 1) := by decide +kernel
theorem dX10_judge_79 : decode cX10_judge 79 = .ok (.invokevirtual 246, 3) := by decide +kernel
theorem dX10_judge_82 : decode cX10_judge 82 = .ok (.istore 4, 2) := by decide +kernel
theorem dX10_judge_84 : decode cX10_judge 84 = .ok (.iconst 0, 1) := by decide +kernel
theorem dX10_judge_85 : decode cX10_judge 85 = .ok (.istore 5, 2) := by decide +kernel
theorem dX10_judge_87 : decode cX10_judge 87 = .ok (.iload 5, 2) := by decide +kernel
theorem dX10_judge_89 : decode cX10_judge 89 = .ok (.sipush 162, 3) := by decide +kernel
theorem dX10_judge_92 : decode cX10_judge 92 = .ok (.if_icmp .ge 23, 3) := by decide +kernel
theorem dX10_judge_95 : decode cX10_judge 95 = .ok (.aload_n 0, 1) := by decide +kernel
theorem dX10_judge_96 : decode cX10_judge 96 = .ok (.getfield 13, 3) := by decide +kernel
theorem dX10_judge_99 : decode cX10_judge 99 = .ok (.iload 5, 2) := by decide +kernel
theorem dX10_judge_101 : decode cX10_judge 101 = .ok (.aload_n 0, 1) := by decide +kernel
theorem dX10_judge_102 : decode cX10_judge 102 = .ok (.getfield 45, 3) := by decide +kernel
theorem dX10_judge_105 : decode cX10_judge 105 = .ok (.iload 5, 2) := by decide +kernel
theorem dX10_judge_107 : decode cX10_judge 107 = .ok (.iaload, 1) := by decide +kernel
theorem dX10_judge_108 : decode cX10_judge 108 = .ok (.iastore, 1) := by decide +kernel
theorem dX10_judge_109 : decode cX10_judge 109 = .ok (.iinc 5 1, 3) := by decide +kernel
theorem dX10_judge_112 : decode cX10_judge 112 = .ok (.goto (-25), 3) := by decide +kernel
theorem dX10_judge_115 : decode cX10_judge 115 = .ok (.iload_n 2, 1) := by decide +kernel
theorem dX10_judge_116 : decode cX10_judge 116 = .ok (.ifCond .ne 18, 3) := by decide +kernel
theorem dX10_judge_119 : decode cX10_judge 119 = .ok (.aload_n 0, 1) := by decide +kernel
theorem dX10_judge_120 : decode cX10_judge 120 = .ok (.getfield 232, 3) := by decide +kernel
theorem dX10_judge_123 : decode cX10_judge 123 = .ok (.ifCond .ne 7, 3) := by decide +kernel
theorem dX10_judge_126 : decode cX10_judge 126 = .ok (.iconst (-1), 1) := by decide +kernel
theorem dX10_judge_127 : decode cX10_judge 127 = .ok (.goto 21, 3) := by decide +kernel
theorem dX10_judge_130 : decode cX10_judge 130 = .ok (.iload_n 3, 1) := by decide +kernel
theorem dX10_judge_131 : decode cX10_judge 131 = .ok (.goto 17, 3) := by decide +kernel
theorem dX10_judge_134 : decode cX10_judge 134 = .ok (.iload_n 2, 1) := by decide +kernel
theorem dX10_judge_135 : decode cX10_judge 135 = .ok (.iconst 1, 1) := by decide +kernel
theorem dX10_judge_136 : decode cX10_judge 136 = .ok (.if_icmp .ne 10, 3) := by decide +kernel
theorem dX10_judge_139 : decode cX10_judge 139 = .ok (.aload_n 0, 1) := by decide +kernel
theorem dX10_judge_140 : decode cX10_judge 140 = .ok (.getfield 232, 3) := by decide +kernel
theorem dX10_judge_143 : decode cX10_judge 143 = .ok (.goto 5, 3) := by decide +kernel
theorem dX10_judge_146 : decode cX10_judge 146 = .ok (.iload 4, 2) := by decide +kernel
theorem dX10_judge_148 : decode cX10_judge 148 = .ok (.ireturn, 1) := by decide +kernel
theorem dX10_perform_0 : decode cX10_perform 0 = .ok (.aload_n 0, 1) := by decide +kernel
theorem dX10_perform_1 : decode cX10_perform 1 = .ok (.iconst 0, 1) := by decide +kernel
theorem dX10_perform_2 : decode cX10_perform 2 = .ok (.putfield 1, 3) := by decide +kernel
theorem dX10_perform_5 : decode cX10_perform 5 = .ok (.iload_n 1, 1) := by decide +kernel
theorem dX10_perform_6 : decode cX10_perform 6 = .ok (.i2l, 1) := by decide +kernel
theorem dX10_perform_7 : decode cX10_perform 7 = .ok (.lconst 0, 1) := by decide +kernel
theorem dX10_perform_8 : decode cX10_perform 8 = .ok (.ldc2_w 239, 3) := by decide +kernel
theorem dX10_perform_11 : decode cX10_perform 11 = .ok (.invokestatic 149, 3) := by decide +kernel
theorem dX10_perform_14 : decode cX10_perform 14 = .ok (.ifCond .ne 6, 3) := by decide +kernel
theorem dX10_perform_17 : decode cX10_perform 17 = .ok (.bipush (-2), 2) := by decide +kernel
theorem dX10_perform_19 : decode cX10_perform 19 = .ok (.ireturn, 1) := by decide +kernel
theorem dX10_perform_20 : decode cX10_perform 20 = .ok (.aload_n 0, 1) := by decide +kernel
theorem dX10_perform_21 : decode cX10_perform 21 = .ok (.getfield 75, 3) := by decide +kernel
theorem dX10_perform_24 : decode cX10_perform 24 = .ok (.iload_n 1, 1) := by decide +kernel
theorem dX10_perform_25 : decode cX10_perform 25 = .ok (.iaload, 1) := by decide +kernel
theorem dX10_perform_26 : decode cX10_perform 26 = .ok (.iconst (-1), 1) := by decide +kernel
theorem dX10_perform_27 : decode cX10_perform 27 = .ok (.if_icmp .ne 8, 3) := by decide +kernel
theorem dX10_perform_30 : decode cX10_perform 30 = .ok (.bipush (-6), 2) := by decide +kernel
theorem dX10_perform_32 : decode cX10_perform 32 = .ok (.goto 8, 3) := by decide +kernel
theorem dX10_perform_35 : decode cX10_perform 35 = .ok (.aload_n 0, 1) := by decide +kernel
theorem dX10_perform_36 : decode cX10_perform 36 = .ok (.iload_n 1, 1) := by decide +kernel
theorem dX10_perform_37 : decode cX10_perform 37 = .ok (.invokevirtual 243, 3) := by decide +kernel
theorem dX10_perform_40 : decode cX10_perform 40 = .ok (.ireturn, 1) := by decide +kernel
theorem dX10_smoke_0 : decode cX10_smoke 0 = .ok (.aload_n 0, 1) := by decide +kernel
theorem dX10_smoke_1 : decode cX10_smoke 1 = .ok (.iconst 0, 1) := by decide +kernel
theorem dX10_smoke_2 : decode cX10_smoke 2 = .ok (.putfield 1, 3) := by decide +kernel
theorem dX10_smoke_5 : decode cX10_smoke 5 = .ok (.iload_n 2, 1) := by decide +kernel
theorem dX10_smoke_6 : decode cX10_smoke 6 = .ok (.i2l, 1) := by decide +kernel
theorem dX10_smoke_7 : decode cX10_smoke 7 = .ok (.lconst 0, 1) := by decide +kernel
theorem dX10_smoke_8 : decode cX10_smoke 8 = .ok (.ldc2_w 193, 3) := by decide +kernel
theorem dX10_smoke_11 : decode cX10_smoke 11 = .ok (.invokestatic 149, 3) := by decide +kernel
theorem dX10_smoke_14 : decode cX10_smoke 14 = .ok (.ifCond .eq 15, 3) := by decide +kernel
theorem dX10_smoke_17 : decode cX10_smoke 17 = .ok (.iload_n 3, 1) := by decide +kernel
theorem dX10_smoke_18 : decode cX10_smoke 18 = .ok (.i2l, 1) := by decide +kernel
theorem dX10_smoke_19 : decode cX10_smoke 19 = .ok (.lconst 0, 1) := by decide +kernel
theorem dX10_smoke_20 : decode cX10_smoke 20 = .ok (.ldc2_w 249, 3) := by decide +kernel
theorem dX10_smoke_23 : decode cX10_smoke 23 = .ok (.invokestatic 149, 3) := by decide +kernel
theorem dX10_smoke_26 : decode cX10_smoke 26 = .ok (.ifCond .ne 6, 3) := by decide +kernel
theorem dX10_smoke_29 : decode cX10_smoke 29 = .ok (.bipush (-2), 2) := by decide +kernel
theorem dX10_smoke_31 : decode cX10_smoke 31 = .ok (.ireturn, 1) := by decide +kernel
theorem dX10_smoke_32 : decode cX10_smoke 32 = .ok (.aload_n 0, 1) := by decide +kernel
theorem dX10_smoke_33 : decode cX10_smoke 33 = .ok (.iload_n 1, 1) := by decide +kernel
theorem dX10_smoke_34 : decode cX10_smoke 34 = .ok (.invokevirtual 182, 3) := by decide +kernel
theorem dX10_smoke_37 : decode cX10_smoke 37 = .ok (.ifCond .ne 6, 3) := by decide +kernel
theorem dX10_smoke_40 : decode cX10_smoke 40 = .ok (.bipush (-3), 2) := by decide +kernel
theorem dX10_smoke_42 : decode cX10_smoke 42 = .ok (.ireturn, 1) := by decide +kernel
theorem dX10_smoke_43 : decode cX10_smoke 43 = .ok (.aload_n 0, 1) := by decide +kernel
theorem dX10_smoke_44 : decode cX10_smoke 44 = .ok (.invokevirtual 226, 3) := by decide +kernel
theorem dX10_smoke_47 : decode cX10_smoke 47 = .ok (.iconst 0, 1) := by decide +kernel
theorem dX10_smoke_48 : decode cX10_smoke 48 = .ok (.istore 4, 2) := by decide +kernel
theorem dX10_smoke_50 : decode cX10_smoke 50 = .ok (.iconst 0, 1) := by decide +kernel
theorem dX10_smoke_51 : decode cX10_smoke 51 = .ok (.istore 5, 2) := by decide +kernel
theorem dX10_smoke_53 : decode cX10_smoke 53 = .ok (.iload 5, 2) := by decide +kernel
theorem dX10_smoke_55 : decode cX10_smoke 55 = .ok (.aload_n 0, 1) := by decide +kernel
theorem dX10_smoke_56 : decode cX10_smoke 56 = .ok (.getfield 13, 3) := by decide +kernel
theorem dX10_smoke_59 : decode cX10_smoke 59 = .ok (.iconst 0, 1) := by decide +kernel
theorem dX10_smoke_60 : decode cX10_smoke 60 = .ok (.iaload, 1) := by decide +kernel
theorem dX10_smoke_61 : decode cX10_smoke 61 = .ok (.if_icmp .ge 76, 3) := by decide +kernel
theorem dX10_smoke_64 : decode cX10_smoke 64 = .ok (.iconst 0, 1) := by decide +kernel
theorem dX10_smoke_65 : decode cX10_smoke 65 = .ok (.istore 6, 2) := by decide +kernel
theorem dX10_smoke_67 : decode cX10_smoke 67 = .ok (.iload 6, 2) := by decide +kernel
theorem dX10_smoke_69 : decode cX10_smoke 69 = .ok (.aload_n 0, 1) := by decide +kernel
theorem dX10_smoke_70 : decode cX10_smoke 70 = .ok (.getfield 39, 3) := by decide +kernel
theorem dX10_smoke_73 : decode cX10_smoke 73 = .ok (.iload 5, 2) := by decide +kernel
theorem dX10_smoke_75 : decode cX10_smoke 75 = .ok (.iaload, 1) := by decide +kernel
theorem dX10_smoke_76 : decode cX10_smoke 76 = .ok (.if_icmp .ge 55, 3) := by decide +kernel
theorem dX10_smoke_79 : decode cX10_smoke 79 = .ok (.iload 4, 2) := by decide +kernel
theorem dX10_smoke_81 : decode cX10_smoke 81 = .ok (.aload_n 0, 1) := by decide +kernel
theorem dX10_smoke_82 : decode cX10_smoke 82 = .ok (.iload 5, 2) := by decide +kernel
theorem dX10_smoke_84 : decode cX10_smoke 84 = .ok (.iload 6, 2) := by decide +kernel
theorem dX10_smoke_86 : decode cX10_smoke 86 = .ok (.invokevirtual 195, 3) := by decide +kernel
theorem dX10_smoke_89 : decode cX10_smoke 89 = .ok (.bipush 10, 2) := by decide +kernel
theorem dX10_smoke_91 : decode cX10_smoke 91 = .ok (.idiv, 1) := by decide +kernel
theorem dX10_smoke_92 : decode cX10_smoke 92 = .ok (.sipush 1000, 3) := by decide +kernel
theorem dX10_smoke_95 : decode cX10_smoke 95 = .ok (.iload_n 1, 1) := by decide +kernel
theorem dX10_smoke_96 : decode cX10_smoke 96 = .ok (.imul, 1) := by decide +kernel
theorem dX10_smoke_97 : decode cX10_smoke 97 = .ok (.bipush 25, 2) := by decide +kernel
theorem dX10_smoke_99 : decode cX10_smoke 99 = .ok (.iload_n 2, 1) := by decide +kernel
theorem dX10_smoke_100 : decode cX10_smoke 100 = .ok (.imul, 1) := by decide +kernel
theorem dX10_smoke_101 : decode cX10_smoke 101 = .ok (.iadd, 1) := by decide +kernel
theorem dX10_smoke_102 : decode cX10_smoke 102 = .ok (.iload_n 3, 1) := by decide +kernel
theorem dX10_smoke_103 : decode cX10_smoke 103 = .ok (.iadd, 1) := by decide +kernel
theorem dX10_smoke_104 : decode cX10_smoke 104 = .ok (.if_icmp .ne 17, 3) := by decide +kernel
theorem dX10_smoke_107 : decode cX10_smoke 107 = .ok (.aload_n 0, 1) := by decide +kernel
theorem dX10_smoke_108 : decode cX10_smoke 108 = .ok (.iload 5, 2) := by decide +kernel
theorem dX10_smoke_110 : decode cX10_smoke 110 = .ok (.iload 6, 2) := by decide +kernel
theorem dX10_smoke_112 : decode cX10_smoke 112 = .ok (.invokevirtual 195, 3) := by decide +kernel
theorem dX10_smoke_115 : decode cX10_smoke 115 = .ok (.bipush 10, 2) := by decide +kernel
theorem dX10_smoke_117 : decode cX10_smoke 117 = .ok (.irem, 1) := by decide +kernel
theorem dX10_smoke_118 : decode cX10_smoke 118 = .ok (.goto 4, 3) := by decide +kernel
theorem dX10_smoke_121 : decode cX10_smoke 121 = .ok (.iconst 0, 1) := by decide +kernel
theorem dX10_smoke_122 : decode cX10_smoke 122 = .ok (.iadd, 1) := by decide +kernel
theorem dX10_smoke_123 : decode cX10_smoke 123 = .ok (.istore 4, 2) := by decide +kernel
theorem dX10_smoke_125 : decode cX10_smoke 125 = .ok (.iinc 6 1, 3) := by decide +kernel
theorem dX10_smoke_128 : decode cX10_smoke 128 = .ok (.goto (-61), 3) := by decide +kernel
theorem dX10_smoke_131 : decode cX10_smoke 131 = .ok (.iinc 5 1, 3) := by decide +kernel
theorem dX10_smoke_134 : decode cX10_smoke 134 = .ok (.goto (-81), 3) := by decide +kernel
theorem dX10_smoke_137 : decode cX10_smoke 137 = .ok (.iload 4, 2) := by decide +kernel
theorem dX10_smoke_139 : decode cX10_smoke 139 = .ok (.ireturn, 1) := by decide +kernel
theorem dX10_puffs_0 : decode cX10_puffs 0 = .ok (.aload_n 0, 1) := by decide +kernel
theorem dX10_puffs_1 : decode cX10_puffs 1 = .ok (.iconst 0, 1) := by decide +kernel
theorem dX10_puffs_2 : decode cX10_puffs 2 = .ok (.putfield 1, 3) := by decide +kernel
theorem dX10_puffs_5 : decode cX10_puffs 5 = .ok (.aload_n 0, 1) := by decide +kernel
theorem dX10_puffs_6 : decode cX10_puffs 6 = .ok (.iload_n 1, 1) := by decide +kernel
theorem dX10_puffs_7 : decode cX10_puffs 7 = .ok (.invokevirtual 182, 3) := by decide +kernel
theorem dX10_puffs_10 : decode cX10_puffs 10 = .ok (.ifCond .ne 6, 3) := by decide +kernel
theorem dX10_puffs_13 : decode cX10_puffs 13 = .ok (.bipush (-3), 2) := by decide +kernel
theorem dX10_puffs_15 : decode cX10_puffs 15 = .ok (.ireturn, 1) := by decide +kernel
theorem dX10_puffs_16 : decode cX10_puffs 16 = .ok (.aload_n 0, 1) := by decide +kernel
theorem dX10_puffs_17 : decode cX10_puffs 17 = .ok (.invokevirtual 226, 3) := by decide +kernel
theorem dX10_puffs_20 : decode cX10_puffs 20 = .ok (.iconst 0, 1) := by decide +kernel
theorem dX10_puffs_21 : decode cX10_puffs 21 = .ok (.istore_n 2, 1) := by decide +kernel
theorem dX10_puffs_22 : decode cX10_puffs 22 = .ok (.iconst 0, 1) := by decide +kernel
theorem dX10_puffs_23 : decode cX10_puffs 23 = .ok (.istore_n 3, 1) := by decide +kernel
theorem dX10_puffs_24 : decode cX10_puffs 24 = .ok (.iload_n 3, 1) := by decide +kernel
theorem dX10_puffs_25 : decode cX10_puffs 25 = .ok (.aload_n 0, 1) := by decide +kernel
theorem dX10_puffs_26 : decode cX10_puffs 26 = .ok (.getfield 13, 3) := by decide +kernel
theorem dX10_puffs_29 : decode cX10_puffs 29 = .ok (.iconst 0, 1) := by decide +kernel
theorem dX10_puffs_30 : decode cX10_puffs 30 = .ok (.iaload, 1) := by decide +kernel
theorem dX10_puffs_31 : decode cX10_puffs 31 = .ok (.if_icmp .ge 52, 3) := by decide +kernel
theorem dX10_puffs_34 : decode cX10_puffs 34 = .ok (.iconst 0, 1) := by decide +kernel
theorem dX10_puffs_35 : decode cX10_puffs 35 = .ok (.istore 4, 2) := by decide +kernel
theorem dX10_puffs_37 : decode cX10_puffs 37 = .ok (.iload 4, 2) := by decide +kernel
theorem dX10_puffs_39 : decode cX10_puffs 39 = .ok (.aload_n 0, 1) := by decide +kernel
theorem dX10_puffs_40 : decode cX10_puffs 40 = .ok (.getfield 39, 3) := by decide +kernel
theorem dX10_puffs_43 : decode cX10_puffs 43 = .ok (.iload_n 3, 1) := by decide +kernel
theorem dX10_puffs_44 : decode cX10_puffs 44 = .ok (.iaload, 1) := by decide +kernel
theorem dX10_puffs_45 : decode cX10_puffs 45 = .ok (.if_icmp .ge 32, 3) := by decide +kernel
theorem dX10_puffs_48 : decode cX10_puffs 48 = .ok (.iload_n 2, 1) := by decide +kernel
theorem dX10_puffs_49 : decode cX10_puffs 49 = .ok (.aload_n 0, 1) := by decide +kernel
theorem dX10_puffs_50 : decode cX10_puffs 50 = .ok (.iload_n 3, 1) := by decide +kernel
theorem dX10_puffs_51 : decode cX10_puffs 51 = .ok (.iload 4, 2) := by decide +kernel
theorem dX10_puffs_53 : decode cX10_puffs 53 = .ok (.invokevirtual 195, 3) := by decide +kernel
theorem dX10_puffs_56 : decode cX10_puffs 56 = .ok (.sipush 10000, 3) := by decide +kernel
theorem dX10_puffs_59 : decode cX10_puffs 59 = .ok (.idiv, 1) := by decide +kernel
theorem dX10_puffs_60 : decode cX10_puffs 60 = .ok (.iload_n 1, 1) := by decide +kernel
theorem dX10_puffs_61 : decode cX10_puffs 61 = .ok (.if_icmp .ne 7, 3) := by decide +kernel
theorem dX10_puffs_64 : decode cX10_puffs 64 = .ok (.iconst 1, 1) := by decide +kernel
theorem dX10_puffs_65 : decode cX10_puffs 65 = .ok (.goto 4, 3) := by decide +kernel
theorem dX10_puffs_68 : decode cX10_puffs 68 = .ok (.iconst 0, 1) := by decide +kernel
theorem dX10_puffs_69 : decode cX10_puffs 69 = .ok (.iadd, 1) := by decide +kernel
theorem dX10_puffs_70 : decode cX10_puffs 70 = .ok (.istore_n 2, 1) := by decide +kernel
theorem dX10_puffs_71 : decode cX10_puffs 71 = .ok (.iinc 4 1, 3) := by decide +kernel
theorem dX10_puffs_74 : decode cX10_puffs 74 = .ok (.goto (-37), 3) := by decide +kernel
theorem dX10_puffs_77 : decode cX10_puffs 77 = .ok (.iinc 3 1, 3) := by decide +kernel
theorem dX10_puffs_80 : decode cX10_puffs 80 = .ok (.goto (-56), 3) := by decide +kernel
theorem dX10_puffs_83 : decode cX10_puffs 83 = .ok (.iload_n 2, 1) := by decide +kernel
theorem dX10_puffs_84 : decode cX10_puffs 84 = .ok (.ireturn, 1) := by decide +kernel
theorem dX10_puff_0 : decode cX10_puff 0 = .ok (.aload_n 0, 1) := by decide +kernel
theorem dX10_puff_1 : decode cX10_puff 1 = .ok (.iconst 0, 1) := by decide +kernel
theorem dX10_puff_2 : decode cX10_puff 2 = .ok (.putfield 1, 3) := by decide +kernel
theorem dX10_puff_5 : decode cX10_puff 5 = .ok (.aload_n 0, 1) := by decide +kernel
theorem dX10_puff_6 : decode cX10_puff 6 = .ok (.iload_n 1, 1) := by decide +kernel
theorem dX10_puff_7 : decode cX10_puff 7 = .ok (.i2l, 1) := by decide +kernel
theorem dX10_puff_8 : decode cX10_puff 8 = .ok (.invokevirtual 173, 3) := by decide +kernel
theorem dX10_puff_11 : decode cX10_puff 11 = .ok (.ifCond .ne 6, 3) := by decide +kernel
theorem dX10_puff_14 : decode cX10_puff 14 = .ok (.bipush (-2), 2) := by decide +kernel
theorem dX10_puff_16 : decode cX10_puff 16 = .ok (.ireturn, 1) := by decide +kernel
theorem dX10_puff_17 : decode cX10_puff 17 = .ok (.aload_n 0, 1) := by decide +kernel
theorem dX10_puff_18 : decode cX10_puff 18 = .ok (.iload_n 3, 1) := by decide +kernel
theorem dX10_puff_19 : decode cX10_puff 19 = .ok (.invokevirtual 182, 3) := by decide +kernel
theorem dX10_puff_22 : decode cX10_puff 22 = .ok (.ifCond .ne 6, 3) := by decide +kernel
theorem dX10_puff_25 : decode cX10_puff 25 = .ok (.bipush (-3), 2) := by decide +kernel
theorem dX10_puff_27 : decode cX10_puff 27 = .ok (.ireturn, 1) := by decide +kernel
theorem dX10_puff_28 : decode cX10_puff 28 = .ok (.aload_n 0, 1) := by decide +kernel
theorem dX10_puff_29 : decode cX10_puff 29 = .ok (.iload_n 1, 1) := by decide +kernel
theorem dX10_puff_30 : decode cX10_puff 30 = .ok (.invokevirtual 202, 3) := by decide +kernel
theorem dX10_puff_33 : decode cX10_puff 33 = .ok (.ifCond .ne 6, 3) := by decide +kernel
theorem dX10_puff_36 : decode cX10_puff 36 = .ok (.bipush (-5), 2) := by decide +kernel
theorem dX10_puff_38 : decode cX10_puff 38 = .ok (.ireturn, 1) := by decide +kernel
theorem dX10_puff_39 : decode cX10_puff 39 = .ok (.iload_n 2, 1) := by decide +kernel
theorem dX10_puff_40 : decode cX10_puff 40 = .ok (.i2l, 1) := by decide +kernel
theorem dX10_puff_41 : decode cX10_puff 41 = .ok (.lconst 0, 1) := by decide +kernel
theorem dX10_puff_42 : decode cX10_puff 42 = .ok (.aload_n 0, 1) := by decide +kernel
theorem dX10_puff_43 : decode cX10_puff 43 = .ok (.getfield 13, 3) := by decide +kernel
theorem dX10_puff_46 : decode cX10_puff 46 = .ok (.bipush 46, 2) := by decide +kernel
theorem dX10_puff_48 : decode cX10_puff 48 = .ok (.iload_n 1, 1) := by decide +kernel
theorem dX10_puff_49 : decode cX10_puff 49 = .ok (.iadd, 1) := by decide +kernel
theorem dX10_puff_50 : decode cX10_puff 50 = .ok (.iaload, 1) := by decide +kernel
theorem dX10_puff_51 : decode cX10_puff 51 = .ok (.iconst 1, 1) := by decide +kernel
theorem dX10_puff_52 : decode cX10_puff 52 = .ok (.isub, 1) := by decide +kernel
theorem dX10_puff_53 : decode cX10_puff 53 = .ok (.i2l, 1) := by decide +kernel
theorem dX10_puff_54 : decode cX10_puff 54 = .ok (.invokestatic 149, 3) := by decide +kernel
theorem dX10_puff_57 : decode cX10_puff 57 = .ok (.ifCond .ne 5, 3) := by decide +kernel
theorem dX10_puff_60 : decode cX10_puff 60 = .ok (.iconst (-1), 1) := by decide +kernel
theorem dX10_puff_61 : decode cX10_puff 61 = .ok (.ireturn, 1) := by decide +kernel
theorem dX10_puff_62 : decode cX10_puff 62 = .ok (.aload_n 0, 1) := by decide +kernel
theorem dX10_puff_63 : decode cX10_puff 63 = .ok (.invokevirtual 209, 3) := by decide +kernel
theorem dX10_puff_66 : decode cX10_puff 66 = .ok (.aload_n 0, 1) := by decide +kernel
theorem dX10_puff_67 : decode cX10_puff 67 = .ok (.sipush 130, 3) := by decide +kernel
theorem dX10_puff_70 : decode cX10_puff 70 = .ok (.iload_n 1, 1) := by decide +kernel
theorem dX10_puff_71 : decode cX10_puff 71 = .ok (.aload_n 0, 1) := by decide +kernel
theorem dX10_puff_72 : decode cX10_puff 72 = .ok (.iload_n 1, 1) := by decide +kernel
theorem dX10_puff_73 : decode cX10_puff 73 = .ok (.invokevirtual 179, 3) := by decide +kernel
theorem dX10_puff_76 : decode cX10_puff 76 = .ok (.iconst 0, 1) := by decide +kernel
theorem dX10_puff_77 : decode cX10_puff 77 = .ok (.iload_n 2, 1) := by decide +kernel
theorem dX10_puff_78 : decode cX10_puff 78 = .ok (.iload_n 2, 1) := by decide +kernel
theorem dX10_puff_79 : decode cX10_puff 79 = .ok (.iconst 1, 1) := by decide +kernel
theorem dX10_puff_80 : decode cX10_puff 80 = .ok (.iadd, 1) := by decide +kernel
theorem dX10_puff_81 : decode cX10_puff 81 = .ok (.invokevirtual 189, 3) := by decide +kernel
theorem dX10_puff_84 : decode cX10_puff 84 = .ok (.iconst 0, 1) := by decide +kernel
theorem dX10_puff_85 : decode cX10_puff 85 = .ok (.istore 5, 2) := by decide +kernel
theorem dX10_puff_87 : decode cX10_puff 87 = .ok (.iload 5, 2) := by decide +kernel
theorem dX10_puff_89 : decode cX10_puff 89 = .ok (.aload_n 0, 1) := by decide +kernel
theorem dX10_puff_90 : decode cX10_puff 90 = .ok (.getfield 39, 3) := by decide +kernel
theorem dX10_puff_93 : decode cX10_puff 93 = .ok (.sipush 130, 3) := by decide +kernel
theorem dX10_puff_96 : decode cX10_puff 96 = .ok (.iaload, 1) := by decide +kernel
theorem dX10_puff_97 : decode cX10_puff 97 = .ok (.if_icmp .ge 60, 3) := by decide +kernel
theorem dX10_puff_100 : decode cX10_puff 100 = .ok (.aload_n 0, 1) := by decide +kernel
theorem dX10_puff_101 : decode cX10_puff 101 = .ok (.sipush 130, 3) := by decide +kernel
theorem dX10_puff_104 : decode cX10_puff 104 = .ok (.iload 5, 2) := by decide +kernel
theorem dX10_puff_106 : decode cX10_puff 106 = .ok (.invokevirtual 195, 3) := by decide +kernel
theorem dX10_puff_109 : decode cX10_puff 109 = .ok (.bipush 10, 2) := by decide +kernel
theorem dX10_puff_111 : decode cX10_puff 111 = .ok (.idiv, 1) := by decide +kernel
theorem dX10_puff_112 : decode cX10_puff 112 = .ok (.istore 6, 2) := by decide +kernel
theorem dX10_puff_114 : decode cX10_puff 114 = .ok (.iload 6, 2) := by decide +kernel
theorem dX10_puff_116 : decode cX10_puff 116 = .ok (.sipush 1000, 3) := by decide +kernel
theorem dX10_puff_119 : decode cX10_puff 119 = .ok (.idiv, 1) := by decide +kernel
theorem dX10_puff_120 : decode cX10_puff 120 = .ok (.iload_n 3, 1) := by decide +kernel
theorem dX10_puff_121 : decode cX10_puff 121 = .ok (.if_icmp .ne 30, 3) := by decide +kernel
theorem dX10_puff_124 : decode cX10_puff 124 = .ok (.iload 4, 2) := by decide +kernel
theorem dX10_puff_126 : decode cX10_puff 126 = .ok (.ifCond .eq 15, 3) := by decide +kernel
theorem dX10_puff_129 : decode cX10_puff 129 = .ok (.iload 6, 2) := by decide +kernel
theorem dX10_puff_131 : decode cX10_puff 131 = .ok (.sipush 1000, 3) := by decide +kernel
theorem dX10_puff_134 : decode cX10_puff 134 = .ok (.irem, 1) := by decide +kernel
theorem dX10_puff_135 : decode cX10_puff 135 = .ok (.bipush 25, 2) := by decide +kernel
theorem dX10_puff_137 : decode cX10_puff 137 = .ok (.irem, 1) := by decide +kernel
theorem dX10_puff_138 : decode cX10_puff 138 = .ok (.goto 12, 3) := by decide +kernel
theorem dX10_puff_141 : decode cX10_puff 141 = .ok (.iload 6, 2) := by decide +kernel
theorem dX10_puff_143 : decode cX10_puff 143 = .ok (.sipush 1000, 3) := by decide +kernel
theorem dX10_puff_146 : decode cX10_puff 146 = .ok (.irem, 1) := by decide +kernel
theorem dX10_puff_147 : decode cX10_puff 147 = .ok (.bipush 25, 2) := by decide +kernel
theorem dX10_puff_149 : decode cX10_puff 149 = .ok (.idiv, 1) := by decide +kernel
theorem dX10_puff_150 : decode cX10_puff 150 = .ok (.ireturn, 1) := by decide +kernel
theorem dX10_puff_151 : decode cX10_puff 151 = .ok (.iinc 5 1, 3) := by decide +kernel
theorem dX10_puff_154 : decode cX10_puff 154 = .ok (.goto (-67), 3) := by decide +kernel
theorem dX10_puff_157 : decode cX10_puff 157 = .ok (.iconst (-1), 1) := by decide +kernel
theorem dX10_puff_158 : decode cX10_puff 158 = .ok (.ireturn, 1) := by decide +kernel
theorem dX10_areTwo_0 : decode cX10_areTwo 0 = .ok (.aload_n 0, 1) := by decide +kernel
theorem dX10_areTwo_1 : decode cX10_areTwo 1 = .ok (.iload_n 1, 1) := by decide +kernel
theorem dX10_areTwo_2 : decode cX10_areTwo 2 = .ok (.i2l, 1) := by decide +kernel
theorem dX10_areTwo_3 : decode cX10_areTwo 3 = .ok (.invokevirtual 173, 3) := by decide +kernel
theorem dX10_areTwo_6 : decode cX10_areTwo 6 = .ok (.ifCond .eq 21, 3) := by decide +kernel
theorem dX10_areTwo_9 : decode cX10_areTwo 9 = .ok (.aload_n 0, 1) := by decide +kernel
theorem dX10_areTwo_10 : decode cX10_areTwo 10 = .ok (.iload_n 2, 1) := by decide +kernel
theorem dX10_areTwo_11 : decode cX10_areTwo 11 = .ok (.i2l, 1) := by decide +kernel
theorem dX10_areTwo_12 : decode cX10_areTwo 12 = .ok (.invokevirtual 173, 3) := by decide +kernel
theorem dX10_areTwo_15 : decode cX10_areTwo 15 = .ok (.ifCond .eq 12, 3) := by decide +kernel
theorem dX10_areTwo_18 : decode cX10_areTwo 18 = .ok (.iload_n 1, 1) := by decide +kernel
theorem dX10_areTwo_19 : decode cX10_areTwo 19 = .ok (.iload_n 2, 1) := by decide +kernel
theorem dX10_areTwo_20 : decode cX10_areTwo 20 = .ok (.if_icmp .eq 7, 3) := by decide +kernel
theorem dX10_areTwo_23 : decode cX10_areTwo 23 = .ok (.iconst 1, 1) := by decide +kernel
theorem dX10_areTwo_24 : decode cX10_areTwo 24 = .ok (.goto 4, 3) := by decide +kernel
theorem dX10_areTwo_27 : decode cX10_areTwo 27 = .ok (.iconst 0, 1) := by decide +kernel
theorem dX10_areTwo_28 : decode cX10_areTwo 28 = .ok (.ireturn, 1) := by decide +kernel
theorem dX10_touch_0 : decode cX10_touch 0 = .ok (.aload_n 0, 1) := by decide +kernel
theorem dX10_touch_1 : decode cX10_touch 1 = .ok (.iconst 0, 1) := by decide +kernel
theorem dX10_touch_2 : decode cX10_touch 2 = .ok (.putfield 1, 3) := by decide +kernel
theorem dX10_touch_5 : decode cX10_touch 5 = .ok (.aload_n 0, 1) := by decide +kernel
theorem dX10_touch_6 : decode cX10_touch 6 = .ok (.iload_n 1, 1) := by decide +kernel
theorem dX10_touch_7 : decode cX10_touch 7 = .ok (.iload_n 2, 1) := by decide +kernel
theorem dX10_touch_8 : decode cX10_touch 8 = .ok (.invokevirtual 251, 3) := by decide +kernel
theorem dX10_touch_11 : decode cX10_touch 11 = .ok (.ifCond .ne 6, 3) := by decide +kernel
theorem dX10_touch_14 : decode cX10_touch 14 = .ok (.bipush (-2), 2) := by decide +kernel
theorem dX10_touch_16 : decode cX10_touch 16 = .ok (.ireturn, 1) := by decide +kernel
theorem dX10_touch_17 : decode cX10_touch 17 = .ok (.aload_n 0, 1) := by decide +kernel
theorem dX10_touch_18 : decode cX10_touch 18 = .ok (.invokevirtual 226, 3) := by decide +kernel
theorem dX10_touch_21 : decode cX10_touch 21 = .ok (.aload_n 0, 1) := by decide +kernel
theorem dX10_touch_22 : decode cX10_touch 22 = .ok (.iload_n 1, 1) := by decide +kernel
theorem dX10_touch_23 : decode cX10_touch 23 = .ok (.iload_n 2, 1) := by decide +kernel
theorem dX10_touch_24 : decode cX10_touch 24 = .ok (.invokevirtual 254, 3) := by decide +kernel
theorem dX10_touch_27 : decode cX10_touch 27 = .ok (.pop, 1) := by decide +kernel
theorem dX10_touch_28 : decode cX10_touch 28 = .ok (.aload_n 0, 1) := by decide +kernel
theorem dX10_touch_29 : decode cX10_touch 29 = .ok (.invokevirtual 257, 3) := by decide +kernel
theorem dX10_touch_32 : decode cX10_touch 32 = .ok (.ireturn, 1) := by decide +kernel
theorem dX10_touching_0 : decode cX10_touching 0 = .ok (.aload_n 0, 1) := by decide +kernel
theorem dX10_touching_1 : decode cX10_touching 1 = .ok (.iconst 0, 1) := by decide +kernel
theorem dX10_touching_2 : decode cX10_touching 2 = .ok (.putfield 1, 3) := by decide +kernel
theorem dX10_touching_5 : decode cX10_touching 5 = .ok (.aload_n 0, 1) := by decide +kernel
theorem dX10_touching_6 : decode cX10_touching 6 = .ok (.iload_n 1, 1) := by decide +kernel
theorem dX10_touching_7 : decode cX10_touching 7 = .ok (.iload_n 2, 1) := by decide +kernel
theorem dX10_touching_8 : decode cX10_touching 8 = .ok (.invokevirtual 251, 3) := by decide +kernel
theorem dX10_touching_11 : decode cX10_touching 11 = .ok (.ifCond .ne 6, 3) := by decide +kernel
theorem dX10_touching_14 : decode cX10_touching 14 = .ok (.bipush (-2), 2) := by decide +kernel
theorem dX10_touching_16 : decode cX10_touching 16 = .ok (.ireturn, 1) := by decide +kernel
theorem dX10_touching_17 : decode cX10_touching 17 = .ok (.aload_n 0, 1) := by decide +kernel
theorem dX10_touching_18 : decode cX10_touching 18 = .ok (.invokevirtual 226, 3) := by decide +kernel
theorem dX10_touching_21 : decode cX10_touching 21 = .ok (.aload_n 0, 1) := by decide +kernel
theorem dX10_touching_22 : decode cX10_touching 22 = .ok (.iload_n 1, 1) := by decide +kernel
theorem dX10_touching_23 : decode cX10_touching 23 = .ok (.iload_n 2, 1) := by decide +kernel
theorem dX10_touching_24 : decode cX10_touching 24 = .ok (.invokevirtual 254, 3) := by decide +kernel
theorem dX10_touching_27 : decode cX10_touching 27 = .ok (.ireturn, 1) := by decide +kernel
theorem dX10_laysPairs_0 : decode cX10_laysPairs 0 = .ok (.iconst 0, 1) := by decide +kernel
theorem dX10_laysPairs_1 : decode cX10_laysPairs 1 = .ok (.istore_n 1, 1) := by decide +kernel
theorem dX10_laysPairs_2 : decode cX10_laysPairs 2 = .ok (.iconst 0, 1) := by decide +kernel
theorem dX10_laysPairs_3 : decode cX10_laysPairs 3 = .ok (.istore_n 2, 1) := by decide +kernel
theorem dX10_laysPairs_4 : decode cX10_laysPairs 4 = .ok (.iload_n 2, 1) := by decide +kernel
theorem dX10_laysPairs_5 : decode cX10_laysPairs 5 = .ok (.aload_n 0, 1) := by decide +kernel
theorem dX10_laysPairs_6 : decode cX10_laysPairs 6 = .ok (.getfield 13, 3) := by decide +kernel
theorem dX10_laysPairs_9 : decode cX10_laysPairs 9 = .ok (.iconst 0, 1) := by decide +kernel
theorem dX10_laysPairs_10 : decode cX10_laysPairs 10 = .ok (.iaload, 1) := by decide +kernel
theorem dX10_laysPairs_11 : decode cX10_laysPairs 11 = .ok (.if_icmp .ge 114, 3) := by decide +kernel
theorem dX10_laysPairs_14 : decode cX10_laysPairs 14 = .ok (.iload_n 2, 1) := by decide +kernel
theorem dX10_laysPairs_15 : decode cX10_laysPairs 15 = .ok (.iconst 1, 1) := by decide +kernel
theorem dX10_laysPairs_16 : decode cX10_laysPairs 16 = .ok (.iadd, 1) := by decide +kernel
theorem dX10_laysPairs_17 : decode cX10_laysPairs 17 = .ok (.istore_n 3, 1) := by decide +kernel
theorem dX10_laysPairs_18 : decode cX10_laysPairs 18 = .ok (.iload_n 3, 1) := by decide +kernel
theorem dX10_laysPairs_19 : decode cX10_laysPairs 19 = .ok (.aload_n 0, 1) := by decide +kernel
theorem dX10_laysPairs_20 : decode cX10_laysPairs 20 = .ok (.getfield 13, 3) := by decide +kernel
theorem dX10_laysPairs_23 : decode cX10_laysPairs 23 = .ok (.iconst 0, 1) := by decide +kernel
theorem dX10_laysPairs_24 : decode cX10_laysPairs 24 = .ok (.iaload, 1) := by decide +kernel
theorem dX10_laysPairs_25 : decode cX10_laysPairs 25 = .ok (.if_icmp .ge 94, 3) := by decide +kernel
theorem dX10_laysPairs_28 : decode cX10_laysPairs 28 = .ok (.aload_n 0, 1) := by decide +kernel
theorem dX10_laysPairs_29 : decode cX10_laysPairs 29 = .ok (.iload_n 2, 1) := by decide +kernel
theorem dX10_laysPairs_30 : decode cX10_laysPairs 30 = .ok (.iload_n 3, 1) := by decide +kernel
theorem dX10_laysPairs_31 : decode cX10_laysPairs 31 = .ok (.invokevirtual 254, 3) := by decide +kernel
theorem dX10_laysPairs_34 : decode cX10_laysPairs 34 = .ok (.ifCond .ne 6, 3) := by decide +kernel
theorem dX10_laysPairs_37 : decode cX10_laysPairs 37 = .ok (.goto 76, 3) := by decide +kernel
theorem dX10_laysPairs_40 : decode cX10_laysPairs 40 = .ok (.sipush 1000, 3) := by decide +kernel
theorem dX10_laysPairs_43 : decode cX10_laysPairs 43 = .ok (.aload_n 0, 1) := by decide +kernel
theorem dX10_laysPairs_44 : decode cX10_laysPairs 44 = .ok (.invokevirtual 257, 3) := by decide +kernel
theorem dX10_laysPairs_47 : decode cX10_laysPairs 47 = .ok (.imul, 1) := by decide +kernel
theorem dX10_laysPairs_48 : decode cX10_laysPairs 48 = .ok (.bipush 20, 2) := by decide +kernel
theorem dX10_laysPairs_50 : decode cX10_laysPairs 50 = .ok (.iload_n 2, 1) := by decide +kernel
theorem dX10_laysPairs_51 : decode cX10_laysPairs 51 = .ok (.imul, 1) := by decide +kernel
theorem dX10_laysPairs_52 : decode cX10_laysPairs 52 = .ok (.iadd, 1) := by decide +kernel
theorem dX10_laysPairs_53 : decode cX10_laysPairs 53 = .ok (.iload_n 3, 1) := by decide +kernel
theorem dX10_laysPairs_54 : decode cX10_laysPairs 54 = .ok (.iadd, 1) := by decide +kernel
theorem dX10_laysPairs_55 : decode cX10_laysPairs 55 = .ok (.istore 4, 2) := by decide +kernel
theorem dX10_laysPairs_57 : decode cX10_laysPairs 57 = .ok (.iload_n 1, 1) := by decide +kernel
theorem dX10_laysPairs_58 : decode cX10_laysPairs 58 = .ok (.istore 5, 2) := by decide +kernel
theorem dX10_laysPairs_60 : decode cX10_laysPairs 60 = .ok (.iload 5, 2) := by decide +kernel
theorem dX10_laysPairs_62 : decode cX10_laysPairs 62 = .ok (.ifCond .le 39, 3) := by decide +kernel
theorem dX10_laysPairs_65 : decode cX10_laysPairs 65 = .ok (.aload_n 0, 1) := by decide +kernel
theorem dX10_laysPairs_66 : decode cX10_laysPairs 66 = .ok (.getfield 48, 3) := by decide +kernel
theorem dX10_laysPairs_69 : decode cX10_laysPairs 69 = .ok (.iload 5, 2) := by decide +kernel
theorem dX10_laysPairs_71 : decode cX10_laysPairs 71 = .ok (.iconst 1, 1) := by decide +kernel
theorem dX10_laysPairs_72 : decode cX10_laysPairs 72 = .ok (.isub, 1) := by decide +kernel
theorem dX10_laysPairs_73 : decode cX10_laysPairs 73 = .ok (.iaload, 1) := by decide +kernel
theorem dX10_laysPairs_74 : decode cX10_laysPairs 74 = .ok (.iload 4, 2) := by decide +kernel
theorem dX10_laysPairs_76 : decode cX10_laysPairs 76 = .ok (.if_icmp .le 25, 3) := by decide +kernel
theorem dX10_laysPairs_79 : decode cX10_laysPairs 79 = .ok (.aload_n 0, 1) := by decide +kernel
theorem dX10_laysPairs_80 : decode cX10_laysPairs 80 = .ok (.getfield 48, 3) := by decide +kernel
theorem dX10_laysPairs_83 : decode cX10_laysPairs 83 = .ok (.iload 5, 2) := by decide +kernel
theorem dX10_laysPairs_85 : decode cX10_laysPairs 85 = .ok (.aload_n 0, 1) := by decide +kernel
theorem dX10_laysPairs_86 : decode cX10_laysPairs 86 = .ok (.getfield 48, 3) := by decide +kernel
theorem dX10_laysPairs_89 : decode cX10_laysPairs 89 = .ok (.iload 5, 2) := by decide +kernel
theorem dX10_laysPairs_91 : decode cX10_laysPairs 91 = .ok (.iconst 1, 1) := by decide +kernel
theorem dX10_laysPairs_92 : decode cX10_laysPairs 92 = .ok (.isub, 1) := by decide +kernel
theorem dX10_laysPairs_93 : decode cX10_laysPairs 93 = .ok (.iaload, 1) := by decide +kernel
theorem dX10_laysPairs_94 : decode cX10_laysPairs 94 = .ok (.iastore, 1) := by decide +kernel
theorem dX10_laysPairs_95 : decode cX10_laysPairs 95 = .ok (.iinc 5 (-1), 3) := by decide +kernel
theorem dX10_laysPairs_98 : decode cX10_laysPairs 98 = .ok (.goto (-38), 3) := by decide +kernel
theorem dX10_laysPairs_101 : decode cX10_laysPairs 101 = .ok (.aload_n 0, 1) := by decide +kernel
theorem dX10_laysPairs_102 : decode cX10_laysPairs 102 = .ok (.getfield 48, 3) := by decide +kernel
theorem dX10_laysPairs_105 : decode cX10_laysPairs 105 = .ok (.iload 5, 2) := by decide +kernel
theorem dX10_laysPairs_107 : decode cX10_laysPairs 107 = .ok (.iload 4, 2) := by decide +kernel
theorem dX10_laysPairs_109 : decode cX10_laysPairs 109 = .ok (.iastore, 1) := by decide +kernel
theorem dX10_laysPairs_110 : decode cX10_laysPairs 110 = .ok (.iinc 1 1, 3) := by decide +kernel
theorem dX10_laysPairs_113 : decode cX10_laysPairs 113 = .ok (.iinc 3 1, 3) := by decide +kernel
theorem dX10_laysPairs_116 : decode cX10_laysPairs 116 = .ok (.goto (-98), 3) := by decide +kernel
theorem dX10_laysPairs_119 : decode cX10_laysPairs 119 = .ok (.iinc 2 1, 3) := by decide +kernel
theorem dX10_laysPairs_122 : decode cX10_laysPairs 122 = .ok (.goto (-118), 3) := by decide +kernel
theorem dX10_laysPairs_125 : decode cX10_laysPairs 125 = .ok (.iload_n 1, 1) := by decide +kernel
theorem dX10_laysPairs_126 : decode cX10_laysPairs 126 = .ok (.ireturn, 1) := by decide +kernel
theorem dX10_pair_0 : decode cX10_pair 0 = .ok (.aload_n 0, 1) := by decide +kernel
theorem dX10_pair_1 : decode cX10_pair 1 = .ok (.iconst 0, 1) := by decide +kernel
theorem dX10_pair_2 : decode cX10_pair 2 = .ok (.putfield 1, 3) := by decide +kernel
theorem dX10_pair_5 : decode cX10_pair 5 = .ok (.aload_n 0, 1) := by decide +kernel
theorem dX10_pair_6 : decode cX10_pair 6 = .ok (.invokevirtual 226, 3) := by decide +kernel
theorem dX10_pair_9 : decode cX10_pair 9 = .ok (.aload_n 0, 1) := by decide +kernel
theorem dX10_pair_10 : decode cX10_pair 10 = .ok (.invokevirtual 260, 3) := by decide +kernel
theorem dX10_pair_13 : decode cX10_pair 13 = .ok (.istore_n 2, 1) := by decide +kernel
theorem dX10_pair_14 : decode cX10_pair 14 = .ok (.iload_n 1, 1) := by decide +kernel
theorem dX10_pair_15 : decode cX10_pair 15 = .ok (.iconst (-1), 1) := by decide +kernel
theorem dX10_pair_16 : decode cX10_pair 16 = .ok (.if_icmp .ne 7, 3) := by decide +kernel
theorem dX10_pair_19 : decode cX10_pair 19 = .ok (.iload_n 2, 1) := by decide +kernel
theorem dX10_pair_20 : decode cX10_pair 20 = .ok (.goto 26, 3) := by decide +kernel
theorem dX10_pair_23 : decode cX10_pair 23 = .ok (.iload_n 1, 1) := by decide +kernel
theorem dX10_pair_24 : decode cX10_pair 24 = .ok (.i2l, 1) := by decide +kernel
theorem dX10_pair_25 : decode cX10_pair 25 = .ok (.lconst 0, 1) := by decide +kernel
theorem dX10_pair_26 : decode cX10_pair 26 = .ok (.iload_n 2, 1) := by decide +kernel
theorem dX10_pair_27 : decode cX10_pair 27 = .ok (.iconst 1, 1) := by decide +kernel
theorem dX10_pair_28 : decode cX10_pair 28 = .ok (.isub, 1) := by decide +kernel
theorem dX10_pair_29 : decode cX10_pair 29 = .ok (.i2l, 1) := by decide +kernel
theorem dX10_pair_30 : decode cX10_pair 30 = .ok (.invokestatic 149, 3) := by decide +kernel
theorem dX10_pair_33 : decode cX10_pair 33 = .ok (.ifCond .eq 12, 3) := by decide +kernel
theorem dX10_pair_36 : decode cX10_pair 36 = .ok (.aload_n 0, 1) := by decide +kernel
theorem dX10_pair_37 : decode cX10_pair 37 = .ok (.getfield 48, 3) := by decide +kernel
theorem dX10_pair_40 : decode cX10_pair 40 = .ok (.iload_n 1, 1) := by decide +kernel
theorem dX10_pair_41 : decode cX10_pair 41 = .ok (.iaload, 1) := by decide +kernel
theorem dX10_pair_42 : decode cX10_pair 42 = .ok (.goto 4, 3) := by decide +kernel
theorem dX10_pair_45 : decode cX10_pair 45 = .ok (.iconst (-1), 1) := by decide +kernel
theorem dX10_pair_46 : decode cX10_pair 46 = .ok (.ireturn, 1) := by decide +kernel
theorem dX10_faulty_0 : decode cX10_faulty 0 = .ok (.aload_n 0, 1) := by decide +kernel
theorem dX10_faulty_1 : decode cX10_faulty 1 = .ok (.iload_n 1, 1) := by decide +kernel
theorem dX10_faulty_2 : decode cX10_faulty 2 = .ok (.invokevirtual 179, 3) := by decide +kernel
theorem dX10_faulty_5 : decode cX10_faulty 5 = .ok (.aload_n 0, 1) := by decide +kernel
theorem dX10_faulty_6 : decode cX10_faulty 6 = .ok (.iload_n 2, 1) := by decide +kernel
theorem dX10_faulty_7 : decode cX10_faulty 7 = .ok (.invokevirtual 179, 3) := by decide +kernel
theorem dX10_faulty_10 : decode cX10_faulty 10 = .ok (.if_icmp .gt 21, 3) := by decide +kernel
theorem dX10_faulty_13 : decode cX10_faulty 13 = .ok (.aload_n 0, 1) := by decide +kernel
theorem dX10_faulty_14 : decode cX10_faulty 14 = .ok (.iload_n 1, 1) := by decide +kernel
theorem dX10_faulty_15 : decode cX10_faulty 15 = .ok (.invokevirtual 179, 3) := by decide +kernel
theorem dX10_faulty_18 : decode cX10_faulty 18 = .ok (.aload_n 0, 1) := by decide +kernel
theorem dX10_faulty_19 : decode cX10_faulty 19 = .ok (.iload_n 2, 1) := by decide +kernel
theorem dX10_faulty_20 : decode cX10_faulty 20 = .ok (.invokevirtual 179, 3) := by decide +kernel
theorem dX10_faulty_23 : decode cX10_faulty 23 = .ok (.if_icmp .ne 12, 3) := by decide +kernel
theorem dX10_faulty_26 : decode cX10_faulty 26 = .ok (.iload_n 1, 1) := by decide +kernel
theorem dX10_faulty_27 : decode cX10_faulty 27 = .ok (.iload_n 2, 1) := by decide +kernel
theorem dX10_faulty_28 : decode cX10_faulty 28 = .ok (.if_icmp .le 7, 3) := by decide +kernel
theorem dX10_faulty_31 : decode cX10_faulty 31 = .ok (.iload_n 1, 1) := by decide +kernel
theorem dX10_faulty_32 : decode cX10_faulty 32 = .ok (.goto 4, 3) := by decide +kernel
theorem dX10_faulty_35 : decode cX10_faulty 35 = .ok (.iload_n 2, 1) := by decide +kernel
theorem dX10_faulty_36 : decode cX10_faulty 36 = .ok (.ireturn, 1) := by decide +kernel
theorem dX10_paysOf_0 : decode cX10_paysOf 0 = .ok (.iconst 0, 1) := by decide +kernel
theorem dX10_paysOf_1 : decode cX10_paysOf 1 = .ok (.istore_n 2, 1) := by decide +kernel
theorem dX10_paysOf_2 : decode cX10_paysOf 2 = .ok (.iconst 0, 1) := by decide +kernel
theorem dX10_paysOf_3 : decode cX10_paysOf 3 = .ok (.istore_n 3, 1) := by decide +kernel
theorem dX10_paysOf_4 : decode cX10_paysOf 4 = .ok (.iload_n 3, 1) := by decide +kernel
theorem dX10_paysOf_5 : decode cX10_paysOf 5 = .ok (.aload_n 0, 1) := by decide +kernel
theorem dX10_paysOf_6 : decode cX10_paysOf 6 = .ok (.getfield 13, 3) := by decide +kernel
theorem dX10_paysOf_9 : decode cX10_paysOf 9 = .ok (.iconst 0, 1) := by decide +kernel
theorem dX10_paysOf_10 : decode cX10_paysOf 10 = .ok (.iaload, 1) := by decide +kernel
theorem dX10_paysOf_11 : decode cX10_paysOf 11 = .ok (.if_icmp .ge 56, 3) := by decide +kernel
theorem dX10_paysOf_14 : decode cX10_paysOf 14 = .ok (.iload_n 3, 1) := by decide +kernel
theorem dX10_paysOf_15 : decode cX10_paysOf 15 = .ok (.iload_n 1, 1) := by decide +kernel
theorem dX10_paysOf_16 : decode cX10_paysOf 16 = .ok (.if_icmp .eq 45, 3) := by decide +kernel
theorem dX10_paysOf_19 : decode cX10_paysOf 19 = .ok (.aload_n 0, 1) := by decide +kernel
theorem dX10_paysOf_20 : decode cX10_paysOf 20 = .ok (.iload_n 1, 1) := by decide +kernel
theorem dX10_paysOf_21 : decode cX10_paysOf 21 = .ok (.invokevirtual 202, 3) := by decide +kernel
theorem dX10_paysOf_24 : decode cX10_paysOf 24 = .ok (.ifCond .eq 37, 3) := by decide +kernel
theorem dX10_paysOf_27 : decode cX10_paysOf 27 = .ok (.aload_n 0, 1) := by decide +kernel
theorem dX10_paysOf_28 : decode cX10_paysOf 28 = .ok (.iload_n 3, 1) := by decide +kernel
theorem dX10_paysOf_29 : decode cX10_paysOf 29 = .ok (.invokevirtual 202, 3) := by decide +kernel
