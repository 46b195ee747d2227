theorem dX9_init_0 : decode cX9_init 0 = .ok (.aload_n 0, 1) := by decide +kernel
theorem dX9_init_1 : decode cX9_init 1 = .ok (.invokespecial 1, 3) := by decide +kernel
theorem dX9_init_4 : decode cX9_init 4 = .ok (.aload_n 0, 1) := by decide +kernel
theorem dX9_init_5 : decode cX9_init 5 = .ok (.sipush 900, 3) := by decide +kernel
theorem dX9_init_8 : decode cX9_init 8 = .ok (.newarray .byte, 2) := by decide +kernel
theorem dX9_init_10 : decode cX9_init 10 = .ok (.putfield 9, 3) := by decide +kernel
theorem dX9_init_13 : decode cX9_init 13 = .ok (.aload_n 0, 1) := by decide +kernel
theorem dX9_init_14 : decode cX9_init 14 = .ok (.new 13, 3) := by decide +kernel
theorem dX9_init_17 : decode cX9_init 17 = .ok (.dup, 1) := by decide +kernel
theorem dX9_init_18 : decode cX9_init 18 = .ok (.invokespecial 15, 3) := by decide +kernel
theorem dX9_init_21 : decode cX9_init 21 = .ok (.putfield 16, 3) := by decide +kernel
theorem dX9_init_24 : decode cX9_init 24 = .ok (.aload_n 0, 1) := by decide +kernel
theorem dX9_init_25 : decode cX9_init 25 = .ok (.new 20, 3) := by decide +kernel
theorem dX9_init_28 : decode cX9_init 28 = .ok (.dup, 1) := by decide +kernel
theorem dX9_init_29 : decode cX9_init 29 = .ok (.invokespecial 22, 3) := by decide +kernel
theorem dX9_init_32 : decode cX9_init 32 = .ok (.putfield 23, 3) := by decide +kernel
theorem dX9_init_35 : decode cX9_init 35 = .ok (.aload_n 0, 1) := by decide +kernel
theorem dX9_init_36 : decode cX9_init 36 = .ok (.new 27, 3) := by decide +kernel
theorem dX9_init_39 : decode cX9_init 39 = .ok (.dup, 1) := by decide +kernel
theorem dX9_init_40 : decode cX9_init 40 = .ok (.invokespecial 29, 3) := by decide +kernel
theorem dX9_init_43 : decode cX9_init 43 = .ok (.putfield 30, 3) := by decide +kernel
theorem dX9_init_46 : decode cX9_init 46 = .ok (.aload_n 0, 1) := by decide +kernel
theorem dX9_init_47 : decode cX9_init 47 = .ok (.new 34, 3) := by decide +kernel
theorem dX9_init_50 : decode cX9_init 50 = .ok (.dup, 1) := by decide +kernel
theorem dX9_init_51 : decode cX9_init 51 = .ok (.aload_n 0, 1) := by decide +kernel
theorem dX9_init_52 : decode cX9_init 52 = .ok (.getfield 16, 3) := by decide +kernel
theorem dX9_init_55 : decode cX9_init 55 = .ok (.aload_n 0, 1) := by decide +kernel
theorem dX9_init_56 : decode cX9_init 56 = .ok (.getfield 30, 3) := by decide +kernel
theorem dX9_init_59 : decode cX9_init 59 = .ok (.invokespecial 36, 3) := by decide +kernel
theorem dX9_init_62 : decode cX9_init 62 = .ok (.putfield 39, 3) := by decide +kernel
theorem dX9_init_65 : decode cX9_init 65 = .ok (.aload_n 0, 1) := by decide +kernel
theorem dX9_init_66 : decode cX9_init 66 = .ok (.new 27, 3) := by decide +kernel
theorem dX9_init_69 : decode cX9_init 69 = .ok (.dup, 1) := by decide +kernel
theorem dX9_init_70 : decode cX9_init 70 = .ok (.invokespecial 29, 3) := by decide +kernel
theorem dX9_init_73 : decode cX9_init 73 = .ok (.putfield 43, 3) := by decide +kernel
theorem dX9_init_76 : decode cX9_init 76 = .ok (.aload_n 0, 1) := by decide +kernel
theorem dX9_init_77 : decode cX9_init 77 = .ok (.new 34, 3) := by decide +kernel
theorem dX9_init_80 : decode cX9_init 80 = .ok (.dup, 1) := by decide +kernel
theorem dX9_init_81 : decode cX9_init 81 = .ok (.aload_n 0, 1) := by decide +kernel
theorem dX9_init_82 : decode cX9_init 82 = .ok (.getfield 16, 3) := by decide +kernel
theorem dX9_init_85 : decode cX9_init 85 = .ok (.aload_n 0, 1) := by decide +kernel
theorem dX9_init_86 : decode cX9_init 86 = .ok (.getfield 43, 3) := by decide +kernel
theorem dX9_init_89 : decode cX9_init 89 = .ok (.invokespecial 36, 3) := by decide +kernel
theorem dX9_init_92 : decode cX9_init 92 = .ok (.putfield 46, 3) := by decide +kernel
theorem dX9_init_95 : decode cX9_init 95 = .ok (.aload_n 0, 1) := by decide +kernel
theorem dX9_init_96 : decode cX9_init 96 = .ok (.new 49, 3) := by decide +kernel
theorem dX9_init_99 : decode cX9_init 99 = .ok (.dup, 1) := by decide +kernel
theorem dX9_init_100 : decode cX9_init 100 = .ok (.aload_n 0, 1) := by decide +kernel
theorem dX9_init_101 : decode cX9_init 101 = .ok (.getfield 16, 3) := by decide +kernel
theorem dX9_init_104 : decode cX9_init 104 = .ok (.aload_n 0, 1) := by decide +kernel
theorem dX9_init_105 : decode cX9_init 105 = .ok (.getfield 39, 3) := by decide +kernel
theorem dX9_init_108 : decode cX9_init 108 = .ok (.invokespecial 51, 3) := by decide +kernel
theorem dX9_init_111 : decode cX9_init 111 = .ok (.putfield 54, 3) := by decide +kernel
theorem dX9_init_114 : decode cX9_init 114 = .ok (.aload_n 0, 1) := by decide +kernel
theorem dX9_init_115 : decode cX9_init 115 = .ok (.new 58, 3) := by decide +kernel
theorem dX9_init_118 : decode cX9_init 118 = .ok (.dup, 1) := by decide +kernel
theorem dX9_init_119 : decode cX9_init 119 = .ok (.aload_n 0, 1) := by decide +kernel
theorem dX9_init_120 : decode cX9_init 120 = .ok (.getfield 16, 3) := by decide +kernel
theorem dX9_init_123 : decode cX9_init 123 = .ok (.aload_n 0, 1) := by decide +kernel
theorem dX9_init_124 : decode cX9_init 124 = .ok (.getfield 39, 3) := by decide +kernel
theorem dX9_init_127 : decode cX9_init 127 = .ok (.invokespecial 60, 3) := by decide +kernel
theorem dX9_init_130 : decode cX9_init 130 = .ok (.putfield 61, 3) := by decide +kernel
theorem dX9_init_133 : decode cX9_init 133 = .ok (.aload_n 0, 1) := by decide +kernel
theorem dX9_init_134 : decode cX9_init 134 = .ok (.new 65, 3) := by decide +kernel
theorem dX9_init_137 : decode cX9_init 137 = .ok (.dup, 1) := by decide +kernel
theorem dX9_init_138 : decode cX9_init 138 = .ok (.aload_n 0, 1) := by decide +kernel
theorem dX9_init_139 : decode cX9_init 139 = .ok (.getfield 16, 3) := by decide +kernel
theorem dX9_init_142 : decode cX9_init 142 = .ok (.aload_n 0, 1) := by decide +kernel
theorem dX9_init_143 : decode cX9_init 143 = .ok (.getfield 39, 3) := by decide +kernel
theorem dX9_init_146 : decode cX9_init 146 = .ok (.invokespecial 67, 3) := by decide +kernel
theorem dX9_init_149 : decode cX9_init 149 = .ok (.putfield 68, 3) := by decide +kernel
theorem dX9_init_152 : decode cX9_init 152 = .ok (.aload_n 0, 1) := by decide +kernel
theorem dX9_init_153 : decode cX9_init 153 = .ok (.new 72, 3) := by decide +kernel
theorem dX9_init_156 : decode cX9_init 156 = .ok (.dup, 1) := by decide +kernel
theorem dX9_init_157 : decode cX9_init 157 = .ok (.aload_n 0, 1) := by decide +kernel
theorem dX9_init_158 : decode cX9_init 158 = .ok (.getfield 16, 3) := by decide +kernel
theorem dX9_init_161 : decode cX9_init 161 = .ok (.aload_n 0, 1) := by decide +kernel
theorem dX9_init_162 : decode cX9_init 162 = .ok (.getfield 43, 3) := by decide +kernel
theorem dX9_init_165 : decode cX9_init 165 = .ok (.aload_n 0, 1) := by decide +kernel
theorem dX9_init_166 : decode cX9_init 166 = .ok (.getfield 46, 3) := by decide +kernel
theorem dX9_init_169 : decode cX9_init 169 = .ok (.invokespecial 74, 3) := by decide +kernel
theorem dX9_init_172 : decode cX9_init 172 = .ok (.putfield 77, 3) := by decide +kernel
theorem dX9_init_175 : decode cX9_init 175 = .ok (.aload_n 0, 1) := by decide +kernel
theorem dX9_init_176 : decode cX9_init 176 = .ok (.iconst 4, 1) := by decide +kernel
theorem dX9_init_177 : decode cX9_init 177 = .ok (.anewarray 81, 3) := by decide +kernel
theorem dX9_init_180 : decode cX9_init 180 = .ok (.putfield 83, 3) := by decide +kernel
theorem dX9_init_183 : decode cX9_init 183 = .ok (.aload_n 0, 1) := by decide +kernel
theorem dX9_init_184 : decode cX9_init 184 = .ok (.iconst 2, 1) := by decide +kernel
theorem dX9_init_185 : decode cX9_init 185 = .ok (.anewarray 13, 3) := by decide +kernel
theorem dX9_init_188 : decode cX9_init 188 = .ok (.putfield 87, 3) := by decide +kernel
theorem dX9_init_191 : decode cX9_init 191 = .ok (.aload_n 0, 1) := by decide +kernel
theorem dX9_init_192 : decode cX9_init 192 = .ok (.bipush 45, 2) := by decide +kernel
theorem dX9_init_194 : decode cX9_init 194 = .ok (.newarray .int, 2) := by decide +kernel
theorem dX9_init_196 : decode cX9_init 196 = .ok (.putfield 91, 3) := by decide +kernel
theorem dX9_init_199 : decode cX9_init 199 = .ok (.aload_n 0, 1) := by decide +kernel
theorem dX9_init_200 : decode cX9_init 200 = .ok (.bipush 40, 2) := by decide +kernel
theorem dX9_init_202 : decode cX9_init 202 = .ok (.newarray .int, 2) := by decide +kernel
theorem dX9_init_204 : decode cX9_init 204 = .ok (.putfield 95, 3) := by decide +kernel
theorem dX9_init_207 : decode cX9_init 207 = .ok (.aload_n 0, 1) := by decide +kernel
theorem dX9_init_208 : decode cX9_init 208 = .ok (.bipush 25, 2) := by decide +kernel
theorem dX9_init_210 : decode cX9_init 210 = .ok (.newarray .long, 2) := by decide +kernel
theorem dX9_init_212 : decode cX9_init 212 = .ok (.putfield 98, 3) := by decide +kernel
theorem dX9_init_215 : decode cX9_init 215 = .ok (.iconst 0, 1) := by decide +kernel
theorem dX9_init_216 : decode cX9_init 216 = .ok (.istore_n 1, 1) := by decide +kernel
theorem dX9_init_217 : decode cX9_init 217 = .ok (.iload_n 1, 1) := by decide +kernel
theorem dX9_init_218 : decode cX9_init 218 = .ok (.iconst 4, 1) := by decide +kernel
theorem dX9_init_219 : decode cX9_init 219 = .ok (.if_icmp .ge 22, 3) := by decide +kernel
theorem dX9_init_222 : decode cX9_init 222 = .ok (.aload_n 0, 1) := by decide +kernel
theorem dX9_init_223 : decode cX9_init 223 = .ok (.getfield 83, 3) := by decide +kernel
theorem dX9_init_226 : decode cX9_init 226 = .ok (.iload_n 1, 1) := by decide +kernel
theorem dX9_init_227 : decode cX9_init 227 = .ok (.new 81, 3) := by decide +kernel
theorem dX9_init_230 : decode cX9_init 230 = .ok (.dup, 1) := by decide +kernel
theorem dX9_init_231 : decode cX9_init 231 = .ok (.invokespecial 102, 3) := by decide +kernel
theorem dX9_init_234 : decode cX9_init 234 = .ok (.aastore, 1) := by decide +kernel
theorem dX9_init_235 : decode cX9_init 235 = .ok (.iinc 1 1, 3) := by decide +kernel
theorem dX9_init_238 : decode cX9_init 238 = .ok (.goto (-21), 3) := by decide +kernel
theorem dX9_init_241 : decode cX9_init 241 = .ok (.aload_n 0, 1) := by decide +kernel
theorem dX9_init_242 : decode cX9_init 242 = .ok (.getfield 30, 3) := by decide +kernel
theorem dX9_init_245 : decode cX9_init 245 = .ok (.aload_n 0, 1) := by decide +kernel
theorem dX9_init_246 : decode cX9_init 246 = .ok (.getfield 16, 3) := by decide +kernel
theorem dX9_init_249 : decode cX9_init 249 = .ok (.invokevirtual 103, 3) := by decide +kernel
theorem dX9_init_252 : decode cX9_init 252 = .ok (.return_, 1) := by decide +kernel
theorem dX9_feed_0 : decode cX9_feed 0 = .ok (.aload_n 0, 1) := by decide +kernel
theorem dX9_feed_1 : decode cX9_feed 1 = .ok (.getfield 107, 3) := by decide +kernel
theorem dX9_feed_4 : decode cX9_feed 4 = .ok (.bipush 20, 2) := by decide +kernel
theorem dX9_feed_6 : decode cX9_feed 6 = .ok (.iadd, 1) := by decide +kernel
theorem dX9_feed_7 : decode cX9_feed 7 = .ok (.sipush 900, 3) := by decide +kernel
theorem dX9_feed_10 : decode cX9_feed 10 = .ok (.if_icmp .le 6, 3) := by decide +kernel
theorem dX9_feed_13 : decode cX9_feed 13 = .ok (.bipush (-5), 2) := by decide +kernel
theorem dX9_feed_15 : decode cX9_feed 15 = .ok (.ireturn, 1) := by decide +kernel
theorem dX9_feed_16 : decode cX9_feed 16 = .ok (.aload_n 0, 1) := by decide +kernel
theorem dX9_feed_17 : decode cX9_feed 17 = .ok (.iload_n 1, 1) := by decide +kernel
theorem dX9_feed_18 : decode cX9_feed 18 = .ok (.invokevirtual 111, 3) := by decide +kernel
theorem dX9_feed_21 : decode cX9_feed 21 = .ok (.aload_n 0, 1) := by decide +kernel
theorem dX9_feed_22 : decode cX9_feed 22 = .ok (.iload_n 2, 1) := by decide +kernel
theorem dX9_feed_23 : decode cX9_feed 23 = .ok (.invokevirtual 111, 3) := by decide +kernel
theorem dX9_feed_26 : decode cX9_feed 26 = .ok (.aload_n 0, 1) := by decide +kernel
theorem dX9_feed_27 : decode cX9_feed 27 = .ok (.iload_n 3, 1) := by decide +kernel
theorem dX9_feed_28 : decode cX9_feed 28 = .ok (.invokevirtual 111, 3) := by decide +kernel
theorem dX9_feed_31 : decode cX9_feed 31 = .ok (.aload_n 0, 1) := by decide +kernel
theorem dX9_feed_32 : decode cX9_feed 32 = .ok (.iload 4, 2) := by decide +kernel
theorem dX9_feed_34 : decode cX9_feed 34 = .ok (.invokevirtual 111, 3) := by decide +kernel
theorem dX9_feed_37 : decode cX9_feed 37 = .ok (.aload_n 0, 1) := by decide +kernel
theorem dX9_feed_38 : decode cX9_feed 38 = .ok (.iload 5, 2) := by decide +kernel
theorem dX9_feed_40 : decode cX9_feed 40 = .ok (.invokevirtual 111, 3) := by decide +kernel
theorem dX9_feed_43 : decode cX9_feed 43 = .ok (.aload_n 0, 1) := by decide +kernel
theorem dX9_feed_44 : decode cX9_feed 44 = .ok (.getfield 107, 3) := by decide +kernel
theorem dX9_feed_47 : decode cX9_feed 47 = .ok (.ireturn, 1) := by decide +kernel
theorem dX9_town_0 : decode cX9_town 0 = .ok (.iload_n 1, 1) := by decide +kernel
theorem dX9_town_1 : decode cX9_town 1 = .ok (.ifCond .lt 11, 3) := by decide +kernel
theorem dX9_town_4 : decode cX9_town 4 = .ok (.iload_n 1, 1) := by decide +kernel
theorem dX9_town_5 : decode cX9_town 5 = .ok (.aload_n 0, 1) := by decide +kernel
theorem dX9_town_6 : decode cX9_town 6 = .ok (.getfield 107, 3) := by decide +kernel
theorem dX9_town_9 : decode cX9_town 9 = .ok (.if_icmp .le 6, 3) := by decide +kernel
theorem dX9_town_12 : decode cX9_town 12 = .ok (.bipush (-3), 2) := by decide +kernel
theorem dX9_town_14 : decode cX9_town 14 = .ok (.ireturn, 1) := by decide +kernel
theorem dX9_town_15 : decode cX9_town 15 = .ok (.aload_n 0, 1) := by decide +kernel
theorem dX9_town_16 : decode cX9_town 16 = .ok (.iconst 0, 1) := by decide +kernel
theorem dX9_town_17 : decode cX9_town 17 = .ok (.putfield 107, 3) := by decide +kernel
theorem dX9_town_20 : decode cX9_town 20 = .ok (.aload_n 0, 1) := by decide +kernel
theorem dX9_town_21 : decode cX9_town 21 = .ok (.getfield 23, 3) := by decide +kernel
theorem dX9_town_24 : decode cX9_town 24 = .ok (.aload_n 0, 1) := by decide +kernel
theorem dX9_town_25 : decode cX9_town 25 = .ok (.getfield 9, 3) := by decide +kernel
theorem dX9_town_28 : decode cX9_town 28 = .ok (.iload_n 1, 1) := by decide +kernel
theorem dX9_town_29 : decode cX9_town 29 = .ok (.invokevirtual 115, 3) := by decide +kernel
theorem dX9_town_32 : decode cX9_town 32 = .ok (.aload_n 0, 1) := by decide +kernel
theorem dX9_town_33 : decode cX9_town 33 = .ok (.getfield 23, 3) := by decide +kernel
theorem dX9_town_36 : decode cX9_town 36 = .ok (.getfield 119, 3) := by decide +kernel
theorem dX9_town_39 : decode cX9_town 39 = .ok (.ifCond .eq 14, 3) := by decide +kernel
theorem dX9_town_42 : decode cX9_town 42 = .ok (.bipush (-30), 2) := by decide +kernel
theorem dX9_town_44 : decode cX9_town 44 = .ok (.aload_n 0, 1) := by decide +kernel
theorem dX9_town_45 : decode cX9_town 45 = .ok (.getfield 23, 3) := by decide +kernel
theorem dX9_town_48 : decode cX9_town 48 = .ok (.getfield 119, 3) := by decide +kernel
theorem dX9_town_51 : decode cX9_town 51 = .ok (.isub, 1) := by decide +kernel
theorem dX9_town_52 : decode cX9_town 52 = .ok (.ireturn, 1) := by decide +kernel
theorem dX9_town_53 : decode cX9_town 53 = .ok (.aload_n 0, 1) := by decide +kernel
theorem dX9_town_54 : decode cX9_town 54 = .ok (.aload_n 0, 1) := by decide +kernel
theorem dX9_town_55 : decode cX9_town 55 = .ok (.getfield 23, 3) := by decide +kernel
theorem dX9_town_58 : decode cX9_town 58 = .ok (.getfield 122, 3) := by decide +kernel
theorem dX9_town_61 : decode cX9_town 61 = .ok (.invokevirtual 125, 3) := by decide +kernel
theorem dX9_town_64 : decode cX9_town 64 = .ok (.aload_n 0, 1) := by decide +kernel
theorem dX9_town_65 : decode cX9_town 65 = .ok (.getfield 16, 3) := by decide +kernel
theorem dX9_town_68 : decode cX9_town 68 = .ok (.getfield 128, 3) := by decide +kernel
theorem dX9_town_71 : decode cX9_town 71 = .ok (.ireturn, 1) := by decide +kernel
theorem dX9_fault_0 : decode cX9_fault 0 = .ok (.iload_n 1, 1) := by decide +kernel
theorem dX9_fault_1 : decode cX9_fault 1 = .ok (.lookupswitch 43 #[(0, 27), (1, 35)], 27) := by decide +kernel
theorem dX9_fault_28 : decode cX9_fault 28 = .ok (.aload_n 0, 1) := by decide +kernel
theorem dX9_fault_29 : decode cX9_fault 29 = .ok (.getfield 23, 3) := by decide +kernel
theorem dX9_fault_32 : decode cX9_fault 32 = .ok (.getfield 119, 3) := by decide +kernel
theorem dX9_fault_35 : decode cX9_fault 35 = .ok (.ireturn, 1) := by decide +kernel
theorem dX9_fault_36 : decode cX9_fault 36 = .ok (.aload_n 0, 1) := by decide +kernel
theorem dX9_fault_37 : decode cX9_fault 37 = .ok (.getfield 23, 3) := by decide +kernel
theorem dX9_fault_40 : decode cX9_fault 40 = .ok (.getfield 131, 3) := by decide +kernel
theorem dX9_fault_43 : decode cX9_fault 43 = .ok (.ireturn, 1) := by decide +kernel
theorem dX9_fault_44 : decode cX9_fault 44 = .ok (.iconst (-1), 1) := by decide +kernel
theorem dX9_fault_45 : decode cX9_fault 45 = .ok (.ireturn, 1) := by decide +kernel
theorem dX9_chimney_0 : decode cX9_chimney 0 = .ok (.aload_n 0, 1) := by decide +kernel
theorem dX9_chimney_1 : decode cX9_chimney 1 = .ok (.getfield 16, 3) := by decide +kernel
theorem dX9_chimney_4 : decode cX9_chimney 4 = .ok (.iload_n 1, 1) := by decide +kernel
theorem dX9_chimney_5 : decode cX9_chimney 5 = .ok (.invokevirtual 134, 3) := by decide +kernel
theorem dX9_chimney_8 : decode cX9_chimney 8 = .ok (.ifCond .eq 18, 3) := by decide +kernel
theorem dX9_chimney_11 : decode cX9_chimney 11 = .ok (.iload_n 2, 1) := by decide +kernel
theorem dX9_chimney_12 : decode cX9_chimney 12 = .ok (.ifCond .lt 14, 3) := by decide +kernel
theorem dX9_chimney_15 : decode cX9_chimney 15 = .ok (.iload_n 2, 1) := by decide +kernel
theorem dX9_chimney_16 : decode cX9_chimney 16 = .ok (.iconst 5, 1) := by decide +kernel
theorem dX9_chimney_17 : decode cX9_chimney 17 = .ok (.if_icmp .le 12, 3) := by decide +kernel
theorem dX9_chimney_20 : decode cX9_chimney 20 = .ok (.iload_n 2, 1) := by decide +kernel
theorem dX9_chimney_21 : decode cX9_chimney 21 = .ok (.bipush 10, 2) := by decide +kernel
theorem dX9_chimney_23 : decode cX9_chimney 23 = .ok (.if_icmp .ge 6, 3) := by decide +kernel
theorem dX9_chimney_26 : decode cX9_chimney 26 = .ok (.bipush (-2), 2) := by decide +kernel
theorem dX9_chimney_28 : decode cX9_chimney 28 = .ok (.ireturn, 1) := by decide +kernel
theorem dX9_chimney_29 : decode cX9_chimney 29 = .ok (.iload_n 2, 1) := by decide +kernel
theorem dX9_chimney_30 : decode cX9_chimney 30 = .ok (.tableswitch 98 0 5 #[38, 48, 58, 68, 78, 88], 38) := by decide +kernel
theorem dX9_chimney_68 : decode cX9_chimney 68 = .ok (.aload_n 0, 1) := by decide +kernel
theorem dX9_chimney_69 : decode cX9_chimney 69 = .ok (.getfield 16, 3) := by decide +kernel
theorem dX9_chimney_72 : decode cX9_chimney 72 = .ok (.getfield 138, 3) := by decide +kernel
theorem dX9_chimney_75 : decode cX9_chimney 75 = .ok (.iload_n 1, 1) := by decide +kernel
theorem dX9_chimney_76 : decode cX9_chimney 76 = .ok (.iaload, 1) := by decide +kernel
theorem dX9_chimney_77 : decode cX9_chimney 77 = .ok (.ireturn, 1) := by decide +kernel
theorem dX9_chimney_78 : decode cX9_chimney 78 = .ok (.aload_n 0, 1) := by decide +kernel
theorem dX9_chimney_79 : decode cX9_chimney 79 = .ok (.getfield 16, 3) := by decide +kernel
theorem dX9_chimney_82 : decode cX9_chimney 82 = .ok (.getfield 141, 3) := by decide +kernel
theorem dX9_chimney_85 : decode cX9_chimney 85 = .ok (.iload_n 1, 1) := by decide +kernel
theorem dX9_chimney_86 : decode cX9_chimney 86 = .ok (.iaload, 1) := by decide +kernel
theorem dX9_chimney_87 : decode cX9_chimney 87 = .ok (.ireturn, 1) := by decide +kernel
theorem dX9_chimney_88 : decode cX9_chimney 88 = .ok (.aload_n 0, 1) := by decide +kernel
theorem dX9_chimney_89 : decode cX9_chimney 89 = .ok (.getfield 16, 3) := by decide +kernel
theorem dX9_chimney_92 : decode cX9_chimney 92 = .ok (.getfield 144, 3) := by decide +kernel
theorem dX9_chimney_95 : decode cX9_chimney 95 = .ok (.iload_n 1, 1) := by decide +kernel
theorem dX9_chimney_96 : decode cX9_chimney 96 = .ok (.iaload, 1) := by decide +kernel
theorem dX9_chimney_97 : decode cX9_chimney 97 = .ok (.ireturn, 1) := by decide +kernel
theorem dX9_chimney_98 : decode cX9_chimney 98 = .ok (.aload_n 0, 1) := by decide +kernel
theorem dX9_chimney_99 : decode cX9_chimney 99 = .ok (.getfield 16, 3) := by decide +kernel
theorem dX9_chimney_102 : decode cX9_chimney 102 = .ok (.getfield 147, 3) := by decide +kernel
theorem dX9_chimney_105 : decode cX9_chimney 105 = .ok (.iload_n 1, 1) := by decide +kernel
theorem dX9_chimney_106 : decode cX9_chimney 106 = .ok (.iaload, 1) := by decide +kernel
theorem dX9_chimney_107 : decode cX9_chimney 107 = .ok (.ireturn, 1) := by decide +kernel
theorem dX9_chimney_108 : decode cX9_chimney 108 = .ok (.aload_n 0, 1) := by decide +kernel
theorem dX9_chimney_109 : decode cX9_chimney 109 = .ok (.getfield 16, 3) := by decide +kernel
theorem dX9_chimney_112 : decode cX9_chimney 112 = .ok (.getfield 150, 3) := by decide +kernel
theorem dX9_chimney_115 : decode cX9_chimney 115 = .ok (.iload_n 1, 1) := by decide +kernel
theorem dX9_chimney_116 : decode cX9_chimney 116 = .ok (.iaload, 1) := by decide +kernel
theorem dX9_chimney_117 : decode cX9_chimney 117 = .ok (.ireturn, 1) := by decide +kernel
theorem dX9_chimney_118 : decode cX9_chimney 118 = .ok (.aload_n 0, 1) := by decide +kernel
theorem dX9_chimney_119 : decode cX9_chimney 119 = .ok (.getfield 16, 3) := by decide +kernel
theorem dX9_chimney_122 : decode cX9_chimney 122 = .ok (.getfield 153, 3) := by decide +kernel
theorem dX9_chimney_125 : decode cX9_chimney 125 = .ok (.iload_n 1, 1) := by decide +kernel
theorem dX9_chimney_126 : decode cX9_chimney 126 = .ok (.iaload, 1) := by decide +kernel
theorem dX9_chimney_127 : decode cX9_chimney 127 = .ok (.ireturn, 1) := by decide +kernel
theorem dX9_chimney_128 : decode cX9_chimney 128 = .ok (.aload_n 0, 1) := by decide +kernel
theorem dX9_chimney_129 : decode cX9_chimney 129 = .ok (.getfield 16, 3) := by decide +kernel
theorem dX9_chimney_132 : decode cX9_chimney 132 = .ok (.iload_n 1, 1) := by decide +kernel
theorem dX9_chimney_133 : decode cX9_chimney 133 = .ok (.iload_n 2, 1) := by decide +kernel
theorem dX9_chimney_134 : decode cX9_chimney 134 = .ok (.bipush 10, 2) := by decide +kernel
theorem dX9_chimney_136 : decode cX9_chimney 136 = .ok (.isub, 1) := by decide +kernel
theorem dX9_chimney_137 : decode cX9_chimney 137 = .ok (.invokevirtual 156, 3) := by decide +kernel
theorem dX9_chimney_140 : decode cX9_chimney 140 = .ok (.istore_n 3, 1) := by decide +kernel
theorem dX9_chimney_141 : decode cX9_chimney 141 = .ok (.iload_n 3, 1) := by decide +kernel
theorem dX9_chimney_142 : decode cX9_chimney 142 = .ok (.ifCond .ne 8, 3) := by decide +kernel
theorem dX9_chimney_145 : decode cX9_chimney 145 = .ok (.bipush (-7), 2) := by decide +kernel
theorem dX9_chimney_147 : decode cX9_chimney 147 = .ok (.goto 4, 3) := by decide +kernel
theorem dX9_chimney_150 : decode cX9_chimney 150 = .ok (.iload_n 3, 1) := by decide +kernel
theorem dX9_chimney_151 : decode cX9_chimney 151 = .ok (.ireturn, 1) := by decide +kernel
theorem dX9_wind_0 : decode cX9_wind 0 = .ok (.iload_n 1, 1) := by decide +kernel
theorem dX9_wind_1 : decode cX9_wind 1 = .ok (.invokestatic 160, 3) := by decide +kernel
theorem dX9_wind_4 : decode cX9_wind 4 = .ok (.ifCond .ne 6, 3) := by decide +kernel
theorem dX9_wind_7 : decode cX9_wind 7 = .ok (.bipush (-3), 2) := by decide +kernel
theorem dX9_wind_9 : decode cX9_wind 9 = .ok (.ireturn, 1) := by decide +kernel
theorem dX9_wind_10 : decode cX9_wind 10 = .ok (.iload_n 2, 1) := by decide +kernel
theorem dX9_wind_11 : decode cX9_wind 11 = .ok (.ifCond .eq 15, 3) := by decide +kernel
theorem dX9_wind_14 : decode cX9_wind 14 = .ok (.aload_n 0, 1) := by decide +kernel
theorem dX9_wind_15 : decode cX9_wind 15 = .ok (.getfield 30, 3) := by decide +kernel
theorem dX9_wind_18 : decode cX9_wind 18 = .ok (.getfield 163, 3) := by decide +kernel
theorem dX9_wind_21 : decode cX9_wind 21 = .ok (.iload_n 1, 1) := by decide +kernel
theorem dX9_wind_22 : decode cX9_wind 22 = .ok (.iaload, 1) := by decide +kernel
theorem dX9_wind_23 : decode cX9_wind 23 = .ok (.goto 12, 3) := by decide +kernel
theorem dX9_wind_26 : decode cX9_wind 26 = .ok (.aload_n 0, 1) := by decide +kernel
theorem dX9_wind_27 : decode cX9_wind 27 = .ok (.getfield 30, 3) := by decide +kernel
theorem dX9_wind_30 : decode cX9_wind 30 = .ok (.getfield 166, 3) := by decide +kernel
theorem dX9_wind_33 : decode cX9_wind 33 = .ok (.iload_n 1, 1) := by decide +kernel
theorem dX9_wind_34 : decode cX9_wind 34 = .ok (.iaload, 1) := by decide +kernel
theorem dX9_wind_35 : decode cX9_wind 35 = .ok (.ireturn, 1) := by decide +kernel
theorem dX9_light_0 : decode cX9_light 0 = .ok (.aload_n 0, 1) := by decide +kernel
theorem dX9_light_1 : decode cX9_light 1 = .ok (.getfield 16, 3) := by decide +kernel
theorem dX9_light_4 : decode cX9_light 4 = .ok (.iload_n 1, 1) := by decide +kernel
theorem dX9_light_5 : decode cX9_light 5 = .ok (.invokevirtual 134, 3) := by decide +kernel
theorem dX9_light_8 : decode cX9_light 8 = .ok (.ifCond .ne 6, 3) := by decide +kernel
theorem dX9_light_11 : decode cX9_light 11 = .ok (.bipush (-2), 2) := by decide +kernel
theorem dX9_light_13 : decode cX9_light 13 = .ok (.ireturn, 1) := by decide +kernel
theorem dX9_light_14 : decode cX9_light 14 = .ok (.aload_n 0, 1) := by decide +kernel
theorem dX9_light_15 : decode cX9_light 15 = .ok (.getfield 16, 3) := by decide +kernel
theorem dX9_light_18 : decode cX9_light 18 = .ok (.iload_n 1, 1) := by decide +kernel
theorem dX9_light_19 : decode cX9_light 19 = .ok (.invokevirtual 169, 3) := by decide +kernel
theorem dX9_light_22 : decode cX9_light 22 = .ok (.ifCond .eq 6, 3) := by decide +kernel
theorem dX9_light_25 : decode cX9_light 25 = .ok (.bipush (-5), 2) := by decide +kernel
theorem dX9_light_27 : decode cX9_light 27 = .ok (.ireturn, 1) := by decide +kernel
theorem dX9_light_28 : decode cX9_light 28 = .ok (.aload_n 0, 1) := by decide +kernel
theorem dX9_light_29 : decode cX9_light 29 = .ok (.getfield 16, 3) := by decide +kernel
theorem dX9_light_32 : decode cX9_light 32 = .ok (.iload_n 1, 1) := by decide +kernel
theorem dX9_light_33 : decode cX9_light 33 = .ok (.iload_n 2, 1) := by decide +kernel
theorem dX9_light_34 : decode cX9_light 34 = .ok (.invokevirtual 172, 3) := by decide +kernel
theorem dX9_light_37 : decode cX9_light 37 = .ok (.ifCond .ne 6, 3) := by decide +kernel
theorem dX9_light_40 : decode cX9_light 40 = .ok (.bipush (-3), 2) := by decide +kernel
theorem dX9_light_42 : decode cX9_light 42 = .ok (.ireturn, 1) := by decide +kernel
theorem dX9_light_43 : decode cX9_light 43 = .ok (.aload_n 0, 1) := by decide +kernel
theorem dX9_light_44 : decode cX9_light 44 = .ok (.getfield 16, 3) := by decide +kernel
theorem dX9_light_47 : decode cX9_light 47 = .ok (.getfield 153, 3) := by decide +kernel
theorem dX9_light_50 : decode cX9_light 50 = .ok (.iload_n 1, 1) := by decide +kernel
theorem dX9_light_51 : decode cX9_light 51 = .ok (.iload_n 2, 1) := by decide +kernel
theorem dX9_light_52 : decode cX9_light 52 = .ok (.iastore, 1) := by decide +kernel
theorem dX9_light_53 : decode cX9_light 53 = .ok (.iconst 0, 1) := by decide +kernel
theorem dX9_light_54 : decode cX9_light 54 = .ok (.ireturn, 1) := by decide +kernel
theorem dX9_out_0 : decode cX9_out 0 = .ok (.aload_n 0, 1) := by decide +kernel
theorem dX9_out_1 : decode cX9_out 1 = .ok (.getfield 16, 3) := by decide +kernel
theorem dX9_out_4 : decode cX9_out 4 = .ok (.iload_n 1, 1) := by decide +kernel
theorem dX9_out_5 : decode cX9_out 5 = .ok (.invokevirtual 134, 3) := by decide +kernel
theorem dX9_out_8 : decode cX9_out 8 = .ok (.ifCond .ne 6, 3) := by decide +kernel
theorem dX9_out_11 : decode cX9_out 11 = .ok (.bipush (-2), 2) := by decide +kernel
theorem dX9_out_13 : decode cX9_out 13 = .ok (.ireturn, 1) := by decide +kernel
theorem dX9_out_14 : decode cX9_out 14 = .ok (.aload_n 0, 1) := by decide +kernel
theorem dX9_out_15 : decode cX9_out 15 = .ok (.getfield 16, 3) := by decide +kernel
theorem dX9_out_18 : decode cX9_out 18 = .ok (.iload_n 1, 1) := by decide +kernel
theorem dX9_out_19 : decode cX9_out 19 = .ok (.invokevirtual 169, 3) := by decide +kernel
theorem dX9_out_22 : decode cX9_out 22 = .ok (.ifCond .ne 6, 3) := by decide +kernel
theorem dX9_out_25 : decode cX9_out 25 = .ok (.bipush (-5), 2) := by decide +kernel
theorem dX9_out_27 : decode cX9_out 27 = .ok (.ireturn, 1) := by decide +kernel
theorem dX9_out_28 : decode cX9_out 28 = .ok (.aload_n 0, 1) := by decide +kernel
theorem dX9_out_29 : decode cX9_out 29 = .ok (.getfield 16, 3) := by decide +kernel
theorem dX9_out_32 : decode cX9_out 32 = .ok (.getfield 153, 3) := by decide +kernel
theorem dX9_out_35 : decode cX9_out 35 = .ok (.iload_n 1, 1) := by decide +kernel
theorem dX9_out_36 : decode cX9_out 36 = .ok (.iaload, 1) := by decide +kernel
theorem dX9_out_37 : decode cX9_out 37 = .ok (.istore_n 2, 1) := by decide +kernel
theorem dX9_out_38 : decode cX9_out 38 = .ok (.aload_n 0, 1) := by decide +kernel
theorem dX9_out_39 : decode cX9_out 39 = .ok (.getfield 16, 3) := by decide +kernel
theorem dX9_out_42 : decode cX9_out 42 = .ok (.getfield 153, 3) := by decide +kernel
theorem dX9_out_45 : decode cX9_out 45 = .ok (.iload_n 1, 1) := by decide +kernel
theorem dX9_out_46 : decode cX9_out 46 = .ok (.iconst (-1), 1) := by decide +kernel
theorem dX9_out_47 : decode cX9_out 47 = .ok (.iastore, 1) := by decide +kernel
theorem dX9_out_48 : decode cX9_out 48 = .ok (.iload_n 2, 1) := by decide +kernel
theorem dX9_out_49 : decode cX9_out 49 = .ok (.ireturn, 1) := by decide +kernel
theorem dX9_judge_0 : decode cX9_judge 0 = .ok (.aload_n 0, 1) := by decide +kernel
theorem dX9_judge_1 : decode cX9_judge 1 = .ok (.iload_n 1, 1) := by decide +kernel
theorem dX9_judge_2 : decode cX9_judge 2 = .ok (.invokevirtual 176, 3) := by decide +kernel
theorem dX9_judge_5 : decode cX9_judge 5 = .ok (.astore_n 3, 1) := by decide +kernel
theorem dX9_judge_6 : decode cX9_judge 6 = .ok (.aload_n 3, 1) := by decide +kernel
theorem dX9_judge_7 : decode cX9_judge 7 = .ok (.ifnull 12, 3) := by decide +kernel
theorem dX9_judge_10 : decode cX9_judge 10 = .ok (.iload_n 2, 1) := by decide +kernel
theorem dX9_judge_11 : decode cX9_judge 11 = .ok (.ifCond .lt 8, 3) := by decide +kernel
theorem dX9_judge_14 : decode cX9_judge 14 = .ok (.iload_n 2, 1) := by decide +kernel
theorem dX9_judge_15 : decode cX9_judge 15 = .ok (.iconst 2, 1) := by decide +kernel
theorem dX9_judge_16 : decode cX9_judge 16 = .ok (.if_icmp .le 6, 3) := by decide +kernel
theorem dX9_judge_19 : decode cX9_judge 19 = .ok (.bipush (-2), 2) := by decide +kernel
theorem dX9_judge_21 : decode cX9_judge 21 = .ok (.ireturn, 1) := by decide +kernel
theorem dX9_judge_22 : decode cX9_judge 22 = .ok (.aload_n 3, 1) := by decide +kernel
theorem dX9_judge_23 : decode cX9_judge 23 = .ok (.invokevirtual 180, 3) := by decide +kernel
theorem dX9_judge_26 : decode cX9_judge 26 = .ok (.ifCond .eq 6, 3) := by decide +kernel
theorem dX9_judge_29 : decode cX9_judge 29 = .ok (.bipush (-6), 2) := by decide +kernel
theorem dX9_judge_31 : decode cX9_judge 31 = .ok (.ireturn, 1) := by decide +kernel
theorem dX9_judge_32 : decode cX9_judge 32 = .ok (.aload_n 0, 1) := by decide +kernel
theorem dX9_judge_33 : decode cX9_judge 33 = .ok (.getfield 54, 3) := by decide +kernel
theorem dX9_judge_36 : decode cX9_judge 36 = .ok (.aload_n 3, 1) := by decide +kernel
theorem dX9_judge_37 : decode cX9_judge 37 = .ok (.iconst 0, 1) := by decide +kernel
theorem dX9_judge_38 : decode cX9_judge 38 = .ok (.invokevirtual 184, 3) := by decide +kernel
theorem dX9_judge_41 : decode cX9_judge 41 = .ok (.pop, 1) := by decide +kernel
theorem dX9_judge_42 : decode cX9_judge 42 = .ok (.iload_n 2, 1) := by decide +kernel
theorem dX9_judge_43 : decode cX9_judge 43 = .ok (.lookupswitch 41 #[(0, 25), (1, 33)], 25) := by decide +kernel
theorem dX9_judge_68 : decode cX9_judge 68 = .ok (.aload_n 0, 1) := by decide +kernel
theorem dX9_judge_69 : decode cX9_judge 69 = .ok (.getfield 54, 3) := by decide +kernel
theorem dX9_judge_72 : decode cX9_judge 72 = .ok (.getfield 188, 3) := by decide +kernel
theorem dX9_judge_75 : decode cX9_judge 75 = .ok (.ireturn, 1) := by decide +kernel
theorem dX9_judge_76 : decode cX9_judge 76 = .ok (.aload_n 0, 1) := by decide +kernel
theorem dX9_judge_77 : decode cX9_judge 77 = .ok (.getfield 54, 3) := by decide +kernel
theorem dX9_judge_80 : decode cX9_judge 80 = .ok (.getfield 189, 3) := by decide +kernel
theorem dX9_judge_83 : decode cX9_judge 83 = .ok (.ireturn, 1) := by decide +kernel
theorem dX9_judge_84 : decode cX9_judge 84 = .ok (.aload_n 0, 1) := by decide +kernel
theorem dX9_judge_85 : decode cX9_judge 85 = .ok (.getfield 54, 3) := by decide +kernel
theorem dX9_judge_88 : decode cX9_judge 88 = .ok (.getfield 192, 3) := by decide +kernel
theorem dX9_judge_91 : decode cX9_judge 91 = .ok (.ireturn, 1) := by decide +kernel
theorem dX9_perform_0 : decode cX9_perform 0 = .ok (.aload_n 0, 1) := by decide +kernel
theorem dX9_perform_1 : decode cX9_perform 1 = .ok (.iload_n 1, 1) := by decide +kernel
theorem dX9_perform_2 : decode cX9_perform 2 = .ok (.invokevirtual 176, 3) := by decide +kernel
theorem dX9_perform_5 : decode cX9_perform 5 = .ok (.astore_n 2, 1) := by decide +kernel
theorem dX9_perform_6 : decode cX9_perform 6 = .ok (.aload_n 2, 1) := by decide +kernel
theorem dX9_perform_7 : decode cX9_perform 7 = .ok (.ifnonnull 6, 3) := by decide +kernel
theorem dX9_perform_10 : decode cX9_perform 10 = .ok (.bipush (-2), 2) := by decide +kernel
theorem dX9_perform_12 : decode cX9_perform 12 = .ok (.ireturn, 1) := by decide +kernel
theorem dX9_perform_13 : decode cX9_perform 13 = .ok (.aload_n 2, 1) := by decide +kernel
theorem dX9_perform_14 : decode cX9_perform 14 = .ok (.invokevirtual 180, 3) := by decide +kernel
theorem dX9_perform_17 : decode cX9_perform 17 = .ok (.ifCond .eq 8, 3) := by decide +kernel
theorem dX9_perform_20 : decode cX9_perform 20 = .ok (.bipush (-6), 2) := by decide +kernel
theorem dX9_perform_22 : decode cX9_perform 22 = .ok (.goto 12, 3) := by decide +kernel
theorem dX9_perform_25 : decode cX9_perform 25 = .ok (.aload_n 0, 1) := by decide +kernel
theorem dX9_perform_26 : decode cX9_perform 26 = .ok (.getfield 54, 3) := by decide +kernel
theorem dX9_perform_29 : decode cX9_perform 29 = .ok (.aload_n 2, 1) := by decide +kernel
theorem dX9_perform_30 : decode cX9_perform 30 = .ok (.iconst 1, 1) := by decide +kernel
theorem dX9_perform_31 : decode cX9_perform 31 = .ok (.invokevirtual 184, 3) := by decide +kernel
theorem dX9_perform_34 : decode cX9_perform 34 = .ok (.ireturn, 1) := by decide +kernel
theorem dX9_smoke_0 : decode cX9_smoke 0 = .ok (.iload_n 2, 1) := by decide +kernel
theorem dX9_smoke_1 : decode cX9_smoke 1 = .ok (.invokestatic 195, 3) := by decide +kernel
theorem dX9_smoke_4 : decode cX9_smoke 4 = .ok (.ifCond .eq 13, 3) := by decide +kernel
theorem dX9_smoke_7 : decode cX9_smoke 7 = .ok (.iload_n 3, 1) := by decide +kernel
theorem dX9_smoke_8 : decode cX9_smoke 8 = .ok (.ifCond .lt 9, 3) := by decide +kernel
theorem dX9_smoke_11 : decode cX9_smoke 11 = .ok (.iload_n 3, 1) := by decide +kernel
theorem dX9_smoke_12 : decode cX9_smoke 12 = .ok (.bipush 25, 2) := by decide +kernel
theorem dX9_smoke_14 : decode cX9_smoke 14 = .ok (.if_icmp .lt 6, 3) := by decide +kernel
theorem dX9_smoke_17 : decode cX9_smoke 17 = .ok (.bipush (-2), 2) := by decide +kernel
theorem dX9_smoke_19 : decode cX9_smoke 19 = .ok (.ireturn, 1) := by decide +kernel
theorem dX9_smoke_20 : decode cX9_smoke 20 = .ok (.iload_n 1, 1) := by decide +kernel
theorem dX9_smoke_21 : decode cX9_smoke 21 = .ok (.invokestatic 160, 3) := by decide +kernel
theorem dX9_smoke_24 : decode cX9_smoke 24 = .ok (.ifCond .ne 6, 3) := by decide +kernel
theorem dX9_smoke_27 : decode cX9_smoke 27 = .ok (.bipush (-3), 2) := by decide +kernel
theorem dX9_smoke_29 : decode cX9_smoke 29 = .ok (.ireturn, 1) := by decide +kernel
theorem dX9_smoke_30 : decode cX9_smoke 30 = .ok (.iconst 0, 1) := by decide +kernel
theorem dX9_smoke_31 : decode cX9_smoke 31 = .ok (.istore 4, 2) := by decide +kernel
theorem dX9_smoke_33 : decode cX9_smoke 33 = .ok (.iconst 0, 1) := by decide +kernel
theorem dX9_smoke_34 : decode cX9_smoke 34 = .ok (.istore 5, 2) := by decide +kernel
theorem dX9_smoke_36 : decode cX9_smoke 36 = .ok (.iload 5, 2) := by decide +kernel
theorem dX9_smoke_38 : decode cX9_smoke 38 = .ok (.aload_n 0, 1) := by decide +kernel
theorem dX9_smoke_39 : decode cX9_smoke 39 = .ok (.getfield 16, 3) := by decide +kernel
theorem dX9_smoke_42 : decode cX9_smoke 42 = .ok (.getfield 198, 3) := by decide +kernel
theorem dX9_smoke_45 : decode cX9_smoke 45 = .ok (.if_icmp .ge 82, 3) := by decide +kernel
theorem dX9_smoke_48 : decode cX9_smoke 48 = .ok (.iconst 0, 1) := by decide +kernel
theorem dX9_smoke_49 : decode cX9_smoke 49 = .ok (.istore 6, 2) := by decide +kernel
theorem dX9_smoke_51 : decode cX9_smoke 51 = .ok (.iload 6, 2) := by decide +kernel
theorem dX9_smoke_53 : decode cX9_smoke 53 = .ok (.aload_n 0, 1) := by decide +kernel
theorem dX9_smoke_54 : decode cX9_smoke 54 = .ok (.getfield 16, 3) := by decide +kernel
theorem dX9_smoke_57 : decode cX9_smoke 57 = .ok (.getfield 150, 3) := by decide +kernel
theorem dX9_smoke_60 : decode cX9_smoke 60 = .ok (.iload 5, 2) := by decide +kernel
theorem dX9_smoke_62 : decode cX9_smoke 62 = .ok (.iaload, 1) := by decide +kernel
theorem dX9_smoke_63 : decode cX9_smoke 63 = .ok (.if_icmp .ge 58, 3) := by decide +kernel
theorem dX9_smoke_66 : decode cX9_smoke 66 = .ok (.aload_n 0, 1) := by decide +kernel
theorem dX9_smoke_67 : decode cX9_smoke 67 = .ok (.getfield 39, 3) := by decide +kernel
theorem dX9_smoke_70 : decode cX9_smoke 70 = .ok (.iload 5, 2) := by decide +kernel
theorem dX9_smoke_72 : decode cX9_smoke 72 = .ok (.iload 6, 2) := by decide +kernel
theorem dX9_smoke_74 : decode cX9_smoke 74 = .ok (.iload_n 1, 1) := by decide +kernel
theorem dX9_smoke_75 : decode cX9_smoke 75 = .ok (.invokevirtual 201, 3) := by decide +kernel
theorem dX9_smoke_78 : decode cX9_smoke 78 = .ok (.iload_n 2, 1) := by decide +kernel
theorem dX9_smoke_79 : decode cX9_smoke 79 = .ok (.if_icmp .ne 36, 3) := by decide +kernel
theorem dX9_smoke_82 : decode cX9_smoke 82 = .ok (.aload_n 0, 1) := by decide +kernel
theorem dX9_smoke_83 : decode cX9_smoke 83 = .ok (.getfield 39, 3) := by decide +kernel
theorem dX9_smoke_86 : decode cX9_smoke 86 = .ok (.iload 5, 2) := by decide +kernel
theorem dX9_smoke_88 : decode cX9_smoke 88 = .ok (.iload 6, 2) := by decide +kernel
theorem dX9_smoke_90 : decode cX9_smoke 90 = .ok (.iload_n 1, 1) := by decide +kernel
theorem dX9_smoke_91 : decode cX9_smoke 91 = .ok (.invokevirtual 205, 3) := by decide +kernel
theorem dX9_smoke_94 : decode cX9_smoke 94 = .ok (.iload_n 3, 1) := by decide +kernel
theorem dX9_smoke_95 : decode cX9_smoke 95 = .ok (.if_icmp .ne 20, 3) := by decide +kernel
theorem dX9_smoke_98 : decode cX9_smoke 98 = .ok (.iload 4, 2) := by decide +kernel
theorem dX9_smoke_100 : decode cX9_smoke 100 = .ok (.aload_n 0, 1) := by decide +kernel
theorem dX9_smoke_101 : decode cX9_smoke 101 = .ok (.getfield 39, 3) := by decide +kernel
theorem dX9_smoke_104 : decode cX9_smoke 104 = .ok (.iload 5, 2) := by decide +kernel
theorem dX9_smoke_106 : decode cX9_smoke 106 = .ok (.iload 6, 2) := by decide +kernel
theorem dX9_smoke_108 : decode cX9_smoke 108 = .ok (.iload_n 1, 1) := by decide +kernel
theorem dX9_smoke_109 : decode cX9_smoke 109 = .ok (.invokevirtual 208, 3) := by decide +kernel
theorem dX9_smoke_112 : decode cX9_smoke 112 = .ok (.iadd, 1) := by decide +kernel
theorem dX9_smoke_113 : decode cX9_smoke 113 = .ok (.istore 4, 2) := by decide +kernel
theorem dX9_smoke_115 : decode cX9_smoke 115 = .ok (.iinc 6 1, 3) := by decide +kernel
theorem dX9_smoke_118 : decode cX9_smoke 118 = .ok (.goto (-67), 3) := by decide +kernel
theorem dX9_smoke_121 : decode cX9_smoke 121 = .ok (.iinc 5 1, 3) := by decide +kernel
theorem dX9_smoke_124 : decode cX9_smoke 124 = .ok (.goto (-88), 3) := by decide +kernel
theorem dX9_smoke_127 : decode cX9_smoke 127 = .ok (.iload 4, 2) := by decide +kernel
theorem dX9_smoke_129 : decode cX9_smoke 129 = .ok (.ireturn, 1) := by decide +kernel
theorem dX9_puffs_0 : decode cX9_puffs 0 = .ok (.iload_n 1, 1) := by decide +kernel
theorem dX9_puffs_1 : decode cX9_puffs 1 = .ok (.invokestatic 160, 3) := by decide +kernel
theorem dX9_puffs_4 : decode cX9_puffs 4 = .ok (.ifCond .ne 6, 3) := by decide +kernel
theorem dX9_puffs_7 : decode cX9_puffs 7 = .ok (.bipush (-3), 2) := by decide +kernel
theorem dX9_puffs_9 : decode cX9_puffs 9 = .ok (.ireturn, 1) := by decide +kernel
theorem dX9_puffs_10 : decode cX9_puffs 10 = .ok (.iconst 0, 1) := by decide +kernel
theorem dX9_puffs_11 : decode cX9_puffs 11 = .ok (.istore_n 2, 1) := by decide +kernel
theorem dX9_puffs_12 : decode cX9_puffs 12 = .ok (.iconst 0, 1) := by decide +kernel
theorem dX9_puffs_13 : decode cX9_puffs 13 = .ok (.istore_n 3, 1) := by decide +kernel
theorem dX9_puffs_14 : decode cX9_puffs 14 = .ok (.iload_n 3, 1) := by decide +kernel
theorem dX9_puffs_15 : decode cX9_puffs 15 = .ok (.aload_n 0, 1) := by decide +kernel
theorem dX9_puffs_16 : decode cX9_puffs 16 = .ok (.getfield 16, 3) := by decide +kernel
theorem dX9_puffs_19 : decode cX9_puffs 19 = .ok (.getfield 198, 3) := by decide +kernel
theorem dX9_puffs_22 : decode cX9_puffs 22 = .ok (.if_icmp .ge 50, 3) := by decide +kernel
theorem dX9_puffs_25 : decode cX9_puffs 25 = .ok (.iconst 0, 1) := by decide +kernel
theorem dX9_puffs_26 : decode cX9_puffs 26 = .ok (.istore 4, 2) := by decide +kernel
theorem dX9_puffs_28 : decode cX9_puffs 28 = .ok (.iload 4, 2) := by decide +kernel
theorem dX9_puffs_30 : decode cX9_puffs 30 = .ok (.aload_n 0, 1) := by decide +kernel
theorem dX9_puffs_31 : decode cX9_puffs 31 = .ok (.getfield 16, 3) := by decide +kernel
theorem dX9_puffs_34 : decode cX9_puffs 34 = .ok (.getfield 150, 3) := by decide +kernel
theorem dX9_puffs_37 : decode cX9_puffs 37 = .ok (.iload_n 3, 1) := by decide +kernel
theorem dX9_puffs_38 : decode cX9_puffs 38 = .ok (.iaload, 1) := by decide +kernel
theorem dX9_puffs_39 : decode cX9_puffs 39 = .ok (.if_icmp .ge 27, 3) := by decide +kernel
theorem dX9_puffs_42 : decode cX9_puffs 42 = .ok (.aload_n 0, 1) := by decide +kernel
theorem dX9_puffs_43 : decode cX9_puffs 43 = .ok (.getfield 39, 3) := by decide +kernel
theorem dX9_puffs_46 : decode cX9_puffs 46 = .ok (.iload_n 3, 1) := by decide +kernel
theorem dX9_puffs_47 : decode cX9_puffs 47 = .ok (.iload 4, 2) := by decide +kernel
theorem dX9_puffs_49 : decode cX9_puffs 49 = .ok (.iload_n 1, 1) := by decide +kernel
theorem dX9_puffs_50 : decode cX9_puffs 50 = .ok (.invokevirtual 201, 3) := by decide +kernel
theorem dX9_puffs_53 : decode cX9_puffs 53 = .ok (.iconst (-1), 1) := by decide +kernel
theorem dX9_puffs_54 : decode cX9_puffs 54 = .ok (.if_icmp .eq 6, 3) := by decide +kernel
theorem dX9_puffs_57 : decode cX9_puffs 57 = .ok (.iinc 2 1, 3) := by decide +kernel
theorem dX9_puffs_60 : decode cX9_puffs 60 = .ok (.iinc 4 1, 3) := by decide +kernel
theorem dX9_puffs_63 : decode cX9_puffs 63 = .ok (.goto (-35), 3) := by decide +kernel
theorem dX9_puffs_66 : decode cX9_puffs 66 = .ok (.iinc 3 1, 3) := by decide +kernel
theorem dX9_puffs_69 : decode cX9_puffs 69 = .ok (.goto (-55), 3) := by decide +kernel
theorem dX9_puffs_72 : decode cX9_puffs 72 = .ok (.iload_n 2, 1) := by decide +kernel
theorem dX9_puffs_73 : decode cX9_puffs 73 = .ok (.ireturn, 1) := by decide +kernel
theorem dX9_puff_0 : decode cX9_puff 0 = .ok (.aload_n 0, 1) := by decide +kernel
theorem dX9_puff_1 : decode cX9_puff 1 = .ok (.getfield 16, 3) := by decide +kernel
theorem dX9_puff_4 : decode cX9_puff 4 = .ok (.iload_n 1, 1) := by decide +kernel
theorem dX9_puff_5 : decode cX9_puff 5 = .ok (.invokevirtual 134, 3) := by decide +kernel
theorem dX9_puff_8 : decode cX9_puff 8 = .ok (.ifCond .ne 6, 3) := by decide +kernel
theorem dX9_puff_11 : decode cX9_puff 11 = .ok (.bipush (-2), 2) := by decide +kernel
theorem dX9_puff_13 : decode cX9_puff 13 = .ok (.ireturn, 1) := by decide +kernel
theorem dX9_puff_14 : decode cX9_puff 14 = .ok (.iload_n 3, 1) := by decide +kernel
theorem dX9_puff_15 : decode cX9_puff 15 = .ok (.invokestatic 160, 3) := by decide +kernel
theorem dX9_puff_18 : decode cX9_puff 18 = .ok (.ifCond .ne 6, 3) := by decide +kernel
theorem dX9_puff_21 : decode cX9_puff 21 = .ok (.bipush (-3), 2) := by decide +kernel
theorem dX9_puff_23 : decode cX9_puff 23 = .ok (.ireturn, 1) := by decide +kernel
theorem dX9_puff_24 : decode cX9_puff 24 = .ok (.aload_n 0, 1) := by decide +kernel
theorem dX9_puff_25 : decode cX9_puff 25 = .ok (.getfield 16, 3) := by decide +kernel
theorem dX9_puff_28 : decode cX9_puff 28 = .ok (.iload_n 1, 1) := by decide +kernel
theorem dX9_puff_29 : decode cX9_puff 29 = .ok (.invokevirtual 169, 3) := by decide +kernel
theorem dX9_puff_32 : decode cX9_puff 32 = .ok (.ifCond .ne 6, 3) := by decide +kernel
theorem dX9_puff_35 : decode cX9_puff 35 = .ok (.bipush (-5), 2) := by decide +kernel
theorem dX9_puff_37 : decode cX9_puff 37 = .ok (.ireturn, 1) := by decide +kernel
theorem dX9_puff_38 : decode cX9_puff 38 = .ok (.aload_n 0, 1) := by decide +kernel
theorem dX9_puff_39 : decode cX9_puff 39 = .ok (.getfield 39, 3) := by decide +kernel
theorem dX9_puff_42 : decode cX9_puff 42 = .ok (.iload_n 1, 1) := by decide +kernel
theorem dX9_puff_43 : decode cX9_puff 43 = .ok (.iload_n 2, 1) := by decide +kernel
theorem dX9_puff_44 : decode cX9_puff 44 = .ok (.iload_n 3, 1) := by decide +kernel
theorem dX9_puff_45 : decode cX9_puff 45 = .ok (.invokevirtual 201, 3) := by decide +kernel
theorem dX9_puff_48 : decode cX9_puff 48 = .ok (.istore 5, 2) := by decide +kernel
theorem dX9_puff_50 : decode cX9_puff 50 = .ok (.iload 4, 2) := by decide +kernel
theorem dX9_puff_52 : decode cX9_puff 52 = .ok (.ifCond .eq 22, 3) := by decide +kernel
theorem dX9_puff_55 : decode cX9_puff 55 = .ok (.iload 5, 2) := by decide +kernel
theorem dX9_puff_57 : decode cX9_puff 57 = .ok (.iconst (-1), 1) := by decide +kernel
theorem dX9_puff_58 : decode cX9_puff 58 = .ok (.if_icmp .eq 16, 3) := by decide +kernel
theorem dX9_puff_61 : decode cX9_puff 61 = .ok (.aload_n 0, 1) := by decide +kernel
theorem dX9_puff_62 : decode cX9_puff 62 = .ok (.getfield 39, 3) := by decide +kernel
theorem dX9_puff_65 : decode cX9_puff 65 = .ok (.iload_n 1, 1) := by decide +kernel
theorem dX9_puff_66 : decode cX9_puff 66 = .ok (.iload_n 2, 1) := by decide +kernel
theorem dX9_puff_67 : decode cX9_puff 67 = .ok (.iload_n 3, 1) := by decide +kernel
theorem dX9_puff_68 : decode cX9_puff 68 = .ok (.invokevirtual 205, 3) := by decide +kernel
theorem dX9_puff_71 : decode cX9_puff 71 = .ok (.goto 5, 3) := by decide +kernel
theorem dX9_puff_74 : decode cX9_puff 74 = .ok (.iload 5, 2) := by decide +kernel
theorem dX9_puff_76 : decode cX9_puff 76 = .ok (.ireturn, 1) := by decide +kernel
theorem dX9_touch_0 : decode cX9_touch 0 = .ok (.aload_n 0, 1) := by decide +kernel
theorem dX9_touch_1 : decode cX9_touch 1 = .ok (.iload_n 1, 1) := by decide +kernel
theorem dX9_touch_2 : decode cX9_touch 2 = .ok (.iload_n 2, 1) := by decide +kernel
theorem dX9_touch_3 : decode cX9_touch 3 = .ok (.invokevirtual 211, 3) := by decide +kernel
theorem dX9_touch_6 : decode cX9_touch 6 = .ok (.ifCond .ne 6, 3) := by decide +kernel
theorem dX9_touch_9 : decode cX9_touch 9 = .ok (.bipush (-2), 2) := by decide +kernel
theorem dX9_touch_11 : decode cX9_touch 11 = .ok (.ireturn, 1) := by decide +kernel
theorem dX9_touch_12 : decode cX9_touch 12 = .ok (.aload_n 0, 1) := by decide +kernel
theorem dX9_touch_13 : decode cX9_touch 13 = .ok (.getfield 39, 3) := by decide +kernel
theorem dX9_touch_16 : decode cX9_touch 16 = .ok (.iload_n 1, 1) := by decide +kernel
theorem dX9_touch_17 : decode cX9_touch 17 = .ok (.iload_n 2, 1) := by decide +kernel
theorem dX9_touch_18 : decode cX9_touch 18 = .ok (.invokevirtual 214, 3) := by decide +kernel
theorem dX9_touch_21 : decode cX9_touch 21 = .ok (.lstore_n 3, 1) := by decide +kernel
theorem dX9_touch_22 : decode cX9_touch 22 = .ok (.lload_n 3, 1) := by decide +kernel
theorem dX9_touch_23 : decode cX9_touch 23 = .ok (.lconst 0, 1) := by decide +kernel
theorem dX9_touch_24 : decode cX9_touch 24 = .ok (.lcmp, 1) := by decide +kernel
theorem dX9_touch_25 : decode cX9_touch 25 = .ok (.ifCond .ne 7, 3) := by decide +kernel
theorem dX9_touch_28 : decode cX9_touch 28 = .ok (.iconst (-1), 1) := by decide +kernel
theorem dX9_touch_29 : decode cX9_touch 29 = .ok (.goto 7, 3) := by decide +kernel
theorem dX9_touch_32 : decode cX9_touch 32 = .ok (.lload_n 3, 1) := by decide +kernel
theorem dX9_touch_33 : decode cX9_touch 33 = .ok (.invokestatic 218, 3) := by decide +kernel
theorem dX9_touch_36 : decode cX9_touch 36 = .ok (.ireturn, 1) := by decide +kernel
theorem dX9_touching_0 : decode cX9_touching 0 = .ok (.aload_n 0, 1) := by decide +kernel
theorem dX9_touching_1 : decode cX9_touching 1 = .ok (.iload_n 1, 1) := by decide +kernel
theorem dX9_touching_2 : decode cX9_touching 2 = .ok (.iload_n 2, 1) := by decide +kernel
theorem dX9_touching_3 : decode cX9_touching 3 = .ok (.invokevirtual 211, 3) := by decide +kernel
theorem dX9_touching_6 : decode cX9_touching 6 = .ok (.ifCond .ne 6, 3) := by decide +kernel
theorem dX9_touching_9 : decode cX9_touching 9 = .ok (.bipush (-2), 2) := by decide +kernel
theorem dX9_touching_11 : decode cX9_touching 11 = .ok (.ireturn, 1) := by decide +kernel
theorem dX9_touching_12 : decode cX9_touching 12 = .ok (.aload_n 0, 1) := by decide +kernel
theorem dX9_touching_13 : decode cX9_touching 13 = .ok (.getfield 39, 3) := by decide +kernel
theorem dX9_touching_16 : decode cX9_touching 16 = .ok (.iload_n 1, 1) := by decide +kernel
theorem dX9_touching_17 : decode cX9_touching 17 = .ok (.iload_n 2, 1) := by decide +kernel
theorem dX9_touching_18 : decode cX9_touching 18 = .ok (.invokevirtual 214, 3) := by decide +kernel
theorem dX9_touching_21 : decode cX9_touching 21 = .ok (.invokestatic 224, 3) := by decide +kernel
theorem dX9_touching_24 : decode cX9_touching 24 = .ok (.ireturn, 1) := by decide +kernel
theorem dX9_pair_0 : decode cX9_pair 0 = .ok (.aload_n 0, 1) := by decide +kernel
theorem dX9_pair_1 : decode cX9_pair 1 = .ok (.invokevirtual 227, 3) := by decide +kernel
theorem dX9_pair_4 : decode cX9_pair 4 = .ok (.istore_n 2, 1) := by decide +kernel
theorem dX9_pair_5 : decode cX9_pair 5 = .ok (.iload_n 1, 1) := by decide +kernel
theorem dX9_pair_6 : decode cX9_pair 6 = .ok (.iconst (-1), 1) := by decide +kernel
theorem dX9_pair_7 : decode cX9_pair 7 = .ok (.if_icmp .ne 5, 3) := by decide +kernel
theorem dX9_pair_10 : decode cX9_pair 10 = .ok (.iload_n 2, 1) := by decide +kernel
theorem dX9_pair_11 : decode cX9_pair 11 = .ok (.ireturn, 1) := by decide +kernel
theorem dX9_pair_12 : decode cX9_pair 12 = .ok (.iload_n 1, 1) := by decide +kernel
theorem dX9_pair_13 : decode cX9_pair 13 = .ok (.ifCond .lt 17, 3) := by decide +kernel
theorem dX9_pair_16 : decode cX9_pair 16 = .ok (.iload_n 1, 1) := by decide +kernel
theorem dX9_pair_17 : decode cX9_pair 17 = .ok (.iload_n 2, 1) := by decide +kernel
theorem dX9_pair_18 : decode cX9_pair 18 = .ok (.if_icmp .ge 12, 3) := by decide +kernel
theorem dX9_pair_21 : decode cX9_pair 21 = .ok (.aload_n 0, 1) := by decide +kernel
theorem dX9_pair_22 : decode cX9_pair 22 = .ok (.getfield 91, 3) := by decide +kernel
theorem dX9_pair_25 : decode cX9_pair 25 = .ok (.iload_n 1, 1) := by decide +kernel
theorem dX9_pair_26 : decode cX9_pair 26 = .ok (.iaload, 1) := by decide +kernel
theorem dX9_pair_27 : decode cX9_pair 27 = .ok (.goto 4, 3) := by decide +kernel
theorem dX9_pair_30 : decode cX9_pair 30 = .ok (.iconst (-1), 1) := by decide +kernel
theorem dX9_pair_31 : decode cX9_pair 31 = .ok (.ireturn, 1) := by decide +kernel
theorem dX9_pays_0 : decode cX9_pays 0 = .ok (.aload_n 0, 1) := by decide +kernel
theorem dX9_pays_1 : decode cX9_pays 1 = .ok (.getfield 16, 3) := by decide +kernel
theorem dX9_pays_4 : decode cX9_pays 4 = .ok (.iload_n 1, 1) := by decide +kernel
theorem dX9_pays_5 : decode cX9_pays 5 = .ok (.invokevirtual 134, 3) := by decide +kernel
theorem dX9_pays_8 : decode cX9_pays 8 = .ok (.ifCond .eq 11, 3) := by decide +kernel
theorem dX9_pays_11 : decode cX9_pays 11 = .ok (.aload_n 0, 1) := by decide +kernel
theorem dX9_pays_12 : decode cX9_pays 12 = .ok (.iload_n 1, 1) := by decide +kernel
theorem dX9_pays_13 : decode cX9_pays 13 = .ok (.invokevirtual 231, 3) := by decide +kernel
theorem dX9_pays_16 : decode cX9_pays 16 = .ok (.goto 5, 3) := by decide +kernel
theorem dX9_pays_19 : decode cX9_pays 19 = .ok (.bipush (-2), 2) := by decide +kernel
theorem dX9_pays_21 : decode cX9_pays 21 = .ok (.ireturn, 1) := by decide +kernel
theorem dX9_soot_0 : decode cX9_soot 0 = .ok (.iload_n 1, 1) := by decide +kernel
theorem dX9_soot_1 : decode cX9_soot 1 = .ok (.invokestatic 195, 3) := by decide +kernel
theorem dX9_soot_4 : decode cX9_soot 4 = .ok (.ifCond .ne 6, 3) := by decide +kernel
theorem dX9_soot_7 : decode cX9_soot 7 = .ok (.bipush (-2), 2) := by decide +kernel
theorem dX9_soot_9 : decode cX9_soot 9 = .ok (.ireturn, 1) := by decide +kernel
theorem dX9_soot_10 : decode cX9_soot 10 = .ok (.aload_n 0, 1) := by decide +kernel
theorem dX9_soot_11 : decode cX9_soot 11 = .ok (.invokevirtual 235, 3) := by decide +kernel
theorem dX9_soot_14 : decode cX9_soot 14 = .ok (.aload_n 0, 1) := by decide +kernel
theorem dX9_soot_15 : decode cX9_soot 15 = .ok (.getfield 95, 3) := by decide +kernel
theorem dX9_soot_18 : decode cX9_soot 18 = .ok (.iload_n 1, 1) := by decide +kernel
theorem dX9_soot_19 : decode cX9_soot 19 = .ok (.iaload, 1) := by decide +kernel
theorem dX9_soot_20 : decode cX9_soot 20 = .ok (.ireturn, 1) := by decide +kernel
theorem dX9_blackest_0 : decode cX9_blackest 0 = .ok (.aload_n 0, 1) := by decide +kernel
theorem dX9_blackest_1 : decode cX9_blackest 1 = .ok (.invokevirtual 235, 3) := by decide +kernel
theorem dX9_blackest_4 : decode cX9_blackest 4 = .ok (.iconst 0, 1) := by decide +kernel
theorem dX9_blackest_5 : decode cX9_blackest 5 = .ok (.istore_n 1, 1) := by decide +kernel
theorem dX9_blackest_6 : decode cX9_blackest 6 = .ok (.iconst 1, 1) := by decide +kernel
theorem dX9_blackest_7 : decode cX9_blackest 7 = .ok (.istore_n 2, 1) := by decide +kernel
theorem dX9_blackest_8 : decode cX9_blackest 8 = .ok (.iload_n 2, 1) := by decide +kernel
theorem dX9_blackest_9 : decode cX9_blackest 9 = .ok (.bipush 40, 2) := by decide +kernel
theorem dX9_blackest_11 : decode cX9_blackest 11 = .ok (.if_icmp .ge 26, 3) := by decide +kernel
theorem dX9_blackest_14 : decode cX9_blackest 14 = .ok (.aload_n 0, 1) := by decide +kernel
theorem dX9_blackest_15 : decode cX9_blackest 15 = .ok (.getfield 95, 3) := by decide +kernel
theorem dX9_blackest_18 : decode cX9_blackest 18 = .ok (.iload_n 2, 1) := by decide +kernel
theorem dX9_blackest_19 : decode cX9_blackest 19 = .ok (.iaload, 1) := by decide +kernel
theorem dX9_blackest_20 : decode cX9_blackest 20 = .ok (.aload_n 0, 1) := by decide +kernel
theorem dX9_blackest_21 : decode cX9_blackest 21 = .ok (.getfield 95, 3) := by decide +kernel
theorem dX9_blackest_24 : decode cX9_blackest 24 = .ok (.iload_n 1, 1) := by decide +kernel
theorem dX9_blackest_25 : decode cX9_blackest 25 = .ok (.iaload, 1) := by decide +kernel
theorem dX9_blackest_26 : decode cX9_blackest 26 = .ok (.if_icmp .le 5, 3) := by decide +kernel
theorem dX9_blackest_29 : decode cX9_blackest 29 = .ok (.iload_n 2, 1) := by decide +kernel
theorem dX9_blackest_30 : decode cX9_blackest 30 = .ok (.istore_n 1, 1) := by decide +kernel
theorem dX9_blackest_31 : decode cX9_blackest 31 = .ok (.iinc 2 1, 3) := by decide +kernel
theorem dX9_blackest_34 : decode cX9_blackest 34 = .ok (.goto (-26), 3) := by decide +kernel
theorem dX9_blackest_37 : decode cX9_blackest 37 = .ok (.iload_n 1, 1) := by decide +kernel
theorem dX9_blackest_38 : decode cX9_blackest 38 = .ok (.ireturn, 1) := by decide +kernel
theorem dX9_free_0 : decode cX9_free 0 = .ok (.aload_n 0, 1) := by decide +kernel
theorem dX9_free_1 : decode cX9_free 1 = .ok (.getfield 16, 3) := by decide +kernel
theorem dX9_free_4 : decode cX9_free 4 = .ok (.iload_n 1, 1) := by decide +kernel
theorem dX9_free_5 : decode cX9_free 5 = .ok (.invokevirtual 134, 3) := by decide +kernel
theorem dX9_free_8 : decode cX9_free 8 = .ok (.ifCond .eq 14, 3) := by decide +kernel
theorem dX9_free_11 : decode cX9_free 11 = .ok (.aload_n 0, 1) := by decide +kernel
theorem dX9_free_12 : decode cX9_free 12 = .ok (.getfield 39, 3) := by decide +kernel
theorem dX9_free_15 : decode cX9_free 15 = .ok (.iload_n 1, 1) := by decide +kernel
theorem dX9_free_16 : decode cX9_free 16 = .ok (.invokevirtual 238, 3) := by decide +kernel
theorem dX9_free_19 : decode cX9_free 19 = .ok (.goto 5, 3) := by decide +kernel
theorem dX9_free_22 : decode cX9_free 22 = .ok (.bipush (-2), 2) := by decide +kernel
theorem dX9_free_24 : decode cX9_free 24 = .ok (.ireturn, 1) := by decide +kernel
theorem dX9_plan_0 : decode cX9_plan 0 = .ok (.iload_n 1, 1) := by decide +kernel
theorem dX9_plan_1 : decode cX9_plan 1 = .ok (.ifCond .lt 22, 3) := by decide +kernel
theorem dX9_plan_4 : decode cX9_plan 4 = .ok (.iload_n 1, 1) := by decide +kernel
theorem dX9_plan_5 : decode cX9_plan 5 = .ok (.iconst 1, 1) := by decide +kernel
theorem dX9_plan_6 : decode cX9_plan 6 = .ok (.if_icmp .le 20, 3) := by decide +kernel
theorem dX9_plan_9 : decode cX9_plan 9 = .ok (.aload_n 0, 1) := by decide +kernel
theorem dX9_plan_10 : decode cX9_plan 10 = .ok (.getfield 16, 3) := by decide +kernel
theorem dX9_plan_13 : decode cX9_plan 13 = .ok (.iload_n 1, 1) := by decide +kernel
theorem dX9_plan_14 : decode cX9_plan 14 = .ok (.bipush 10, 2) := by decide +kernel
theorem dX9_plan_16 : decode cX9_plan 16 = .ok (.isub, 1) := by decide +kernel
theorem dX9_plan_17 : decode cX9_plan 17 = .ok (.invokevirtual 134, 3) := by decide +kernel
theorem dX9_plan_20 : decode cX9_plan 20 = .ok (.ifCond .ne 6, 3) := by decide +kernel
theorem dX9_plan_23 : decode cX9_plan 23 = .ok (.bipush (-2), 2) := by decide +kernel
theorem dX9_plan_25 : decode cX9_plan 25 = .ok (.ireturn, 1) := by decide +kernel
theorem dX9_plan_26 : decode cX9_plan 26 = .ok (.aload_n 0, 1) := by decide +kernel
theorem dX9_plan_27 : decode cX9_plan 27 = .ok (.getfield 61, 3) := by decide +kernel
theorem dX9_plan_30 : decode cX9_plan 30 = .ok (.invokevirtual 241, 3) := by decide +kernel
theorem dX9_plan_33 : decode cX9_plan 33 = .ok (.ifCond .ne 6, 3) := by decide +kernel
theorem dX9_plan_36 : decode cX9_plan 36 = .ok (.bipush (-4), 2) := by decide +kernel
theorem dX9_plan_38 : decode cX9_plan 38 = .ok (.ireturn, 1) := by decide +kernel
theorem dX9_plan_39 : decode cX9_plan 39 = .ok (.aload_n 0, 1) := by decide +kernel
theorem dX9_plan_40 : decode cX9_plan 40 = .ok (.getfield 61, 3) := by decide +kernel
theorem dX9_plan_43 : decode cX9_plan 43 = .ok (.invokevirtual 244, 3) := by decide +kernel
theorem dX9_plan_46 : decode cX9_plan 46 = .ok (.ifCond .ne 5, 3) := by decide +kernel
theorem dX9_plan_49 : decode cX9_plan 49 = .ok (.iconst (-1), 1) := by decide +kernel
theorem dX9_plan_50 : decode cX9_plan 50 = .ok (.ireturn, 1) := by decide +kernel
theorem dX9_plan_51 : decode cX9_plan 51 = .ok (.iload_n 1, 1) := by decide +kernel
theorem dX9_plan_52 : decode cX9_plan 52 = .ok (.lookupswitch 44 #[(0, 28), (1, 36)], 28) := by decide +kernel
theorem dX9_plan_80 : decode cX9_plan 80 = .ok (.aload_n 0, 1) := by decide +kernel
theorem dX9_plan_81 : decode cX9_plan 81 = .ok (.getfield 61, 3) := by decide +kernel
theorem dX9_plan_84 : decode cX9_plan 84 = .ok (.getfield 247, 3) := by decide +kernel
theorem dX9_plan_87 : decode cX9_plan 87 = .ok (.ireturn, 1) := by decide +kernel
theorem dX9_plan_88 : decode cX9_plan 88 = .ok (.aload_n 0, 1) := by decide +kernel
theorem dX9_plan_89 : decode cX9_plan 89 = .ok (.getfield 61, 3) := by decide +kernel
theorem dX9_plan_92 : decode cX9_plan 92 = .ok (.getfield 250, 3) := by decide +kernel
theorem dX9_plan_95 : decode cX9_plan 95 = .ok (.ireturn, 1) := by decide +kernel
theorem dX9_plan_96 : decode cX9_plan 96 = .ok (.aload_n 0, 1) := by decide +kernel
theorem dX9_plan_97 : decode cX9_plan 97 = .ok (.getfield 61, 3) := by decide +kernel
theorem dX9_plan_100 : decode cX9_plan 100 = .ok (.iload_n 1, 1) := by decide +kernel
theorem dX9_plan_101 : decode cX9_plan 101 = .ok (.bipush 10, 2) := by decide +kernel
theorem dX9_plan_103 : decode cX9_plan 103 = .ok (.isub, 1) := by decide +kernel
theorem dX9_plan_104 : decode cX9_plan 104 = .ok (.invokevirtual 253, 3) := by decide +kernel
theorem dX9_plan_107 : decode cX9_plan 107 = .ok (.ireturn, 1) := by decide +kernel
theorem dX9_plans_0 : decode cX9_plans 0 = .ok (.aload_n 0, 1) := by decide +kernel
theorem dX9_plans_1 : decode cX9_plans 1 = .ok (.getfield 61, 3) := by decide +kernel
theorem dX9_plans_4 : decode cX9_plans 4 = .ok (.invokevirtual 241, 3) := by decide +kernel
theorem dX9_plans_7 : decode cX9_plans 7 = .ok (.ifCond .eq 13, 3) := by decide +kernel
theorem dX9_plans_10 : decode cX9_plans 10 = .ok (.aload_n 0, 1) := by decide +kernel
theorem dX9_plans_11 : decode cX9_plans 11 = .ok (.getfield 61, 3) := by decide +kernel
theorem dX9_plans_14 : decode cX9_plans 14 = .ok (.invokevirtual 256, 3) := by decide +kernel
theorem dX9_plans_17 : decode cX9_plans 17 = .ok (.goto 5, 3) := by decide +kernel
theorem dX9_plans_20 : decode cX9_plans 20 = .ok (.bipush (-4), 2) := by decide +kernel
theorem dX9_plans_22 : decode cX9_plans 22 = .ok (.ireturn, 1) := by decide +kernel
theorem dX9_shut_0 : decode cX9_shut 0 = .ok (.aload_n 0, 1) := by decide +kernel
theorem dX9_shut_1 : decode cX9_shut 1 = .ok (.getfield 61, 3) := by decide +kernel
theorem dX9_shut_4 : decode cX9_shut 4 = .ok (.invokevirtual 241, 3) := by decide +kernel
theorem dX9_shut_7 : decode cX9_shut 7 = .ok (.ifCond .eq 20, 3) := by decide +kernel
theorem dX9_shut_10 : decode cX9_shut 10 = .ok (.aload_n 0, 1) := by decide +kernel
theorem dX9_shut_11 : decode cX9_shut 11 = .ok (.getfield 61, 3) := by decide +kernel
theorem dX9_shut_14 : decode cX9_shut 14 = .ok (.aload_n 0, 1) := by decide +kernel
theorem dX9_shut_15 : decode cX9_shut 15 = .ok (.getfield 61, 3) := by decide +kernel
theorem dX9_shut_18 : decode cX9_shut 18 = .ok (.invokevirtual 259, 3) := by decide +kernel
theorem dX9_shut_21 : decode cX9_shut 21 = .ok (.invokevirtual 262, 3) := by decide +kernel
theorem dX9_shut_24 : decode cX9_shut 24 = .ok (.goto 5, 3) := by decide +kernel
theorem dX9_shut_27 : decode cX9_shut 27 = .ok (.bipush (-4), 2) := by decide +kernel
theorem dX9_shut_29 : decode cX9_shut 29 = .ok (.ireturn, 1) := by decide +kernel
theorem dX9_most_0 : decode cX9_most 0 = .ok (.iload_n 2, 1) := by decide +kernel
theorem dX9_most_1 : decode cX9_most 1 = .ok (.ifCond .lt 8, 3) := by decide +kernel
theorem dX9_most_4 : decode cX9_most 4 = .ok (.iload_n 2, 1) := by decide +kernel
theorem dX9_most_5 : decode cX9_most 5 = .ok (.iconst 1, 1) := by decide +kernel
theorem dX9_most_6 : decode cX9_most 6 = .ok (.if_icmp .le 6, 3) := by decide +kernel
theorem dX9_most_9 : decode cX9_most 9 = .ok (.bipush (-2), 2) := by decide +kernel
theorem dX9_most_11 : decode cX9_most 11 = .ok (.ireturn, 1) := by decide +kernel
theorem dX9_most_12 : decode cX9_most 12 = .ok (.iload_n 1, 1) := by decide +kernel
theorem dX9_most_13 : decode cX9_most 13 = .ok (.invokestatic 265, 3) := by decide +kernel
theorem dX9_most_16 : decode cX9_most 16 = .ok (.ifCond .ne 6, 3) := by decide +kernel
theorem dX9_most_19 : decode cX9_most 19 = .ok (.bipush (-3), 2) := by decide +kernel
theorem dX9_most_21 : decode cX9_most 21 = .ok (.ireturn, 1) := by decide +kernel
theorem dX9_most_22 : decode cX9_most 22 = .ok (.aload_n 0, 1) := by decide +kernel
theorem dX9_most_23 : decode cX9_most 23 = .ok (.getfield 61, 3) := by decide +kernel
theorem dX9_most_26 : decode cX9_most 26 = .ok (.invokevirtual 241, 3) := by decide +kernel
theorem dX9_most_29 : decode cX9_most 29 = .ok (.ifCond .ne 6, 3) := by decide +kernel
theorem dX9_most_32 : decode cX9_most 32 = .ok (.bipush (-4), 2) := by decide +kernel
theorem dX9_most_34 : decode cX9_most 34 = .ok (.ireturn, 1) := by decide +kernel
theorem dX9_most_35 : decode cX9_most 35 = .ok (.aload_n 0, 1) := by decide +kernel
theorem dX9_most_36 : decode cX9_most 36 = .ok (.getfield 61, 3) := by decide +kernel
theorem dX9_most_39 : decode cX9_most 39 = .ok (.iload_n 1, 1) := by decide +kernel
theorem dX9_most_40 : decode cX9_most 40 = .ok (.invokevirtual 268, 3) := by decide +kernel
theorem dX9_most_43 : decode cX9_most 43 = .ok (.istore_n 3, 1) := by decide +kernel
theorem dX9_most_44 : decode cX9_most 44 = .ok (.iload_n 2, 1) := by decide +kernel
theorem dX9_most_45 : decode cX9_most 45 = .ok (.ifCond .ne 10, 3) := by decide +kernel
theorem dX9_most_48 : decode cX9_most 48 = .ok (.iload_n 3, 1) := by decide +kernel
theorem dX9_most_49 : decode cX9_most 49 = .ok (.invokestatic 271, 3) := by decide +kernel
theorem dX9_most_52 : decode cX9_most 52 = .ok (.goto 11, 3) := by decide +kernel
theorem dX9_most_55 : decode cX9_most 55 = .ok (.aload_n 0, 1) := by decide +kernel
theorem dX9_most_56 : decode cX9_most 56 = .ok (.getfield 61, 3) := by decide +kernel
theorem dX9_most_59 : decode cX9_most 59 = .ok (.iload_n 3, 1) := by decide +kernel
theorem dX9_most_60 : decode cX9_most 60 = .ok (.invokevirtual 262, 3) := by decide +kernel
theorem dX9_most_63 : decode cX9_most 63 = .ok (.ireturn, 1) := by decide +kernel
theorem dX9_price_0 : decode cX9_price 0 = .ok (.aload_n 0, 1) := by decide +kernel
theorem dX9_price_1 : decode cX9_price 1 = .ok (.getfield 16, 3) := by decide +kernel
theorem dX9_price_4 : decode cX9_price 4 = .ok (.iload_n 1, 1) := by decide +kernel
theorem dX9_price_5 : decode cX9_price 5 = .ok (.invokevirtual 134, 3) := by decide +kernel
theorem dX9_price_8 : decode cX9_price 8 = .ok (.ifCond .ne 6, 3) := by decide +kernel
theorem dX9_price_11 : decode cX9_price 11 = .ok (.bipush (-2), 2) := by decide +kernel
theorem dX9_price_13 : decode cX9_price 13 = .ok (.ireturn, 1) := by decide +kernel
theorem dX9_price_14 : decode cX9_price 14 = .ok (.aload_n 0, 1) := by decide +kernel
theorem dX9_price_15 : decode cX9_price 15 = .ok (.getfield 16, 3) := by decide +kernel
theorem dX9_price_18 : decode cX9_price 18 = .ok (.iload_n 1, 1) := by decide +kernel
theorem dX9_price_19 : decode cX9_price 19 = .ok (.invokevirtual 169, 3) := by decide +kernel
theorem dX9_price_22 : decode cX9_price 22 = .ok (.ifCond .eq 6, 3) := by decide +kernel
theorem dX9_price_25 : decode cX9_price 25 = .ok (.bipush (-5), 2) := by decide +kernel
theorem dX9_price_27 : decode cX9_price 27 = .ok (.ireturn, 1) := by decide +kernel
theorem dX9_price_28 : decode cX9_price 28 = .ok (.aload_n 0, 1) := by decide +kernel
theorem dX9_price_29 : decode cX9_price 29 = .ok (.getfield 16, 3) := by decide +kernel
theorem dX9_price_32 : decode cX9_price 32 = .ok (.iload_n 1, 1) := by decide +kernel
theorem dX9_price_33 : decode cX9_price 33 = .ok (.iload_n 2, 1) := by decide +kernel
theorem dX9_price_34 : decode cX9_price 34 = .ok (.invokevirtual 172, 3) := by decide +kernel
theorem dX9_price_37 : decode cX9_price 37 = .ok (.ifCond .eq 12, 3) := by decide +kernel
theorem dX9_price_40 : decode cX9_price 40 = .ok (.aload_n 0, 1) := by decide +kernel
theorem dX9_price_41 : decode cX9_price 41 = .ok (.iload_n 1, 1) := by decide +kernel
theorem dX9_price_42 : decode cX9_price 42 = .ok (.iload_n 2, 1) := by decide +kernel
theorem dX9_price_43 : decode cX9_price 43 = .ok (.invokevirtual 275, 3) := by decide +kernel
theorem dX9_price_46 : decode cX9_price 46 = .ok (.goto 4, 3) := by decide +kernel
theorem dX9_price_49 : decode cX9_price 49 = .ok (.iconst (-1), 1) := by decide +kernel
theorem dX9_price_50 : decode cX9_price 50 = .ok (.ireturn, 1) := by decide +kernel
theorem dX9_cheapest_0 : decode cX9_cheapest 0 = .ok (.aload_n 0, 1) := by decide +kernel
theorem dX9_cheapest_1 : decode cX9_cheapest 1 = .ok (.getfield 16, 3) := by decide +kernel
theorem dX9_cheapest_4 : decode cX9_cheapest 4 = .ok (.iload_n 1, 1) := by decide +kernel
theorem dX9_cheapest_5 : decode cX9_cheapest 5 = .ok (.invokevirtual 134, 3) := by decide +kernel
theorem dX9_cheapest_8 : decode cX9_cheapest 8 = .ok (.ifCond .ne 6, 3) := by decide +kernel
theorem dX9_cheapest_11 : decode cX9_cheapest 11 = .ok (.bipush (-2), 2) := by decide +kernel
theorem dX9_cheapest_13 : decode cX9_cheapest 13 = .ok (.ireturn, 1) := by decide +kernel
theorem dX9_cheapest_14 : decode cX9_cheapest 14 = .ok (.aload_n 0, 1) := by decide +kernel
theorem dX9_cheapest_15 : decode cX9_cheapest 15 = .ok (.getfield 16, 3) := by decide +kernel
theorem dX9_cheapest_18 : decode cX9_cheapest 18 = .ok (.iload_n 1, 1) := by decide +kernel
theorem dX9_cheapest_19 : decode cX9_cheapest 19 = .ok (.invokevirtual 169, 3) := by decide +kernel
theorem dX9_cheapest_22 : decode cX9_cheapest 22 = .ok (.ifCond .eq 6, 3) := by decide +kernel
theorem dX9_cheapest_25 : decode cX9_cheapest 25 = .ok (.bipush (-5), 2) := by decide +kernel
theorem dX9_cheapest_27 : decode cX9_cheapest 27 = .ok (.ireturn, 1) := by decide +kernel
theorem dX9_cheapest_28 : decode cX9_cheapest 28 = .ok (.aload_n 0, 1) := by decide +kernel
theorem dX9_cheapest_29 : decode cX9_cheapest 29 = .ok (.getfield 16, 3) := by decide +kernel
theorem dX9_cheapest_32 : decode cX9_cheapest 32 = .ok (.getfield 144, 3) := by decide +kernel
theorem dX9_cheapest_35 : decode cX9_cheapest 35 = .ok (.iload_n 1, 1) := by decide +kernel
theorem dX9_cheapest_36 : decode cX9_cheapest 36 = .ok (.iaload, 1) := by decide +kernel
theorem dX9_cheapest_37 : decode cX9_cheapest 37 = .ok (.istore_n 2, 1) := by decide +kernel
theorem dX9_cheapest_38 : decode cX9_cheapest 38 = .ok (.aload_n 0, 1) := by decide +kernel
theorem dX9_cheapest_39 : decode cX9_cheapest 39 = .ok (.iload_n 1, 1) := by decide +kernel
theorem dX9_cheapest_40 : decode cX9_cheapest 40 = .ok (.iload_n 2, 1) := by decide +kernel
theorem dX9_cheapest_41 : decode cX9_cheapest 41 = .ok (.invokevirtual 275, 3) := by decide +kernel
theorem dX9_cheapest_44 : decode cX9_cheapest 44 = .ok (.istore_n 3, 1) := by decide +kernel
theorem dX9_cheapest_45 : decode cX9_cheapest 45 = .ok (.iload_n 2, 1) := by decide +kernel
theorem dX9_cheapest_46 : decode cX9_cheapest 46 = .ok (.iconst 1, 1) := by decide +kernel
theorem dX9_cheapest_47 : decode cX9_cheapest 47 = .ok (.iadd, 1) := by decide +kernel
theorem dX9_cheapest_48 : decode cX9_cheapest 48 = .ok (.istore 4, 2) := by decide +kernel
theorem dX9_cheapest_50 : decode cX9_cheapest 50 = .ok (.iload 4, 2) := by decide +kernel
theorem dX9_cheapest_52 : decode cX9_cheapest 52 = .ok (.aload_n 0, 1) := by decide +kernel
theorem dX9_cheapest_53 : decode cX9_cheapest 53 = .ok (.getfield 16, 3) := by decide +kernel
theorem dX9_cheapest_56 : decode cX9_cheapest 56 = .ok (.getfield 147, 3) := by decide +kernel
theorem dX9_cheapest_59 : decode cX9_cheapest 59 = .ok (.iload_n 1, 1) := by decide +kernel
theorem dX9_cheapest_60 : decode cX9_cheapest 60 = .ok (.iaload, 1) := by decide +kernel
theorem dX9_cheapest_61 : decode cX9_cheapest 61 = .ok (.if_icmp .gt 30, 3) := by decide +kernel
theorem dX9_cheapest_64 : decode cX9_cheapest 64 = .ok (.aload_n 0, 1) := by decide +kernel
theorem dX9_cheapest_65 : decode cX9_cheapest 65 = .ok (.iload_n 1, 1) := by decide +kernel
theorem dX9_cheapest_66 : decode cX9_cheapest 66 = .ok (.iload 4, 2) := by decide +kernel
theorem dX9_cheapest_68 : decode cX9_cheapest 68 = .ok (.invokevirtual 275, 3) := by decide +kernel
theorem dX9_cheapest_71 : decode cX9_cheapest 71 = .ok (.istore 5, 2) := by decide +kernel
theorem dX9_cheapest_73 : decode cX9_cheapest 73 = .ok (.iload 5, 2) := by decide +kernel
theorem dX9_cheapest_75 : decode cX9_cheapest 75 = .ok (.iload_n 3, 1) := by decide +kernel
theorem dX9_cheapest_76 : decode cX9_cheapest 76 = .ok (.if_icmp .ge 9, 3) := by decide +kernel
theorem dX9_cheapest_79 : decode cX9_cheapest 79 = .ok (.iload 5, 2) := by decide +kernel
theorem dX9_cheapest_81 : decode cX9_cheapest 81 = .ok (.istore_n 3, 1) := by decide +kernel
theorem dX9_cheapest_82 : decode cX9_cheapest 82 = .ok (.iload 4, 2) := by decide +kernel
theorem dX9_cheapest_84 : decode cX9_cheapest 84 = .ok (.istore_n 2, 1) := by decide +kernel
theorem dX9_cheapest_85 : decode cX9_cheapest 85 = .ok (.iinc 4 1, 3) := by decide +kernel
theorem dX9_cheapest_88 : decode cX9_cheapest 88 = .ok (.goto (-38), 3) := by decide +kernel
theorem dX9_cheapest_91 : decode cX9_cheapest 91 = .ok (.iload_n 2, 1) := by decide +kernel
theorem dX9_cheapest_92 : decode cX9_cheapest 92 = .ok (.ireturn, 1) := by decide +kernel
theorem dX9_higher_0 : decode cX9_higher 0 = .ok (.aload_n 0, 1) := by decide +kernel
theorem dX9_higher_1 : decode cX9_higher 1 = .ok (.getfield 16, 3) := by decide +kernel
theorem dX9_higher_4 : decode cX9_higher 4 = .ok (.iload_n 1, 1) := by decide +kernel
theorem dX9_higher_5 : decode cX9_higher 5 = .ok (.invokevirtual 134, 3) := by decide +kernel
theorem dX9_higher_8 : decode cX9_higher 8 = .ok (.ifCond .ne 6, 3) := by decide +kernel
theorem dX9_higher_11 : decode cX9_higher 11 = .ok (.bipush (-2), 2) := by decide +kernel
theorem dX9_higher_13 : decode cX9_higher 13 = .ok (.ireturn, 1) := by decide +kernel
theorem dX9_higher_14 : decode cX9_higher 14 = .ok (.aload_n 0, 1) := by decide +kernel
theorem dX9_higher_15 : decode cX9_higher 15 = .ok (.getfield 16, 3) := by decide +kernel
theorem dX9_higher_18 : decode cX9_higher 18 = .ok (.iload_n 1, 1) := by decide +kernel
theorem dX9_higher_19 : decode cX9_higher 19 = .ok (.invokevirtual 169, 3) := by decide +kernel
theorem dX9_higher_22 : decode cX9_higher 22 = .ok (.ifCond .ne 6, 3) := by decide +kernel
theorem dX9_higher_25 : decode cX9_higher 25 = .ok (.bipush (-5), 2) := by decide +kernel
theorem dX9_higher_27 : decode cX9_higher 27 = .ok (.ireturn, 1) := by decide +kernel
theorem dX9_higher_28 : decode cX9_higher 28 = .ok (.aload_n 0, 1) := by decide +kernel
theorem dX9_higher_29 : decode cX9_higher 29 = .ok (.getfield 43, 3) := by decide +kernel
theorem dX9_higher_32 : decode cX9_higher 32 = .ok (.aload_n 0, 1) := by decide +kernel
theorem dX9_higher_33 : decode cX9_higher 33 = .ok (.getfield 16, 3) := by decide +kernel
theorem dX9_higher_36 : decode cX9_higher 36 = .ok (.invokevirtual 103, 3) := by decide +kernel
theorem dX9_higher_39 : decode cX9_higher 39 = .ok (.aload_n 0, 1) := by decide +kernel
theorem dX9_higher_40 : decode cX9_higher 40 = .ok (.getfield 46, 3) := by decide +kernel
theorem dX9_higher_43 : decode cX9_higher 43 = .ok (.invokevirtual 278, 3) := by decide +kernel
theorem dX9_higher_46 : decode cX9_higher 46 = .ok (.iconst 0, 1) := by decide +kernel
theorem dX9_higher_47 : decode cX9_higher 47 = .ok (.istore_n 2, 1) := by decide +kernel
theorem dX9_higher_48 : decode cX9_higher 48 = .ok (.iload_n 2, 1) := by decide +kernel
theorem dX9_higher_49 : decode cX9_higher 49 = .ok (.bipush 12, 2) := by decide +kernel
theorem dX9_higher_51 : decode cX9_higher 51 = .ok (.if_icmp .gt 31, 3) := by decide +kernel
theorem dX9_higher_54 : decode cX9_higher 54 = .ok (.aload_n 0, 1) := by decide +kernel
theorem dX9_higher_55 : decode cX9_higher 55 = .ok (.getfield 46, 3) := by decide +kernel
theorem dX9_higher_58 : decode cX9_higher 58 = .ok (.iload_n 1, 1) := by decide +kernel
theorem dX9_higher_59 : decode cX9_higher 59 = .ok (.iload_n 2, 1) := by decide +kernel
theorem dX9_higher_60 : decode cX9_higher 60 = .ok (.invokevirtual 281, 3) := by decide +kernel
theorem dX9_higher_63 : decode cX9_higher 63 = .ok (.aload_n 0, 1) := by decide +kernel
theorem dX9_higher_64 : decode cX9_higher 64 = .ok (.getfield 46, 3) := by decide +kernel
theorem dX9_higher_67 : decode cX9_higher 67 = .ok (.iload_n 1, 1) := by decide +kernel
theorem dX9_higher_68 : decode cX9_higher 68 = .ok (.invokevirtual 285, 3) := by decide +kernel
theorem dX9_higher_71 : decode cX9_higher 71 = .ok (.ifCond .ne 5, 3) := by decide +kernel
theorem dX9_higher_74 : decode cX9_higher 74 = .ok (.iload_n 2, 1) := by decide +kernel
theorem dX9_higher_75 : decode cX9_higher 75 = .ok (.ireturn, 1) := by decide +kernel
theorem dX9_higher_76 : decode cX9_higher 76 = .ok (.iinc 2 1, 3) := by decide +kernel
theorem dX9_higher_79 : decode cX9_higher 79 = .ok (.goto (-31), 3) := by decide +kernel
theorem dX9_higher_82 : decode cX9_higher 82 = .ok (.iconst (-1), 1) := by decide +kernel
theorem dX9_higher_83 : decode cX9_higher 83 = .ok (.ireturn, 1) := by decide +kernel
theorem dX9_thickness_0 : decode cX9_thickness 0 = .ok (.iconst 0, 1) := by decide +kernel
theorem dX9_thickness_1 : decode cX9_thickness 1 = .ok (.istore_n 1, 1) := by decide +kernel
theorem dX9_thickness_2 : decode cX9_thickness 2 = .ok (.iconst 0, 1) := by decide +kernel
theorem dX9_thickness_3 : decode cX9_thickness 3 = .ok (.istore_n 2, 1) := by decide +kernel
theorem dX9_thickness_4 : decode cX9_thickness 4 = .ok (.iload_n 2, 1) := by decide +kernel
theorem dX9_thickness_5 : decode cX9_thickness 5 = .ok (.aload_n 0, 1) := by decide +kernel
theorem dX9_thickness_6 : decode cX9_thickness 6 = .ok (.getfield 16, 3) := by decide +kernel
theorem dX9_thickness_9 : decode cX9_thickness 9 = .ok (.getfield 198, 3) := by decide +kernel
theorem dX9_thickness_12 : decode cX9_thickness 12 = .ok (.if_icmp .ge 44, 3) := by decide +kernel
theorem dX9_thickness_15 : decode cX9_thickness 15 = .ok (.iload_n 2, 1) := by decide +kernel
theorem dX9_thickness_16 : decode cX9_thickness 16 = .ok (.iconst 1, 1) := by decide +kernel
theorem dX9_thickness_17 : decode cX9_thickness 17 = .ok (.iadd, 1) := by decide +kernel
theorem dX9_thickness_18 : decode cX9_thickness 18 = .ok (.istore_n 3, 1) := by decide +kernel
theorem dX9_thickness_19 : decode cX9_thickness 19 = .ok (.iload_n 3, 1) := by decide +kernel
theorem dX9_thickness_20 : decode cX9_thickness 20 = .ok (.aload_n 0, 1) := by decide +kernel
theorem dX9_thickness_21 : decode cX9_thickness 21 = .ok (.getfield 16, 3) := by decide +kernel
theorem dX9_thickness_24 : decode cX9_thickness 24 = .ok (.getfield 198, 3) := by decide +kernel
theorem dX9_thickness_27 : decode cX9_thickness 27 = .ok (.if_icmp .ge 23, 3) := by decide +kernel
theorem dX9_thickness_30 : decode cX9_thickness 30 = .ok (.iload_n 1, 1) := by decide +kernel
theorem dX9_thickness_31 : decode cX9_thickness 31 = .ok (.aload_n 0, 1) := by decide +kernel
theorem dX9_thickness_32 : decode cX9_thickness 32 = .ok (.getfield 39, 3) := by decide +kernel
theorem dX9_thickness_35 : decode cX9_thickness 35 = .ok (.iload_n 2, 1) := by decide +kernel
theorem dX9_thickness_36 : decode cX9_thickness 36 = .ok (.iload_n 3, 1) := by decide +kernel
theorem dX9_thickness_37 : decode cX9_thickness 37 = .ok (.invokevirtual 288, 3) := by decide +kernel
theorem dX9_thickness_40 : decode cX9_thickness 40 = .ok (.invokestatic 291, 3) := by decide +kernel
theorem dX9_thickness_43 : decode cX9_thickness 43 = .ok (.istore_n 1, 1) := by decide +kernel
theorem dX9_thickness_44 : decode cX9_thickness 44 = .ok (.iinc 3 1, 3) := by decide +kernel
theorem dX9_thickness_47 : decode cX9_thickness 47 = .ok (.goto (-28), 3) := by decide +kernel
theorem dX9_thickness_50 : decode cX9_thickness 50 = .ok (.iinc 2 1, 3) := by decide +kernel
theorem dX9_thickness_53 : decode cX9_thickness 53 = .ok (.goto (-49), 3) := by decide +kernel
theorem dX9_thickness_56 : decode cX9_thickness 56 = .ok (.iload_n 1, 1) := by decide +kernel
theorem dX9_thickness_57 : decode cX9_thickness 57 = .ok (.iconst 1, 1) := by decide +kernel
theorem dX9_thickness_58 : decode cX9_thickness 58 = .ok (.iadd, 1) := by decide +kernel
theorem dX9_thickness_59 : decode cX9_thickness 59 = .ok (.ireturn, 1) := by decide +kernel
theorem dX9_sheets_0 : decode cX9_sheets 0 = .ok (.aload_n 0, 1) := by decide +kernel
theorem dX9_sheets_1 : decode cX9_sheets 1 = .ok (.iload_n 1, 1) := by decide +kernel
theorem dX9_sheets_2 : decode cX9_sheets 2 = .ok (.invokevirtual 296, 3) := by decide +kernel
theorem dX9_sheets_5 : decode cX9_sheets 5 = .ok (.istore_n 2, 1) := by decide +kernel
theorem dX9_sheets_6 : decode cX9_sheets 6 = .ok (.iload_n 2, 1) := by decide +kernel
theorem dX9_sheets_7 : decode cX9_sheets 7 = .ok (.ifCond .eq 5, 3) := by decide +kernel
theorem dX9_sheets_10 : decode cX9_sheets 10 = .ok (.iload_n 2, 1) := by decide +kernel
theorem dX9_sheets_11 : decode cX9_sheets 11 = .ok (.ireturn, 1) := by decide +kernel
theorem dX9_sheets_12 : decode cX9_sheets 12 = .ok (.aload_n 0, 1) := by decide +kernel
theorem dX9_sheets_13 : decode cX9_sheets 13 = .ok (.getfield 68, 3) := by decide +kernel
theorem dX9_sheets_16 : decode cX9_sheets 16 = .ok (.iconst (-1), 1) := by decide +kernel
theorem dX9_sheets_17 : decode cX9_sheets 17 = .ok (.invokevirtual 299, 3) := by decide +kernel
theorem dX9_sheets_20 : decode cX9_sheets 20 = .ok (.aload_n 0, 1) := by decide +kernel
theorem dX9_sheets_21 : decode cX9_sheets 21 = .ok (.getfield 68, 3) := by decide +kernel
theorem dX9_sheets_24 : decode cX9_sheets 24 = .ok (.getfield 302, 3) := by decide +kernel
theorem dX9_sheets_27 : decode cX9_sheets 27 = .ok (.ireturn, 1) := by decide +kernel
theorem dX9_sheet_0 : decode cX9_sheet 0 = .ok (.aload_n 0, 1) := by decide +kernel
theorem dX9_sheet_1 : decode cX9_sheet 1 = .ok (.iload_n 1, 1) := by decide +kernel
theorem dX9_sheet_2 : decode cX9_sheet 2 = .ok (.invokevirtual 176, 3) := by decide +kernel
theorem dX9_sheet_5 : decode cX9_sheet 5 = .ok (.ifnull 14, 3) := by decide +kernel
theorem dX9_sheet_8 : decode cX9_sheet 8 = .ok (.aload_n 0, 1) := by decide +kernel
theorem dX9_sheet_9 : decode cX9_sheet 9 = .ok (.getfield 16, 3) := by decide +kernel
theorem dX9_sheet_12 : decode cX9_sheet 12 = .ok (.iload_n 3, 1) := by decide +kernel
theorem dX9_sheet_13 : decode cX9_sheet 13 = .ok (.invokevirtual 134, 3) := by decide +kernel
theorem dX9_sheet_16 : decode cX9_sheet 16 = .ok (.ifCond .ne 6, 3) := by decide +kernel
theorem dX9_sheet_19 : decode cX9_sheet 19 = .ok (.bipush (-2), 2) := by decide +kernel
theorem dX9_sheet_21 : decode cX9_sheet 21 = .ok (.ireturn, 1) := by decide +kernel
theorem dX9_sheet_22 : decode cX9_sheet 22 = .ok (.aload_n 0, 1) := by decide +kernel
theorem dX9_sheet_23 : decode cX9_sheet 23 = .ok (.iload_n 1, 1) := by decide +kernel
theorem dX9_sheet_24 : decode cX9_sheet 24 = .ok (.invokevirtual 296, 3) := by decide +kernel
theorem dX9_sheet_27 : decode cX9_sheet 27 = .ok (.istore 4, 2) := by decide +kernel
theorem dX9_sheet_29 : decode cX9_sheet 29 = .ok (.iload 4, 2) := by decide +kernel
theorem dX9_sheet_31 : decode cX9_sheet 31 = .ok (.ifCond .eq 6, 3) := by decide +kernel
theorem dX9_sheet_34 : decode cX9_sheet 34 = .ok (.iload 4, 2) := by decide +kernel
theorem dX9_sheet_36 : decode cX9_sheet 36 = .ok (.ireturn, 1) := by decide +kernel
theorem dX9_sheet_37 : decode cX9_sheet 37 = .ok (.aload_n 0, 1) := by decide +kernel
theorem dX9_sheet_38 : decode cX9_sheet 38 = .ok (.getfield 68, 3) := by decide +kernel
theorem dX9_sheet_41 : decode cX9_sheet 41 = .ok (.iload_n 2, 1) := by decide +kernel
theorem dX9_sheet_42 : decode cX9_sheet 42 = .ok (.invokevirtual 299, 3) := by decide +kernel
theorem dX9_sheet_45 : decode cX9_sheet 45 = .ok (.iload_n 2, 1) := by decide +kernel
theorem dX9_sheet_46 : decode cX9_sheet 46 = .ok (.ifCond .lt 25, 3) := by decide +kernel
theorem dX9_sheet_49 : decode cX9_sheet 49 = .ok (.iload_n 2, 1) := by decide +kernel
theorem dX9_sheet_50 : decode cX9_sheet 50 = .ok (.aload_n 0, 1) := by decide +kernel
theorem dX9_sheet_51 : decode cX9_sheet 51 = .ok (.getfield 68, 3) := by decide +kernel
theorem dX9_sheet_54 : decode cX9_sheet 54 = .ok (.getfield 302, 3) := by decide +kernel
theorem dX9_sheet_57 : decode cX9_sheet 57 = .ok (.if_icmp .ge 14, 3) := by decide +kernel
theorem dX9_sheet_60 : decode cX9_sheet 60 = .ok (.aload_n 0, 1) := by decide +kernel
theorem dX9_sheet_61 : decode cX9_sheet 61 = .ok (.getfield 68, 3) := by decide +kernel
theorem dX9_sheet_64 : decode cX9_sheet 64 = .ok (.iload_n 3, 1) := by decide +kernel
theorem dX9_sheet_65 : decode cX9_sheet 65 = .ok (.invokevirtual 305, 3) := by decide +kernel
theorem dX9_sheet_68 : decode cX9_sheet 68 = .ok (.goto 5, 3) := by decide +kernel
theorem dX9_sheet_71 : decode cX9_sheet 71 = .ok (.bipush (-5), 2) := by decide +kernel
theorem dX9_sheet_73 : decode cX9_sheet 73 = .ok (.ireturn, 1) := by decide +kernel
theorem dX9_sure_0 : decode cX9_sure 0 = .ok (.aload_n 0, 1) := by decide +kernel
theorem dX9_sure_1 : decode cX9_sure 1 = .ok (.iload_n 1, 1) := by decide +kernel
theorem dX9_sure_2 : decode cX9_sure 2 = .ok (.invokevirtual 296, 3) := by decide +kernel
theorem dX9_sure_5 : decode cX9_sure 5 = .ok (.istore_n 2, 1) := by decide +kernel
theorem dX9_sure_6 : decode cX9_sure 6 = .ok (.iload_n 2, 1) := by decide +kernel
theorem dX9_sure_7 : decode cX9_sure 7 = .ok (.ifCond .eq 5, 3) := by decide +kernel
theorem dX9_sure_10 : decode cX9_sure 10 = .ok (.iload_n 2, 1) := by decide +kernel
theorem dX9_sure_11 : decode cX9_sure 11 = .ok (.ireturn, 1) := by decide +kernel
theorem dX9_sure_12 : decode cX9_sure 12 = .ok (.aload_n 0, 1) := by decide +kernel
theorem dX9_sure_13 : decode cX9_sure 13 = .ok (.getfield 68, 3) := by decide +kernel
theorem dX9_sure_16 : decode cX9_sure 16 = .ok (.iconst (-1), 1) := by decide +kernel
theorem dX9_sure_17 : decode cX9_sure 17 = .ok (.invokevirtual 299, 3) := by decide +kernel
theorem dX9_sure_20 : decode cX9_sure 20 = .ok (.aload_n 0, 1) := by decide +kernel
theorem dX9_sure_21 : decode cX9_sure 21 = .ok (.getfield 68, 3) := by decide +kernel
theorem dX9_sure_24 : decode cX9_sure 24 = .ok (.getfield 302, 3) := by decide +kernel
theorem dX9_sure_27 : decode cX9_sure 27 = .ok (.ifCond .ne 7, 3) := by decide +kernel
theorem dX9_sure_30 : decode cX9_sure 30 = .ok (.iconst 0, 1) := by decide +kernel
theorem dX9_sure_31 : decode cX9_sure 31 = .ok (.goto 10, 3) := by decide +kernel
theorem dX9_sure_34 : decode cX9_sure 34 = .ok (.aload_n 0, 1) := by decide +kernel
theorem dX9_sure_35 : decode cX9_sure 35 = .ok (.getfield 68, 3) := by decide +kernel
theorem dX9_sure_38 : decode cX9_sure 38 = .ok (.getfield 308, 3) := by decide +kernel
theorem dX9_sure_41 : decode cX9_sure 41 = .ok (.ireturn, 1) := by decide +kernel
theorem dX9_gusts_0 : decode cX9_gusts 0 = .ok (.aload_n 0, 1) := by decide +kernel
theorem dX9_gusts_1 : decode cX9_gusts 1 = .ok (.getfield 43, 3) := by decide +kernel
theorem dX9_gusts_4 : decode cX9_gusts 4 = .ok (.iload_n 1, 1) := by decide +kernel
theorem dX9_gusts_5 : decode cX9_gusts 5 = .ok (.invokevirtual 311, 3) := by decide +kernel
theorem dX9_gusts_8 : decode cX9_gusts 8 = .ok (.aload_n 0, 1) := by decide +kernel
theorem dX9_gusts_9 : decode cX9_gusts 9 = .ok (.getfield 46, 3) := by decide +kernel
theorem dX9_gusts_12 : decode cX9_gusts 12 = .ok (.invokevirtual 278, 3) := by decide +kernel
theorem dX9_gusts_15 : decode cX9_gusts 15 = .ok (.aload_n 0, 1) := by decide +kernel
theorem dX9_gusts_16 : decode cX9_gusts 16 = .ok (.getfield 46, 3) := by decide +kernel
theorem dX9_gusts_19 : decode cX9_gusts 19 = .ok (.invokevirtual 314, 3) := by decide +kernel
theorem dX9_gusts_22 : decode cX9_gusts 22 = .ok (.ireturn, 1) := by decide +kernel
theorem dX9_calm_0 : decode cX9_calm 0 = .ok (.iload_n 1, 1) := by decide +kernel
theorem dX9_calm_1 : decode cX9_calm 1 = .ok (.iconst 1, 1) := by decide +kernel
theorem dX9_calm_2 : decode cX9_calm 2 = .ok (.if_icmp .lt 9, 3) := by decide +kernel
theorem dX9_calm_5 : decode cX9_calm 5 = .ok (.iload_n 1, 1) := by decide +kernel
theorem dX9_calm_6 : decode cX9_calm 6 = .ok (.bipush 60, 2) := by decide +kernel
theorem dX9_calm_8 : decode cX9_calm 8 = .ok (.if_icmp .le 8, 3) := by decide +kernel
theorem dX9_calm_11 : decode cX9_calm 11 = .ok (.bipush (-3), 2) := by decide +kernel
theorem dX9_calm_13 : decode cX9_calm 13 = .ok (.goto 11, 3) := by decide +kernel
theorem dX9_calm_16 : decode cX9_calm 16 = .ok (.aload_n 0, 1) := by decide +kernel
theorem dX9_calm_17 : decode cX9_calm 17 = .ok (.getfield 77, 3) := by decide +kernel
theorem dX9_calm_20 : decode cX9_calm 20 = .ok (.iload_n 1, 1) := by decide +kernel
theorem dX9_calm_21 : decode cX9_calm 21 = .ok (.invokevirtual 317, 3) := by decide +kernel
theorem dX9_calm_24 : decode cX9_calm 24 = .ok (.ireturn, 1) := by decide +kernel
theorem dX9_steady_0 : decode cX9_steady 0 = .ok (.iload_n 1, 1) := by decide +kernel
theorem dX9_steady_1 : decode cX9_steady 1 = .ok (.iconst (-1), 1) := by decide +kernel
theorem dX9_steady_2 : decode cX9_steady 2 = .ok (.if_icmp .ne 11, 3) := by decide +kernel
theorem dX9_steady_5 : decode cX9_steady 5 = .ok (.aload_n 0, 1) := by decide +kernel
theorem dX9_steady_6 : decode cX9_steady 6 = .ok (.getfield 77, 3) := by decide +kernel
theorem dX9_steady_9 : decode cX9_steady 9 = .ok (.invokevirtual 320, 3) := by decide +kernel
theorem dX9_steady_12 : decode cX9_steady 12 = .ok (.ireturn, 1) := by decide +kernel
theorem dX9_steady_13 : decode cX9_steady 13 = .ok (.iload_n 1, 1) := by decide +kernel
theorem dX9_steady_14 : decode cX9_steady 14 = .ok (.ifCond .ge 7, 3) := by decide +kernel
theorem dX9_steady_17 : decode cX9_steady 17 = .ok (.iconst (-1), 1) := by decide +kernel
theorem dX9_steady_18 : decode cX9_steady 18 = .ok (.goto 11, 3) := by decide +kernel
theorem dX9_steady_21 : decode cX9_steady 21 = .ok (.aload_n 0, 1) := by decide +kernel
theorem dX9_steady_22 : decode cX9_steady 22 = .ok (.getfield 77, 3) := by decide +kernel
theorem dX9_steady_25 : decode cX9_steady 25 = .ok (.iload_n 1, 1) := by decide +kernel
theorem dX9_steady_26 : decode cX9_steady 26 = .ok (.invokevirtual 323, 3) := by decide +kernel
theorem dX9_steady_29 : decode cX9_steady 29 = .ok (.ireturn, 1) := by decide +kernel
theorem dX9_best_0 : decode cX9_best 0 = .ok (.aload_n 0, 1) := by decide +kernel
theorem dX9_best_1 : decode cX9_best 1 = .ok (.iload_n 1, 1) := by decide +kernel
theorem dX9_best_2 : decode cX9_best 2 = .ok (.iload_n 2, 1) := by decide +kernel
theorem dX9_best_3 : decode cX9_best 3 = .ok (.invokevirtual 326, 3) := by decide +kernel
theorem dX9_best_6 : decode cX9_best 6 = .ok (.istore_n 3, 1) := by decide +kernel
theorem dX9_best_7 : decode cX9_best 7 = .ok (.iload_n 3, 1) := by decide +kernel
theorem dX9_best_8 : decode cX9_best 8 = .ok (.ifCond .eq 5, 3) := by decide +kernel
theorem dX9_best_11 : decode cX9_best 11 = .ok (.iload_n 3, 1) := by decide +kernel
theorem dX9_best_12 : decode cX9_best 12 = .ok (.ireturn, 1) := by decide +kernel
theorem dX9_best_13 : decode cX9_best 13 = .ok (.aload_n 0, 1) := by decide +kernel
theorem dX9_best_14 : decode cX9_best 14 = .ok (.getfield 77, 3) := by decide +kernel
theorem dX9_best_17 : decode cX9_best 17 = .ok (.iload_n 1, 1) := by decide +kernel
theorem dX9_best_18 : decode cX9_best 18 = .ok (.iload_n 2, 1) := by decide +kernel
theorem dX9_best_19 : decode cX9_best 19 = .ok (.invokevirtual 329, 3) := by decide +kernel
theorem dX9_best_22 : decode cX9_best 22 = .ok (.aload_n 0, 1) := by decide +kernel
theorem dX9_best_23 : decode cX9_best 23 = .ok (.getfield 77, 3) := by decide +kernel
theorem dX9_best_26 : decode cX9_best 26 = .ok (.getfield 332, 3) := by decide +kernel
theorem dX9_best_29 : decode cX9_best 29 = .ok (.ireturn, 1) := by decide +kernel
theorem dX9_breaks_0 : decode cX9_breaks 0 = .ok (.iload_n 1, 1) := by decide +kernel
theorem dX9_breaks_1 : decode cX9_breaks 1 = .ok (.iconst 1, 1) := by decide +kernel
theorem dX9_breaks_2 : decode cX9_breaks 2 = .ok (.if_icmp .lt 10, 3) := by decide +kernel
theorem dX9_breaks_5 : decode cX9_breaks 5 = .ok (.iload_n 1, 1) := by decide +kernel
theorem dX9_breaks_6 : decode cX9_breaks 6 = .ok (.sipush 200, 3) := by decide +kernel
theorem dX9_breaks_9 : decode cX9_breaks 9 = .ok (.if_icmp .le 8, 3) := by decide +kernel
theorem dX9_breaks_12 : decode cX9_breaks 12 = .ok (.bipush (-3), 2) := by decide +kernel
theorem dX9_breaks_14 : decode cX9_breaks 14 = .ok (.goto 11, 3) := by decide +kernel
theorem dX9_breaks_17 : decode cX9_breaks 17 = .ok (.aload_n 0, 1) := by decide +kernel
theorem dX9_breaks_18 : decode cX9_breaks 18 = .ok (.getfield 77, 3) := by decide +kernel
theorem dX9_breaks_21 : decode cX9_breaks 21 = .ok (.iload_n 1, 1) := by decide +kernel
theorem dX9_breaks_22 : decode cX9_breaks 22 = .ok (.invokevirtual 335, 3) := by decide +kernel
theorem dX9_breaks_25 : decode cX9_breaks 25 = .ok (.ireturn, 1) := by decide +kernel
theorem dX9_worth_0 : decode cX9_worth 0 = .ok (.aload_n 0, 1) := by decide +kernel
theorem dX9_worth_1 : decode cX9_worth 1 = .ok (.iload_n 1, 1) := by decide +kernel
theorem dX9_worth_2 : decode cX9_worth 2 = .ok (.iload_n 2, 1) := by decide +kernel
theorem dX9_worth_3 : decode cX9_worth 3 = .ok (.invokevirtual 326, 3) := by decide +kernel
theorem dX9_worth_6 : decode cX9_worth 6 = .ok (.istore_n 3, 1) := by decide +kernel
theorem dX9_worth_7 : decode cX9_worth 7 = .ok (.iload_n 3, 1) := by decide +kernel
theorem dX9_worth_8 : decode cX9_worth 8 = .ok (.ifCond .eq 5, 3) := by decide +kernel
theorem dX9_worth_11 : decode cX9_worth 11 = .ok (.iload_n 3, 1) := by decide +kernel
theorem dX9_worth_12 : decode cX9_worth 12 = .ok (.ireturn, 1) := by decide +kernel
theorem dX9_worth_13 : decode cX9_worth 13 = .ok (.aload_n 0, 1) := by decide +kernel
theorem dX9_worth_14 : decode cX9_worth 14 = .ok (.getfield 77, 3) := by decide +kernel
theorem dX9_worth_17 : decode cX9_worth 17 = .ok (.iload_n 1, 1) := by decide +kernel
theorem dX9_worth_18 : decode cX9_worth 18 = .ok (.iload_n 2, 1) := by decide +kernel
theorem dX9_worth_19 : decode cX9_worth 19 = .ok (.invokevirtual 329, 3) := by decide +kernel
theorem dX9_worth_22 : decode cX9_worth 22 = .ok (.aload_n 0, 1) := by decide +kernel
theorem dX9_worth_23 : decode cX9_worth 23 = .ok (.getfield 77, 3) := by decide +kernel
theorem dX9_worth_26 : decode cX9_worth 26 = .ok (.getfield 338, 3) := by decide +kernel
theorem dX9_worth_29 : decode cX9_worth 29 = .ok (.aload_n 0, 1) := by decide +kernel
theorem dX9_worth_30 : decode cX9_worth 30 = .ok (.getfield 77, 3) := by decide +kernel
theorem dX9_worth_33 : decode cX9_worth 33 = .ok (.getfield 341, 3) := by decide +kernel
theorem dX9_worth_36 : decode cX9_worth 36 = .ok (.isub, 1) := by decide +kernel
theorem dX9_worth_37 : decode cX9_worth 37 = .ok (.ireturn, 1) := by decide +kernel
theorem dX9_sky_0 : decode cX9_sky 0 = .ok (.aload_n 0, 1) := by decide +kernel
theorem dX9_sky_1 : decode cX9_sky 1 = .ok (.getfield 98, 3) := by decide +kernel
theorem dX9_sky_4 : decode cX9_sky 4 = .ok (.lconst 0, 1) := by decide +kernel
theorem dX9_sky_5 : decode cX9_sky 5 = .ok (.invokestatic 344, 3) := by decide +kernel
theorem dX9_sky_8 : decode cX9_sky 8 = .ok (.iconst 0, 1) := by decide +kernel
theorem dX9_sky_9 : decode cX9_sky 9 = .ok (.istore_n 1, 1) := by decide +kernel
theorem dX9_sky_10 : decode cX9_sky 10 = .ok (.iload_n 1, 1) := by decide +kernel
theorem dX9_sky_11 : decode cX9_sky 11 = .ok (.aload_n 0, 1) := by decide +kernel
theorem dX9_sky_12 : decode cX9_sky 12 = .ok (.getfield 16, 3) := by decide +kernel
theorem dX9_sky_15 : decode cX9_sky 15 = .ok (.getfield 198, 3) := by decide +kernel
theorem dX9_sky_18 : decode cX9_sky 18 = .ok (.if_icmp .ge 36, 3) := by decide +kernel
theorem dX9_sky_21 : decode cX9_sky 21 = .ok (.iconst 0, 1) := by decide +kernel
theorem dX9_sky_22 : decode cX9_sky 22 = .ok (.istore_n 2, 1) := by decide +kernel
theorem dX9_sky_23 : decode cX9_sky 23 = .ok (.iload_n 2, 1) := by decide +kernel
theorem dX9_sky_24 : decode cX9_sky 24 = .ok (.aload_n 0, 1) := by decide +kernel
theorem dX9_sky_25 : decode cX9_sky 25 = .ok (.getfield 16, 3) := by decide +kernel
theorem dX9_sky_28 : decode cX9_sky 28 = .ok (.getfield 150, 3) := by decide +kernel
theorem dX9_sky_31 : decode cX9_sky 31 = .ok (.iload_n 1, 1) := by decide +kernel
theorem dX9_sky_32 : decode cX9_sky 32 = .ok (.iaload, 1) := by decide +kernel
theorem dX9_sky_33 : decode cX9_sky 33 = .ok (.if_icmp .ge 15, 3) := by decide +kernel
theorem dX9_sky_36 : decode cX9_sky 36 = .ok (.aload_n 0, 1) := by decide +kernel
theorem dX9_sky_37 : decode cX9_sky 37 = .ok (.iload_n 1, 1) := by decide +kernel
theorem dX9_sky_38 : decode cX9_sky 38 = .ok (.iload_n 2, 1) := by decide +kernel
theorem dX9_sky_39 : decode cX9_sky 39 = .ok (.invokevirtual 350, 3) := by decide +kernel
theorem dX9_sky_42 : decode cX9_sky 42 = .ok (.iinc 2 1, 3) := by decide +kernel
theorem dX9_sky_45 : decode cX9_sky 45 = .ok (.goto (-22), 3) := by decide +kernel
theorem dX9_sky_48 : decode cX9_sky 48 = .ok (.iinc 1 1, 3) := by decide +kernel
theorem dX9_sky_51 : decode cX9_sky 51 = .ok (.goto (-41), 3) := by decide +kernel
theorem dX9_sky_54 : decode cX9_sky 54 = .ok (.iconst 0, 1) := by decide +kernel
theorem dX9_sky_55 : decode cX9_sky 55 = .ok (.istore_n 1, 1) := by decide +kernel
theorem dX9_sky_56 : decode cX9_sky 56 = .ok (.iconst 0, 1) := by decide +kernel
theorem dX9_sky_57 : decode cX9_sky 57 = .ok (.istore_n 2, 1) := by decide +kernel
theorem dX9_sky_58 : decode cX9_sky 58 = .ok (.iload_n 2, 1) := by decide +kernel
theorem dX9_sky_59 : decode cX9_sky 59 = .ok (.bipush 25, 2) := by decide +kernel
theorem dX9_sky_61 : decode cX9_sky 61 = .ok (.if_icmp .ge 21, 3) := by decide +kernel
theorem dX9_sky_64 : decode cX9_sky 64 = .ok (.iload_n 1, 1) := by decide +kernel
theorem dX9_sky_65 : decode cX9_sky 65 = .ok (.aload_n 0, 1) := by decide +kernel
theorem dX9_sky_66 : decode cX9_sky 66 = .ok (.getfield 98, 3) := by decide +kernel
theorem dX9_sky_69 : decode cX9_sky 69 = .ok (.iload_n 2, 1) := by decide +kernel
theorem dX9_sky_70 : decode cX9_sky 70 = .ok (.laload, 1) := by decide +kernel
theorem dX9_sky_71 : decode cX9_sky 71 = .ok (.invokestatic 224, 3) := by decide +kernel
theorem dX9_sky_74 : decode cX9_sky 74 = .ok (.iadd, 1) := by decide +kernel
theorem dX9_sky_75 : decode cX9_sky 75 = .ok (.istore_n 1, 1) := by decide +kernel
theorem dX9_sky_76 : decode cX9_sky 76 = .ok (.iinc 2 1, 3) := by decide +kernel
theorem dX9_sky_79 : decode cX9_sky 79 = .ok (.goto (-21), 3) := by decide +kernel
theorem dX9_sky_82 : decode cX9_sky 82 = .ok (.iload_n 1, 1) := by decide +kernel
theorem dX9_sky_83 : decode cX9_sky 83 = .ok (.bipush 100, 2) := by decide +kernel
theorem dX9_sky_85 : decode cX9_sky 85 = .ok (.imul, 1) := by decide +kernel
theorem dX9_sky_86 : decode cX9_sky 86 = .ok (.sipush 1000, 3) := by decide +kernel
theorem dX9_sky_89 : decode cX9_sky 89 = .ok (.idiv, 1) := by decide +kernel
theorem dX9_sky_90 : decode cX9_sky 90 = .ok (.ireturn, 1) := by decide +kernel
theorem dX9_numbers_0 : decode cX9_numbers 0 = .ok (.aload_n 0, 1) := by decide +kernel
theorem dX9_numbers_1 : decode cX9_numbers 1 = .ok (.iload_n 1, 1) := by decide +kernel
theorem dX9_numbers_2 : decode cX9_numbers 2 = .ok (.invokevirtual 176, 3) := by decide +kernel
theorem dX9_numbers_5 : decode cX9_numbers 5 = .ok (.astore 4, 2) := by decide +kernel
theorem dX9_numbers_7 : decode cX9_numbers 7 = .ok (.aload 4, 2) := by decide +kernel
theorem dX9_numbers_9 : decode cX9_numbers 9 = .ok (.ifnull 12, 3) := by decide +kernel
theorem dX9_numbers_12 : decode cX9_numbers 12 = .ok (.iload_n 2, 1) := by decide +kernel
theorem dX9_numbers_13 : decode cX9_numbers 13 = .ok (.ifCond .lt 8, 3) := by decide +kernel
theorem dX9_numbers_16 : decode cX9_numbers 16 = .ok (.iload_n 2, 1) := by decide +kernel
theorem dX9_numbers_17 : decode cX9_numbers 17 = .ok (.iconst 3, 1) := by decide +kernel
theorem dX9_numbers_18 : decode cX9_numbers 18 = .ok (.if_icmp .le 6, 3) := by decide +kernel
theorem dX9_numbers_21 : decode cX9_numbers 21 = .ok (.bipush (-2), 2) := by decide +kernel
theorem dX9_numbers_23 : decode cX9_numbers 23 = .ok (.ireturn, 1) := by decide +kernel
theorem dX9_numbers_24 : decode cX9_numbers 24 = .ok (.iload_n 3, 1) := by decide +kernel
theorem dX9_numbers_25 : decode cX9_numbers 25 = .ok (.ifCond .lt 9, 3) := by decide +kernel
theorem dX9_numbers_28 : decode cX9_numbers 28 = .ok (.iload_n 3, 1) := by decide +kernel
theorem dX9_numbers_29 : decode cX9_numbers 29 = .ok (.bipush 40, 2) := by decide +kernel
theorem dX9_numbers_31 : decode cX9_numbers 31 = .ok (.if_icmp .le 6, 3) := by decide +kernel
theorem dX9_numbers_34 : decode cX9_numbers 34 = .ok (.bipush (-3), 2) := by decide +kernel
theorem dX9_numbers_36 : decode cX9_numbers 36 = .ok (.ireturn, 1) := by decide +kernel
theorem dX9_numbers_37 : decode cX9_numbers 37 = .ok (.aload 4, 2) := by decide +kernel
theorem dX9_numbers_39 : decode cX9_numbers 39 = .ok (.iload_n 2, 1) := by decide +kernel
theorem dX9_numbers_40 : decode cX9_numbers 40 = .ok (.iload_n 3, 1) := by decide +kernel
theorem dX9_numbers_41 : decode cX9_numbers 41 = .ok (.invokevirtual 353, 3) := by decide +kernel
theorem dX9_numbers_44 : decode cX9_numbers 44 = .ok (.iconst 0, 1) := by decide +kernel
theorem dX9_numbers_45 : decode cX9_numbers 45 = .ok (.ireturn, 1) := by decide +kernel
theorem dX9_write_0 : decode cX9_write 0 = .ok (.aload_n 0, 1) := by decide +kernel
theorem dX9_write_1 : decode cX9_write 1 = .ok (.iload_n 1, 1) := by decide +kernel
theorem dX9_write_2 : decode cX9_write 2 = .ok (.invokevirtual 176, 3) := by decide +kernel
theorem dX9_write_5 : decode cX9_write 5 = .ok (.astore 5, 2) := by decide +kernel
theorem dX9_write_7 : decode cX9_write 7 = .ok (.aload 5, 2) := by decide +kernel
theorem dX9_write_9 : decode cX9_write 9 = .ok (.ifnonnull 7, 3) := by decide +kernel
theorem dX9_write_12 : decode cX9_write 12 = .ok (.ldc2_w 356, 3) := by decide +kernel
theorem dX9_write_15 : decode cX9_write 15 = .ok (.lreturn, 1) := by decide +kernel
theorem dX9_write_16 : decode cX9_write 16 = .ok (.aload 5, 2) := by decide +kernel
theorem dX9_write_18 : decode cX9_write 18 = .ok (.invokevirtual 180, 3) := by decide +kernel
theorem dX9_write_21 : decode cX9_write 21 = .ok (.ifCond .eq 7, 3) := by decide +kernel
theorem dX9_write_24 : decode cX9_write 24 = .ok (.ldc2_w 358, 3) := by decide +kernel
theorem dX9_write_27 : decode cX9_write 27 = .ok (.lreturn, 1) := by decide +kernel
theorem dX9_write_28 : decode cX9_write 28 = .ok (.aload 5, 2) := by decide +kernel
theorem dX9_write_30 : decode cX9_write 30 = .ok (.iload_n 2, 1) := by decide +kernel
theorem dX9_write_31 : decode cX9_write 31 = .ok (.invokevirtual 360, 3) := by decide +kernel
theorem dX9_write_34 : decode cX9_write 34 = .ok (.ifCond .eq 13, 3) := by decide +kernel
theorem dX9_write_37 : decode cX9_write 37 = .ok (.aload 5, 2) := by decide +kernel
theorem dX9_write_39 : decode cX9_write 39 = .ok (.iload_n 2, 1) := by decide +kernel
theorem dX9_write_40 : decode cX9_write 40 = .ok (.lload_n 3, 1) := by decide +kernel
theorem dX9_write_41 : decode cX9_write 41 = .ok (.invokevirtual 363, 3) := by decide +kernel
theorem dX9_write_44 : decode cX9_write 44 = .ok (.goto 6, 3) := by decide +kernel
theorem dX9_write_47 : decode cX9_write 47 = .ok (.ldc2_w 367, 3) := by decide +kernel
theorem dX9_write_50 : decode cX9_write 50 = .ok (.lreturn, 1) := by decide +kernel
theorem dX9_copy_0 : decode cX9_copy 0 = .ok (.aload_n 0, 1) := by decide +kernel
theorem dX9_copy_1 : decode cX9_copy 1 = .ok (.iload_n 1, 1) := by decide +kernel
theorem dX9_copy_2 : decode cX9_copy 2 = .ok (.invokevirtual 176, 3) := by decide +kernel
theorem dX9_copy_5 : decode cX9_copy 5 = .ok (.astore_n 2, 1) := by decide +kernel
theorem dX9_copy_6 : decode cX9_copy 6 = .ok (.aload_n 2, 1) := by decide +kernel
theorem dX9_copy_7 : decode cX9_copy 7 = .ok (.ifnonnull 6, 3) := by decide +kernel
theorem dX9_copy_10 : decode cX9_copy 10 = .ok (.bipush (-2), 2) := by decide +kernel
theorem dX9_copy_12 : decode cX9_copy 12 = .ok (.ireturn, 1) := by decide +kernel
theorem dX9_copy_13 : decode cX9_copy 13 = .ok (.aload_n 2, 1) := by decide +kernel
theorem dX9_copy_14 : decode cX9_copy 14 = .ok (.invokevirtual 180, 3) := by decide +kernel
theorem dX9_copy_17 : decode cX9_copy 17 = .ok (.ifCond .eq 6, 3) := by decide +kernel
theorem dX9_copy_20 : decode cX9_copy 20 = .ok (.bipush (-6), 2) := by decide +kernel
theorem dX9_copy_22 : decode cX9_copy 22 = .ok (.ireturn, 1) := by decide +kernel
theorem dX9_copy_23 : decode cX9_copy 23 = .ok (.aload_n 2, 1) := by decide +kernel
theorem dX9_copy_24 : decode cX9_copy 24 = .ok (.getfield 369, 3) := by decide +kernel
theorem dX9_copy_27 : decode cX9_copy 27 = .ok (.aload_n 0, 1) := by decide +kernel
theorem dX9_copy_28 : decode cX9_copy 28 = .ok (.getfield 16, 3) := by decide +kernel
theorem dX9_copy_31 : decode cX9_copy 31 = .ok (.getfield 198, 3) := by decide +kernel
theorem dX9_copy_34 : decode cX9_copy 34 = .ok (.if_icmp .ge 6, 3) := by decide +kernel
theorem dX9_copy_37 : decode cX9_copy 37 = .ok (.bipush (-7), 2) := by decide +kernel
theorem dX9_copy_39 : decode cX9_copy 39 = .ok (.ireturn, 1) := by decide +kernel
theorem dX9_copy_40 : decode cX9_copy 40 = .ok (.iconst 0, 1) := by decide +kernel
theorem dX9_copy_41 : decode cX9_copy 41 = .ok (.istore_n 3, 1) := by decide +kernel
theorem dX9_copy_42 : decode cX9_copy 42 = .ok (.iload_n 3, 1) := by decide +kernel
theorem dX9_copy_43 : decode cX9_copy 43 = .ok (.aload_n 0, 1) := by decide +kernel
theorem dX9_copy_44 : decode cX9_copy 44 = .ok (.getfield 16, 3) := by decide +kernel
theorem dX9_copy_47 : decode cX9_copy 47 = .ok (.getfield 198, 3) := by decide +kernel
theorem dX9_copy_50 : decode cX9_copy 50 = .ok (.if_icmp .ge 25, 3) := by decide +kernel
theorem dX9_copy_53 : decode cX9_copy 53 = .ok (.aload_n 2, 1) := by decide +kernel
theorem dX9_copy_54 : decode cX9_copy 54 = .ok (.iload_n 3, 1) := by decide +kernel
theorem dX9_copy_55 : decode cX9_copy 55 = .ok (.aload_n 0, 1) := by decide +kernel
theorem dX9_copy_56 : decode cX9_copy 56 = .ok (.getfield 16, 3) := by decide +kernel
theorem dX9_copy_59 : decode cX9_copy 59 = .ok (.getfield 153, 3) := by decide +kernel
theorem dX9_copy_62 : decode cX9_copy 62 = .ok (.iload_n 3, 1) := by decide +kernel
theorem dX9_copy_63 : decode cX9_copy 63 = .ok (.iaload, 1) := by decide +kernel
theorem dX9_copy_64 : decode cX9_copy 64 = .ok (.i2l, 1) := by decide +kernel
theorem dX9_copy_65 : decode cX9_copy 65 = .ok (.invokevirtual 363, 3) := by decide +kernel
theorem dX9_copy_68 : decode cX9_copy 68 = .ok (.pop2, 1) := by decide +kernel
theorem dX9_copy_69 : decode cX9_copy 69 = .ok (.iinc 3 1, 3) := by decide +kernel
theorem dX9_copy_72 : decode cX9_copy 72 = .ok (.goto (-30), 3) := by decide +kernel
theorem dX9_copy_75 : decode cX9_copy 75 = .ok (.aload_n 0, 1) := by decide +kernel
theorem dX9_copy_76 : decode cX9_copy 76 = .ok (.getfield 16, 3) := by decide +kernel
theorem dX9_copy_79 : decode cX9_copy 79 = .ok (.getfield 198, 3) := by decide +kernel
theorem dX9_copy_82 : decode cX9_copy 82 = .ok (.ireturn, 1) := by decide +kernel
theorem dX9_image_0 : decode cX9_image 0 = .ok (.iload_n 1, 1) := by decide +kernel
theorem dX9_image_1 : decode cX9_image 1 = .ok (.ifCond .lt 8, 3) := by decide +kernel
theorem dX9_image_4 : decode cX9_image 4 = .ok (.iload_n 1, 1) := by decide +kernel
theorem dX9_image_5 : decode cX9_image 5 = .ok (.iconst 2, 1) := by decide +kernel
theorem dX9_image_6 : decode cX9_image 6 = .ok (.if_icmp .lt 6, 3) := by decide +kernel
theorem dX9_image_9 : decode cX9_image 9 = .ok (.bipush (-2), 2) := by decide +kernel
theorem dX9_image_11 : decode cX9_image 11 = .ok (.ireturn, 1) := by decide +kernel
theorem dX9_image_12 : decode cX9_image 12 = .ok (.aload_n 0, 1) := by decide +kernel
theorem dX9_image_13 : decode cX9_image 13 = .ok (.getfield 87, 3) := by decide +kernel
theorem dX9_image_16 : decode cX9_image 16 = .ok (.iload_n 1, 1) := by decide +kernel
theorem dX9_image_17 : decode cX9_image 17 = .ok (.aaload, 1) := by decide +kernel
theorem dX9_image_18 : decode cX9_image 18 = .ok (.ifnonnull 16, 3) := by decide +kernel
theorem dX9_image_21 : decode cX9_image 21 = .ok (.aload_n 0, 1) := by decide +kernel
theorem dX9_image_22 : decode cX9_image 22 = .ok (.getfield 87, 3) := by decide +kernel
theorem dX9_image_25 : decode cX9_image 25 = .ok (.iload_n 1, 1) := by decide +kernel
theorem dX9_image_26 : decode cX9_image 26 = .ok (.new 13, 3) := by decide +kernel
theorem dX9_image_29 : decode cX9_image 29 = .ok (.dup, 1) := by decide +kernel
theorem dX9_image_30 : decode cX9_image 30 = .ok (.invokespecial 15, 3) := by decide +kernel
theorem dX9_image_33 : decode cX9_image 33 = .ok (.aastore, 1) := by decide +kernel
theorem dX9_image_34 : decode cX9_image 34 = .ok (.aload_n 0, 1) := by decide +kernel
theorem dX9_image_35 : decode cX9_image 35 = .ok (.getfield 87, 3) := by decide +kernel
theorem dX9_image_38 : decode cX9_image 38 = .ok (.iload_n 1, 1) := by decide +kernel
theorem dX9_image_39 : decode cX9_image 39 = .ok (.aaload, 1) := by decide +kernel
theorem dX9_image_40 : decode cX9_image 40 = .ok (.aload_n 0, 1) := by decide +kernel
theorem dX9_image_41 : decode cX9_image 41 = .ok (.getfield 16, 3) := by decide +kernel
theorem dX9_image_44 : decode cX9_image 44 = .ok (.invokevirtual 372, 3) := by decide +kernel
theorem dX9_image_47 : decode cX9_image 47 = .ok (.iconst 0, 1) := by decide +kernel
theorem dX9_image_48 : decode cX9_image 48 = .ok (.ireturn, 1) := by decide +kernel
theorem dX9_restore_0 : decode cX9_restore 0 = .ok (.iload_n 1, 1) := by decide +kernel
theorem dX9_restore_1 : decode cX9_restore 1 = .ok (.ifCond .lt 8, 3) := by decide +kernel
theorem dX9_restore_4 : decode cX9_restore 4 = .ok (.iload_n 1, 1) := by decide +kernel
theorem dX9_restore_5 : decode cX9_restore 5 = .ok (.iconst 2, 1) := by decide +kernel
theorem dX9_restore_6 : decode cX9_restore 6 = .ok (.if_icmp .lt 6, 3) := by decide +kernel
theorem dX9_restore_9 : decode cX9_restore 9 = .ok (.bipush (-2), 2) := by decide +kernel
theorem dX9_restore_11 : decode cX9_restore 11 = .ok (.ireturn, 1) := by decide +kernel
theorem dX9_restore_12 : decode cX9_restore 12 = .ok (.aload_n 0, 1) := by decide +kernel
theorem dX9_restore_13 : decode cX9_restore 13 = .ok (.getfield 87, 3) := by decide +kernel
theorem dX9_restore_16 : decode cX9_restore 16 = .ok (.iload_n 1, 1) := by decide +kernel
theorem dX9_restore_17 : decode cX9_restore 17 = .ok (.aaload, 1) := by decide +kernel
theorem dX9_restore_18 : decode cX9_restore 18 = .ok (.ifnonnull 6, 3) := by decide +kernel
theorem dX9_restore_21 : decode cX9_restore 21 = .ok (.bipush (-5), 2) := by decide +kernel
theorem dX9_restore_23 : decode cX9_restore 23 = .ok (.ireturn, 1) := by decide +kernel
theorem dX9_restore_24 : decode cX9_restore 24 = .ok (.aload_n 0, 1) := by decide +kernel
theorem dX9_restore_25 : decode cX9_restore 25 = .ok (.aload_n 0, 1) := by decide +kernel
theorem dX9_restore_26 : decode cX9_restore 26 = .ok (.getfield 87, 3) := by decide +kernel
theorem dX9_restore_29 : decode cX9_restore 29 = .ok (.iload_n 1, 1) := by decide +kernel
theorem dX9_restore_30 : decode cX9_restore 30 = .ok (.aaload, 1) := by decide +kernel
theorem dX9_restore_31 : decode cX9_restore 31 = .ok (.invokevirtual 125, 3) := by decide +kernel
theorem dX9_restore_34 : decode cX9_restore 34 = .ok (.iconst 0, 1) := by decide +kernel
theorem dX9_restore_35 : decode cX9_restore 35 = .ok (.ireturn, 1) := by decide +kernel
theorem dX9_count_0 : decode cX9_count 0 = .ok (.iload_n 1, 1) := by decide +kernel
theorem dX9_count_1 : decode cX9_count 1 = .ok (.tableswitch 117 0 8 #[51, 59, 67, 75, 83, 91, 99, 104, 109], 51) := by decide +kernel
theorem dX9_count_52 : decode cX9_count 52 = .ok (.aload_n 0, 1) := by decide +kernel
theorem dX9_count_53 : decode cX9_count 53 = .ok (.getfield 16, 3) := by decide +kernel
theorem dX9_count_56 : decode cX9_count 56 = .ok (.getfield 198, 3) := by decide +kernel
theorem dX9_count_59 : decode cX9_count 59 = .ok (.ireturn, 1) := by decide +kernel
theorem dX9_count_60 : decode cX9_count 60 = .ok (.aload_n 0, 1) := by decide +kernel
theorem dX9_count_61 : decode cX9_count 61 = .ok (.getfield 16, 3) := by decide +kernel
theorem dX9_count_64 : decode cX9_count 64 = .ok (.invokevirtual 375, 3) := by decide +kernel
theorem dX9_count_67 : decode cX9_count 67 = .ok (.ireturn, 1) := by decide +kernel
theorem dX9_count_68 : decode cX9_count 68 = .ok (.aload_n 0, 1) := by decide +kernel
theorem dX9_count_69 : decode cX9_count 69 = .ok (.getfield 16, 3) := by decide +kernel
theorem dX9_count_72 : decode cX9_count 72 = .ok (.getfield 378, 3) := by decide +kernel
theorem dX9_count_75 : decode cX9_count 75 = .ok (.ireturn, 1) := by decide +kernel
theorem dX9_count_76 : decode cX9_count 76 = .ok (.aload_n 0, 1) := by decide +kernel
theorem dX9_count_77 : decode cX9_count 77 = .ok (.getfield 16, 3) := by decide +kernel
theorem dX9_count_80 : decode cX9_count 80 = .ok (.getfield 381, 3) := by decide +kernel
theorem dX9_count_83 : decode cX9_count 83 = .ok (.ireturn, 1) := by decide +kernel
theorem dX9_count_84 : decode cX9_count 84 = .ok (.aload_n 0, 1) := by decide +kernel
theorem dX9_count_85 : decode cX9_count 85 = .ok (.getfield 16, 3) := by decide +kernel
theorem dX9_count_88 : decode cX9_count 88 = .ok (.getfield 384, 3) := by decide +kernel
theorem dX9_count_91 : decode cX9_count 91 = .ok (.ireturn, 1) := by decide +kernel
theorem dX9_count_92 : decode cX9_count 92 = .ok (.aload_n 0, 1) := by decide +kernel
theorem dX9_count_93 : decode cX9_count 93 = .ok (.getfield 16, 3) := by decide +kernel
theorem dX9_count_96 : decode cX9_count 96 = .ok (.getfield 387, 3) := by decide +kernel
theorem dX9_count_99 : decode cX9_count 99 = .ok (.ireturn, 1) := by decide +kernel
theorem dX9_count_100 : decode cX9_count 100 = .ok (.aload_n 0, 1) := by decide +kernel
theorem dX9_count_101 : decode cX9_count 101 = .ok (.invokevirtual 390, 3) := by decide +kernel
theorem dX9_count_104 : decode cX9_count 104 = .ok (.ireturn, 1) := by decide +kernel
theorem dX9_count_105 : decode cX9_count 105 = .ok (.aload_n 0, 1) := by decide +kernel
theorem dX9_count_106 : decode cX9_count 106 = .ok (.getfield 107, 3) := by decide +kernel
theorem dX9_count_109 : decode cX9_count 109 = .ok (.ireturn, 1) := by decide +kernel
theorem dX9_count_110 : decode cX9_count 110 = .ok (.aload_n 0, 1) := by decide +kernel
theorem dX9_count_111 : decode cX9_count 111 = .ok (.getfield 16, 3) := by decide +kernel
theorem dX9_count_114 : decode cX9_count 114 = .ok (.getfield 128, 3) := by decide +kernel
theorem dX9_count_117 : decode cX9_count 117 = .ok (.ireturn, 1) := by decide +kernel
theorem dX9_count_118 : decode cX9_count 118 = .ok (.iconst (-1), 1) := by decide +kernel
theorem dX9_count_119 : decode cX9_count 119 = .ok (.ireturn, 1) := by decide +kernel
theorem dX9_isQuarter_0 : decode cX9_isQuarter 0 = .ok (.iload_n 0, 1) := by decide +kernel
theorem dX9_isQuarter_1 : decode cX9_isQuarter 1 = .ok (.ifCond .lt 13, 3) := by decide +kernel
theorem dX9_isQuarter_4 : decode cX9_isQuarter 4 = .ok (.iload_n 0, 1) := by decide +kernel
theorem dX9_isQuarter_5 : decode cX9_isQuarter 5 = .ok (.bipush 48, 2) := by decide +kernel
theorem dX9_isQuarter_7 : decode cX9_isQuarter 7 = .ok (.if_icmp .ge 7, 3) := by decide +kernel
theorem dX9_isQuarter_10 : decode cX9_isQuarter 10 = .ok (.iconst 1, 1) := by decide +kernel
theorem dX9_isQuarter_11 : decode cX9_isQuarter 11 = .ok (.goto 4, 3) := by decide +kernel
theorem dX9_isQuarter_14 : decode cX9_isQuarter 14 = .ok (.iconst 0, 1) := by decide +kernel
theorem dX9_isQuarter_15 : decode cX9_isQuarter 15 = .ok (.ireturn, 1) := by decide +kernel
theorem dX9_isLightingQuarter_0 : decode cX9_isLightingQuarter 0 = .ok (.iload_n 0, 1) := by decide +kernel
theorem dX9_isLightingQuarter_1 : decode cX9_isLightingQuarter 1 = .ok (.ifCond .lt 13, 3) := by decide +kernel
theorem dX9_isLightingQuarter_4 : decode cX9_isLightingQuarter 4 = .ok (.iload_n 0, 1) := by decide +kernel
theorem dX9_isLightingQuarter_5 : decode cX9_isLightingQuarter 5 = .ok (.bipush 24, 2) := by decide +kernel
theorem dX9_isLightingQuarter_7 : decode cX9_isLightingQuarter 7 = .ok (.if_icmp .ge 7, 3) := by decide +kernel
theorem dX9_isLightingQuarter_10 : decode cX9_isLightingQuarter 10 = .ok (.iconst 1, 1) := by decide +kernel
theorem dX9_isLightingQuarter_11 : decode cX9_isLightingQuarter 11 = .ok (.goto 4, 3) := by decide +kernel
theorem dX9_isLightingQuarter_14 : decode cX9_isLightingQuarter 14 = .ok (.iconst 0, 1) := by decide +kernel
theorem dX9_isLightingQuarter_15 : decode cX9_isLightingQuarter 15 = .ok (.ireturn, 1) := by decide +kernel
theorem dX9_isX_0 : decode cX9_isX 0 = .ok (.iload_n 0, 1) := by decide +kernel
theorem dX9_isX_1 : decode cX9_isX 1 = .ok (.ifCond .lt 13, 3) := by decide +kernel
theorem dX9_isX_4 : decode cX9_isX 4 = .ok (.iload_n 0, 1) := by decide +kernel
theorem dX9_isX_5 : decode cX9_isX 5 = .ok (.bipush 40, 2) := by decide +kernel
theorem dX9_isX_7 : decode cX9_isX 7 = .ok (.if_icmp .ge 7, 3) := by decide +kernel
theorem dX9_isX_10 : decode cX9_isX 10 = .ok (.iconst 1, 1) := by decide +kernel
theorem dX9_isX_11 : decode cX9_isX 11 = .ok (.goto 4, 3) := by decide +kernel
theorem dX9_isX_14 : decode cX9_isX 14 = .ok (.iconst 0, 1) := by decide +kernel
theorem dX9_isX_15 : decode cX9_isX 15 = .ok (.ireturn, 1) := by decide +kernel
theorem dX9_rowAt_0 : decode cX9_rowAt 0 = .ok (.iload_n 1, 1) := by decide +kernel
theorem dX9_rowAt_1 : decode cX9_rowAt 1 = .ok (.ifCond .lt 17, 3) := by decide +kernel
theorem dX9_rowAt_4 : decode cX9_rowAt 4 = .ok (.iload_n 1, 1) := by decide +kernel
theorem dX9_rowAt_5 : decode cX9_rowAt 5 = .ok (.iconst 4, 1) := by decide +kernel
theorem dX9_rowAt_6 : decode cX9_rowAt 6 = .ok (.if_icmp .ge 12, 3) := by decide +kernel
theorem dX9_rowAt_9 : decode cX9_rowAt 9 = .ok (.aload_n 0, 1) := by decide +kernel
theorem dX9_rowAt_10 : decode cX9_rowAt 10 = .ok (.getfield 83, 3) := by decide +kernel
theorem dX9_rowAt_13 : decode cX9_rowAt 13 = .ok (.iload_n 1, 1) := by decide +kernel
theorem dX9_rowAt_14 : decode cX9_rowAt 14 = .ok (.aaload, 1) := by decide +kernel
theorem dX9_rowAt_15 : decode cX9_rowAt 15 = .ok (.goto 4, 3) := by decide +kernel
theorem dX9_rowAt_18 : decode cX9_rowAt 18 = .ok (.aconst_null, 1) := by decide +kernel
theorem dX9_rowAt_19 : decode cX9_rowAt 19 = .ok (.areturn, 1) := by decide +kernel
theorem dX9_areTwo_0 : decode cX9_areTwo 0 = .ok (.aload_n 0, 1) := by decide +kernel
theorem dX9_areTwo_1 : decode cX9_areTwo 1 = .ok (.getfield 16, 3) := by decide +kernel
theorem dX9_areTwo_4 : decode cX9_areTwo 4 = .ok (.iload_n 1, 1) := by decide +kernel
theorem dX9_areTwo_5 : decode cX9_areTwo 5 = .ok (.invokevirtual 134, 3) := by decide +kernel
theorem dX9_areTwo_8 : decode cX9_areTwo 8 = .ok (.ifCond .eq 23, 3) := by decide +kernel
theorem dX9_areTwo_11 : decode cX9_areTwo 11 = .ok (.aload_n 0, 1) := by decide +kernel
theorem dX9_areTwo_12 : decode cX9_areTwo 12 = .ok (.getfield 16, 3) := by decide +kernel
theorem dX9_areTwo_15 : decode cX9_areTwo 15 = .ok (.iload_n 2, 1) := by decide +kernel
theorem dX9_areTwo_16 : decode cX9_areTwo 16 = .ok (.invokevirtual 134, 3) := by decide +kernel
theorem dX9_areTwo_19 : decode cX9_areTwo 19 = .ok (.ifCond .eq 12, 3) := by decide +kernel
theorem dX9_areTwo_22 : decode cX9_areTwo 22 = .ok (.iload_n 1, 1) := by decide +kernel
theorem dX9_areTwo_23 : decode cX9_areTwo 23 = .ok (.iload_n 2, 1) := by decide +kernel
theorem dX9_areTwo_24 : decode cX9_areTwo 24 = .ok (.if_icmp .eq 7, 3) := by decide +kernel
theorem dX9_areTwo_27 : decode cX9_areTwo 27 = .ok (.iconst 1, 1) := by decide +kernel
theorem dX9_areTwo_28 : decode cX9_areTwo 28 = .ok (.goto 4, 3) := by decide +kernel
theorem dX9_areTwo_31 : decode cX9_areTwo 31 = .ok (.iconst 0, 1) := by decide +kernel
theorem dX9_areTwo_32 : decode cX9_areTwo 32 = .ok (.ireturn, 1) := by decide +kernel
theorem dX9_putOnTape_0 : decode cX9_putOnTape 0 = .ok (.bipush 24, 2) := by decide +kernel
theorem dX9_putOnTape_2 : decode cX9_putOnTape 2 = .ok (.istore_n 2, 1) := by decide +kernel
theorem dX9_putOnTape_3 : decode cX9_putOnTape 3 = .ok (.iload_n 2, 1) := by decide +kernel
theorem dX9_putOnTape_4 : decode cX9_putOnTape 4 = .ok (.ifCond .lt 42, 3) := by decide +kernel
theorem dX9_putOnTape_7 : decode cX9_putOnTape 7 = .ok (.aload_n 0, 1) := by decide +kernel
theorem dX9_putOnTape_8 : decode cX9_putOnTape 8 = .ok (.getfield 107, 3) := by decide +kernel
theorem dX9_putOnTape_11 : decode cX9_putOnTape 11 = .ok (.sipush 900, 3) := by decide +kernel
theorem dX9_putOnTape_14 : decode cX9_putOnTape 14 = .ok (.if_icmp .ge 26, 3) := by decide +kernel
theorem dX9_putOnTape_17 : decode cX9_putOnTape 17 = .ok (.aload_n 0, 1) := by decide +kernel
theorem dX9_putOnTape_18 : decode cX9_putOnTape 18 = .ok (.getfield 9, 3) := by decide +kernel
theorem dX9_putOnTape_21 : decode cX9_putOnTape 21 = .ok (.aload_n 0, 1) := by decide +kernel
theorem dX9_putOnTape_22 : decode cX9_putOnTape 22 = .ok (.getfield 107, 3) := by decide +kernel
theorem dX9_putOnTape_25 : decode cX9_putOnTape 25 = .ok (.iload_n 1, 1) := by decide +kernel
theorem dX9_putOnTape_26 : decode cX9_putOnTape 26 = .ok (.iload_n 2, 1) := by decide +kernel
theorem dX9_putOnTape_27 : decode cX9_putOnTape 27 = .ok (.iushr, 1) := by decide +kernel
theorem dX9_putOnTape_28 : decode cX9_putOnTape 28 = .ok (.i2b, 1) := by decide +kernel
theorem dX9_putOnTape_29 : decode cX9_putOnTape 29 = .ok (.bastore, 1) := by decide +kernel
theorem dX9_putOnTape_30 : decode cX9_putOnTape 30 = .ok (.aload_n 0, 1) := by decide +kernel
theorem dX9_putOnTape_31 : decode cX9_putOnTape 31 = .ok (.dup, 1) := by decide +kernel
theorem dX9_putOnTape_32 : decode cX9_putOnTape 32 = .ok (.getfield 107, 3) := by decide +kernel
theorem dX9_putOnTape_35 : decode cX9_putOnTape 35 = .ok (.iconst 1, 1) := by decide +kernel
theorem dX9_putOnTape_36 : decode cX9_putOnTape 36 = .ok (.iadd, 1) := by decide +kernel
theorem dX9_putOnTape_37 : decode cX9_putOnTape 37 = .ok (.putfield 107, 3) := by decide +kernel
theorem dX9_putOnTape_40 : decode cX9_putOnTape 40 = .ok (.iinc 2 (-8), 3) := by decide +kernel
theorem dX9_putOnTape_43 : decode cX9_putOnTape 43 = .ok (.goto (-40), 3) := by decide +kernel
theorem dX9_putOnTape_46 : decode cX9_putOnTape 46 = .ok (.return_, 1) := by decide +kernel
theorem dX9_settle_0 : decode cX9_settle 0 = .ok (.aload_n 0, 1) := by decide +kernel
theorem dX9_settle_1 : decode cX9_settle 1 = .ok (.getfield 16, 3) := by decide +kernel
theorem dX9_settle_4 : decode cX9_settle 4 = .ok (.aload_n 1, 1) := by decide +kernel
theorem dX9_settle_5 : decode cX9_settle 5 = .ok (.invokevirtual 372, 3) := by decide +kernel
theorem dX9_settle_8 : decode cX9_settle 8 = .ok (.aload_n 0, 1) := by decide +kernel
theorem dX9_settle_9 : decode cX9_settle 9 = .ok (.getfield 30, 3) := by decide +kernel
theorem dX9_settle_12 : decode cX9_settle 12 = .ok (.aload_n 0, 1) := by decide +kernel
theorem dX9_settle_13 : decode cX9_settle 13 = .ok (.getfield 16, 3) := by decide +kernel
theorem dX9_settle_16 : decode cX9_settle 16 = .ok (.invokevirtual 103, 3) := by decide +kernel
theorem dX9_settle_19 : decode cX9_settle 19 = .ok (.aload_n 0, 1) := by decide +kernel
theorem dX9_settle_20 : decode cX9_settle 20 = .ok (.getfield 39, 3) := by decide +kernel
theorem dX9_settle_23 : decode cX9_settle 23 = .ok (.invokevirtual 393, 3) := by decide +kernel
theorem dX9_settle_26 : decode cX9_settle 26 = .ok (.return_, 1) := by decide +kernel
theorem dX9_gatherPairs_0 : decode cX9_gatherPairs 0 = .ok (.iconst 0, 1) := by decide +kernel
theorem dX9_gatherPairs_1 : decode cX9_gatherPairs 1 = .ok (.istore_n 1, 1) := by decide +kernel
theorem dX9_gatherPairs_2 : decode cX9_gatherPairs 2 = .ok (.iconst 0, 1) := by decide +kernel
theorem dX9_gatherPairs_3 : decode cX9_gatherPairs 3 = .ok (.istore_n 2, 1) := by decide +kernel
theorem dX9_gatherPairs_4 : decode cX9_gatherPairs 4 = .ok (.iload_n 2, 1) := by decide +kernel
theorem dX9_gatherPairs_5 : decode cX9_gatherPairs 5 = .ok (.aload_n 0, 1) := by decide +kernel
theorem dX9_gatherPairs_6 : decode cX9_gatherPairs 6 = .ok (.getfield 16, 3) := by decide +kernel
theorem dX9_gatherPairs_9 : decode cX9_gatherPairs 9 = .ok (.getfield 198, 3) := by decide +kernel
theorem dX9_gatherPairs_12 : decode cX9_gatherPairs 12 = .ok (.if_icmp .ge 78, 3) := by decide +kernel
theorem dX9_gatherPairs_15 : decode cX9_gatherPairs 15 = .ok (.iload_n 2, 1) := by decide +kernel
theorem dX9_gatherPairs_16 : decode cX9_gatherPairs 16 = .ok (.iconst 1, 1) := by decide +kernel
theorem dX9_gatherPairs_17 : decode cX9_gatherPairs 17 = .ok (.iadd, 1) := by decide +kernel
theorem dX9_gatherPairs_18 : decode cX9_gatherPairs 18 = .ok (.istore_n 3, 1) := by decide +kernel
theorem dX9_gatherPairs_19 : decode cX9_gatherPairs 19 = .ok (.iload_n 3, 1) := by decide +kernel
theorem dX9_gatherPairs_20 : decode cX9_gatherPairs 20 = .ok (.aload_n 0, 1) := by decide +kernel
theorem dX9_gatherPairs_21 : decode cX9_gatherPairs 21 = .ok (.getfield 16, 3) := by decide +kernel
theorem dX9_gatherPairs_24 : decode cX9_gatherPairs 24 = .ok (.getfield 198, 3) := by decide +kernel
theorem dX9_gatherPairs_27 : decode cX9_gatherPairs 27 = .ok (.if_icmp .ge 57, 3) := by decide +kernel
theorem dX9_gatherPairs_30 : decode cX9_gatherPairs 30 = .ok (.aload_n 0, 1) := by decide +kernel
theorem dX9_gatherPairs_31 : decode cX9_gatherPairs 31 = .ok (.getfield 39, 3) := by decide +kernel
theorem dX9_gatherPairs_34 : decode cX9_gatherPairs 34 = .ok (.iload_n 2, 1) := by decide +kernel
theorem dX9_gatherPairs_35 : decode cX9_gatherPairs 35 = .ok (.iload_n 3, 1) := by decide +kernel
theorem dX9_gatherPairs_36 : decode cX9_gatherPairs 36 = .ok (.invokevirtual 214, 3) := by decide +kernel
theorem dX9_gatherPairs_39 : decode cX9_gatherPairs 39 = .ok (.lstore 4, 2) := by decide +kernel
theorem dX9_gatherPairs_41 : decode cX9_gatherPairs 41 = .ok (.lload 4, 2) := by decide +kernel
theorem dX9_gatherPairs_43 : decode cX9_gatherPairs 43 = .ok (.lconst 0, 1) := by decide +kernel
theorem dX9_gatherPairs_44 : decode cX9_gatherPairs 44 = .ok (.lcmp, 1) := by decide +kernel
theorem dX9_gatherPairs_45 : decode cX9_gatherPairs 45 = .ok (.ifCond .eq 33, 3) := by decide +kernel
theorem dX9_gatherPairs_48 : decode cX9_gatherPairs 48 = .ok (.iload_n 1, 1) := by decide +kernel
theorem dX9_gatherPairs_49 : decode cX9_gatherPairs 49 = .ok (.bipush 45, 2) := by decide +kernel
theorem dX9_gatherPairs_51 : decode cX9_gatherPairs 51 = .ok (.if_icmp .ge 27, 3) := by decide +kernel
theorem dX9_gatherPairs_54 : decode cX9_gatherPairs 54 = .ok (.aload_n 0, 1) := by decide +kernel
theorem dX9_gatherPairs_55 : decode cX9_gatherPairs 55 = .ok (.iload_n 1, 1) := by decide +kernel
theorem dX9_gatherPairs_56 : decode cX9_gatherPairs 56 = .ok (.sipush 1000, 3) := by decide +kernel
theorem dX9_gatherPairs_59 : decode cX9_gatherPairs 59 = .ok (.lload 4, 2) := by decide +kernel
theorem dX9_gatherPairs_61 : decode cX9_gatherPairs 61 = .ok (.invokestatic 218, 3) := by decide +kernel
theorem dX9_gatherPairs_64 : decode cX9_gatherPairs 64 = .ok (.imul, 1) := by decide +kernel
theorem dX9_gatherPairs_65 : decode cX9_gatherPairs 65 = .ok (.bipush 20, 2) := by decide +kernel
theorem dX9_gatherPairs_67 : decode cX9_gatherPairs 67 = .ok (.iload_n 2, 1) := by decide +kernel
theorem dX9_gatherPairs_68 : decode cX9_gatherPairs 68 = .ok (.imul, 1) := by decide +kernel
theorem dX9_gatherPairs_69 : decode cX9_gatherPairs 69 = .ok (.iadd, 1) := by decide +kernel
theorem dX9_gatherPairs_70 : decode cX9_gatherPairs 70 = .ok (.iload_n 3, 1) := by decide +kernel
theorem dX9_gatherPairs_71 : decode cX9_gatherPairs 71 = .ok (.iadd, 1) := by decide +kernel
theorem dX9_gatherPairs_72 : decode cX9_gatherPairs 72 = .ok (.invokevirtual 396, 3) := by decide +kernel
theorem dX9_gatherPairs_75 : decode cX9_gatherPairs 75 = .ok (.iinc 1 1, 3) := by decide +kernel
theorem dX9_gatherPairs_78 : decode cX9_gatherPairs 78 = .ok (.iinc 3 1, 3) := by decide +kernel
theorem dX9_gatherPairs_81 : decode cX9_gatherPairs 81 = .ok (.goto (-62), 3) := by decide +kernel
theorem dX9_gatherPairs_84 : decode cX9_gatherPairs 84 = .ok (.iinc 2 1, 3) := by decide +kernel
theorem dX9_gatherPairs_87 : decode cX9_gatherPairs 87 = .ok (.goto (-83), 3) := by decide +kernel
theorem dX9_gatherPairs_90 : decode cX9_gatherPairs 90 = .ok (.iload_n 1, 1) := by decide +kernel
theorem dX9_gatherPairs_91 : decode cX9_gatherPairs 91 = .ok (.ireturn, 1) := by decide +kernel
theorem dX9_insertPair_0 : decode cX9_insertPair 0 = .ok (.iload_n 1, 1) := by decide +kernel
theorem dX9_insertPair_1 : decode cX9_insertPair 1 = .ok (.istore_n 3, 1) := by decide +kernel
theorem dX9_insertPair_2 : decode cX9_insertPair 2 = .ok (.iload_n 3, 1) := by decide +kernel
theorem dX9_insertPair_3 : decode cX9_insertPair 3 = .ok (.ifCond .le 35, 3) := by decide +kernel
theorem dX9_insertPair_6 : decode cX9_insertPair 6 = .ok (.aload_n 0, 1) := by decide +kernel
theorem dX9_insertPair_7 : decode cX9_insertPair 7 = .ok (.getfield 91, 3) := by decide +kernel
theorem dX9_insertPair_10 : decode cX9_insertPair 10 = .ok (.iload_n 3, 1) := by decide +kernel
theorem dX9_insertPair_11 : decode cX9_insertPair 11 = .ok (.iconst 1, 1) := by decide +kernel
theorem dX9_insertPair_12 : decode cX9_insertPair 12 = .ok (.isub, 1) := by decide +kernel
theorem dX9_insertPair_13 : decode cX9_insertPair 13 = .ok (.iaload, 1) := by decide +kernel
theorem dX9_insertPair_14 : decode cX9_insertPair 14 = .ok (.iload_n 2, 1) := by decide +kernel
theorem dX9_insertPair_15 : decode cX9_insertPair 15 = .ok (.if_icmp .le 23, 3) := by decide +kernel
theorem dX9_insertPair_18 : decode cX9_insertPair 18 = .ok (.aload_n 0, 1) := by decide +kernel
theorem dX9_insertPair_19 : decode cX9_insertPair 19 = .ok (.getfield 91, 3) := by decide +kernel
theorem dX9_insertPair_22 : decode cX9_insertPair 22 = .ok (.iload_n 3, 1) := by decide +kernel
theorem dX9_insertPair_23 : decode cX9_insertPair 23 = .ok (.aload_n 0, 1) := by decide +kernel
theorem dX9_insertPair_24 : decode cX9_insertPair 24 = .ok (.getfield 91, 3) := by decide +kernel
theorem dX9_insertPair_27 : decode cX9_insertPair 27 = .ok (.iload_n 3, 1) := by decide +kernel
theorem dX9_insertPair_28 : decode cX9_insertPair 28 = .ok (.iconst 1, 1) := by decide +kernel
theorem dX9_insertPair_29 : decode cX9_insertPair 29 = .ok (.isub, 1) := by decide +kernel
theorem dX9_insertPair_30 : decode cX9_insertPair 30 = .ok (.iaload, 1) := by decide +kernel
theorem dX9_insertPair_31 : decode cX9_insertPair 31 = .ok (.iastore, 1) := by decide +kernel
theorem dX9_insertPair_32 : decode cX9_insertPair 32 = .ok (.iinc 3 (-1), 3) := by decide +kernel
theorem dX9_insertPair_35 : decode cX9_insertPair 35 = .ok (.goto (-33), 3) := by decide +kernel
theorem dX9_insertPair_38 : decode cX9_insertPair 38 = .ok (.aload_n 0, 1) := by decide +kernel
theorem dX9_insertPair_39 : decode cX9_insertPair 39 = .ok (.getfield 91, 3) := by decide +kernel
theorem dX9_insertPair_42 : decode cX9_insertPair 42 = .ok (.iload_n 3, 1) := by decide +kernel
theorem dX9_insertPair_43 : decode cX9_insertPair 43 = .ok (.iload_n 2, 1) := by decide +kernel
theorem dX9_insertPair_44 : decode cX9_insertPair 44 = .ok (.iastore, 1) := by decide +kernel
theorem dX9_insertPair_45 : decode cX9_insertPair 45 = .ok (.return_, 1) := by decide +kernel
theorem dX9_dueFrom_0 : decode cX9_dueFrom 0 = .ok (.iconst 0, 1) := by decide +kernel
theorem dX9_dueFrom_1 : decode cX9_dueFrom 1 = .ok (.istore_n 2, 1) := by decide +kernel
theorem dX9_dueFrom_2 : decode cX9_dueFrom 2 = .ok (.iconst 0, 1) := by decide +kernel
theorem dX9_dueFrom_3 : decode cX9_dueFrom 3 = .ok (.istore_n 3, 1) := by decide +kernel
theorem dX9_dueFrom_4 : decode cX9_dueFrom 4 = .ok (.iload_n 3, 1) := by decide +kernel
theorem dX9_dueFrom_5 : decode cX9_dueFrom 5 = .ok (.aload_n 0, 1) := by decide +kernel
theorem dX9_dueFrom_6 : decode cX9_dueFrom 6 = .ok (.getfield 16, 3) := by decide +kernel
theorem dX9_dueFrom_9 : decode cX9_dueFrom 9 = .ok (.getfield 198, 3) := by decide +kernel
theorem dX9_dueFrom_12 : decode cX9_dueFrom 12 = .ok (.if_icmp .ge 41, 3) := by decide +kernel
theorem dX9_dueFrom_15 : decode cX9_dueFrom 15 = .ok (.iload_n 3, 1) := by decide +kernel
theorem dX9_dueFrom_16 : decode cX9_dueFrom 16 = .ok (.iload_n 1, 1) := by decide +kernel
theorem dX9_dueFrom_17 : decode cX9_dueFrom 17 = .ok (.if_icmp .eq 30, 3) := by decide +kernel
theorem dX9_dueFrom_20 : decode cX9_dueFrom 20 = .ok (.aload_n 0, 1) := by decide +kernel
theorem dX9_dueFrom_21 : decode cX9_dueFrom 21 = .ok (.getfield 16, 3) := by decide +kernel
theorem dX9_dueFrom_24 : decode cX9_dueFrom 24 = .ok (.iload_n 1, 1) := by decide +kernel
theorem dX9_dueFrom_25 : decode cX9_dueFrom 25 = .ok (.iload_n 3, 1) := by decide +kernel
theorem dX9_dueFrom_26 : decode cX9_dueFrom 26 = .ok (.invokevirtual 399, 3) := by decide +kernel
theorem dX9_dueFrom_29 : decode cX9_dueFrom 29 = .ok (.ifCond .eq 18, 3) := by decide +kernel
theorem dX9_dueFrom_32 : decode cX9_dueFrom 32 = .ok (.iload_n 2, 1) := by decide +kernel
theorem dX9_dueFrom_33 : decode cX9_dueFrom 33 = .ok (.aload_n 0, 1) := by decide +kernel
theorem dX9_dueFrom_34 : decode cX9_dueFrom 34 = .ok (.getfield 39, 3) := by decide +kernel
theorem dX9_dueFrom_37 : decode cX9_dueFrom 37 = .ok (.iload_n 1, 1) := by decide +kernel
theorem dX9_dueFrom_38 : decode cX9_dueFrom 38 = .ok (.iload_n 3, 1) := by decide +kernel
theorem dX9_dueFrom_39 : decode cX9_dueFrom 39 = .ok (.invokevirtual 214, 3) := by decide +kernel
theorem dX9_dueFrom_42 : decode cX9_dueFrom 42 = .ok (.invokestatic 224, 3) := by decide +kernel
theorem dX9_dueFrom_45 : decode cX9_dueFrom 45 = .ok (.iadd, 1) := by decide +kernel
theorem dX9_dueFrom_46 : decode cX9_dueFrom 46 = .ok (.istore_n 2, 1) := by decide +kernel
theorem dX9_dueFrom_47 : decode cX9_dueFrom 47 = .ok (.iinc 3 1, 3) := by decide +kernel
theorem dX9_dueFrom_50 : decode cX9_dueFrom 50 = .ok (.goto (-46), 3) := by decide +kernel
theorem dX9_dueFrom_53 : decode cX9_dueFrom 53 = .ok (.iload_n 2, 1) := by decide +kernel
theorem dX9_dueFrom_54 : decode cX9_dueFrom 54 = .ok (.aload_n 0, 1) := by decide +kernel
theorem dX9_dueFrom_55 : decode cX9_dueFrom 55 = .ok (.getfield 16, 3) := by decide +kernel
theorem dX9_dueFrom_58 : decode cX9_dueFrom 58 = .ok (.getfield 387, 3) := by decide +kernel
theorem dX9_dueFrom_61 : decode cX9_dueFrom 61 = .ok (.imul, 1) := by decide +kernel
theorem dX9_dueFrom_62 : decode cX9_dueFrom 62 = .ok (.ireturn, 1) := by decide +kernel
theorem dX9_dueFromAll_0 : decode cX9_dueFromAll 0 = .ok (.iconst 0, 1) := by decide +kernel
theorem dX9_dueFromAll_1 : decode cX9_dueFromAll 1 = .ok (.istore_n 1, 1) := by decide +kernel
theorem dX9_dueFromAll_2 : decode cX9_dueFromAll 2 = .ok (.iconst 0, 1) := by decide +kernel
theorem dX9_dueFromAll_3 : decode cX9_dueFromAll 3 = .ok (.istore_n 2, 1) := by decide +kernel
theorem dX9_dueFromAll_4 : decode cX9_dueFromAll 4 = .ok (.iload_n 2, 1) := by decide +kernel
theorem dX9_dueFromAll_5 : decode cX9_dueFromAll 5 = .ok (.aload_n 0, 1) := by decide +kernel
theorem dX9_dueFromAll_6 : decode cX9_dueFromAll 6 = .ok (.getfield 16, 3) := by decide +kernel
theorem dX9_dueFromAll_9 : decode cX9_dueFromAll 9 = .ok (.getfield 198, 3) := by decide +kernel
theorem dX9_dueFromAll_12 : decode cX9_dueFromAll 12 = .ok (.if_icmp .ge 17, 3) := by decide +kernel
theorem dX9_dueFromAll_15 : decode cX9_dueFromAll 15 = .ok (.iload_n 1, 1) := by decide +kernel
theorem dX9_dueFromAll_16 : decode cX9_dueFromAll 16 = .ok (.aload_n 0, 1) := by decide +kernel
theorem dX9_dueFromAll_17 : decode cX9_dueFromAll 17 = .ok (.iload_n 2, 1) := by decide +kernel
theorem dX9_dueFromAll_18 : decode cX9_dueFromAll 18 = .ok (.invokevirtual 231, 3) := by decide +kernel
theorem dX9_dueFromAll_21 : decode cX9_dueFromAll 21 = .ok (.iadd, 1) := by decide +kernel
theorem dX9_dueFromAll_22 : decode cX9_dueFromAll 22 = .ok (.istore_n 1, 1) := by decide +kernel
theorem dX9_dueFromAll_23 : decode cX9_dueFromAll 23 = .ok (.iinc 2 1, 3) := by decide +kernel
theorem dX9_dueFromAll_26 : decode cX9_dueFromAll 26 = .ok (.goto (-22), 3) := by decide +kernel
theorem dX9_dueFromAll_29 : decode cX9_dueFromAll 29 = .ok (.iload_n 1, 1) := by decide +kernel
theorem dX9_dueFromAll_30 : decode cX9_dueFromAll 30 = .ok (.ireturn, 1) := by decide +kernel
theorem dX9_priceIn_0 : decode cX9_priceIn 0 = .ok (.aload_n 0, 1) := by decide +kernel
theorem dX9_priceIn_1 : decode cX9_priceIn 1 = .ok (.getfield 16, 3) := by decide +kernel
theorem dX9_priceIn_4 : decode cX9_priceIn 4 = .ok (.getfield 153, 3) := by decide +kernel
theorem dX9_priceIn_7 : decode cX9_priceIn 7 = .ok (.iload_n 1, 1) := by decide +kernel
theorem dX9_priceIn_8 : decode cX9_priceIn 8 = .ok (.iload_n 2, 1) := by decide +kernel
theorem dX9_priceIn_9 : decode cX9_priceIn 9 = .ok (.iastore, 1) := by decide +kernel
theorem dX9_priceIn_10 : decode cX9_priceIn 10 = .ok (.iconst 0, 1) := by decide +kernel
theorem dX9_priceIn_11 : decode cX9_priceIn 11 = .ok (.istore_n 3, 1) := by decide +kernel
theorem dX9_priceIn_12 : decode cX9_priceIn 12 = .ok (.iconst 0, 1) := by decide +kernel
theorem dX9_priceIn_13 : decode cX9_priceIn 13 = .ok (.istore 4, 2) := by decide +kernel
theorem dX9_priceIn_15 : decode cX9_priceIn 15 = .ok (.iload 4, 2) := by decide +kernel
theorem dX9_priceIn_17 : decode cX9_priceIn 17 = .ok (.aload_n 0, 1) := by decide +kernel
theorem dX9_priceIn_18 : decode cX9_priceIn 18 = .ok (.getfield 16, 3) := by decide +kernel
theorem dX9_priceIn_21 : decode cX9_priceIn 21 = .ok (.getfield 198, 3) := by decide +kernel
theorem dX9_priceIn_24 : decode cX9_priceIn 24 = .ok (.if_icmp .ge 31, 3) := by decide +kernel
theorem dX9_priceIn_27 : decode cX9_priceIn 27 = .ok (.iload 4, 2) := by decide +kernel
theorem dX9_priceIn_29 : decode cX9_priceIn 29 = .ok (.iload_n 1, 1) := by decide +kernel
theorem dX9_priceIn_30 : decode cX9_priceIn 30 = .ok (.if_icmp .eq 19, 3) := by decide +kernel
theorem dX9_priceIn_33 : decode cX9_priceIn 33 = .ok (.iload_n 3, 1) := by decide +kernel
theorem dX9_priceIn_34 : decode cX9_priceIn 34 = .ok (.aload_n 0, 1) := by decide +kernel
theorem dX9_priceIn_35 : decode cX9_priceIn 35 = .ok (.getfield 39, 3) := by decide +kernel
theorem dX9_priceIn_38 : decode cX9_priceIn 38 = .ok (.iload_n 1, 1) := by decide +kernel
theorem dX9_priceIn_39 : decode cX9_priceIn 39 = .ok (.iload 4, 2) := by decide +kernel
theorem dX9_priceIn_41 : decode cX9_priceIn 41 = .ok (.invokevirtual 214, 3) := by decide +kernel
theorem dX9_priceIn_44 : decode cX9_priceIn 44 = .ok (.invokestatic 224, 3) := by decide +kernel
theorem dX9_priceIn_47 : decode cX9_priceIn 47 = .ok (.iadd, 1) := by decide +kernel
theorem dX9_priceIn_48 : decode cX9_priceIn 48 = .ok (.istore_n 3, 1) := by decide +kernel
theorem dX9_priceIn_49 : decode cX9_priceIn 49 = .ok (.iinc 4 1, 3) := by decide +kernel
theorem dX9_priceIn_52 : decode cX9_priceIn 52 = .ok (.goto (-37), 3) := by decide +kernel
theorem dX9_priceIn_55 : decode cX9_priceIn 55 = .ok (.aload_n 0, 1) := by decide +kernel
theorem dX9_priceIn_56 : decode cX9_priceIn 56 = .ok (.getfield 16, 3) := by decide +kernel
theorem dX9_priceIn_59 : decode cX9_priceIn 59 = .ok (.getfield 153, 3) := by decide +kernel
theorem dX9_priceIn_62 : decode cX9_priceIn 62 = .ok (.iload_n 1, 1) := by decide +kernel
theorem dX9_priceIn_63 : decode cX9_priceIn 63 = .ok (.iconst (-1), 1) := by decide +kernel
theorem dX9_priceIn_64 : decode cX9_priceIn 64 = .ok (.iastore, 1) := by decide +kernel
theorem dX9_priceIn_65 : decode cX9_priceIn 65 = .ok (.iload_n 3, 1) := by decide +kernel
theorem dX9_priceIn_66 : decode cX9_priceIn 66 = .ok (.aload_n 0, 1) := by decide +kernel
theorem dX9_priceIn_67 : decode cX9_priceIn 67 = .ok (.getfield 16, 3) := by decide +kernel
theorem dX9_priceIn_70 : decode cX9_priceIn 70 = .ok (.getfield 387, 3) := by decide +kernel
theorem dX9_priceIn_73 : decode cX9_priceIn 73 = .ok (.imul, 1) := by decide +kernel
theorem dX9_priceIn_74 : decode cX9_priceIn 74 = .ok (.ireturn, 1) := by decide +kernel
theorem dX9_gatherSoot_0 : decode cX9_gatherSoot 0 = .ok (.aload_n 0, 1) := by decide +kernel
theorem dX9_gatherSoot_1 : decode cX9_gatherSoot 1 = .ok (.getfield 95, 3) := by decide +kernel
theorem dX9_gatherSoot_4 : decode cX9_gatherSoot 4 = .ok (.iconst 0, 1) := by decide +kernel
theorem dX9_gatherSoot_5 : decode cX9_gatherSoot 5 = .ok (.invokestatic 402, 3) := by decide +kernel
theorem dX9_gatherSoot_8 : decode cX9_gatherSoot 8 = .ok (.iconst 0, 1) := by decide +kernel
theorem dX9_gatherSoot_9 : decode cX9_gatherSoot 9 = .ok (.istore_n 1, 1) := by decide +kernel
theorem dX9_gatherSoot_10 : decode cX9_gatherSoot 10 = .ok (.iload_n 1, 1) := by decide +kernel
theorem dX9_gatherSoot_11 : decode cX9_gatherSoot 11 = .ok (.aload_n 0, 1) := by decide +kernel
theorem dX9_gatherSoot_12 : decode cX9_gatherSoot 12 = .ok (.getfield 16, 3) := by decide +kernel
theorem dX9_gatherSoot_15 : decode cX9_gatherSoot 15 = .ok (.getfield 198, 3) := by decide +kernel
theorem dX9_gatherSoot_18 : decode cX9_gatherSoot 18 = .ok (.if_icmp .ge 41, 3) := by decide +kernel
theorem dX9_gatherSoot_21 : decode cX9_gatherSoot 21 = .ok (.aload_n 0, 1) := by decide +kernel
theorem dX9_gatherSoot_22 : decode cX9_gatherSoot 22 = .ok (.getfield 16, 3) := by decide +kernel
theorem dX9_gatherSoot_25 : decode cX9_gatherSoot 25 = .ok (.iload_n 1, 1) := by decide +kernel
theorem dX9_gatherSoot_26 : decode cX9_gatherSoot 26 = .ok (.invokevirtual 169, 3) := by decide +kernel
theorem dX9_gatherSoot_29 : decode cX9_gatherSoot 29 = .ok (.ifCond .eq 24, 3) := by decide +kernel
theorem dX9_gatherSoot_32 : decode cX9_gatherSoot 32 = .ok (.aload_n 0, 1) := by decide +kernel
theorem dX9_gatherSoot_33 : decode cX9_gatherSoot 33 = .ok (.getfield 39, 3) := by decide +kernel
theorem dX9_gatherSoot_36 : decode cX9_gatherSoot 36 = .ok (.iload_n 1, 1) := by decide +kernel
theorem dX9_gatherSoot_37 : decode cX9_gatherSoot 37 = .ok (.aload_n 0, 1) := by decide +kernel
theorem dX9_gatherSoot_38 : decode cX9_gatherSoot 38 = .ok (.getfield 16, 3) := by decide +kernel
theorem dX9_gatherSoot_41 : decode cX9_gatherSoot 41 = .ok (.getfield 153, 3) := by decide +kernel
theorem dX9_gatherSoot_44 : decode cX9_gatherSoot 44 = .ok (.iload_n 1, 1) := by decide +kernel
theorem dX9_gatherSoot_45 : decode cX9_gatherSoot 45 = .ok (.iaload, 1) := by decide +kernel
theorem dX9_gatherSoot_46 : decode cX9_gatherSoot 46 = .ok (.aload_n 0, 1) := by decide +kernel
theorem dX9_gatherSoot_47 : decode cX9_gatherSoot 47 = .ok (.getfield 95, 3) := by decide +kernel
theorem dX9_gatherSoot_50 : decode cX9_gatherSoot 50 = .ok (.invokevirtual 405, 3) := by decide +kernel
theorem dX9_gatherSoot_53 : decode cX9_gatherSoot 53 = .ok (.iinc 1 1, 3) := by decide +kernel
theorem dX9_gatherSoot_56 : decode cX9_gatherSoot 56 = .ok (.goto (-46), 3) := by decide +kernel
theorem dX9_gatherSoot_59 : decode cX9_gatherSoot 59 = .ok (.return_, 1) := by decide +kernel
theorem dX9_markSmoky_0 : decode cX9_markSmoky 0 = .ok (.aload_n 0, 1) := by decide +kernel
theorem dX9_markSmoky_1 : decode cX9_markSmoky 1 = .ok (.getfield 16, 3) := by decide +kernel
theorem dX9_markSmoky_4 : decode cX9_markSmoky 4 = .ok (.getfield 153, 3) := by decide +kernel
theorem dX9_markSmoky_7 : decode cX9_markSmoky 7 = .ok (.iload_n 1, 1) := by decide +kernel
theorem dX9_markSmoky_8 : decode cX9_markSmoky 8 = .ok (.iaload, 1) := by decide +kernel
theorem dX9_markSmoky_9 : decode cX9_markSmoky 9 = .ok (.iload_n 2, 1) := by decide +kernel
theorem dX9_markSmoky_10 : decode cX9_markSmoky 10 = .ok (.iadd, 1) := by decide +kernel
theorem dX9_markSmoky_11 : decode cX9_markSmoky 11 = .ok (.istore_n 3, 1) := by decide +kernel
theorem dX9_markSmoky_12 : decode cX9_markSmoky 12 = .ok (.iconst 0, 1) := by decide +kernel
theorem dX9_markSmoky_13 : decode cX9_markSmoky 13 = .ok (.istore 4, 2) := by decide +kernel
theorem dX9_markSmoky_15 : decode cX9_markSmoky 15 = .ok (.iload 4, 2) := by decide +kernel
theorem dX9_markSmoky_17 : decode cX9_markSmoky 17 = .ok (.aload_n 0, 1) := by decide +kernel
theorem dX9_markSmoky_18 : decode cX9_markSmoky 18 = .ok (.getfield 16, 3) := by decide +kernel
theorem dX9_markSmoky_21 : decode cX9_markSmoky 21 = .ok (.iload_n 1, 1) := by decide +kernel
theorem dX9_markSmoky_22 : decode cX9_markSmoky 22 = .ok (.iload_n 2, 1) := by decide +kernel
theorem dX9_markSmoky_23 : decode cX9_markSmoky 23 = .ok (.invokevirtual 156, 3) := by decide +kernel
theorem dX9_markSmoky_26 : decode cX9_markSmoky 26 = .ok (.if_icmp .ge 73, 3) := by decide +kernel
theorem dX9_markSmoky_29 : decode cX9_markSmoky 29 = .ok (.aload_n 0, 1) := by decide +kernel
theorem dX9_markSmoky_30 : decode cX9_markSmoky 30 = .ok (.getfield 39, 3) := by decide +kernel
theorem dX9_markSmoky_33 : decode cX9_markSmoky 33 = .ok (.iload_n 1, 1) := by decide +kernel
theorem dX9_markSmoky_34 : decode cX9_markSmoky 34 = .ok (.iload_n 2, 1) := by decide +kernel
theorem dX9_markSmoky_35 : decode cX9_markSmoky 35 = .ok (.iload_n 3, 1) := by decide +kernel
theorem dX9_markSmoky_36 : decode cX9_markSmoky 36 = .ok (.iload 4, 2) := by decide +kernel
theorem dX9_markSmoky_38 : decode cX9_markSmoky 38 = .ok (.iadd, 1) := by decide +kernel
theorem dX9_markSmoky_39 : decode cX9_markSmoky 39 = .ok (.invokevirtual 201, 3) := by decide +kernel
theorem dX9_markSmoky_42 : decode cX9_markSmoky 42 = .ok (.istore 5, 2) := by decide +kernel
theorem dX9_markSmoky_44 : decode cX9_markSmoky 44 = .ok (.aload_n 0, 1) := by decide +kernel
theorem dX9_markSmoky_45 : decode cX9_markSmoky 45 = .ok (.getfield 39, 3) := by decide +kernel
theorem dX9_markSmoky_48 : decode cX9_markSmoky 48 = .ok (.iload_n 1, 1) := by decide +kernel
theorem dX9_markSmoky_49 : decode cX9_markSmoky 49 = .ok (.iload_n 2, 1) := by decide +kernel
theorem dX9_markSmoky_50 : decode cX9_markSmoky 50 = .ok (.iload_n 3, 1) := by decide +kernel
theorem dX9_markSmoky_51 : decode cX9_markSmoky 51 = .ok (.iload 4, 2) := by decide +kernel
theorem dX9_markSmoky_53 : decode cX9_markSmoky 53 = .ok (.iadd, 1) := by decide +kernel
theorem dX9_markSmoky_54 : decode cX9_markSmoky 54 = .ok (.invokevirtual 205, 3) := by decide +kernel
theorem dX9_markSmoky_57 : decode cX9_markSmoky 57 = .ok (.istore 6, 2) := by decide +kernel
theorem dX9_markSmoky_59 : decode cX9_markSmoky 59 = .ok (.iload 5, 2) := by decide +kernel
theorem dX9_markSmoky_61 : decode cX9_markSmoky 61 = .ok (.invokestatic 195, 3) := by decide +kernel
theorem dX9_markSmoky_64 : decode cX9_markSmoky 64 = .ok (.ifCond .eq 29, 3) := by decide +kernel
theorem dX9_markSmoky_67 : decode cX9_markSmoky 67 = .ok (.iload 6, 2) := by decide +kernel
theorem dX9_markSmoky_69 : decode cX9_markSmoky 69 = .ok (.ifCond .lt 24, 3) := by decide +kernel
theorem dX9_markSmoky_72 : decode cX9_markSmoky 72 = .ok (.iload 6, 2) := by decide +kernel
theorem dX9_markSmoky_74 : decode cX9_markSmoky 74 = .ok (.bipush 25, 2) := by decide +kernel
theorem dX9_markSmoky_76 : decode cX9_markSmoky 76 = .ok (.if_icmp .ge 17, 3) := by decide +kernel
theorem dX9_markSmoky_79 : decode cX9_markSmoky 79 = .ok (.aload_n 0, 1) := by decide +kernel
theorem dX9_markSmoky_80 : decode cX9_markSmoky 80 = .ok (.getfield 98, 3) := by decide +kernel
theorem dX9_markSmoky_83 : decode cX9_markSmoky 83 = .ok (.iload 6, 2) := by decide +kernel
theorem dX9_markSmoky_85 : decode cX9_markSmoky 85 = .ok (.dup2, 1) := by decide +kernel
theorem dX9_markSmoky_86 : decode cX9_markSmoky 86 = .ok (.laload, 1) := by decide +kernel
theorem dX9_markSmoky_87 : decode cX9_markSmoky 87 = .ok (.lconst 1, 1) := by decide +kernel
theorem dX9_markSmoky_88 : decode cX9_markSmoky 88 = .ok (.iload 5, 2) := by decide +kernel
theorem dX9_markSmoky_90 : decode cX9_markSmoky 90 = .ok (.lshl, 1) := by decide +kernel
theorem dX9_markSmoky_91 : decode cX9_markSmoky 91 = .ok (.lor, 1) := by decide +kernel
theorem dX9_markSmoky_92 : decode cX9_markSmoky 92 = .ok (.lastore, 1) := by decide +kernel
theorem dX9_markSmoky_93 : decode cX9_markSmoky 93 = .ok (.iinc 4 1, 3) := by decide +kernel
theorem dX9_markSmoky_96 : decode cX9_markSmoky 96 = .ok (.goto (-81), 3) := by decide +kernel
theorem dX9_markSmoky_99 : decode cX9_markSmoky 99 = .ok (.return_, 1) := by decide +kernel
theorem dX9_refusalOfSheets_0 : decode cX9_refusalOfSheets 0 = .ok (.aload_n 0, 1) := by decide +kernel
theorem dX9_refusalOfSheets_1 : decode cX9_refusalOfSheets 1 = .ok (.iload_n 1, 1) := by decide +kernel
theorem dX9_refusalOfSheets_2 : decode cX9_refusalOfSheets 2 = .ok (.invokevirtual 176, 3) := by decide +kernel
theorem dX9_refusalOfSheets_5 : decode cX9_refusalOfSheets 5 = .ok (.astore_n 2, 1) := by decide +kernel
theorem dX9_refusalOfSheets_6 : decode cX9_refusalOfSheets 6 = .ok (.aload_n 2, 1) := by decide +kernel
theorem dX9_refusalOfSheets_7 : decode cX9_refusalOfSheets 7 = .ok (.ifnonnull 6, 3) := by decide +kernel
theorem dX9_refusalOfSheets_10 : decode cX9_refusalOfSheets 10 = .ok (.bipush (-2), 2) := by decide +kernel
theorem dX9_refusalOfSheets_12 : decode cX9_refusalOfSheets 12 = .ok (.ireturn, 1) := by decide +kernel
theorem dX9_refusalOfSheets_13 : decode cX9_refusalOfSheets 13 = .ok (.aload_n 2, 1) := by decide +kernel
theorem dX9_refusalOfSheets_14 : decode cX9_refusalOfSheets 14 = .ok (.invokevirtual 180, 3) := by decide +kernel
theorem dX9_refusalOfSheets_17 : decode cX9_refusalOfSheets 17 = .ok (.ifCond .eq 6, 3) := by decide +kernel
theorem dX9_refusalOfSheets_20 : decode cX9_refusalOfSheets 20 = .ok (.bipush (-6), 2) := by decide +kernel
theorem dX9_refusalOfSheets_22 : decode cX9_refusalOfSheets 22 = .ok (.ireturn, 1) := by decide +kernel
theorem dX9_refusalOfSheets_23 : decode cX9_refusalOfSheets 23 = .ok (.aload_n 0, 1) := by decide +kernel
theorem dX9_refusalOfSheets_24 : decode cX9_refusalOfSheets 24 = .ok (.getfield 16, 3) := by decide +kernel
theorem dX9_refusalOfSheets_27 : decode cX9_refusalOfSheets 27 = .ok (.getfield 198, 3) := by decide +kernel
theorem dX9_refusalOfSheets_30 : decode cX9_refusalOfSheets 30 = .ok (.iconst 3, 1) := by decide +kernel
theorem dX9_refusalOfSheets_31 : decode cX9_refusalOfSheets 31 = .ok (.if_icmp .le 6, 3) := by decide +kernel
theorem dX9_refusalOfSheets_34 : decode cX9_refusalOfSheets 34 = .ok (.bipush (-4), 2) := by decide +kernel
theorem dX9_refusalOfSheets_36 : decode cX9_refusalOfSheets 36 = .ok (.ireturn, 1) := by decide +kernel
theorem dX9_refusalOfSheets_37 : decode cX9_refusalOfSheets 37 = .ok (.aload_n 0, 1) := by decide +kernel
theorem dX9_refusalOfSheets_38 : decode cX9_refusalOfSheets 38 = .ok (.getfield 68, 3) := by decide +kernel
theorem dX9_refusalOfSheets_41 : decode cX9_refusalOfSheets 41 = .ok (.aload_n 2, 1) := by decide +kernel
theorem dX9_refusalOfSheets_42 : decode cX9_refusalOfSheets 42 = .ok (.invokevirtual 409, 3) := by decide +kernel
theorem dX9_refusalOfSheets_45 : decode cX9_refusalOfSheets 45 = .ok (.ifCond .eq 7, 3) := by decide +kernel
theorem dX9_refusalOfSheets_48 : decode cX9_refusalOfSheets 48 = .ok (.iconst 0, 1) := by decide +kernel
theorem dX9_refusalOfSheets_49 : decode cX9_refusalOfSheets 49 = .ok (.goto 5, 3) := by decide +kernel
theorem dX9_refusalOfSheets_52 : decode cX9_refusalOfSheets 52 = .ok (.bipush (-3), 2) := by decide +kernel
theorem dX9_refusalOfSheets_54 : decode cX9_refusalOfSheets 54 = .ok (.ireturn, 1) := by decide +kernel
theorem dX9_refusalOfForecast_0 : decode cX9_refusalOfForecast 0 = .ok (.aload_n 0, 1) := by decide +kernel
theorem dX9_refusalOfForecast_1 : decode cX9_refusalOfForecast 1 = .ok (.getfield 16, 3) := by decide +kernel
theorem dX9_refusalOfForecast_4 : decode cX9_refusalOfForecast 4 = .ok (.iload_n 1, 1) := by decide +kernel
theorem dX9_refusalOfForecast_5 : decode cX9_refusalOfForecast 5 = .ok (.invokevirtual 134, 3) := by decide +kernel
theorem dX9_refusalOfForecast_8 : decode cX9_refusalOfForecast 8 = .ok (.ifCond .ne 6, 3) := by decide +kernel
theorem dX9_refusalOfForecast_11 : decode cX9_refusalOfForecast 11 = .ok (.bipush (-2), 2) := by decide +kernel
theorem dX9_refusalOfForecast_13 : decode cX9_refusalOfForecast 13 = .ok (.ireturn, 1) := by decide +kernel
theorem dX9_refusalOfForecast_14 : decode cX9_refusalOfForecast 14 = .ok (.aload_n 0, 1) := by decide +kernel
theorem dX9_refusalOfForecast_15 : decode cX9_refusalOfForecast 15 = .ok (.getfield 16, 3) := by decide +kernel
theorem dX9_refusalOfForecast_18 : decode cX9_refusalOfForecast 18 = .ok (.iload_n 1, 1) := by decide +kernel
theorem dX9_refusalOfForecast_19 : decode cX9_refusalOfForecast 19 = .ok (.invokevirtual 169, 3) := by decide +kernel
theorem dX9_refusalOfForecast_22 : decode cX9_refusalOfForecast 22 = .ok (.ifCond .eq 6, 3) := by decide +kernel
theorem dX9_refusalOfForecast_25 : decode cX9_refusalOfForecast 25 = .ok (.bipush (-5), 2) := by decide +kernel
theorem dX9_refusalOfForecast_27 : decode cX9_refusalOfForecast 27 = .ok (.ireturn, 1) := by decide +kernel
theorem dX9_refusalOfForecast_28 : decode cX9_refusalOfForecast 28 = .ok (.iload_n 2, 1) := by decide +kernel
theorem dX9_refusalOfForecast_29 : decode cX9_refusalOfForecast 29 = .ok (.iconst 1, 1) := by decide +kernel
theorem dX9_refusalOfForecast_30 : decode cX9_refusalOfForecast 30 = .ok (.if_icmp .lt 9, 3) := by decide +kernel
theorem dX9_refusalOfForecast_33 : decode cX9_refusalOfForecast 33 = .ok (.iload_n 2, 1) := by decide +kernel
theorem dX9_refusalOfForecast_34 : decode cX9_refusalOfForecast 34 = .ok (.bipush 20, 2) := by decide +kernel
theorem dX9_refusalOfForecast_36 : decode cX9_refusalOfForecast 36 = .ok (.if_icmp .le 8, 3) := by decide +kernel
theorem dX9_refusalOfForecast_39 : decode cX9_refusalOfForecast 39 = .ok (.bipush (-3), 2) := by decide +kernel
theorem dX9_refusalOfForecast_41 : decode cX9_refusalOfForecast 41 = .ok (.goto 4, 3) := by decide +kernel
theorem dX9_refusalOfForecast_44 : decode cX9_refusalOfForecast 44 = .ok (.iconst 0, 1) := by decide +kernel
theorem dX9_refusalOfForecast_45 : decode cX9_refusalOfForecast 45 = .ok (.ireturn, 1) := by decide +kernel
theorem md_X9_init : yX9_init.cls ≠ "java/lang/invoke/MethodHandle" ∧ yX9_init.cls ≠ "java/lang/invoke/VarHandle" ∧ (parseMethodDescriptor yX9_init.desc).map (fun d => d.parameters.length) = some 0 := by decide +kernel
theorem md_X9_feed : yX9_feed.cls ≠ "java/lang/invoke/MethodHandle" ∧ yX9_feed.cls ≠ "java/lang/invoke/VarHandle" ∧ (parseMethodDescriptor yX9_feed.desc).map (fun d => d.parameters.length) = some 5 := by decide +kernel
theorem md_X9_town : yX9_town.cls ≠ "java/lang/invoke/MethodHandle" ∧ yX9_town.cls ≠ "java/lang/invoke/VarHandle" ∧ (parseMethodDescriptor yX9_town.desc).map (fun d => d.parameters.length) = some 1 := by decide +kernel
theorem md_X9_fault : yX9_fault.cls ≠ "java/lang/invoke/MethodHandle" ∧ yX9_fault.cls ≠ "java/lang/invoke/VarHandle" ∧ (parseMethodDescriptor yX9_fault.desc).map (fun d => d.parameters.length) = some 1 := by decide +kernel
theorem md_X9_chimney : yX9_chimney.cls ≠ "java/lang/invoke/MethodHandle" ∧ yX9_chimney.cls ≠ "java/lang/invoke/VarHandle" ∧ (parseMethodDescriptor yX9_chimney.desc).map (fun d => d.parameters.length) = some 2 := by decide +kernel
theorem md_X9_wind : yX9_wind.cls ≠ "java/lang/invoke/MethodHandle" ∧ yX9_wind.cls ≠ "java/lang/invoke/VarHandle" ∧ (parseMethodDescriptor yX9_wind.desc).map (fun d => d.parameters.length) = some 2 := by decide +kernel
theorem md_X9_light : yX9_light.cls ≠ "java/lang/invoke/MethodHandle" ∧ yX9_light.cls ≠ "java/lang/invoke/VarHandle" ∧ (parseMethodDescriptor yX9_light.desc).map (fun d => d.parameters.length) = some 2 := by decide +kernel
theorem md_X9_out : yX9_out.cls ≠ "java/lang/invoke/MethodHandle" ∧ yX9_out.cls ≠ "java/lang/invoke/VarHandle" ∧ (parseMethodDescriptor yX9_out.desc).map (fun d => d.parameters.length) = some 1 := by decide +kernel
theorem md_X9_judge : yX9_judge.cls ≠ "java/lang/invoke/MethodHandle" ∧ yX9_judge.cls ≠ "java/lang/invoke/VarHandle" ∧ (parseMethodDescriptor yX9_judge.desc).map (fun d => d.parameters.length) = some 2 := by decide +kernel
theorem md_X9_perform : yX9_perform.cls ≠ "java/lang/invoke/MethodHandle" ∧ yX9_perform.cls ≠ "java/lang/invoke/VarHandle" ∧ (parseMethodDescriptor yX9_perform.desc).map (fun d => d.parameters.length) = some 1 := by decide +kernel
theorem md_X9_smoke : yX9_smoke.cls ≠ "java/lang/invoke/MethodHandle" ∧ yX9_smoke.cls ≠ "java/lang/invoke/VarHandle" ∧ (parseMethodDescriptor yX9_smoke.desc).map (fun d => d.parameters.length) = some 3 := by decide +kernel
theorem md_X9_puffs : yX9_puffs.cls ≠ "java/lang/invoke/MethodHandle" ∧ yX9_puffs.cls ≠ "java/lang/invoke/VarHandle" ∧ (parseMethodDescriptor yX9_puffs.desc).map (fun d => d.parameters.length) = some 1 := by decide +kernel
theorem md_X9_puff : yX9_puff.cls ≠ "java/lang/invoke/MethodHandle" ∧ yX9_puff.cls ≠ "java/lang/invoke/VarHandle" ∧ (parseMethodDescriptor yX9_puff.desc).map (fun d => d.parameters.length) = some 4 := by decide +kernel
theorem md_X9_touch : yX9_touch.cls ≠ "java/lang/invoke/MethodHandle" ∧ yX9_touch.cls ≠ "java/lang/invoke/VarHandle" ∧ (parseMethodDescriptor yX9_touch.desc).map (fun d => d.parameters.length) = some 2 := by decide +kernel
theorem md_X9_touching : yX9_touching.cls ≠ "java/lang/invoke/MethodHandle" ∧ yX9_touching.cls ≠ "java/lang/invoke/VarHandle" ∧ (parseMethodDescriptor yX9_touching.desc).map (fun d => d.parameters.length) = some 2 := by decide +kernel
theorem md_X9_pair : yX9_pair.cls ≠ "java/lang/invoke/MethodHandle" ∧ yX9_pair.cls ≠ "java/lang/invoke/VarHandle" ∧ (parseMethodDescriptor yX9_pair.desc).map (fun d => d.parameters.length) = some 1 := by decide +kernel
theorem md_X9_pays : yX9_pays.cls ≠ "java/lang/invoke/MethodHandle" ∧ yX9_pays.cls ≠ "java/lang/invoke/VarHandle" ∧ (parseMethodDescriptor yX9_pays.desc).map (fun d => d.parameters.length) = some 1 := by decide +kernel
theorem md_X9_soot : yX9_soot.cls ≠ "java/lang/invoke/MethodHandle" ∧ yX9_soot.cls ≠ "java/lang/invoke/VarHandle" ∧ (parseMethodDescriptor yX9_soot.desc).map (fun d => d.parameters.length) = some 1 := by decide +kernel
theorem md_X9_blackest : yX9_blackest.cls ≠ "java/lang/invoke/MethodHandle" ∧ yX9_blackest.cls ≠ "java/lang/invoke/VarHandle" ∧ (parseMethodDescriptor yX9_blackest.desc).map (fun d => d.parameters.length) = some 0 := by decide +kernel
theorem md_X9_free : yX9_free.cls ≠ "java/lang/invoke/MethodHandle" ∧ yX9_free.cls ≠ "java/lang/invoke/VarHandle" ∧ (parseMethodDescriptor yX9_free.desc).map (fun d => d.parameters.length) = some 1 := by decide +kernel
theorem md_X9_plan : yX9_plan.cls ≠ "java/lang/invoke/MethodHandle" ∧ yX9_plan.cls ≠ "java/lang/invoke/VarHandle" ∧ (parseMethodDescriptor yX9_plan.desc).map (fun d => d.parameters.length) = some 1 := by decide +kernel
theorem md_X9_plans : yX9_plans.cls ≠ "java/lang/invoke/MethodHandle" ∧ yX9_plans.cls ≠ "java/lang/invoke/VarHandle" ∧ (parseMethodDescriptor yX9_plans.desc).map (fun d => d.parameters.length) = some 0 := by decide +kernel
theorem md_X9_shut : yX9_shut.cls ≠ "java/lang/invoke/MethodHandle" ∧ yX9_shut.cls ≠ "java/lang/invoke/VarHandle" ∧ (parseMethodDescriptor yX9_shut.desc).map (fun d => d.parameters.length) = some 0 := by decide +kernel
theorem md_X9_most : yX9_most.cls ≠ "java/lang/invoke/MethodHandle" ∧ yX9_most.cls ≠ "java/lang/invoke/VarHandle" ∧ (parseMethodDescriptor yX9_most.desc).map (fun d => d.parameters.length) = some 2 := by decide +kernel
theorem md_X9_price : yX9_price.cls ≠ "java/lang/invoke/MethodHandle" ∧ yX9_price.cls ≠ "java/lang/invoke/VarHandle" ∧ (parseMethodDescriptor yX9_price.desc).map (fun d => d.parameters.length) = some 2 := by decide +kernel
theorem md_X9_cheapest : yX9_cheapest.cls ≠ "java/lang/invoke/MethodHandle" ∧ yX9_cheapest.cls ≠ "java/lang/invoke/VarHandle" ∧ (parseMethodDescriptor yX9_cheapest.desc).map (fun d => d.parameters.length) = some 1 := by decide +kernel
theorem md_X9_higher : yX9_higher.cls ≠ "java/lang/invoke/MethodHandle" ∧ yX9_higher.cls ≠ "java/lang/invoke/VarHandle" ∧ (parseMethodDescriptor yX9_higher.desc).map (fun d => d.parameters.length) = some 1 := by decide +kernel
theorem md_X9_thickness : yX9_thickness.cls ≠ "java/lang/invoke/MethodHandle" ∧ yX9_thickness.cls ≠ "java/lang/invoke/VarHandle" ∧ (parseMethodDescriptor yX9_thickness.desc).map (fun d => d.parameters.length) = some 0 := by decide +kernel
theorem md_X9_sheets : yX9_sheets.cls ≠ "java/lang/invoke/MethodHandle" ∧ yX9_sheets.cls ≠ "java/lang/invoke/VarHandle" ∧ (parseMethodDescriptor yX9_sheets.desc).map (fun d => d.parameters.length) = some 1 := by decide +kernel
theorem md_X9_sheet : yX9_sheet.cls ≠ "java/lang/invoke/MethodHandle" ∧ yX9_sheet.cls ≠ "java/lang/invoke/VarHandle" ∧ (parseMethodDescriptor yX9_sheet.desc).map (fun d => d.parameters.length) = some 3 := by decide +kernel
theorem md_X9_sure : yX9_sure.cls ≠ "java/lang/invoke/MethodHandle" ∧ yX9_sure.cls ≠ "java/lang/invoke/VarHandle" ∧ (parseMethodDescriptor yX9_sure.desc).map (fun d => d.parameters.length) = some 1 := by decide +kernel
theorem md_X9_gusts : yX9_gusts.cls ≠ "java/lang/invoke/MethodHandle" ∧ yX9_gusts.cls ≠ "java/lang/invoke/VarHandle" ∧ (parseMethodDescriptor yX9_gusts.desc).map (fun d => d.parameters.length) = some 1 := by decide +kernel
theorem md_X9_calm : yX9_calm.cls ≠ "java/lang/invoke/MethodHandle" ∧ yX9_calm.cls ≠ "java/lang/invoke/VarHandle" ∧ (parseMethodDescriptor yX9_calm.desc).map (fun d => d.parameters.length) = some 1 := by decide +kernel
theorem md_X9_steady : yX9_steady.cls ≠ "java/lang/invoke/MethodHandle" ∧ yX9_steady.cls ≠ "java/lang/invoke/VarHandle" ∧ (parseMethodDescriptor yX9_steady.desc).map (fun d => d.parameters.length) = some 1 := by decide +kernel
theorem md_X9_best : yX9_best.cls ≠ "java/lang/invoke/MethodHandle" ∧ yX9_best.cls ≠ "java/lang/invoke/VarHandle" ∧ (parseMethodDescriptor yX9_best.desc).map (fun d => d.parameters.length) = some 2 := by decide +kernel
theorem md_X9_breaks : yX9_breaks.cls ≠ "java/lang/invoke/MethodHandle" ∧ yX9_breaks.cls ≠ "java/lang/invoke/VarHandle" ∧ (parseMethodDescriptor yX9_breaks.desc).map (fun d => d.parameters.length) = some 1 := by decide +kernel
theorem md_X9_worth : yX9_worth.cls ≠ "java/lang/invoke/MethodHandle" ∧ yX9_worth.cls ≠ "java/lang/invoke/VarHandle" ∧ (parseMethodDescriptor yX9_worth.desc).map (fun d => d.parameters.length) = some 2 := by decide +kernel
theorem md_X9_sky : yX9_sky.cls ≠ "java/lang/invoke/MethodHandle" ∧ yX9_sky.cls ≠ "java/lang/invoke/VarHandle" ∧ (parseMethodDescriptor yX9_sky.desc).map (fun d => d.parameters.length) = some 0 := by decide +kernel
theorem md_X9_numbers : yX9_numbers.cls ≠ "java/lang/invoke/MethodHandle" ∧ yX9_numbers.cls ≠ "java/lang/invoke/VarHandle" ∧ (parseMethodDescriptor yX9_numbers.desc).map (fun d => d.parameters.length) = some 3 := by decide +kernel
theorem md_X9_write : yX9_write.cls ≠ "java/lang/invoke/MethodHandle" ∧ yX9_write.cls ≠ "java/lang/invoke/VarHandle" ∧ (parseMethodDescriptor yX9_write.desc).map (fun d => d.parameters.length) = some 3 := by decide +kernel
theorem md_X9_copy : yX9_copy.cls ≠ "java/lang/invoke/MethodHandle" ∧ yX9_copy.cls ≠ "java/lang/invoke/VarHandle" ∧ (parseMethodDescriptor yX9_copy.desc).map (fun d => d.parameters.length) = some 1 := by decide +kernel
theorem md_X9_image : yX9_image.cls ≠ "java/lang/invoke/MethodHandle" ∧ yX9_image.cls ≠ "java/lang/invoke/VarHandle" ∧ (parseMethodDescriptor yX9_image.desc).map (fun d => d.parameters.length) = some 1 := by decide +kernel
theorem md_X9_restore : yX9_restore.cls ≠ "java/lang/invoke/MethodHandle" ∧ yX9_restore.cls ≠ "java/lang/invoke/VarHandle" ∧ (parseMethodDescriptor yX9_restore.desc).map (fun d => d.parameters.length) = some 1 := by decide +kernel
theorem md_X9_count : yX9_count.cls ≠ "java/lang/invoke/MethodHandle" ∧ yX9_count.cls ≠ "java/lang/invoke/VarHandle" ∧ (parseMethodDescriptor yX9_count.desc).map (fun d => d.parameters.length) = some 1 := by decide +kernel
theorem md_X9_isQuarter : yX9_isQuarter.cls ≠ "java/lang/invoke/MethodHandle" ∧ yX9_isQuarter.cls ≠ "java/lang/invoke/VarHandle" ∧ (parseMethodDescriptor yX9_isQuarter.desc).map (fun d => d.parameters.length) = some 1 := by decide +kernel
theorem md_X9_isLightingQuarter : yX9_isLightingQuarter.cls ≠ "java/lang/invoke/MethodHandle" ∧ yX9_isLightingQuarter.cls ≠ "java/lang/invoke/VarHandle" ∧ (parseMethodDescriptor yX9_isLightingQuarter.desc).map (fun d => d.parameters.length) = some 1 := by decide +kernel
theorem md_X9_isX : yX9_isX.cls ≠ "java/lang/invoke/MethodHandle" ∧ yX9_isX.cls ≠ "java/lang/invoke/VarHandle" ∧ (parseMethodDescriptor yX9_isX.desc).map (fun d => d.parameters.length) = some 1 := by decide +kernel
theorem md_X9_rowAt : yX9_rowAt.cls ≠ "java/lang/invoke/MethodHandle" ∧ yX9_rowAt.cls ≠ "java/lang/invoke/VarHandle" ∧ (parseMethodDescriptor yX9_rowAt.desc).map (fun d => d.parameters.length) = some 1 := by decide +kernel
theorem md_X9_areTwo : yX9_areTwo.cls ≠ "java/lang/invoke/MethodHandle" ∧ yX9_areTwo.cls ≠ "java/lang/invoke/VarHandle" ∧ (parseMethodDescriptor yX9_areTwo.desc).map (fun d => d.parameters.length) = some 2 := by decide +kernel
theorem md_X9_putOnTape : yX9_putOnTape.cls ≠ "java/lang/invoke/MethodHandle" ∧ yX9_putOnTape.cls ≠ "java/lang/invoke/VarHandle" ∧ (parseMethodDescriptor yX9_putOnTape.desc).map (fun d => d.parameters.length) = some 1 := by decide +kernel
theorem md_X9_settle : yX9_settle.cls ≠ "java/lang/invoke/MethodHandle" ∧ yX9_settle.cls ≠ "java/lang/invoke/VarHandle" ∧ (parseMethodDescriptor yX9_settle.desc).map (fun d => d.parameters.length) = some 1 := by decide +kernel
theorem md_X9_gatherPairs : yX9_gatherPairs.cls ≠ "java/lang/invoke/MethodHandle" ∧ yX9_gatherPairs.cls ≠ "java/lang/invoke/VarHandle" ∧ (parseMethodDescriptor yX9_gatherPairs.desc).map (fun d => d.parameters.length) = some 0 := by decide +kernel
theorem md_X9_insertPair : yX9_insertPair.cls ≠ "java/lang/invoke/MethodHandle" ∧ yX9_insertPair.cls ≠ "java/lang/invoke/VarHandle" ∧ (parseMethodDescriptor yX9_insertPair.desc).map (fun d => d.parameters.length) = some 2 := by decide +kernel
theorem md_X9_dueFrom : yX9_dueFrom.cls ≠ "java/lang/invoke/MethodHandle" ∧ yX9_dueFrom.cls ≠ "java/lang/invoke/VarHandle" ∧ (parseMethodDescriptor yX9_dueFrom.desc).map (fun d => d.parameters.length) = some 1 := by decide +kernel
theorem md_X9_dueFromAll : yX9_dueFromAll.cls ≠ "java/lang/invoke/MethodHandle" ∧ yX9_dueFromAll.cls ≠ "java/lang/invoke/VarHandle" ∧ (parseMethodDescriptor yX9_dueFromAll.desc).map (fun d => d.parameters.length) = some 0 := by decide +kernel
theorem md_X9_priceIn : yX9_priceIn.cls ≠ "java/lang/invoke/MethodHandle" ∧ yX9_priceIn.cls ≠ "java/lang/invoke/VarHandle" ∧ (parseMethodDescriptor yX9_priceIn.desc).map (fun d => d.parameters.length) = some 2 := by decide +kernel
theorem md_X9_gatherSoot : yX9_gatherSoot.cls ≠ "java/lang/invoke/MethodHandle" ∧ yX9_gatherSoot.cls ≠ "java/lang/invoke/VarHandle" ∧ (parseMethodDescriptor yX9_gatherSoot.desc).map (fun d => d.parameters.length) = some 0 := by decide +kernel
theorem md_X9_markSmoky : yX9_markSmoky.cls ≠ "java/lang/invoke/MethodHandle" ∧ yX9_markSmoky.cls ≠ "java/lang/invoke/VarHandle" ∧ (parseMethodDescriptor yX9_markSmoky.desc).map (fun d => d.parameters.length) = some 2 := by decide +kernel
theorem md_X9_refusalOfSheets : yX9_refusalOfSheets.cls ≠ "java/lang/invoke/MethodHandle" ∧ yX9_refusalOfSheets.cls ≠ "java/lang/invoke/VarHandle" ∧ (parseMethodDescriptor yX9_refusalOfSheets.desc).map (fun d => d.parameters.length) = some 1 := by decide +kernel
theorem md_X9_refusalOfForecast : yX9_refusalOfForecast.cls ≠ "java/lang/invoke/MethodHandle" ∧ yX9_refusalOfForecast.cls ≠ "java/lang/invoke/VarHandle" ∧ (parseMethodDescriptor yX9_refusalOfForecast.desc).map (fun d => d.parameters.length) = some 2 := by decide +kernel
