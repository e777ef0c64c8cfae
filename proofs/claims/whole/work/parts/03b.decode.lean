theorem dX11_set_32 : decode cX11_set 32 = .ok (.aload_n 0, 1) := by decide +kernel
theorem dX11_set_33 : decode cX11_set 33 = .ok (.getfield 38, 3) := by decide +kernel
theorem dX11_set_36 : decode cX11_set 36 = .ok (.getfield 127, 3) := by decide +kernel
theorem dX11_set_39 : decode cX11_set 39 = .ok (.iload_n 1, 1) := by decide +kernel
theorem dX11_set_40 : decode cX11_set 40 = .ok (.iload_n 2, 1) := by decide +kernel
theorem dX11_set_41 : decode cX11_set 41 = .ok (.iastore, 1) := by decide +kernel
theorem dX11_set_42 : decode cX11_set 42 = .ok (.iconst 1, 1) := by decide +kernel
theorem dX11_set_43 : decode cX11_set 43 = .ok (.ireturn, 1) := by decide +kernel
theorem dX11_feed_0 : decode cX11_feed 0 = .ok (.aload_n 0, 1) := by decide +kernel
theorem dX11_feed_1 : decode cX11_feed 1 = .ok (.getfield 12, 3) := by decide +kernel
theorem dX11_feed_4 : decode cX11_feed 4 = .ok (.getfield 130, 3) := by decide +kernel
theorem dX11_feed_7 : decode cX11_feed 7 = .ok (.bipush 20, 2) := by decide +kernel
theorem dX11_feed_9 : decode cX11_feed 9 = .ok (.iadd, 1) := by decide +kernel
theorem dX11_feed_10 : decode cX11_feed 10 = .ok (.sipush 500, 3) := by decide +kernel
theorem dX11_feed_13 : decode cX11_feed 13 = .ok (.if_icmp .le 5, 3) := by decide +kernel
theorem dX11_feed_16 : decode cX11_feed 16 = .ok (.iconst (-1), 1) := by decide +kernel
theorem dX11_feed_17 : decode cX11_feed 17 = .ok (.ireturn, 1) := by decide +kernel
theorem dX11_feed_18 : decode cX11_feed 18 = .ok (.aload_n 0, 1) := by decide +kernel
theorem dX11_feed_19 : decode cX11_feed 19 = .ok (.getfield 12, 3) := by decide +kernel
theorem dX11_feed_22 : decode cX11_feed 22 = .ok (.iload_n 1, 1) := by decide +kernel
theorem dX11_feed_23 : decode cX11_feed 23 = .ok (.invokevirtual 133, 3) := by decide +kernel
theorem dX11_feed_26 : decode cX11_feed 26 = .ok (.aload_n 0, 1) := by decide +kernel
theorem dX11_feed_27 : decode cX11_feed 27 = .ok (.getfield 12, 3) := by decide +kernel
theorem dX11_feed_30 : decode cX11_feed 30 = .ok (.iload_n 2, 1) := by decide +kernel
theorem dX11_feed_31 : decode cX11_feed 31 = .ok (.invokevirtual 133, 3) := by decide +kernel
theorem dX11_feed_34 : decode cX11_feed 34 = .ok (.aload_n 0, 1) := by decide +kernel
theorem dX11_feed_35 : decode cX11_feed 35 = .ok (.getfield 12, 3) := by decide +kernel
theorem dX11_feed_38 : decode cX11_feed 38 = .ok (.iload_n 3, 1) := by decide +kernel
theorem dX11_feed_39 : decode cX11_feed 39 = .ok (.invokevirtual 133, 3) := by decide +kernel
theorem dX11_feed_42 : decode cX11_feed 42 = .ok (.aload_n 0, 1) := by decide +kernel
theorem dX11_feed_43 : decode cX11_feed 43 = .ok (.getfield 12, 3) := by decide +kernel
theorem dX11_feed_46 : decode cX11_feed 46 = .ok (.iload 4, 2) := by decide +kernel
theorem dX11_feed_48 : decode cX11_feed 48 = .ok (.invokevirtual 133, 3) := by decide +kernel
theorem dX11_feed_51 : decode cX11_feed 51 = .ok (.aload_n 0, 1) := by decide +kernel
theorem dX11_feed_52 : decode cX11_feed 52 = .ok (.getfield 12, 3) := by decide +kernel
theorem dX11_feed_55 : decode cX11_feed 55 = .ok (.iload 5, 2) := by decide +kernel
theorem dX11_feed_57 : decode cX11_feed 57 = .ok (.invokevirtual 133, 3) := by decide +kernel
theorem dX11_feed_60 : decode cX11_feed 60 = .ok (.aload_n 0, 1) := by decide +kernel
theorem dX11_feed_61 : decode cX11_feed 61 = .ok (.getfield 12, 3) := by decide +kernel
theorem dX11_feed_64 : decode cX11_feed 64 = .ok (.getfield 130, 3) := by decide +kernel
theorem dX11_feed_67 : decode cX11_feed 67 = .ok (.ireturn, 1) := by decide +kernel
theorem dX11_end_0 : decode cX11_end 0 = .ok (.iload_n 1, 1) := by decide +kernel
theorem dX11_end_1 : decode cX11_end 1 = .ok (.ifCond .lt 14, 3) := by decide +kernel
theorem dX11_end_4 : decode cX11_end 4 = .ok (.iload_n 1, 1) := by decide +kernel
theorem dX11_end_5 : decode cX11_end 5 = .ok (.aload_n 0, 1) := by decide +kernel
theorem dX11_end_6 : decode cX11_end 6 = .ok (.getfield 12, 3) := by decide +kernel
theorem dX11_end_9 : decode cX11_end 9 = .ok (.getfield 130, 3) := by decide +kernel
theorem dX11_end_12 : decode cX11_end 12 = .ok (.if_icmp .le 5, 3) := by decide +kernel
theorem dX11_end_15 : decode cX11_end 15 = .ok (.iconst 0, 1) := by decide +kernel
theorem dX11_end_16 : decode cX11_end 16 = .ok (.ireturn, 1) := by decide +kernel
theorem dX11_end_17 : decode cX11_end 17 = .ok (.aload_n 0, 1) := by decide +kernel
theorem dX11_end_18 : decode cX11_end 18 = .ok (.getfield 12, 3) := by decide +kernel
theorem dX11_end_21 : decode cX11_end 21 = .ok (.iload_n 1, 1) := by decide +kernel
theorem dX11_end_22 : decode cX11_end 22 = .ok (.putfield 130, 3) := by decide +kernel
theorem dX11_end_25 : decode cX11_end 25 = .ok (.iconst 1, 1) := by decide +kernel
theorem dX11_end_26 : decode cX11_end 26 = .ok (.ireturn, 1) := by decide +kernel
theorem dX11_text_0 : decode cX11_text 0 = .ok (.iconst (-1), 1) := by decide +kernel
theorem dX11_text_1 : decode cX11_text 1 = .ok (.istore_n 2, 1) := by decide +kernel
theorem dX11_text_2 : decode cX11_text 2 = .ok (.aload_n 0, 1) := by decide +kernel
theorem dX11_text_3 : decode cX11_text 3 = .ok (.iconst 0, 1) := by decide +kernel
theorem dX11_text_4 : decode cX11_text 4 = .ok (.putfield 136, 3) := by decide +kernel
theorem dX11_text_7 : decode cX11_text 7 = .ok (.aload_n 0, 1) := by decide +kernel
theorem dX11_text_8 : decode cX11_text 8 = .ok (.iconst (-1), 1) := by decide +kernel
theorem dX11_text_9 : decode cX11_text 9 = .ok (.putfield 87, 3) := by decide +kernel
theorem dX11_text_12 : decode cX11_text 12 = .ok (.iload_n 1, 1) := by decide +kernel
theorem dX11_text_13 : decode cX11_text 13 = .ok (.ifCond .lt 62, 3) := by decide +kernel
theorem dX11_text_16 : decode cX11_text 16 = .ok (.iload_n 1, 1) := by decide +kernel
theorem dX11_text_17 : decode cX11_text 17 = .ok (.iconst 3, 1) := by decide +kernel
theorem dX11_text_18 : decode cX11_text 18 = .ok (.if_icmp .gt 57, 3) := by decide +kernel
theorem dX11_text_21 : decode cX11_text 21 = .ok (.iload_n 1, 1) := by decide +kernel
theorem dX11_text_22 : decode cX11_text 22 = .ok (.iconst 3, 1) := by decide +kernel
theorem dX11_text_23 : decode cX11_text 23 = .ok (.if_icmp .ne 13, 3) := by decide +kernel
theorem dX11_text_26 : decode cX11_text 26 = .ok (.aload_n 0, 1) := by decide +kernel
theorem dX11_text_27 : decode cX11_text 27 = .ok (.getfield 21, 3) := by decide +kernel
theorem dX11_text_30 : decode cX11_text 30 = .ok (.invokevirtual 139, 3) := by decide +kernel
theorem dX11_text_33 : decode cX11_text 33 = .ok (.goto 19, 3) := by decide +kernel
theorem dX11_text_36 : decode cX11_text 36 = .ok (.aload_n 0, 1) := by decide +kernel
theorem dX11_text_37 : decode cX11_text 37 = .ok (.getfield 21, 3) := by decide +kernel
theorem dX11_text_40 : decode cX11_text 40 = .ok (.iload_n 1, 1) := by decide +kernel
theorem dX11_text_41 : decode cX11_text 41 = .ok (.ifCond .ne 7, 3) := by decide +kernel
theorem dX11_text_44 : decode cX11_text 44 = .ok (.iconst 1, 1) := by decide +kernel
theorem dX11_text_45 : decode cX11_text 45 = .ok (.goto 4, 3) := by decide +kernel
theorem dX11_text_48 : decode cX11_text 48 = .ok (.iconst 0, 1) := by decide +kernel
theorem dX11_text_49 : decode cX11_text 49 = .ok (.invokevirtual 143, 3) := by decide +kernel
theorem dX11_text_52 : decode cX11_text 52 = .ok (.istore_n 2, 1) := by decide +kernel
theorem dX11_text_53 : decode cX11_text 53 = .ok (.aload_n 0, 1) := by decide +kernel
theorem dX11_text_54 : decode cX11_text 54 = .ok (.aload_n 0, 1) := by decide +kernel
theorem dX11_text_55 : decode cX11_text 55 = .ok (.getfield 21, 3) := by decide +kernel
theorem dX11_text_58 : decode cX11_text 58 = .ok (.getfield 147, 3) := by decide +kernel
theorem dX11_text_61 : decode cX11_text 61 = .ok (.putfield 136, 3) := by decide +kernel
theorem dX11_text_64 : decode cX11_text 64 = .ok (.aload_n 0, 1) := by decide +kernel
theorem dX11_text_65 : decode cX11_text 65 = .ok (.aload_n 0, 1) := by decide +kernel
theorem dX11_text_66 : decode cX11_text 66 = .ok (.getfield 21, 3) := by decide +kernel
theorem dX11_text_69 : decode cX11_text 69 = .ok (.getfield 148, 3) := by decide +kernel
theorem dX11_text_72 : decode cX11_text 72 = .ok (.putfield 87, 3) := by decide +kernel
theorem dX11_text_75 : decode cX11_text 75 = .ok (.iload_n 2, 1) := by decide +kernel
theorem dX11_text_76 : decode cX11_text 76 = .ok (.iconst (-1), 1) := by decide +kernel
theorem dX11_text_77 : decode cX11_text 77 = .ok (.if_icmp .eq 8, 3) := by decide +kernel
theorem dX11_text_80 : decode cX11_text 80 = .ok (.aload_n 0, 1) := by decide +kernel
theorem dX11_text_81 : decode cX11_text 81 = .ok (.iload_n 1, 1) := by decide +kernel
theorem dX11_text_82 : decode cX11_text 82 = .ok (.invokevirtual 149, 3) := by decide +kernel
theorem dX11_text_85 : decode cX11_text 85 = .ok (.aload_n 0, 1) := by decide +kernel
theorem dX11_text_86 : decode cX11_text 86 = .ok (.getfield 12, 3) := by decide +kernel
theorem dX11_text_89 : decode cX11_text 89 = .ok (.iconst 0, 1) := by decide +kernel
theorem dX11_text_90 : decode cX11_text 90 = .ok (.putfield 130, 3) := by decide +kernel
theorem dX11_text_93 : decode cX11_text 93 = .ok (.iload_n 2, 1) := by decide +kernel
theorem dX11_text_94 : decode cX11_text 94 = .ok (.ireturn, 1) := by decide +kernel
theorem dX11_fault_0 : decode cX11_fault 0 = .ok (.iload_n 1, 1) := by decide +kernel
theorem dX11_fault_1 : decode cX11_fault 1 = .ok (.ifCond .ne 8, 3) := by decide +kernel
theorem dX11_fault_4 : decode cX11_fault 4 = .ok (.aload_n 0, 1) := by decide +kernel
theorem dX11_fault_5 : decode cX11_fault 5 = .ok (.getfield 136, 3) := by decide +kernel
theorem dX11_fault_8 : decode cX11_fault 8 = .ok (.ireturn, 1) := by decide +kernel
theorem dX11_fault_9 : decode cX11_fault 9 = .ok (.iload_n 1, 1) := by decide +kernel
theorem dX11_fault_10 : decode cX11_fault 10 = .ok (.iconst 1, 1) := by decide +kernel
theorem dX11_fault_11 : decode cX11_fault 11 = .ok (.if_icmp .ne 10, 3) := by decide +kernel
theorem dX11_fault_14 : decode cX11_fault 14 = .ok (.aload_n 0, 1) := by decide +kernel
theorem dX11_fault_15 : decode cX11_fault 15 = .ok (.getfield 87, 3) := by decide +kernel
theorem dX11_fault_18 : decode cX11_fault 18 = .ok (.goto 4, 3) := by decide +kernel
theorem dX11_fault_21 : decode cX11_fault 21 = .ok (.iconst (-1), 1) := by decide +kernel
theorem dX11_fault_22 : decode cX11_fault 22 = .ok (.ireturn, 1) := by decide +kernel
theorem dX11_of_0 : decode cX11_of 0 = .ok (.aload_n 0, 1) := by decide +kernel
theorem dX11_of_1 : decode cX11_of 1 = .ok (.getfield 38, 3) := by decide +kernel
theorem dX11_of_4 : decode cX11_of 4 = .ok (.iload_n 1, 1) := by decide +kernel
theorem dX11_of_5 : decode cX11_of 5 = .ok (.invokevirtual 98, 3) := by decide +kernel
theorem dX11_of_8 : decode cX11_of 8 = .ok (.ifCond .ne 6, 3) := by decide +kernel
theorem dX11_of_11 : decode cX11_of 11 = .ok (.ldc 152, 2) := by decide +kernel
theorem dX11_of_13 : decode cX11_of 13 = .ok (.ireturn, 1) := by decide +kernel
theorem dX11_of_14 : decode cX11_of 14 = .ok (.iload_n 2, 1) := by decide +kernel
theorem dX11_of_15 : decode cX11_of 15 = .ok (.tableswitch 209 0 9 #[53, 63, 73, 85, 95, 107, 139, 159, 179, 199], 53) := by decide +kernel
theorem dX11_of_68 : decode cX11_of 68 = .ok (.aload_n 0, 1) := by decide +kernel
theorem dX11_of_69 : decode cX11_of 69 = .ok (.getfield 38, 3) := by decide +kernel
theorem dX11_of_72 : decode cX11_of 72 = .ok (.getfield 102, 3) := by decide +kernel
theorem dX11_of_75 : decode cX11_of 75 = .ok (.iload_n 1, 1) := by decide +kernel
theorem dX11_of_76 : decode cX11_of 76 = .ok (.iaload, 1) := by decide +kernel
theorem dX11_of_77 : decode cX11_of 77 = .ok (.ireturn, 1) := by decide +kernel
theorem dX11_of_78 : decode cX11_of 78 = .ok (.aload_n 0, 1) := by decide +kernel
theorem dX11_of_79 : decode cX11_of 79 = .ok (.getfield 38, 3) := by decide +kernel
theorem dX11_of_82 : decode cX11_of 82 = .ok (.getfield 106, 3) := by decide +kernel
theorem dX11_of_85 : decode cX11_of 85 = .ok (.iload_n 1, 1) := by decide +kernel
theorem dX11_of_86 : decode cX11_of 86 = .ok (.iaload, 1) := by decide +kernel
theorem dX11_of_87 : decode cX11_of 87 = .ok (.ireturn, 1) := by decide +kernel
theorem dX11_of_88 : decode cX11_of 88 = .ok (.aload_n 0, 1) := by decide +kernel
theorem dX11_of_89 : decode cX11_of 89 = .ok (.getfield 38, 3) := by decide +kernel
theorem dX11_of_92 : decode cX11_of 92 = .ok (.getfield 109, 3) := by decide +kernel
theorem dX11_of_95 : decode cX11_of 95 = .ok (.iload_n 1, 1) := by decide +kernel
theorem dX11_of_96 : decode cX11_of 96 = .ok (.invokestatic 153, 3) := by decide +kernel
theorem dX11_of_99 : decode cX11_of 99 = .ok (.ireturn, 1) := by decide +kernel
theorem dX11_of_100 : decode cX11_of 100 = .ok (.aload_n 0, 1) := by decide +kernel
theorem dX11_of_101 : decode cX11_of 101 = .ok (.getfield 38, 3) := by decide +kernel
theorem dX11_of_104 : decode cX11_of 104 = .ok (.getfield 157, 3) := by decide +kernel
theorem dX11_of_107 : decode cX11_of 107 = .ok (.iload_n 1, 1) := by decide +kernel
theorem dX11_of_108 : decode cX11_of 108 = .ok (.iaload, 1) := by decide +kernel
theorem dX11_of_109 : decode cX11_of 109 = .ok (.ireturn, 1) := by decide +kernel
theorem dX11_of_110 : decode cX11_of 110 = .ok (.aload_n 0, 1) := by decide +kernel
theorem dX11_of_111 : decode cX11_of 111 = .ok (.getfield 38, 3) := by decide +kernel
theorem dX11_of_114 : decode cX11_of 114 = .ok (.getfield 160, 3) := by decide +kernel
theorem dX11_of_117 : decode cX11_of 117 = .ok (.iload_n 1, 1) := by decide +kernel
theorem dX11_of_118 : decode cX11_of 118 = .ok (.invokestatic 153, 3) := by decide +kernel
theorem dX11_of_121 : decode cX11_of 121 = .ok (.ireturn, 1) := by decide +kernel
theorem dX11_of_122 : decode cX11_of 122 = .ok (.aload_n 0, 1) := by decide +kernel
theorem dX11_of_123 : decode cX11_of 123 = .ok (.getfield 51, 3) := by decide +kernel
theorem dX11_of_126 : decode cX11_of 126 = .ok (.aload_n 0, 1) := by decide +kernel
theorem dX11_of_127 : decode cX11_of 127 = .ok (.getfield 38, 3) := by decide +kernel
theorem dX11_of_130 : decode cX11_of 130 = .ok (.aload_n 0, 1) := by decide +kernel
theorem dX11_of_131 : decode cX11_of 131 = .ok (.getfield 28, 3) := by decide +kernel
theorem dX11_of_134 : decode cX11_of 134 = .ok (.getfield 163, 3) := by decide +kernel
theorem dX11_of_137 : decode cX11_of 137 = .ok (.iload_n 1, 1) := by decide +kernel
theorem dX11_of_138 : decode cX11_of 138 = .ok (.aload_n 0, 1) := by decide +kernel
theorem dX11_of_139 : decode cX11_of 139 = .ok (.getfield 38, 3) := by decide +kernel
theorem dX11_of_142 : decode cX11_of 142 = .ok (.getfield 109, 3) := by decide +kernel
theorem dX11_of_145 : decode cX11_of 145 = .ok (.iload_n 1, 1) := by decide +kernel
theorem dX11_of_146 : decode cX11_of 146 = .ok (.invokestatic 167, 3) := by decide +kernel
theorem dX11_of_149 : decode cX11_of 149 = .ok (.iconst 0, 1) := by decide +kernel
theorem dX11_of_150 : decode cX11_of 150 = .ok (.invokevirtual 170, 3) := by decide +kernel
theorem dX11_of_153 : decode cX11_of 153 = .ok (.ireturn, 1) := by decide +kernel
theorem dX11_of_154 : decode cX11_of 154 = .ok (.aload_n 0, 1) := by decide +kernel
theorem dX11_of_155 : decode cX11_of 155 = .ok (.getfield 51, 3) := by decide +kernel
theorem dX11_of_158 : decode cX11_of 158 = .ok (.aload_n 0, 1) := by decide +kernel
theorem dX11_of_159 : decode cX11_of 159 = .ok (.getfield 38, 3) := by decide +kernel
theorem dX11_of_162 : decode cX11_of 162 = .ok (.aload_n 0, 1) := by decide +kernel
theorem dX11_of_163 : decode cX11_of 163 = .ok (.getfield 28, 3) := by decide +kernel
theorem dX11_of_166 : decode cX11_of 166 = .ok (.getfield 163, 3) := by decide +kernel
theorem dX11_of_169 : decode cX11_of 169 = .ok (.iload_n 1, 1) := by decide +kernel
theorem dX11_of_170 : decode cX11_of 170 = .ok (.invokevirtual 174, 3) := by decide +kernel
theorem dX11_of_173 : decode cX11_of 173 = .ok (.ireturn, 1) := by decide +kernel
theorem dX11_of_174 : decode cX11_of 174 = .ok (.aload_n 0, 1) := by decide +kernel
theorem dX11_of_175 : decode cX11_of 175 = .ok (.getfield 51, 3) := by decide +kernel
theorem dX11_of_178 : decode cX11_of 178 = .ok (.aload_n 0, 1) := by decide +kernel
theorem dX11_of_179 : decode cX11_of 179 = .ok (.getfield 38, 3) := by decide +kernel
theorem dX11_of_182 : decode cX11_of 182 = .ok (.aload_n 0, 1) := by decide +kernel
theorem dX11_of_183 : decode cX11_of 183 = .ok (.getfield 28, 3) := by decide +kernel
theorem dX11_of_186 : decode cX11_of 186 = .ok (.getfield 178, 3) := by decide +kernel
theorem dX11_of_189 : decode cX11_of 189 = .ok (.iload_n 1, 1) := by decide +kernel
theorem dX11_of_190 : decode cX11_of 190 = .ok (.invokevirtual 181, 3) := by decide +kernel
theorem dX11_of_193 : decode cX11_of 193 = .ok (.ireturn, 1) := by decide +kernel
theorem dX11_of_194 : decode cX11_of 194 = .ok (.aload_n 0, 1) := by decide +kernel
theorem dX11_of_195 : decode cX11_of 195 = .ok (.getfield 51, 3) := by decide +kernel
theorem dX11_of_198 : decode cX11_of 198 = .ok (.aload_n 0, 1) := by decide +kernel
theorem dX11_of_199 : decode cX11_of 199 = .ok (.getfield 38, 3) := by decide +kernel
theorem dX11_of_202 : decode cX11_of 202 = .ok (.aload_n 0, 1) := by decide +kernel
theorem dX11_of_203 : decode cX11_of 203 = .ok (.getfield 28, 3) := by decide +kernel
theorem dX11_of_206 : decode cX11_of 206 = .ok (.getfield 184, 3) := by decide +kernel
theorem dX11_of_209 : decode cX11_of 209 = .ok (.iload_n 1, 1) := by decide +kernel
theorem dX11_of_210 : decode cX11_of 210 = .ok (.invokevirtual 181, 3) := by decide +kernel
theorem dX11_of_213 : decode cX11_of 213 = .ok (.ireturn, 1) := by decide +kernel
theorem dX11_of_214 : decode cX11_of 214 = .ok (.aload_n 0, 1) := by decide +kernel
theorem dX11_of_215 : decode cX11_of 215 = .ok (.getfield 38, 3) := by decide +kernel
theorem dX11_of_218 : decode cX11_of 218 = .ok (.getfield 187, 3) := by decide +kernel
theorem dX11_of_221 : decode cX11_of 221 = .ok (.iload_n 1, 1) := by decide +kernel
theorem dX11_of_222 : decode cX11_of 222 = .ok (.iaload, 1) := by decide +kernel
theorem dX11_of_223 : decode cX11_of 223 = .ok (.ireturn, 1) := by decide +kernel
theorem dX11_of_224 : decode cX11_of 224 = .ok (.ldc 152, 2) := by decide +kernel
theorem dX11_of_226 : decode cX11_of 226 = .ok (.ireturn, 1) := by decide +kernel
theorem dX11_see_0 : decode cX11_see 0 = .ok (.aload_n 0, 1) := by decide +kernel
theorem dX11_see_1 : decode cX11_see 1 = .ok (.getfield 38, 3) := by decide +kernel
theorem dX11_see_4 : decode cX11_see 4 = .ok (.iload_n 1, 1) := by decide +kernel
theorem dX11_see_5 : decode cX11_see 5 = .ok (.invokevirtual 98, 3) := by decide +kernel
theorem dX11_see_8 : decode cX11_see 8 = .ok (.ifCond .ne 5, 3) := by decide +kernel
theorem dX11_see_11 : decode cX11_see 11 = .ok (.iconst 0, 1) := by decide +kernel
theorem dX11_see_12 : decode cX11_see 12 = .ok (.ireturn, 1) := by decide +kernel
theorem dX11_see_13 : decode cX11_see 13 = .ok (.aload_n 0, 1) := by decide +kernel
theorem dX11_see_14 : decode cX11_see 14 = .ok (.getfield 38, 3) := by decide +kernel
theorem dX11_see_17 : decode cX11_see 17 = .ok (.iload_n 1, 1) := by decide +kernel
theorem dX11_see_18 : decode cX11_see 18 = .ok (.invokevirtual 190, 3) := by decide +kernel
theorem dX11_see_21 : decode cX11_see 21 = .ok (.iconst 1, 1) := by decide +kernel
theorem dX11_see_22 : decode cX11_see 22 = .ok (.ireturn, 1) := by decide +kernel
theorem dX11_fails_0 : decode cX11_fails 0 = .ok (.iload_n 1, 1) := by decide +kernel
theorem dX11_fails_1 : decode cX11_fails 1 = .ok (.bipush 30, 2) := by decide +kernel
theorem dX11_fails_3 : decode cX11_fails 3 = .ok (.iushr, 1) := by decide +kernel
theorem dX11_fails_4 : decode cX11_fails 4 = .ok (.ifCond .ne 10, 3) := by decide +kernel
theorem dX11_fails_7 : decode cX11_fails 7 = .ok (.iload_n 2, 1) := by decide +kernel
theorem dX11_fails_8 : decode cX11_fails 8 = .ok (.bipush 30, 2) := by decide +kernel
theorem dX11_fails_10 : decode cX11_fails 10 = .ok (.iushr, 1) := by decide +kernel
theorem dX11_fails_11 : decode cX11_fails 11 = .ok (.ifCond .eq 5, 3) := by decide +kernel
theorem dX11_fails_14 : decode cX11_fails 14 = .ok (.iconst (-1), 1) := by decide +kernel
theorem dX11_fails_15 : decode cX11_fails 15 = .ok (.ireturn, 1) := by decide +kernel
theorem dX11_fails_16 : decode cX11_fails 16 = .ok (.iload_n 2, 1) := by decide +kernel
theorem dX11_fails_17 : decode cX11_fails 17 = .ok (.i2l, 1) := by decide +kernel
theorem dX11_fails_18 : decode cX11_fails 18 = .ok (.bipush 30, 2) := by decide +kernel
theorem dX11_fails_20 : decode cX11_fails 20 = .ok (.lshl, 1) := by decide +kernel
theorem dX11_fails_21 : decode cX11_fails 21 = .ok (.iload_n 1, 1) := by decide +kernel
theorem dX11_fails_22 : decode cX11_fails 22 = .ok (.i2l, 1) := by decide +kernel
theorem dX11_fails_23 : decode cX11_fails 23 = .ok (.lor, 1) := by decide +kernel
theorem dX11_fails_24 : decode cX11_fails 24 = .ok (.lstore_n 3, 1) := by decide +kernel
theorem dX11_fails_25 : decode cX11_fails 25 = .ok (.lload_n 3, 1) := by decide +kernel
theorem dX11_fails_26 : decode cX11_fails 26 = .ok (.aload_n 0, 1) := by decide +kernel
theorem dX11_fails_27 : decode cX11_fails 27 = .ok (.getfield 38, 3) := by decide +kernel
theorem dX11_fails_30 : decode cX11_fails 30 = .ok (.getfield 193, 3) := by decide +kernel
theorem dX11_fails_33 : decode cX11_fails 33 = .ok (.lushr, 1) := by decide +kernel
theorem dX11_fails_34 : decode cX11_fails 34 = .ok (.lconst 0, 1) := by decide +kernel
theorem dX11_fails_35 : decode cX11_fails 35 = .ok (.lcmp, 1) := by decide +kernel
theorem dX11_fails_36 : decode cX11_fails 36 = .ok (.ifCond .eq 5, 3) := by decide +kernel
theorem dX11_fails_39 : decode cX11_fails 39 = .ok (.iconst (-1), 1) := by decide +kernel
theorem dX11_fails_40 : decode cX11_fails 40 = .ok (.ireturn, 1) := by decide +kernel
theorem dX11_fails_41 : decode cX11_fails 41 = .ok (.aload_n 0, 1) := by decide +kernel
theorem dX11_fails_42 : decode cX11_fails 42 = .ok (.getfield 28, 3) := by decide +kernel
theorem dX11_fails_45 : decode cX11_fails 45 = .ok (.getfield 196, 3) := by decide +kernel
theorem dX11_fails_48 : decode cX11_fails 48 = .ok (.lload_n 3, 1) := by decide +kernel
theorem dX11_fails_49 : decode cX11_fails 49 = .ok (.aload_n 0, 1) := by decide +kernel
theorem dX11_fails_50 : decode cX11_fails 50 = .ok (.getfield 38, 3) := by decide +kernel
theorem dX11_fails_53 : decode cX11_fails 53 = .ok (.getfield 193, 3) := by decide +kernel
theorem dX11_fails_56 : decode cX11_fails 56 = .ok (.invokevirtual 200, 3) := by decide +kernel
theorem dX11_fails_59 : decode cX11_fails 59 = .ok (.ifCond .eq 7, 3) := by decide +kernel
theorem dX11_fails_62 : decode cX11_fails 62 = .ok (.iconst 1, 1) := by decide +kernel
theorem dX11_fails_63 : decode cX11_fails 63 = .ok (.goto 4, 3) := by decide +kernel
theorem dX11_fails_66 : decode cX11_fails 66 = .ok (.iconst 0, 1) := by decide +kernel
theorem dX11_fails_67 : decode cX11_fails 67 = .ok (.ireturn, 1) := by decide +kernel
theorem dX11_days_0 : decode cX11_days 0 = .ok (.iload_n 1, 1) := by decide +kernel
theorem dX11_days_1 : decode cX11_days 1 = .ok (.iconst 1, 1) := by decide +kernel
theorem dX11_days_2 : decode cX11_days 2 = .ok (.if_icmp .lt 24, 3) := by decide +kernel
theorem dX11_days_5 : decode cX11_days 5 = .ok (.iload_n 1, 1) := by decide +kernel
theorem dX11_days_6 : decode cX11_days 6 = .ok (.bipush 99, 2) := by decide +kernel
theorem dX11_days_8 : decode cX11_days 8 = .ok (.if_icmp .gt 18, 3) := by decide +kernel
theorem dX11_days_11 : decode cX11_days 11 = .ok (.aload_n 0, 1) := by decide +kernel
theorem dX11_days_12 : decode cX11_days 12 = .ok (.getfield 38, 3) := by decide +kernel
theorem dX11_days_15 : decode cX11_days 15 = .ok (.getfield 206, 3) := by decide +kernel
theorem dX11_days_18 : decode cX11_days 18 = .ok (.iload_n 1, 1) := by decide +kernel
theorem dX11_days_19 : decode cX11_days 19 = .ok (.iadd, 1) := by decide +kernel
theorem dX11_days_20 : decode cX11_days 20 = .ok (.sipush 9999, 3) := by decide +kernel
theorem dX11_days_23 : decode cX11_days 23 = .ok (.if_icmp .le 5, 3) := by decide +kernel
theorem dX11_days_26 : decode cX11_days 26 = .ok (.iconst (-1), 1) := by decide +kernel
theorem dX11_days_27 : decode cX11_days 27 = .ok (.ireturn, 1) := by decide +kernel
theorem dX11_days_28 : decode cX11_days 28 = .ok (.aload_n 0, 1) := by decide +kernel
theorem dX11_days_29 : decode cX11_days 29 = .ok (.getfield 38, 3) := by decide +kernel
theorem dX11_days_32 : decode cX11_days 32 = .ok (.getfield 209, 3) := by decide +kernel
theorem dX11_days_35 : decode cX11_days 35 = .ok (.istore_n 2, 1) := by decide +kernel
theorem dX11_days_36 : decode cX11_days 36 = .ok (.iconst 0, 1) := by decide +kernel
theorem dX11_days_37 : decode cX11_days 37 = .ok (.istore_n 3, 1) := by decide +kernel
theorem dX11_days_38 : decode cX11_days 38 = .ok (.iload_n 3, 1) := by decide +kernel
theorem dX11_days_39 : decode cX11_days 39 = .ok (.iload_n 1, 1) := by decide +kernel
theorem dX11_days_40 : decode cX11_days 40 = .ok (.if_icmp .ge 31, 3) := by decide +kernel
theorem dX11_days_43 : decode cX11_days 43 = .ok (.aload_n 0, 1) := by decide +kernel
theorem dX11_days_44 : decode cX11_days 44 = .ok (.getfield 74, 3) := by decide +kernel
theorem dX11_days_47 : decode cX11_days 47 = .ok (.aload_n 0, 1) := by decide +kernel
theorem dX11_days_48 : decode cX11_days 48 = .ok (.getfield 38, 3) := by decide +kernel
theorem dX11_days_51 : decode cX11_days 51 = .ok (.aload_n 0, 1) := by decide +kernel
theorem dX11_days_52 : decode cX11_days 52 = .ok (.getfield 28, 3) := by decide +kernel
theorem dX11_days_55 : decode cX11_days 55 = .ok (.aload_n 0, 1) := by decide +kernel
theorem dX11_days_56 : decode cX11_days 56 = .ok (.getfield 28, 3) := by decide +kernel
theorem dX11_days_59 : decode cX11_days 59 = .ok (.getfield 178, 3) := by decide +kernel
theorem dX11_days_62 : decode cX11_days 62 = .ok (.invokevirtual 212, 3) := by decide +kernel
theorem dX11_days_65 : decode cX11_days 65 = .ok (.iinc 3 1, 3) := by decide +kernel
theorem dX11_days_68 : decode cX11_days 68 = .ok (.goto (-30), 3) := by decide +kernel
theorem dX11_days_71 : decode cX11_days 71 = .ok (.aload_n 0, 1) := by decide +kernel
theorem dX11_days_72 : decode cX11_days 72 = .ok (.getfield 38, 3) := by decide +kernel
theorem dX11_days_75 : decode cX11_days 75 = .ok (.getfield 209, 3) := by decide +kernel
theorem dX11_days_78 : decode cX11_days 78 = .ok (.iload_n 2, 1) := by decide +kernel
theorem dX11_days_79 : decode cX11_days 79 = .ok (.isub, 1) := by decide +kernel
theorem dX11_days_80 : decode cX11_days 80 = .ok (.ireturn, 1) := by decide +kernel
theorem dX11_chance_0 : decode cX11_chance 0 = .ok (.iload_n 1, 1) := by decide +kernel
theorem dX11_chance_1 : decode cX11_chance 1 = .ok (.ifCond .ne 19, 3) := by decide +kernel
theorem dX11_chance_4 : decode cX11_chance 4 = .ok (.aload_n 0, 1) := by decide +kernel
theorem dX11_chance_5 : decode cX11_chance 5 = .ok (.getfield 60, 3) := by decide +kernel
theorem dX11_chance_8 : decode cX11_chance 8 = .ok (.aload_n 0, 1) := by decide +kernel
theorem dX11_chance_9 : decode cX11_chance 9 = .ok (.getfield 38, 3) := by decide +kernel
theorem dX11_chance_12 : decode cX11_chance 12 = .ok (.aload_n 0, 1) := by decide +kernel
theorem dX11_chance_13 : decode cX11_chance 13 = .ok (.getfield 28, 3) := by decide +kernel
theorem dX11_chance_16 : decode cX11_chance 16 = .ok (.invokevirtual 216, 3) := by decide +kernel
theorem dX11_chance_19 : decode cX11_chance 19 = .ok (.lreturn, 1) := by decide +kernel
theorem dX11_chance_20 : decode cX11_chance 20 = .ok (.iload_n 1, 1) := by decide +kernel
theorem dX11_chance_21 : decode cX11_chance 21 = .ok (.iconst 1, 1) := by decide +kernel
theorem dX11_chance_22 : decode cX11_chance 22 = .ok (.if_icmp .ne 21, 3) := by decide +kernel
theorem dX11_chance_25 : decode cX11_chance 25 = .ok (.aload_n 0, 1) := by decide +kernel
theorem dX11_chance_26 : decode cX11_chance 26 = .ok (.getfield 60, 3) := by decide +kernel
theorem dX11_chance_29 : decode cX11_chance 29 = .ok (.aload_n 0, 1) := by decide +kernel
theorem dX11_chance_30 : decode cX11_chance 30 = .ok (.getfield 38, 3) := by decide +kernel
theorem dX11_chance_33 : decode cX11_chance 33 = .ok (.aload_n 0, 1) := by decide +kernel
theorem dX11_chance_34 : decode cX11_chance 34 = .ok (.getfield 28, 3) := by decide +kernel
theorem dX11_chance_37 : decode cX11_chance 37 = .ok (.invokevirtual 220, 3) := by decide +kernel
theorem dX11_chance_40 : decode cX11_chance 40 = .ok (.goto 6, 3) := by decide +kernel
theorem dX11_chance_43 : decode cX11_chance 43 = .ok (.ldc2_w 113, 3) := by decide +kernel
theorem dX11_chance_46 : decode cX11_chance 46 = .ok (.lreturn, 1) := by decide +kernel
theorem dX11_left_0 : decode cX11_left 0 = .ok (.aload_n 0, 1) := by decide +kernel
theorem dX11_left_1 : decode cX11_left 1 = .ok (.getfield 38, 3) := by decide +kernel
theorem dX11_left_4 : decode cX11_left 4 = .ok (.getfield 193, 3) := by decide +kernel
theorem dX11_left_7 : decode cX11_left 7 = .ok (.bipush 10, 2) := by decide +kernel
theorem dX11_left_9 : decode cX11_left 9 = .ok (.if_icmp .gt 13, 3) := by decide +kernel
theorem dX11_left_12 : decode cX11_left 12 = .ok (.iload_n 1, 1) := by decide +kernel
theorem dX11_left_13 : decode cX11_left 13 = .ok (.ifCond .lt 9, 3) := by decide +kernel
theorem dX11_left_16 : decode cX11_left 16 = .ok (.iload_n 1, 1) := by decide +kernel
theorem dX11_left_17 : decode cX11_left 17 = .ok (.bipush 60, 2) := by decide +kernel
theorem dX11_left_19 : decode cX11_left 19 = .ok (.if_icmp .le 7, 3) := by decide +kernel
theorem dX11_left_22 : decode cX11_left 22 = .ok (.ldc2_w 113, 3) := by decide +kernel
theorem dX11_left_25 : decode cX11_left 25 = .ok (.lreturn, 1) := by decide +kernel
theorem dX11_left_26 : decode cX11_left 26 = .ok (.aload_n 0, 1) := by decide +kernel
theorem dX11_left_27 : decode cX11_left 27 = .ok (.iload_n 1, 1) := by decide +kernel
theorem dX11_left_28 : decode cX11_left 28 = .ok (.invokevirtual 223, 3) := by decide +kernel
theorem dX11_left_31 : decode cX11_left 31 = .ok (.aload_n 0, 1) := by decide +kernel
theorem dX11_left_32 : decode cX11_left 32 = .ok (.getfield 67, 3) := by decide +kernel
theorem dX11_left_35 : decode cX11_left 35 = .ok (.invokevirtual 226, 3) := by decide +kernel
theorem dX11_left_38 : decode cX11_left 38 = .ok (.lreturn, 1) := by decide +kernel
theorem dX11_ahead_0 : decode cX11_ahead 0 = .ok (.aload_n 0, 1) := by decide +kernel
theorem dX11_ahead_1 : decode cX11_ahead 1 = .ok (.getfield 38, 3) := by decide +kernel
theorem dX11_ahead_4 : decode cX11_ahead 4 = .ok (.getfield 193, 3) := by decide +kernel
theorem dX11_ahead_7 : decode cX11_ahead 7 = .ok (.bipush 10, 2) := by decide +kernel
theorem dX11_ahead_9 : decode cX11_ahead 9 = .ok (.if_icmp .le 5, 3) := by decide +kernel
theorem dX11_ahead_12 : decode cX11_ahead 12 = .ok (.iconst (-1), 1) := by decide +kernel
theorem dX11_ahead_13 : decode cX11_ahead 13 = .ok (.ireturn, 1) := by decide +kernel
theorem dX11_ahead_14 : decode cX11_ahead 14 = .ok (.iload_n 1, 1) := by decide +kernel
theorem dX11_ahead_15 : decode cX11_ahead 15 = .ok (.ifCond .ne 8, 3) := by decide +kernel
theorem dX11_ahead_18 : decode cX11_ahead 18 = .ok (.aload_n 0, 1) := by decide +kernel
theorem dX11_ahead_19 : decode cX11_ahead 19 = .ok (.invokevirtual 230, 3) := by decide +kernel
theorem dX11_ahead_22 : decode cX11_ahead 22 = .ok (.ireturn, 1) := by decide +kernel
theorem dX11_ahead_23 : decode cX11_ahead 23 = .ok (.iload_n 1, 1) := by decide +kernel
theorem dX11_ahead_24 : decode cX11_ahead 24 = .ok (.iconst 1, 1) := by decide +kernel
theorem dX11_ahead_25 : decode cX11_ahead 25 = .ok (.if_icmp .ne 13, 3) := by decide +kernel
theorem dX11_ahead_28 : decode cX11_ahead 28 = .ok (.iload_n 2, 1) := by decide +kernel
theorem dX11_ahead_29 : decode cX11_ahead 29 = .ok (.ifCond .lt 9, 3) := by decide +kernel
theorem dX11_ahead_32 : decode cX11_ahead 32 = .ok (.iload_n 2, 1) := by decide +kernel
theorem dX11_ahead_33 : decode cX11_ahead 33 = .ok (.bipush 60, 2) := by decide +kernel
theorem dX11_ahead_35 : decode cX11_ahead 35 = .ok (.if_icmp .le 5, 3) := by decide +kernel
theorem dX11_ahead_38 : decode cX11_ahead 38 = .ok (.iconst (-1), 1) := by decide +kernel
theorem dX11_ahead_39 : decode cX11_ahead 39 = .ok (.ireturn, 1) := by decide +kernel
theorem dX11_ahead_40 : decode cX11_ahead 40 = .ok (.aload_n 0, 1) := by decide +kernel
theorem dX11_ahead_41 : decode cX11_ahead 41 = .ok (.iload_n 2, 1) := by decide +kernel
theorem dX11_ahead_42 : decode cX11_ahead 42 = .ok (.invokevirtual 223, 3) := by decide +kernel
theorem dX11_ahead_45 : decode cX11_ahead 45 = .ok (.aload_n 0, 1) := by decide +kernel
theorem dX11_ahead_46 : decode cX11_ahead 46 = .ok (.getfield 67, 3) := by decide +kernel
theorem dX11_ahead_49 : decode cX11_ahead 49 = .ok (.invokevirtual 233, 3) := by decide +kernel
theorem dX11_ahead_52 : decode cX11_ahead 52 = .ok (.ireturn, 1) := by decide +kernel
theorem dX11_hold_0 : decode cX11_hold 0 = .ok (.iload_n 1, 1) := by decide +kernel
theorem dX11_hold_1 : decode cX11_hold 1 = .ok (.ifCond .lt 14, 3) := by decide +kernel
theorem dX11_hold_4 : decode cX11_hold 4 = .ok (.iload_n 1, 1) := by decide +kernel
theorem dX11_hold_5 : decode cX11_hold 5 = .ok (.aload_n 0, 1) := by decide +kernel
theorem dX11_hold_6 : decode cX11_hold 6 = .ok (.getfield 38, 3) := by decide +kernel
theorem dX11_hold_9 : decode cX11_hold 9 = .ok (.getfield 193, 3) := by decide +kernel
theorem dX11_hold_12 : decode cX11_hold 12 = .ok (.if_icmp .le 7, 3) := by decide +kernel
theorem dX11_hold_15 : decode cX11_hold 15 = .ok (.ldc2_w 113, 3) := by decide +kernel
theorem dX11_hold_18 : decode cX11_hold 18 = .ok (.lreturn, 1) := by decide +kernel
theorem dX11_hold_19 : decode cX11_hold 19 = .ok (.aload_n 0, 1) := by decide +kernel
theorem dX11_hold_20 : decode cX11_hold 20 = .ok (.getfield 60, 3) := by decide +kernel
theorem dX11_hold_23 : decode cX11_hold 23 = .ok (.aload_n 0, 1) := by decide +kernel
theorem dX11_hold_24 : decode cX11_hold 24 = .ok (.getfield 38, 3) := by decide +kernel
theorem dX11_hold_27 : decode cX11_hold 27 = .ok (.getfield 193, 3) := by decide +kernel
theorem dX11_hold_30 : decode cX11_hold 30 = .ok (.iload_n 1, 1) := by decide +kernel
theorem dX11_hold_31 : decode cX11_hold 31 = .ok (.aload_n 0, 1) := by decide +kernel
theorem dX11_hold_32 : decode cX11_hold 32 = .ok (.getfield 28, 3) := by decide +kernel
theorem dX11_hold_35 : decode cX11_hold 35 = .ok (.getfield 196, 3) := by decide +kernel
theorem dX11_hold_38 : decode cX11_hold 38 = .ok (.invokevirtual 236, 3) := by decide +kernel
theorem dX11_hold_41 : decode cX11_hold 41 = .ok (.lreturn, 1) := by decide +kernel
theorem dX11_which_0 : decode cX11_which 0 = .ok (.iload_n 1, 1) := by decide +kernel
theorem dX11_which_1 : decode cX11_which 1 = .ok (.ifCond .lt 20, 3) := by decide +kernel
theorem dX11_which_4 : decode cX11_which 4 = .ok (.iload_n 1, 1) := by decide +kernel
theorem dX11_which_5 : decode cX11_which 5 = .ok (.iconst 4, 1) := by decide +kernel
theorem dX11_which_6 : decode cX11_which 6 = .ok (.if_icmp .gt 15, 3) := by decide +kernel
theorem dX11_which_9 : decode cX11_which 9 = .ok (.aload_n 0, 1) := by decide +kernel
theorem dX11_which_10 : decode cX11_which 10 = .ok (.getfield 38, 3) := by decide +kernel
theorem dX11_which_13 : decode cX11_which 13 = .ok (.getfield 193, 3) := by decide +kernel
theorem dX11_which_16 : decode cX11_which 16 = .ok (.bipush 12, 2) := by decide +kernel
theorem dX11_which_18 : decode cX11_which 18 = .ok (.if_icmp .le 5, 3) := by decide +kernel
theorem dX11_which_21 : decode cX11_which 21 = .ok (.iconst (-1), 1) := by decide +kernel
theorem dX11_which_22 : decode cX11_which 22 = .ok (.ireturn, 1) := by decide +kernel
theorem dX11_which_23 : decode cX11_which 23 = .ok (.aload_n 0, 1) := by decide +kernel
theorem dX11_which_24 : decode cX11_which 24 = .ok (.getfield 83, 3) := by decide +kernel
theorem dX11_which_27 : decode cX11_which 27 = .ok (.iload_n 1, 1) := by decide +kernel
theorem dX11_which_28 : decode cX11_which 28 = .ok (.aload_n 0, 1) := by decide +kernel
theorem dX11_which_29 : decode cX11_which 29 = .ok (.getfield 38, 3) := by decide +kernel
theorem dX11_which_32 : decode cX11_which 32 = .ok (.aload_n 0, 1) := by decide +kernel
theorem dX11_which_33 : decode cX11_which 33 = .ok (.getfield 45, 3) := by decide +kernel
theorem dX11_which_36 : decode cX11_which 36 = .ok (.aload_n 0, 1) := by decide +kernel
theorem dX11_which_37 : decode cX11_which 37 = .ok (.getfield 28, 3) := by decide +kernel
theorem dX11_which_40 : decode cX11_which 40 = .ok (.invokevirtual 240, 3) := by decide +kernel
theorem dX11_which_43 : decode cX11_which 43 = .ok (.ireturn, 1) := by decide +kernel
theorem dX11_where_0 : decode cX11_where 0 = .ok (.aload_n 0, 1) := by decide +kernel
theorem dX11_where_1 : decode cX11_where 1 = .ok (.getfield 38, 3) := by decide +kernel
theorem dX11_where_4 : decode cX11_where 4 = .ok (.iload_n 1, 1) := by decide +kernel
theorem dX11_where_5 : decode cX11_where 5 = .ok (.invokevirtual 98, 3) := by decide +kernel
theorem dX11_where_8 : decode cX11_where 8 = .ok (.ifCond .eq 15, 3) := by decide +kernel
theorem dX11_where_11 : decode cX11_where 11 = .ok (.aload_n 0, 1) := by decide +kernel
theorem dX11_where_12 : decode cX11_where 12 = .ok (.getfield 38, 3) := by decide +kernel
theorem dX11_where_15 : decode cX11_where 15 = .ok (.getfield 193, 3) := by decide +kernel
theorem dX11_where_18 : decode cX11_where 18 = .ok (.bipush 7, 2) := by decide +kernel
theorem dX11_where_20 : decode cX11_where 20 = .ok (.if_icmp .le 5, 3) := by decide +kernel
theorem dX11_where_23 : decode cX11_where 23 = .ok (.iconst (-1), 1) := by decide +kernel
theorem dX11_where_24 : decode cX11_where 24 = .ok (.ireturn, 1) := by decide +kernel
theorem dX11_where_25 : decode cX11_where 25 = .ok (.aload_n 0, 1) := by decide +kernel
theorem dX11_where_26 : decode cX11_where 26 = .ok (.getfield 83, 3) := by decide +kernel
theorem dX11_where_29 : decode cX11_where 29 = .ok (.iload_n 1, 1) := by decide +kernel
theorem dX11_where_30 : decode cX11_where 30 = .ok (.aload_n 0, 1) := by decide +kernel
theorem dX11_where_31 : decode cX11_where 31 = .ok (.getfield 38, 3) := by decide +kernel
theorem dX11_where_34 : decode cX11_where 34 = .ok (.aload_n 0, 1) := by decide +kernel
theorem dX11_where_35 : decode cX11_where 35 = .ok (.getfield 45, 3) := by decide +kernel
theorem dX11_where_38 : decode cX11_where 38 = .ok (.aload_n 0, 1) := by decide +kernel
theorem dX11_where_39 : decode cX11_where 39 = .ok (.getfield 28, 3) := by decide +kernel
theorem dX11_where_42 : decode cX11_where 42 = .ok (.invokevirtual 244, 3) := by decide +kernel
theorem dX11_where_45 : decode cX11_where 45 = .ok (.ireturn, 1) := by decide +kernel
theorem dX11_stocks_0 : decode cX11_stocks 0 = .ok (.iload_n 2, 1) := by decide +kernel
theorem dX11_stocks_1 : decode cX11_stocks 1 = .ok (.ifCond .lt 36, 3) := by decide +kernel
theorem dX11_stocks_4 : decode cX11_stocks 4 = .ok (.iload_n 2, 1) := by decide +kernel
theorem dX11_stocks_5 : decode cX11_stocks 5 = .ok (.iconst 1, 1) := by decide +kernel
theorem dX11_stocks_6 : decode cX11_stocks 6 = .ok (.if_icmp .gt 31, 3) := by decide +kernel
theorem dX11_stocks_9 : decode cX11_stocks 9 = .ok (.aload_n 0, 1) := by decide +kernel
theorem dX11_stocks_10 : decode cX11_stocks 10 = .ok (.getfield 38, 3) := by decide +kernel
theorem dX11_stocks_13 : decode cX11_stocks 13 = .ok (.getfield 193, 3) := by decide +kernel
theorem dX11_stocks_16 : decode cX11_stocks 16 = .ok (.bipush 30, 2) := by decide +kernel
theorem dX11_stocks_18 : decode cX11_stocks 18 = .ok (.if_icmp .gt 19, 3) := by decide +kernel
theorem dX11_stocks_21 : decode cX11_stocks 21 = .ok (.iload_n 1, 1) := by decide +kernel
theorem dX11_stocks_22 : decode cX11_stocks 22 = .ok (.ifCond .lt 15, 3) := by decide +kernel
theorem dX11_stocks_25 : decode cX11_stocks 25 = .ok (.iload_n 1, 1) := by decide +kernel
theorem dX11_stocks_26 : decode cX11_stocks 26 = .ok (.aload_n 0, 1) := by decide +kernel
theorem dX11_stocks_27 : decode cX11_stocks 27 = .ok (.getfield 38, 3) := by decide +kernel
theorem dX11_stocks_30 : decode cX11_stocks 30 = .ok (.getfield 193, 3) := by decide +kernel
theorem dX11_stocks_33 : decode cX11_stocks 33 = .ok (.iushr, 1) := by decide +kernel
theorem dX11_stocks_34 : decode cX11_stocks 34 = .ok (.ifCond .eq 5, 3) := by decide +kernel
theorem dX11_stocks_37 : decode cX11_stocks 37 = .ok (.iconst (-1), 1) := by decide +kernel
theorem dX11_stocks_38 : decode cX11_stocks 38 = .ok (.ireturn, 1) := by decide +kernel
theorem dX11_stocks_39 : decode cX11_stocks 39 = .ok (.aload_n 0, 1) := by decide +kernel
theorem dX11_stocks_40 : decode cX11_stocks 40 = .ok (.getfield 83, 3) := by decide +kernel
theorem dX11_stocks_43 : decode cX11_stocks 43 = .ok (.iload_n 1, 1) := by decide +kernel
theorem dX11_stocks_44 : decode cX11_stocks 44 = .ok (.iload_n 2, 1) := by decide +kernel
theorem dX11_stocks_45 : decode cX11_stocks 45 = .ok (.aload_n 0, 1) := by decide +kernel
theorem dX11_stocks_46 : decode cX11_stocks 46 = .ok (.getfield 38, 3) := by decide +kernel
theorem dX11_stocks_49 : decode cX11_stocks 49 = .ok (.invokevirtual 247, 3) := by decide +kernel
theorem dX11_stocks_52 : decode cX11_stocks 52 = .ok (.ireturn, 1) := by decide +kernel
theorem dX11_thought_0 : decode cX11_thought 0 = .ok (.iload_n 1, 1) := by decide +kernel
theorem dX11_thought_1 : decode cX11_thought 1 = .ok (.iconst 1, 1) := by decide +kernel
theorem dX11_thought_2 : decode cX11_thought 2 = .ok (.if_icmp .lt 26, 3) := by decide +kernel
theorem dX11_thought_5 : decode cX11_thought 5 = .ok (.iload_n 1, 1) := by decide +kernel
theorem dX11_thought_6 : decode cX11_thought 6 = .ok (.iconst 2, 1) := by decide +kernel
theorem dX11_thought_7 : decode cX11_thought 7 = .ok (.if_icmp .gt 21, 3) := by decide +kernel
theorem dX11_thought_10 : decode cX11_thought 10 = .ok (.iload_n 2, 1) := by decide +kernel
theorem dX11_thought_11 : decode cX11_thought 11 = .ok (.invokestatic 251, 3) := by decide +kernel
theorem dX11_thought_14 : decode cX11_thought 14 = .ok (.ifCond .eq 14, 3) := by decide +kernel
theorem dX11_thought_17 : decode cX11_thought 17 = .ok (.iload_n 3, 1) := by decide +kernel
theorem dX11_thought_18 : decode cX11_thought 18 = .ok (.iconst 1, 1) := by decide +kernel
theorem dX11_thought_19 : decode cX11_thought 19 = .ok (.if_icmp .lt 9, 3) := by decide +kernel
theorem dX11_thought_22 : decode cX11_thought 22 = .ok (.iload_n 3, 1) := by decide +kernel
theorem dX11_thought_23 : decode cX11_thought 23 = .ok (.bipush 99, 2) := by decide +kernel
theorem dX11_thought_25 : decode cX11_thought 25 = .ok (.if_icmp .le 5, 3) := by decide +kernel
theorem dX11_thought_28 : decode cX11_thought 28 = .ok (.iconst (-1), 1) := by decide +kernel
theorem dX11_thought_29 : decode cX11_thought 29 = .ok (.ireturn, 1) := by decide +kernel
theorem dX11_thought_30 : decode cX11_thought 30 = .ok (.iload 4, 2) := by decide +kernel
theorem dX11_thought_32 : decode cX11_thought 32 = .ok (.ifCond .lt 9, 3) := by decide +kernel
theorem dX11_thought_35 : decode cX11_thought 35 = .ok (.iload 4, 2) := by decide +kernel
theorem dX11_thought_37 : decode cX11_thought 37 = .ok (.iconst 2, 1) := by decide +kernel
theorem dX11_thought_38 : decode cX11_thought 38 = .ok (.if_icmp .le 5, 3) := by decide +kernel
theorem dX11_thought_41 : decode cX11_thought 41 = .ok (.iconst (-1), 1) := by decide +kernel
theorem dX11_thought_42 : decode cX11_thought 42 = .ok (.ireturn, 1) := by decide +kernel
theorem dX11_thought_43 : decode cX11_thought 43 = .ok (.aload_n 0, 1) := by decide +kernel
theorem dX11_thought_44 : decode cX11_thought 44 = .ok (.iload_n 1, 1) := by decide +kernel
theorem dX11_thought_45 : decode cX11_thought 45 = .ok (.iload_n 2, 1) := by decide +kernel
theorem dX11_thought_46 : decode cX11_thought 46 = .ok (.iload_n 3, 1) := by decide +kernel
theorem dX11_thought_47 : decode cX11_thought 47 = .ok (.invokevirtual 254, 3) := by decide +kernel
theorem dX11_thought_50 : decode cX11_thought 50 = .ok (.iload 4, 2) := by decide +kernel
theorem dX11_thought_52 : decode cX11_thought 52 = .ok (.ifCond .ne 19, 3) := by decide +kernel
theorem dX11_thought_55 : decode cX11_thought 55 = .ok (.aload_n 0, 1) := by decide +kernel
theorem dX11_thought_56 : decode cX11_thought 56 = .ok (.getfield 45, 3) := by decide +kernel
theorem dX11_thought_59 : decode cX11_thought 59 = .ok (.getfield 258, 3) := by decide +kernel
theorem dX11_thought_62 : decode cX11_thought 62 = .ok (.aload_n 0, 1) := by decide +kernel
theorem dX11_thought_63 : decode cX11_thought 63 = .ok (.getfield 38, 3) := by decide +kernel
theorem dX11_thought_66 : decode cX11_thought 66 = .ok (.getfield 258, 3) := by decide +kernel
theorem dX11_thought_69 : decode cX11_thought 69 = .ok (.isub, 1) := by decide +kernel
theorem dX11_thought_70 : decode cX11_thought 70 = .ok (.ireturn, 1) := by decide +kernel
theorem dX11_thought_71 : decode cX11_thought 71 = .ok (.iload 4, 2) := by decide +kernel
theorem dX11_thought_73 : decode cX11_thought 73 = .ok (.iconst 1, 1) := by decide +kernel
theorem dX11_thought_74 : decode cX11_thought 74 = .ok (.if_icmp .ne 21, 3) := by decide +kernel
theorem dX11_thought_77 : decode cX11_thought 77 = .ok (.aload_n 0, 1) := by decide +kernel
theorem dX11_thought_78 : decode cX11_thought 78 = .ok (.getfield 45, 3) := by decide +kernel
theorem dX11_thought_81 : decode cX11_thought 81 = .ok (.getfield 209, 3) := by decide +kernel
theorem dX11_thought_84 : decode cX11_thought 84 = .ok (.aload_n 0, 1) := by decide +kernel
theorem dX11_thought_85 : decode cX11_thought 85 = .ok (.getfield 38, 3) := by decide +kernel
theorem dX11_thought_88 : decode cX11_thought 88 = .ok (.getfield 209, 3) := by decide +kernel
theorem dX11_thought_91 : decode cX11_thought 91 = .ok (.isub, 1) := by decide +kernel
theorem dX11_thought_92 : decode cX11_thought 92 = .ok (.goto 18, 3) := by decide +kernel
theorem dX11_thought_95 : decode cX11_thought 95 = .ok (.aload_n 0, 1) := by decide +kernel
theorem dX11_thought_96 : decode cX11_thought 96 = .ok (.getfield 45, 3) := by decide +kernel
theorem dX11_thought_99 : decode cX11_thought 99 = .ok (.getfield 261, 3) := by decide +kernel
theorem dX11_thought_102 : decode cX11_thought 102 = .ok (.aload_n 0, 1) := by decide +kernel
theorem dX11_thought_103 : decode cX11_thought 103 = .ok (.getfield 38, 3) := by decide +kernel
theorem dX11_thought_106 : decode cX11_thought 106 = .ok (.getfield 261, 3) := by decide +kernel
theorem dX11_thought_109 : decode cX11_thought 109 = .ok (.isub, 1) := by decide +kernel
theorem dX11_thought_110 : decode cX11_thought 110 = .ok (.ireturn, 1) := by decide +kernel
theorem dX11_often_0 : decode cX11_often 0 = .ok (.iload_n 1, 1) := by decide +kernel
theorem dX11_often_1 : decode cX11_often 1 = .ok (.iconst 1, 1) := by decide +kernel
theorem dX11_often_2 : decode cX11_often 2 = .ok (.if_icmp .lt 18, 3) := by decide +kernel
theorem dX11_often_5 : decode cX11_often 5 = .ok (.iload_n 1, 1) := by decide +kernel
theorem dX11_often_6 : decode cX11_often 6 = .ok (.bipush 99, 2) := by decide +kernel
theorem dX11_often_8 : decode cX11_often 8 = .ok (.if_icmp .gt 12, 3) := by decide +kernel
theorem dX11_often_11 : decode cX11_often 11 = .ok (.iload_n 2, 1) := by decide +kernel
theorem dX11_often_12 : decode cX11_often 12 = .ok (.ifCond .lt 8, 3) := by decide +kernel
theorem dX11_often_15 : decode cX11_often 15 = .ok (.iload_n 2, 1) := by decide +kernel
theorem dX11_often_16 : decode cX11_often 16 = .ok (.iconst 1, 1) := by decide +kernel
theorem dX11_often_17 : decode cX11_often 17 = .ok (.if_icmp .le 5, 3) := by decide +kernel
theorem dX11_often_20 : decode cX11_often 20 = .ok (.iconst (-1), 1) := by decide +kernel
theorem dX11_often_21 : decode cX11_often 21 = .ok (.ireturn, 1) := by decide +kernel
theorem dX11_often_22 : decode cX11_often 22 = .ok (.iload_n 2, 1) := by decide +kernel
theorem dX11_often_23 : decode cX11_often 23 = .ok (.ifCond .ne 11, 3) := by decide +kernel
theorem dX11_often_26 : decode cX11_often 26 = .ok (.aload_n 0, 1) := by decide +kernel
theorem dX11_often_27 : decode cX11_often 27 = .ok (.iload_n 1, 1) := by decide +kernel
theorem dX11_often_28 : decode cX11_often 28 = .ok (.invokevirtual 264, 3) := by decide +kernel
theorem dX11_often_31 : decode cX11_often 31 = .ok (.goto 8, 3) := by decide +kernel
theorem dX11_often_34 : decode cX11_often 34 = .ok (.aload_n 0, 1) := by decide +kernel
theorem dX11_often_35 : decode cX11_often 35 = .ok (.iload_n 1, 1) := by decide +kernel
theorem dX11_often_36 : decode cX11_often 36 = .ok (.invokevirtual 268, 3) := by decide +kernel
theorem dX11_often_39 : decode cX11_often 39 = .ok (.ireturn, 1) := by decide +kernel
theorem dX11_nine_0 : decode cX11_nine 0 = .ok (.iload_n 1, 1) := by decide +kernel
theorem dX11_nine_1 : decode cX11_nine 1 = .ok (.iconst 1, 1) := by decide +kernel
theorem dX11_nine_2 : decode cX11_nine 2 = .ok (.if_icmp .lt 9, 3) := by decide +kernel
theorem dX11_nine_5 : decode cX11_nine 5 = .ok (.iload_n 1, 1) := by decide +kernel
theorem dX11_nine_6 : decode cX11_nine 6 = .ok (.bipush 99, 2) := by decide +kernel
theorem dX11_nine_8 : decode cX11_nine 8 = .ok (.if_icmp .le 5, 3) := by decide +kernel
theorem dX11_nine_11 : decode cX11_nine 11 = .ok (.iconst (-1), 1) := by decide +kernel
theorem dX11_nine_12 : decode cX11_nine 12 = .ok (.ireturn, 1) := by decide +kernel
theorem dX11_nine_13 : decode cX11_nine 13 = .ok (.ldc2_w 271, 3) := by decide +kernel
theorem dX11_nine_16 : decode cX11_nine 16 = .ok (.aload_n 0, 1) := by decide +kernel
theorem dX11_nine_17 : decode cX11_nine 17 = .ok (.getfield 60, 3) := by decide +kernel
theorem dX11_nine_20 : decode cX11_nine 20 = .ok (.aload_n 0, 1) := by decide +kernel
theorem dX11_nine_21 : decode cX11_nine 21 = .ok (.getfield 38, 3) := by decide +kernel
theorem dX11_nine_24 : decode cX11_nine 24 = .ok (.aload_n 0, 1) := by decide +kernel
theorem dX11_nine_25 : decode cX11_nine 25 = .ok (.getfield 28, 3) := by decide +kernel
theorem dX11_nine_28 : decode cX11_nine 28 = .ok (.invokevirtual 216, 3) := by decide +kernel
theorem dX11_nine_31 : decode cX11_nine 31 = .ok (.ldc2_w 271, 3) := by decide +kernel
theorem dX11_nine_34 : decode cX11_nine 34 = .ok (.ldiv, 1) := by decide +kernel
theorem dX11_nine_35 : decode cX11_nine 35 = .ok (.lsub, 1) := by decide +kernel
theorem dX11_nine_36 : decode cX11_nine 36 = .ok (.lstore_n 2, 1) := by decide +kernel
theorem dX11_nine_37 : decode cX11_nine 37 = .ok (.ldc2_w 271, 3) := by decide +kernel
theorem dX11_nine_40 : decode cX11_nine 40 = .ok (.lstore 4, 2) := by decide +kernel
theorem dX11_nine_42 : decode cX11_nine 42 = .ok (.iconst 0, 1) := by decide +kernel
theorem dX11_nine_43 : decode cX11_nine 43 = .ok (.istore 6, 2) := by decide +kernel
theorem dX11_nine_45 : decode cX11_nine 45 = .ok (.iload 6, 2) := by decide +kernel
theorem dX11_nine_47 : decode cX11_nine 47 = .ok (.iload_n 1, 1) := by decide +kernel
theorem dX11_nine_48 : decode cX11_nine 48 = .ok (.if_icmp .ge 19, 3) := by decide +kernel
theorem dX11_nine_51 : decode cX11_nine 51 = .ok (.lload 4, 2) := by decide +kernel
theorem dX11_nine_53 : decode cX11_nine 53 = .ok (.lload_n 2, 1) := by decide +kernel
theorem dX11_nine_54 : decode cX11_nine 54 = .ok (.lmul, 1) := by decide +kernel
theorem dX11_nine_55 : decode cX11_nine 55 = .ok (.ldc2_w 271, 3) := by decide +kernel
theorem dX11_nine_58 : decode cX11_nine 58 = .ok (.ldiv, 1) := by decide +kernel
theorem dX11_nine_59 : decode cX11_nine 59 = .ok (.lstore 4, 2) := by decide +kernel
theorem dX11_nine_61 : decode cX11_nine 61 = .ok (.iinc 6 1, 3) := by decide +kernel
theorem dX11_nine_64 : decode cX11_nine 64 = .ok (.goto (-19), 3) := by decide +kernel
theorem dX11_nine_67 : decode cX11_nine 67 = .ok (.lload 4, 2) := by decide +kernel
theorem dX11_nine_69 : decode cX11_nine 69 = .ok (.l2i, 1) := by decide +kernel
theorem dX11_nine_70 : decode cX11_nine 70 = .ok (.ireturn, 1) := by decide +kernel
theorem dX11_image_0 : decode cX11_image 0 = .ok (.iload_n 1, 1) := by decide +kernel
theorem dX11_image_1 : decode cX11_image 1 = .ok (.ifCond .eq 33, 3) := by decide +kernel
theorem dX11_image_4 : decode cX11_image 4 = .ok (.aload_n 0, 1) := by decide +kernel
theorem dX11_image_5 : decode cX11_image 5 = .ok (.getfield 42, 3) := by decide +kernel
theorem dX11_image_8 : decode cX11_image 8 = .ok (.aload_n 0, 1) := by decide +kernel
theorem dX11_image_9 : decode cX11_image 9 = .ok (.getfield 38, 3) := by decide +kernel
theorem dX11_image_12 : decode cX11_image 12 = .ok (.invokevirtual 273, 3) := by decide +kernel
theorem dX11_image_15 : decode cX11_image 15 = .ok (.aload_n 0, 1) := by decide +kernel
theorem dX11_image_16 : decode cX11_image 16 = .ok (.getfield 32, 3) := by decide +kernel
theorem dX11_image_19 : decode cX11_image 19 = .ok (.aload_n 0, 1) := by decide +kernel
theorem dX11_image_20 : decode cX11_image 20 = .ok (.getfield 28, 3) := by decide +kernel
theorem dX11_image_23 : decode cX11_image 23 = .ok (.invokevirtual 277, 3) := by decide +kernel
theorem dX11_image_26 : decode cX11_image 26 = .ok (.aload_n 0, 1) := by decide +kernel
theorem dX11_image_27 : decode cX11_image 27 = .ok (.iconst 1, 1) := by decide +kernel
theorem dX11_image_28 : decode cX11_image 28 = .ok (.putfield 280, 3) := by decide +kernel
theorem dX11_image_31 : decode cX11_image 31 = .ok (.goto 32, 3) := by decide +kernel
theorem dX11_image_34 : decode cX11_image 34 = .ok (.aload_n 0, 1) := by decide +kernel
theorem dX11_image_35 : decode cX11_image 35 = .ok (.getfield 280, 3) := by decide +kernel
theorem dX11_image_38 : decode cX11_image 38 = .ok (.ifCond .eq 25, 3) := by decide +kernel
theorem dX11_image_41 : decode cX11_image 41 = .ok (.aload_n 0, 1) := by decide +kernel
theorem dX11_image_42 : decode cX11_image 42 = .ok (.getfield 38, 3) := by decide +kernel
theorem dX11_image_45 : decode cX11_image 45 = .ok (.aload_n 0, 1) := by decide +kernel
theorem dX11_image_46 : decode cX11_image 46 = .ok (.getfield 42, 3) := by decide +kernel
theorem dX11_image_49 : decode cX11_image 49 = .ok (.invokevirtual 273, 3) := by decide +kernel
theorem dX11_image_52 : decode cX11_image 52 = .ok (.aload_n 0, 1) := by decide +kernel
theorem dX11_image_53 : decode cX11_image 53 = .ok (.getfield 28, 3) := by decide +kernel
theorem dX11_image_56 : decode cX11_image 56 = .ok (.aload_n 0, 1) := by decide +kernel
theorem dX11_image_57 : decode cX11_image 57 = .ok (.getfield 32, 3) := by decide +kernel
theorem dX11_image_60 : decode cX11_image 60 = .ok (.invokevirtual 277, 3) := by decide +kernel
theorem dX11_image_63 : decode cX11_image 63 = .ok (.aload_n 0, 1) := by decide +kernel
theorem dX11_image_64 : decode cX11_image 64 = .ok (.getfield 280, 3) := by decide +kernel
theorem dX11_image_67 : decode cX11_image 67 = .ok (.ireturn, 1) := by decide +kernel
theorem dX11_look_0 : decode cX11_look 0 = .ok (.iload_n 1, 1) := by decide +kernel
theorem dX11_look_1 : decode cX11_look 1 = .ok (.tableswitch 151 0 8 #[51, 59, 67, 75, 83, 91, 102, 135, 143], 51) := by decide +kernel
theorem dX11_look_52 : decode cX11_look 52 = .ok (.aload_n 0, 1) := by decide +kernel
theorem dX11_look_53 : decode cX11_look 53 = .ok (.getfield 38, 3) := by decide +kernel
theorem dX11_look_56 : decode cX11_look 56 = .ok (.getfield 193, 3) := by decide +kernel
theorem dX11_look_59 : decode cX11_look 59 = .ok (.ireturn, 1) := by decide +kernel
theorem dX11_look_60 : decode cX11_look 60 = .ok (.aload_n 0, 1) := by decide +kernel
theorem dX11_look_61 : decode cX11_look 61 = .ok (.getfield 38, 3) := by decide +kernel
theorem dX11_look_64 : decode cX11_look 64 = .ok (.getfield 206, 3) := by decide +kernel
theorem dX11_look_67 : decode cX11_look 67 = .ok (.ireturn, 1) := by decide +kernel
theorem dX11_look_68 : decode cX11_look 68 = .ok (.aload_n 0, 1) := by decide +kernel
theorem dX11_look_69 : decode cX11_look 69 = .ok (.getfield 38, 3) := by decide +kernel
theorem dX11_look_72 : decode cX11_look 72 = .ok (.getfield 209, 3) := by decide +kernel
theorem dX11_look_75 : decode cX11_look 75 = .ok (.ireturn, 1) := by decide +kernel
theorem dX11_look_76 : decode cX11_look 76 = .ok (.aload_n 0, 1) := by decide +kernel
theorem dX11_look_77 : decode cX11_look 77 = .ok (.getfield 38, 3) := by decide +kernel
theorem dX11_look_80 : decode cX11_look 80 = .ok (.getfield 258, 3) := by decide +kernel
theorem dX11_look_83 : decode cX11_look 83 = .ok (.ireturn, 1) := by decide +kernel
theorem dX11_look_84 : decode cX11_look 84 = .ok (.aload_n 0, 1) := by decide +kernel
theorem dX11_look_85 : decode cX11_look 85 = .ok (.getfield 38, 3) := by decide +kernel
theorem dX11_look_88 : decode cX11_look 88 = .ok (.getfield 261, 3) := by decide +kernel
theorem dX11_look_91 : decode cX11_look 91 = .ok (.ireturn, 1) := by decide +kernel
theorem dX11_look_92 : decode cX11_look 92 = .ok (.aload_n 0, 1) := by decide +kernel
theorem dX11_look_93 : decode cX11_look 93 = .ok (.getfield 38, 3) := by decide +kernel
theorem dX11_look_96 : decode cX11_look 96 = .ok (.getfield 109, 3) := by decide +kernel
theorem dX11_look_99 : decode cX11_look 99 = .ok (.invokestatic 284, 3) := by decide +kernel
theorem dX11_look_102 : decode cX11_look 102 = .ok (.ireturn, 1) := by decide +kernel
theorem dX11_look_103 : decode cX11_look 103 = .ok (.aload_n 0, 1) := by decide +kernel
theorem dX11_look_104 : decode cX11_look 104 = .ok (.getfield 28, 3) := by decide +kernel
theorem dX11_look_107 : decode cX11_look 107 = .ok (.getfield 196, 3) := by decide +kernel
theorem dX11_look_110 : decode cX11_look 110 = .ok (.aload_n 0, 1) := by decide +kernel
theorem dX11_look_111 : decode cX11_look 111 = .ok (.getfield 38, 3) := by decide +kernel
theorem dX11_look_114 : decode cX11_look 114 = .ok (.getfield 109, 3) := by decide +kernel
theorem dX11_look_117 : decode cX11_look 117 = .ok (.aload_n 0, 1) := by decide +kernel
theorem dX11_look_118 : decode cX11_look 118 = .ok (.getfield 38, 3) := by decide +kernel
theorem dX11_look_121 : decode cX11_look 121 = .ok (.getfield 193, 3) := by decide +kernel
theorem dX11_look_124 : decode cX11_look 124 = .ok (.invokevirtual 200, 3) := by decide +kernel
theorem dX11_look_127 : decode cX11_look 127 = .ok (.ifCond .eq 7, 3) := by decide +kernel
theorem dX11_look_130 : decode cX11_look 130 = .ok (.iconst 1, 1) := by decide +kernel
theorem dX11_look_131 : decode cX11_look 131 = .ok (.goto 4, 3) := by decide +kernel
theorem dX11_look_134 : decode cX11_look 134 = .ok (.iconst 0, 1) := by decide +kernel
theorem dX11_look_135 : decode cX11_look 135 = .ok (.ireturn, 1) := by decide +kernel
theorem dX11_look_136 : decode cX11_look 136 = .ok (.aload_n 0, 1) := by decide +kernel
theorem dX11_look_137 : decode cX11_look 137 = .ok (.getfield 38, 3) := by decide +kernel
theorem dX11_look_140 : decode cX11_look 140 = .ok (.getfield 290, 3) := by decide +kernel
theorem dX11_look_143 : decode cX11_look 143 = .ok (.ireturn, 1) := by decide +kernel
theorem dX11_look_144 : decode cX11_look 144 = .ok (.aload_n 0, 1) := by decide +kernel
theorem dX11_look_145 : decode cX11_look 145 = .ok (.getfield 38, 3) := by decide +kernel
theorem dX11_look_148 : decode cX11_look 148 = .ok (.getfield 293, 3) := by decide +kernel
theorem dX11_look_151 : decode cX11_look 151 = .ok (.ireturn, 1) := by decide +kernel
theorem dX11_look_152 : decode cX11_look 152 = .ok (.iload_n 1, 1) := by decide +kernel
theorem dX11_look_153 : decode cX11_look 153 = .ok (.bipush 9, 2) := by decide +kernel
theorem dX11_look_155 : decode cX11_look 155 = .ok (.if_icmp .lt 18, 3) := by decide +kernel
theorem dX11_look_158 : decode cX11_look 158 = .ok (.iload_n 1, 1) := by decide +kernel
theorem dX11_look_159 : decode cX11_look 159 = .ok (.bipush 9, 2) := by decide +kernel
theorem dX11_look_161 : decode cX11_look 161 = .ok (.isub, 1) := by decide +kernel
theorem dX11_look_162 : decode cX11_look 162 = .ok (.aload_n 0, 1) := by decide +kernel
theorem dX11_look_163 : decode cX11_look 163 = .ok (.getfield 38, 3) := by decide +kernel
theorem dX11_look_166 : decode cX11_look 166 = .ok (.getfield 127, 3) := by decide +kernel
theorem dX11_look_169 : decode cX11_look 169 = .ok (.arraylength, 1) := by decide +kernel
theorem dX11_look_170 : decode cX11_look 170 = .ok (.if_icmp .lt 7, 3) := by decide +kernel
theorem dX11_look_173 : decode cX11_look 173 = .ok (.iconst (-1), 1) := by decide +kernel
theorem dX11_look_174 : decode cX11_look 174 = .ok (.goto 15, 3) := by decide +kernel
theorem dX11_look_177 : decode cX11_look 177 = .ok (.aload_n 0, 1) := by decide +kernel
theorem dX11_look_178 : decode cX11_look 178 = .ok (.getfield 38, 3) := by decide +kernel
theorem dX11_look_181 : decode cX11_look 181 = .ok (.getfield 127, 3) := by decide +kernel
theorem dX11_look_184 : decode cX11_look 184 = .ok (.iload_n 1, 1) := by decide +kernel
theorem dX11_look_185 : decode cX11_look 185 = .ok (.bipush 9, 2) := by decide +kernel
theorem dX11_look_187 : decode cX11_look 187 = .ok (.isub, 1) := by decide +kernel
theorem dX11_look_188 : decode cX11_look 188 = .ok (.iaload, 1) := by decide +kernel
theorem dX11_look_189 : decode cX11_look 189 = .ok (.ireturn, 1) := by decide +kernel
theorem dX11_keepRead_0 : decode cX11_keepRead 0 = .ok (.iload_n 1, 1) := by decide +kernel
theorem dX11_keepRead_1 : decode cX11_keepRead 1 = .ok (.iconst 3, 1) := by decide +kernel
theorem dX11_keepRead_2 : decode cX11_keepRead 2 = .ok (.if_icmp .ne 23, 3) := by decide +kernel
theorem dX11_keepRead_5 : decode cX11_keepRead 5 = .ok (.aload_n 0, 1) := by decide +kernel
theorem dX11_keepRead_6 : decode cX11_keepRead 6 = .ok (.getfield 28, 3) := by decide +kernel
theorem dX11_keepRead_9 : decode cX11_keepRead 9 = .ok (.getfield 196, 3) := by decide +kernel
theorem dX11_keepRead_12 : decode cX11_keepRead 12 = .ok (.aload_n 0, 1) := by decide +kernel
theorem dX11_keepRead_13 : decode cX11_keepRead 13 = .ok (.getfield 21, 3) := by decide +kernel
theorem dX11_keepRead_16 : decode cX11_keepRead 16 = .ok (.getfield 296, 3) := by decide +kernel
theorem dX11_keepRead_19 : decode cX11_keepRead 19 = .ok (.invokevirtual 297, 3) := by decide +kernel
theorem dX11_keepRead_22 : decode cX11_keepRead 22 = .ok (.goto 21, 3) := by decide +kernel
theorem dX11_keepRead_25 : decode cX11_keepRead 25 = .ok (.aload_n 0, 1) := by decide +kernel
theorem dX11_keepRead_26 : decode cX11_keepRead 26 = .ok (.getfield 28, 3) := by decide +kernel
theorem dX11_keepRead_29 : decode cX11_keepRead 29 = .ok (.iload_n 1, 1) := by decide +kernel
theorem dX11_keepRead_30 : decode cX11_keepRead 30 = .ok (.invokevirtual 300, 3) := by decide +kernel
theorem dX11_keepRead_33 : decode cX11_keepRead 33 = .ok (.aload_n 0, 1) := by decide +kernel
theorem dX11_keepRead_34 : decode cX11_keepRead 34 = .ok (.getfield 21, 3) := by decide +kernel
theorem dX11_keepRead_37 : decode cX11_keepRead 37 = .ok (.getfield 304, 3) := by decide +kernel
theorem dX11_keepRead_40 : decode cX11_keepRead 40 = .ok (.invokevirtual 306, 3) := by decide +kernel
theorem dX11_keepRead_43 : decode cX11_keepRead 43 = .ok (.return_, 1) := by decide +kernel
theorem dX11_goAhead_0 : decode cX11_goAhead 0 = .ok (.aload_n 0, 1) := by decide +kernel
theorem dX11_goAhead_1 : decode cX11_goAhead 1 = .ok (.getfield 67, 3) := by decide +kernel
theorem dX11_goAhead_4 : decode cX11_goAhead 4 = .ok (.aload_n 0, 1) := by decide +kernel
theorem dX11_goAhead_5 : decode cX11_goAhead 5 = .ok (.getfield 38, 3) := by decide +kernel
theorem dX11_goAhead_8 : decode cX11_goAhead 8 = .ok (.aload_n 0, 1) := by decide +kernel
theorem dX11_goAhead_9 : decode cX11_goAhead 9 = .ok (.getfield 28, 3) := by decide +kernel
theorem dX11_goAhead_12 : decode cX11_goAhead 12 = .ok (.getfield 196, 3) := by decide +kernel
theorem dX11_goAhead_15 : decode cX11_goAhead 15 = .ok (.invokevirtual 311, 3) := by decide +kernel
theorem dX11_goAhead_18 : decode cX11_goAhead 18 = .ok (.iconst 0, 1) := by decide +kernel
theorem dX11_goAhead_19 : decode cX11_goAhead 19 = .ok (.istore_n 2, 1) := by decide +kernel
theorem dX11_goAhead_20 : decode cX11_goAhead 20 = .ok (.iload_n 2, 1) := by decide +kernel
theorem dX11_goAhead_21 : decode cX11_goAhead 21 = .ok (.iload_n 1, 1) := by decide +kernel
theorem dX11_goAhead_22 : decode cX11_goAhead 22 = .ok (.if_icmp .ge 28, 3) := by decide +kernel
theorem dX11_goAhead_25 : decode cX11_goAhead 25 = .ok (.aload_n 0, 1) := by decide +kernel
theorem dX11_goAhead_26 : decode cX11_goAhead 26 = .ok (.getfield 67, 3) := by decide +kernel
theorem dX11_goAhead_29 : decode cX11_goAhead 29 = .ok (.aload_n 0, 1) := by decide +kernel
theorem dX11_goAhead_30 : decode cX11_goAhead 30 = .ok (.getfield 38, 3) := by decide +kernel
theorem dX11_goAhead_33 : decode cX11_goAhead 33 = .ok (.aload_n 0, 1) := by decide +kernel
theorem dX11_goAhead_34 : decode cX11_goAhead 34 = .ok (.getfield 28, 3) := by decide +kernel
theorem dX11_goAhead_37 : decode cX11_goAhead 37 = .ok (.getfield 163, 3) := by decide +kernel
theorem dX11_goAhead_40 : decode cX11_goAhead 40 = .ok (.iload_n 2, 1) := by decide +kernel
theorem dX11_goAhead_41 : decode cX11_goAhead 41 = .ok (.invokevirtual 314, 3) := by decide +kernel
theorem dX11_goAhead_44 : decode cX11_goAhead 44 = .ok (.iinc 2 1, 3) := by decide +kernel
theorem dX11_goAhead_47 : decode cX11_goAhead 47 = .ok (.goto (-27), 3) := by decide +kernel
theorem dX11_goAhead_50 : decode cX11_goAhead 50 = .ok (.return_, 1) := by decide +kernel
theorem dX11_lasts_0 : decode cX11_lasts 0 = .ok (.aload_n 0, 1) := by decide +kernel
theorem dX11_lasts_1 : decode cX11_lasts 1 = .ok (.getfield 67, 3) := by decide +kernel
theorem dX11_lasts_4 : decode cX11_lasts 4 = .ok (.aload_n 0, 1) := by decide +kernel
theorem dX11_lasts_5 : decode cX11_lasts 5 = .ok (.getfield 38, 3) := by decide +kernel
theorem dX11_lasts_8 : decode cX11_lasts 8 = .ok (.aload_n 0, 1) := by decide +kernel
theorem dX11_lasts_9 : decode cX11_lasts 9 = .ok (.getfield 28, 3) := by decide +kernel
theorem dX11_lasts_12 : decode cX11_lasts 12 = .ok (.getfield 196, 3) := by decide +kernel
theorem dX11_lasts_15 : decode cX11_lasts 15 = .ok (.invokevirtual 311, 3) := by decide +kernel
theorem dX11_lasts_18 : decode cX11_lasts 18 = .ok (.aload_n 0, 1) := by decide +kernel
theorem dX11_lasts_19 : decode cX11_lasts 19 = .ok (.getfield 67, 3) := by decide +kernel
theorem dX11_lasts_22 : decode cX11_lasts 22 = .ok (.invokevirtual 226, 3) := by decide +kernel
theorem dX11_lasts_25 : decode cX11_lasts 25 = .ok (.lstore_n 1, 1) := by decide +kernel
theorem dX11_lasts_26 : decode cX11_lasts 26 = .ok (.iconst 0, 1) := by decide +kernel
theorem dX11_lasts_27 : decode cX11_lasts 27 = .ok (.istore_n 3, 1) := by decide +kernel
theorem dX11_lasts_28 : decode cX11_lasts 28 = .ok (.iload_n 3, 1) := by decide +kernel
theorem dX11_lasts_29 : decode cX11_lasts 29 = .ok (.bipush 59, 2) := by decide +kernel
theorem dX11_lasts_31 : decode cX11_lasts 31 = .ok (.if_icmp .ge 38, 3) := by decide +kernel
theorem dX11_lasts_34 : decode cX11_lasts 34 = .ok (.aload_n 0, 1) := by decide +kernel
theorem dX11_lasts_35 : decode cX11_lasts 35 = .ok (.getfield 67, 3) := by decide +kernel
theorem dX11_lasts_38 : decode cX11_lasts 38 = .ok (.aload_n 0, 1) := by decide +kernel
theorem dX11_lasts_39 : decode cX11_lasts 39 = .ok (.getfield 38, 3) := by decide +kernel
theorem dX11_lasts_42 : decode cX11_lasts 42 = .ok (.aload_n 0, 1) := by decide +kernel
theorem dX11_lasts_43 : decode cX11_lasts 43 = .ok (.getfield 28, 3) := by decide +kernel
theorem dX11_lasts_46 : decode cX11_lasts 46 = .ok (.getfield 163, 3) := by decide +kernel
theorem dX11_lasts_49 : decode cX11_lasts 49 = .ok (.iload_n 3, 1) := by decide +kernel
theorem dX11_lasts_50 : decode cX11_lasts 50 = .ok (.invokevirtual 314, 3) := by decide +kernel
theorem dX11_lasts_53 : decode cX11_lasts 53 = .ok (.lload_n 1, 1) := by decide +kernel
theorem dX11_lasts_54 : decode cX11_lasts 54 = .ok (.aload_n 0, 1) := by decide +kernel
theorem dX11_lasts_55 : decode cX11_lasts 55 = .ok (.getfield 67, 3) := by decide +kernel
theorem dX11_lasts_58 : decode cX11_lasts 58 = .ok (.invokevirtual 226, 3) := by decide +kernel
theorem dX11_lasts_61 : decode cX11_lasts 61 = .ok (.ladd, 1) := by decide +kernel
theorem dX11_lasts_62 : decode cX11_lasts 62 = .ok (.lstore_n 1, 1) := by decide +kernel
theorem dX11_lasts_63 : decode cX11_lasts 63 = .ok (.iinc 3 1, 3) := by decide +kernel
theorem dX11_lasts_66 : decode cX11_lasts 66 = .ok (.goto (-38), 3) := by decide +kernel
theorem dX11_lasts_69 : decode cX11_lasts 69 = .ok (.lload_n 1, 1) := by decide +kernel
theorem dX11_lasts_70 : decode cX11_lasts 70 = .ok (.ldc2_w 317, 3) := by decide +kernel
theorem dX11_lasts_73 : decode cX11_lasts 73 = .ok (.lmul, 1) := by decide +kernel
theorem dX11_lasts_74 : decode cX11_lasts 74 = .ok (.ldc2_w 319, 3) := by decide +kernel
theorem dX11_lasts_77 : decode cX11_lasts 77 = .ok (.ldiv, 1) := by decide +kernel
theorem dX11_lasts_78 : decode cX11_lasts 78 = .ok (.l2i, 1) := by decide +kernel
theorem dX11_lasts_79 : decode cX11_lasts 79 = .ok (.ireturn, 1) := by decide +kernel
theorem dX11_think_0 : decode cX11_think 0 = .ok (.aload_n 0, 1) := by decide +kernel
theorem dX11_think_1 : decode cX11_think 1 = .ok (.getfield 45, 3) := by decide +kernel
theorem dX11_think_4 : decode cX11_think 4 = .ok (.aload_n 0, 1) := by decide +kernel
theorem dX11_think_5 : decode cX11_think 5 = .ok (.getfield 38, 3) := by decide +kernel
theorem dX11_think_8 : decode cX11_think 8 = .ok (.invokevirtual 273, 3) := by decide +kernel
theorem dX11_think_11 : decode cX11_think 11 = .ok (.aload_n 0, 1) := by decide +kernel
theorem dX11_think_12 : decode cX11_think 12 = .ok (.getfield 45, 3) := by decide +kernel
theorem dX11_think_15 : decode cX11_think 15 = .ok (.getfield 127, 3) := by decide +kernel
theorem dX11_think_18 : decode cX11_think 18 = .ok (.iconst 3, 1) := by decide +kernel
theorem dX11_think_19 : decode cX11_think 19 = .ok (.iload_n 2, 1) := by decide +kernel
theorem dX11_think_20 : decode cX11_think 20 = .ok (.iastore, 1) := by decide +kernel
theorem dX11_think_21 : decode cX11_think 21 = .ok (.iconst 0, 1) := by decide +kernel
theorem dX11_think_22 : decode cX11_think 22 = .ok (.istore 4, 2) := by decide +kernel
theorem dX11_think_24 : decode cX11_think 24 = .ok (.iload 4, 2) := by decide +kernel
theorem dX11_think_26 : decode cX11_think 26 = .ok (.iload_n 3, 1) := by decide +kernel
theorem dX11_think_27 : decode cX11_think 27 = .ok (.if_icmp .ge 32, 3) := by decide +kernel
theorem dX11_think_30 : decode cX11_think 30 = .ok (.aload_n 0, 1) := by decide +kernel
theorem dX11_think_31 : decode cX11_think 31 = .ok (.getfield 74, 3) := by decide +kernel
theorem dX11_think_34 : decode cX11_think 34 = .ok (.aload_n 0, 1) := by decide +kernel
theorem dX11_think_35 : decode cX11_think 35 = .ok (.getfield 45, 3) := by decide +kernel
theorem dX11_think_38 : decode cX11_think 38 = .ok (.aload_n 0, 1) := by decide +kernel
theorem dX11_think_39 : decode cX11_think 39 = .ok (.getfield 28, 3) := by decide +kernel
theorem dX11_think_42 : decode cX11_think 42 = .ok (.aload_n 0, 1) := by decide +kernel
theorem dX11_think_43 : decode cX11_think 43 = .ok (.getfield 28, 3) := by decide +kernel
theorem dX11_think_46 : decode cX11_think 46 = .ok (.iload_n 1, 1) := by decide +kernel
theorem dX11_think_47 : decode cX11_think 47 = .ok (.invokevirtual 300, 3) := by decide +kernel
theorem dX11_think_50 : decode cX11_think 50 = .ok (.invokevirtual 212, 3) := by decide +kernel
theorem dX11_think_53 : decode cX11_think 53 = .ok (.iinc 4 1, 3) := by decide +kernel
theorem dX11_think_56 : decode cX11_think 56 = .ok (.goto (-32), 3) := by decide +kernel
theorem dX11_think_59 : decode cX11_think 59 = .ok (.return_, 1) := by decide +kernel
theorem dX11_cheapestEvery_0 : decode cX11_cheapestEvery 0 = .ok (.bipush 9, 2) := by decide +kernel
theorem dX11_cheapestEvery_2 : decode cX11_cheapestEvery 2 = .ok (.istore_n 2, 1) := by decide +kernel
theorem dX11_cheapestEvery_3 : decode cX11_cheapestEvery 3 = .ok (.iconst 0, 1) := by decide +kernel
theorem dX11_cheapestEvery_4 : decode cX11_cheapestEvery 4 = .ok (.istore_n 3, 1) := by decide +kernel
theorem dX11_cheapestEvery_5 : decode cX11_cheapestEvery 5 = .ok (.bipush 9, 2) := by decide +kernel
theorem dX11_cheapestEvery_7 : decode cX11_cheapestEvery 7 = .ok (.istore 4, 2) := by decide +kernel
theorem dX11_cheapestEvery_9 : decode cX11_cheapestEvery 9 = .ok (.iload 4, 2) := by decide +kernel
theorem dX11_cheapestEvery_11 : decode cX11_cheapestEvery 11 = .ok (.iconst 1, 1) := by decide +kernel
theorem dX11_cheapestEvery_12 : decode cX11_cheapestEvery 12 = .ok (.if_icmp .lt 53, 3) := by decide +kernel
theorem dX11_cheapestEvery_15 : decode cX11_cheapestEvery 15 = .ok (.aload_n 0, 1) := by decide +kernel
theorem dX11_cheapestEvery_16 : decode cX11_cheapestEvery 16 = .ok (.iconst 1, 1) := by decide +kernel
theorem dX11_cheapestEvery_17 : decode cX11_cheapestEvery 17 = .ok (.iload 4, 2) := by decide +kernel
theorem dX11_cheapestEvery_19 : decode cX11_cheapestEvery 19 = .ok (.iload_n 1, 1) := by decide +kernel
theorem dX11_cheapestEvery_20 : decode cX11_cheapestEvery 20 = .ok (.invokevirtual 254, 3) := by decide +kernel
theorem dX11_cheapestEvery_23 : decode cX11_cheapestEvery 23 = .ok (.aload_n 0, 1) := by decide +kernel
theorem dX11_cheapestEvery_24 : decode cX11_cheapestEvery 24 = .ok (.getfield 45, 3) := by decide +kernel
theorem dX11_cheapestEvery_27 : decode cX11_cheapestEvery 27 = .ok (.getfield 258, 3) := by decide +kernel
theorem dX11_cheapestEvery_30 : decode cX11_cheapestEvery 30 = .ok (.aload_n 0, 1) := by decide +kernel
theorem dX11_cheapestEvery_31 : decode cX11_cheapestEvery 31 = .ok (.getfield 38, 3) := by decide +kernel
theorem dX11_cheapestEvery_34 : decode cX11_cheapestEvery 34 = .ok (.getfield 258, 3) := by decide +kernel
theorem dX11_cheapestEvery_37 : decode cX11_cheapestEvery 37 = .ok (.isub, 1) := by decide +kernel
theorem dX11_cheapestEvery_38 : decode cX11_cheapestEvery 38 = .ok (.istore 5, 2) := by decide +kernel
theorem dX11_cheapestEvery_40 : decode cX11_cheapestEvery 40 = .ok (.iload 4, 2) := by decide +kernel
theorem dX11_cheapestEvery_42 : decode cX11_cheapestEvery 42 = .ok (.bipush 9, 2) := by decide +kernel
theorem dX11_cheapestEvery_44 : decode cX11_cheapestEvery 44 = .ok (.if_icmp .eq 9, 3) := by decide +kernel
theorem dX11_cheapestEvery_47 : decode cX11_cheapestEvery 47 = .ok (.iload 5, 2) := by decide +kernel
theorem dX11_cheapestEvery_49 : decode cX11_cheapestEvery 49 = .ok (.iload_n 3, 1) := by decide +kernel
theorem dX11_cheapestEvery_50 : decode cX11_cheapestEvery 50 = .ok (.if_icmp .ge 9, 3) := by decide +kernel
theorem dX11_cheapestEvery_53 : decode cX11_cheapestEvery 53 = .ok (.iload 4, 2) := by decide +kernel
theorem dX11_cheapestEvery_55 : decode cX11_cheapestEvery 55 = .ok (.istore_n 2, 1) := by decide +kernel
theorem dX11_cheapestEvery_56 : decode cX11_cheapestEvery 56 = .ok (.iload 5, 2) := by decide +kernel
theorem dX11_cheapestEvery_58 : decode cX11_cheapestEvery 58 = .ok (.istore_n 3, 1) := by decide +kernel
theorem dX11_cheapestEvery_59 : decode cX11_cheapestEvery 59 = .ok (.iinc 4 (-1), 3) := by decide +kernel
theorem dX11_cheapestEvery_62 : decode cX11_cheapestEvery 62 = .ok (.goto (-53), 3) := by decide +kernel
theorem dX11_cheapestEvery_65 : decode cX11_cheapestEvery 65 = .ok (.iload_n 2, 1) := by decide +kernel
theorem dX11_cheapestEvery_66 : decode cX11_cheapestEvery 66 = .ok (.ireturn, 1) := by decide +kernel
theorem dX11_cheaperRule_0 : decode cX11_cheaperRule 0 = .ok (.aload_n 0, 1) := by decide +kernel
theorem dX11_cheaperRule_1 : decode cX11_cheaperRule 1 = .ok (.iconst 1, 1) := by decide +kernel
theorem dX11_cheaperRule_2 : decode cX11_cheaperRule 2 = .ok (.aload_n 0, 1) := by decide +kernel
theorem dX11_cheaperRule_3 : decode cX11_cheaperRule 3 = .ok (.getfield 38, 3) := by decide +kernel
theorem dX11_cheaperRule_6 : decode cX11_cheaperRule 6 = .ok (.getfield 127, 3) := by decide +kernel
theorem dX11_cheaperRule_9 : decode cX11_cheaperRule 9 = .ok (.iconst 3, 1) := by decide +kernel
theorem dX11_cheaperRule_10 : decode cX11_cheaperRule 10 = .ok (.iaload, 1) := by decide +kernel
theorem dX11_cheaperRule_11 : decode cX11_cheaperRule 11 = .ok (.iload_n 1, 1) := by decide +kernel
theorem dX11_cheaperRule_12 : decode cX11_cheaperRule 12 = .ok (.invokevirtual 254, 3) := by decide +kernel
theorem dX11_cheaperRule_15 : decode cX11_cheaperRule 15 = .ok (.aload_n 0, 1) := by decide +kernel
theorem dX11_cheaperRule_16 : decode cX11_cheaperRule 16 = .ok (.getfield 45, 3) := by decide +kernel
theorem dX11_cheaperRule_19 : decode cX11_cheaperRule 19 = .ok (.getfield 258, 3) := by decide +kernel
theorem dX11_cheaperRule_22 : decode cX11_cheaperRule 22 = .ok (.aload_n 0, 1) := by decide +kernel
theorem dX11_cheaperRule_23 : decode cX11_cheaperRule 23 = .ok (.getfield 38, 3) := by decide +kernel
theorem dX11_cheaperRule_26 : decode cX11_cheaperRule 26 = .ok (.getfield 258, 3) := by decide +kernel
theorem dX11_cheaperRule_29 : decode cX11_cheaperRule 29 = .ok (.isub, 1) := by decide +kernel
theorem dX11_cheaperRule_30 : decode cX11_cheaperRule 30 = .ok (.istore_n 2, 1) := by decide +kernel
theorem dX11_cheaperRule_31 : decode cX11_cheaperRule 31 = .ok (.aload_n 0, 1) := by decide +kernel
theorem dX11_cheaperRule_32 : decode cX11_cheaperRule 32 = .ok (.iconst 2, 1) := by decide +kernel
theorem dX11_cheaperRule_33 : decode cX11_cheaperRule 33 = .ok (.aload_n 0, 1) := by decide +kernel
theorem dX11_cheaperRule_34 : decode cX11_cheaperRule 34 = .ok (.getfield 38, 3) := by decide +kernel
theorem dX11_cheaperRule_37 : decode cX11_cheaperRule 37 = .ok (.getfield 127, 3) := by decide +kernel
theorem dX11_cheaperRule_40 : decode cX11_cheaperRule 40 = .ok (.iconst 3, 1) := by decide +kernel
theorem dX11_cheaperRule_41 : decode cX11_cheaperRule 41 = .ok (.iaload, 1) := by decide +kernel
theorem dX11_cheaperRule_42 : decode cX11_cheaperRule 42 = .ok (.iload_n 1, 1) := by decide +kernel
theorem dX11_cheaperRule_43 : decode cX11_cheaperRule 43 = .ok (.invokevirtual 254, 3) := by decide +kernel
theorem dX11_cheaperRule_46 : decode cX11_cheaperRule 46 = .ok (.aload_n 0, 1) := by decide +kernel
theorem dX11_cheaperRule_47 : decode cX11_cheaperRule 47 = .ok (.getfield 45, 3) := by decide +kernel
theorem dX11_cheaperRule_50 : decode cX11_cheaperRule 50 = .ok (.getfield 258, 3) := by decide +kernel
theorem dX11_cheaperRule_53 : decode cX11_cheaperRule 53 = .ok (.aload_n 0, 1) := by decide +kernel
theorem dX11_cheaperRule_54 : decode cX11_cheaperRule 54 = .ok (.getfield 38, 3) := by decide +kernel
theorem dX11_cheaperRule_57 : decode cX11_cheaperRule 57 = .ok (.getfield 258, 3) := by decide +kernel
theorem dX11_cheaperRule_60 : decode cX11_cheaperRule 60 = .ok (.isub, 1) := by decide +kernel
theorem dX11_cheaperRule_61 : decode cX11_cheaperRule 61 = .ok (.istore_n 3, 1) := by decide +kernel
theorem dX11_cheaperRule_62 : decode cX11_cheaperRule 62 = .ok (.iload_n 3, 1) := by decide +kernel
theorem dX11_cheaperRule_63 : decode cX11_cheaperRule 63 = .ok (.iload_n 2, 1) := by decide +kernel
theorem dX11_cheaperRule_64 : decode cX11_cheaperRule 64 = .ok (.if_icmp .ge 7, 3) := by decide +kernel
theorem dX11_cheaperRule_67 : decode cX11_cheaperRule 67 = .ok (.iconst 2, 1) := by decide +kernel
theorem dX11_cheaperRule_68 : decode cX11_cheaperRule 68 = .ok (.goto 4, 3) := by decide +kernel
theorem dX11_cheaperRule_71 : decode cX11_cheaperRule 71 = .ok (.iconst 1, 1) := by decide +kernel
theorem dX11_cheaperRule_72 : decode cX11_cheaperRule 72 = .ok (.ireturn, 1) := by decide +kernel
theorem dX11_isEvery_0 : decode cX11_isEvery 0 = .ok (.iload_n 0, 1) := by decide +kernel
theorem dX11_isEvery_1 : decode cX11_isEvery 1 = .ok (.getstatic 121, 3) := by decide +kernel
theorem dX11_isEvery_4 : decode cX11_isEvery 4 = .ok (.iconst 3, 1) := by decide +kernel
theorem dX11_isEvery_5 : decode cX11_isEvery 5 = .ok (.iaload, 1) := by decide +kernel
theorem dX11_isEvery_6 : decode cX11_isEvery 6 = .ok (.if_icmp .lt 16, 3) := by decide +kernel
theorem dX11_isEvery_9 : decode cX11_isEvery 9 = .ok (.iload_n 0, 1) := by decide +kernel
theorem dX11_isEvery_10 : decode cX11_isEvery 10 = .ok (.getstatic 124, 3) := by decide +kernel
theorem dX11_isEvery_13 : decode cX11_isEvery 13 = .ok (.iconst 3, 1) := by decide +kernel
theorem dX11_isEvery_14 : decode cX11_isEvery 14 = .ok (.iaload, 1) := by decide +kernel
theorem dX11_isEvery_15 : decode cX11_isEvery 15 = .ok (.if_icmp .gt 7, 3) := by decide +kernel
theorem dX11_isEvery_18 : decode cX11_isEvery 18 = .ok (.iconst 1, 1) := by decide +kernel
theorem dX11_isEvery_19 : decode cX11_isEvery 19 = .ok (.goto 4, 3) := by decide +kernel
theorem dX11_isEvery_22 : decode cX11_isEvery 22 = .ok (.iconst 0, 1) := by decide +kernel
theorem dX11_isEvery_23 : decode cX11_isEvery 23 = .ok (.ireturn, 1) := by decide +kernel
theorem dX11_bit_0 : decode cX11_bit 0 = .ok (.lload_n 0, 1) := by decide +kernel
theorem dX11_bit_1 : decode cX11_bit 1 = .ok (.iload_n 2, 1) := by decide +kernel
theorem dX11_bit_2 : decode cX11_bit 2 = .ok (.lushr, 1) := by decide +kernel
theorem dX11_bit_3 : decode cX11_bit 3 = .ok (.lconst 1, 1) := by decide +kernel
theorem dX11_bit_4 : decode cX11_bit 4 = .ok (.land, 1) := by decide +kernel
theorem dX11_bit_5 : decode cX11_bit 5 = .ok (.l2i, 1) := by decide +kernel
theorem dX11_bit_6 : decode cX11_bit 6 = .ok (.ireturn, 1) := by decide +kernel
theorem dX11_besideIn_0 : decode cX11_besideIn 0 = .ok (.iload_n 2, 1) := by decide +kernel
theorem dX11_besideIn_1 : decode cX11_besideIn 1 = .ok (.ifCond .le 13, 3) := by decide +kernel
theorem dX11_besideIn_4 : decode cX11_besideIn 4 = .ok (.lload_n 0, 1) := by decide +kernel
theorem dX11_besideIn_5 : decode cX11_besideIn 5 = .ok (.iload_n 2, 1) := by decide +kernel
theorem dX11_besideIn_6 : decode cX11_besideIn 6 = .ok (.iconst 1, 1) := by decide +kernel
theorem dX11_besideIn_7 : decode cX11_besideIn 7 = .ok (.isub, 1) := by decide +kernel
theorem dX11_besideIn_8 : decode cX11_besideIn 8 = .ok (.invokestatic 153, 3) := by decide +kernel
theorem dX11_besideIn_11 : decode cX11_besideIn 11 = .ok (.goto 4, 3) := by decide +kernel
theorem dX11_besideIn_14 : decode cX11_besideIn 14 = .ok (.iconst 0, 1) := by decide +kernel
theorem dX11_besideIn_15 : decode cX11_besideIn 15 = .ok (.lload_n 0, 1) := by decide +kernel
theorem dX11_besideIn_16 : decode cX11_besideIn 16 = .ok (.iload_n 2, 1) := by decide +kernel
theorem dX11_besideIn_17 : decode cX11_besideIn 17 = .ok (.iconst 1, 1) := by decide +kernel
theorem dX11_besideIn_18 : decode cX11_besideIn 18 = .ok (.iadd, 1) := by decide +kernel
theorem dX11_besideIn_19 : decode cX11_besideIn 19 = .ok (.invokestatic 153, 3) := by decide +kernel
theorem dX11_besideIn_22 : decode cX11_besideIn 22 = .ok (.iadd, 1) := by decide +kernel
theorem dX11_besideIn_23 : decode cX11_besideIn 23 = .ok (.ireturn, 1) := by decide +kernel
theorem dX12_init_0 : decode cX12_init 0 = .ok (.aload_n 0, 1) := by decide +kernel
theorem dX12_init_1 : decode cX12_init 1 = .ok (.invokespecial 1, 3) := by decide +kernel
theorem dX12_init_4 : decode cX12_init 4 = .ok (.aload_n 0, 1) := by decide +kernel
theorem dX12_init_5 : decode cX12_init 5 = .ok (.bipush 8, 2) := by decide +kernel
theorem dX12_init_7 : decode cX12_init 7 = .ok (.putfield 7, 3) := by decide +kernel
theorem dX12_init_10 : decode cX12_init 10 = .ok (.aload_n 0, 1) := by decide +kernel
theorem dX12_init_11 : decode cX12_init 11 = .ok (.bipush 60, 2) := by decide +kernel
theorem dX12_init_13 : decode cX12_init 13 = .ok (.newarray .int, 2) := by decide +kernel
theorem dX12_init_15 : decode cX12_init 15 = .ok (.putfield 13, 3) := by decide +kernel
theorem dX12_init_18 : decode cX12_init 18 = .ok (.aload_n 0, 1) := by decide +kernel
theorem dX12_init_19 : decode cX12_init 19 = .ok (.bipush 60, 2) := by decide +kernel
theorem dX12_init_21 : decode cX12_init 21 = .ok (.newarray .int, 2) := by decide +kernel
theorem dX12_init_23 : decode cX12_init 23 = .ok (.putfield 17, 3) := by decide +kernel
theorem dX12_init_26 : decode cX12_init 26 = .ok (.aload_n 0, 1) := by decide +kernel
theorem dX12_init_27 : decode cX12_init 27 = .ok (.bipush 60, 2) := by decide +kernel
theorem dX12_init_29 : decode cX12_init 29 = .ok (.newarray .int, 2) := by decide +kernel
theorem dX12_init_31 : decode cX12_init 31 = .ok (.putfield 20, 3) := by decide +kernel
theorem dX12_init_34 : decode cX12_init 34 = .ok (.aload_n 0, 1) := by decide +kernel
theorem dX12_init_35 : decode cX12_init 35 = .ok (.bipush 60, 2) := by decide +kernel
theorem dX12_init_37 : decode cX12_init 37 = .ok (.newarray .int, 2) := by decide +kernel
theorem dX12_init_39 : decode cX12_init 39 = .ok (.putfield 23, 3) := by decide +kernel
theorem dX12_init_42 : decode cX12_init 42 = .ok (.aload_n 0, 1) := by decide +kernel
theorem dX12_init_43 : decode cX12_init 43 = .ok (.bipush 60, 2) := by decide +kernel
theorem dX12_init_45 : decode cX12_init 45 = .ok (.newarray .int, 2) := by decide +kernel
theorem dX12_init_47 : decode cX12_init 47 = .ok (.putfield 26, 3) := by decide +kernel
theorem dX12_init_50 : decode cX12_init 50 = .ok (.aload_n 0, 1) := by decide +kernel
theorem dX12_init_51 : decode cX12_init 51 = .ok (.bipush 60, 2) := by decide +kernel
theorem dX12_init_53 : decode cX12_init 53 = .ok (.newarray .int, 2) := by decide +kernel
theorem dX12_init_55 : decode cX12_init 55 = .ok (.putfield 29, 3) := by decide +kernel
theorem dX12_init_58 : decode cX12_init 58 = .ok (.aload_n 0, 1) := by decide +kernel
theorem dX12_init_59 : decode cX12_init 59 = .ok (.bipush 6, 2) := by decide +kernel
theorem dX12_init_61 : decode cX12_init 61 = .ok (.newarray .int, 2) := by decide +kernel
theorem dX12_init_63 : decode cX12_init 63 = .ok (.dup, 1) := by decide +kernel
theorem dX12_init_64 : decode cX12_init 64 = .ok (.iconst 0, 1) := by decide +kernel
theorem dX12_init_65 : decode cX12_init 65 = .ok (.bipush 10, 2) := by decide +kernel
theorem dX12_init_67 : decode cX12_init 67 = .ok (.iastore, 1) := by decide +kernel
theorem dX12_init_68 : decode cX12_init 68 = .ok (.dup, 1) := by decide +kernel
theorem dX12_init_69 : decode cX12_init 69 = .ok (.iconst 1, 1) := by decide +kernel
theorem dX12_init_70 : decode cX12_init 70 = .ok (.bipush 10, 2) := by decide +kernel
theorem dX12_init_72 : decode cX12_init 72 = .ok (.iastore, 1) := by decide +kernel
theorem dX12_init_73 : decode cX12_init 73 = .ok (.dup, 1) := by decide +kernel
theorem dX12_init_74 : decode cX12_init 74 = .ok (.iconst 2, 1) := by decide +kernel
theorem dX12_init_75 : decode cX12_init 75 = .ok (.bipush 10, 2) := by decide +kernel
theorem dX12_init_77 : decode cX12_init 77 = .ok (.iastore, 1) := by decide +kernel
theorem dX12_init_78 : decode cX12_init 78 = .ok (.dup, 1) := by decide +kernel
theorem dX12_init_79 : decode cX12_init 79 = .ok (.iconst 3, 1) := by decide +kernel
theorem dX12_init_80 : decode cX12_init 80 = .ok (.bipush 10, 2) := by decide +kernel
theorem dX12_init_82 : decode cX12_init 82 = .ok (.iastore, 1) := by decide +kernel
theorem dX12_init_83 : decode cX12_init 83 = .ok (.dup, 1) := by decide +kernel
theorem dX12_init_84 : decode cX12_init 84 = .ok (.iconst 4, 1) := by decide +kernel
theorem dX12_init_85 : decode cX12_init 85 = .ok (.bipush 10, 2) := by decide +kernel
theorem dX12_init_87 : decode cX12_init 87 = .ok (.iastore, 1) := by decide +kernel
theorem dX12_init_88 : decode cX12_init 88 = .ok (.dup, 1) := by decide +kernel
theorem dX12_init_89 : decode cX12_init 89 = .ok (.iconst 5, 1) := by decide +kernel
theorem dX12_init_90 : decode cX12_init 90 = .ok (.bipush 10, 2) := by decide +kernel
theorem dX12_init_92 : decode cX12_init 92 = .ok (.iastore, 1) := by decide +kernel
theorem dX12_init_93 : decode cX12_init 93 = .ok (.putfield 32, 3) := by decide +kernel
theorem dX12_init_96 : decode cX12_init 96 = .ok (.aload_n 0, 1) := by decide +kernel
theorem dX12_init_97 : decode cX12_init 97 = .ok (.bipush 6, 2) := by decide +kernel
theorem dX12_init_99 : decode cX12_init 99 = .ok (.newarray .int, 2) := by decide +kernel
theorem dX12_init_101 : decode cX12_init 101 = .ok (.dup, 1) := by decide +kernel
theorem dX12_init_102 : decode cX12_init 102 = .ok (.iconst 0, 1) := by decide +kernel
theorem dX12_init_103 : decode cX12_init 103 = .ok (.iconst 1, 1) := by decide +kernel
theorem dX12_init_104 : decode cX12_init 104 = .ok (.iastore, 1) := by decide +kernel
theorem dX12_init_105 : decode cX12_init 105 = .ok (.dup, 1) := by decide +kernel
theorem dX12_init_106 : decode cX12_init 106 = .ok (.iconst 1, 1) := by decide +kernel
theorem dX12_init_107 : decode cX12_init 107 = .ok (.iconst 1, 1) := by decide +kernel
theorem dX12_init_108 : decode cX12_init 108 = .ok (.iastore, 1) := by decide +kernel
theorem dX12_init_109 : decode cX12_init 109 = .ok (.dup, 1) := by decide +kernel
theorem dX12_init_110 : decode cX12_init 110 = .ok (.iconst 2, 1) := by decide +kernel
theorem dX12_init_111 : decode cX12_init 111 = .ok (.iconst 1, 1) := by decide +kernel
theorem dX12_init_112 : decode cX12_init 112 = .ok (.iastore, 1) := by decide +kernel
theorem dX12_init_113 : decode cX12_init 113 = .ok (.dup, 1) := by decide +kernel
theorem dX12_init_114 : decode cX12_init 114 = .ok (.iconst 3, 1) := by decide +kernel
theorem dX12_init_115 : decode cX12_init 115 = .ok (.iconst 1, 1) := by decide +kernel
theorem dX12_init_116 : decode cX12_init 116 = .ok (.iastore, 1) := by decide +kernel
theorem dX12_init_117 : decode cX12_init 117 = .ok (.dup, 1) := by decide +kernel
theorem dX12_init_118 : decode cX12_init 118 = .ok (.iconst 4, 1) := by decide +kernel
theorem dX12_init_119 : decode cX12_init 119 = .ok (.iconst 1, 1) := by decide +kernel
theorem dX12_init_120 : decode cX12_init 120 = .ok (.iastore, 1) := by decide +kernel
theorem dX12_init_121 : decode cX12_init 121 = .ok (.dup, 1) := by decide +kernel
theorem dX12_init_122 : decode cX12_init 122 = .ok (.iconst 5, 1) := by decide +kernel
theorem dX12_init_123 : decode cX12_init 123 = .ok (.iconst 1, 1) := by decide +kernel
theorem dX12_init_124 : decode cX12_init 124 = .ok (.iastore, 1) := by decide +kernel
theorem dX12_init_125 : decode cX12_init 125 = .ok (.putfield 35, 3) := by decide +kernel
theorem dX12_init_128 : decode cX12_init 128 = .ok (.aload_n 0, 1) := by decide +kernel
theorem dX12_init_129 : decode cX12_init 129 = .ok (.bipush 8, 2) := by decide +kernel
theorem dX12_init_131 : decode cX12_init 131 = .ok (.newarray .int, 2) := by decide +kernel
theorem dX12_init_133 : decode cX12_init 133 = .ok (.dup, 1) := by decide +kernel
theorem dX12_init_134 : decode cX12_init 134 = .ok (.iconst 0, 1) := by decide +kernel
theorem dX12_init_135 : decode cX12_init 135 = .ok (.iconst 0, 1) := by decide +kernel
theorem dX12_init_136 : decode cX12_init 136 = .ok (.iastore, 1) := by decide +kernel
theorem dX12_init_137 : decode cX12_init 137 = .ok (.dup, 1) := by decide +kernel
theorem dX12_init_138 : decode cX12_init 138 = .ok (.iconst 1, 1) := by decide +kernel
theorem dX12_init_139 : decode cX12_init 139 = .ok (.iconst 5, 1) := by decide +kernel
theorem dX12_init_140 : decode cX12_init 140 = .ok (.iastore, 1) := by decide +kernel
theorem dX12_init_141 : decode cX12_init 141 = .ok (.dup, 1) := by decide +kernel
theorem dX12_init_142 : decode cX12_init 142 = .ok (.iconst 2, 1) := by decide +kernel
theorem dX12_init_143 : decode cX12_init 143 = .ok (.bipush 11, 2) := by decide +kernel
theorem dX12_init_145 : decode cX12_init 145 = .ok (.iastore, 1) := by decide +kernel
theorem dX12_init_146 : decode cX12_init 146 = .ok (.dup, 1) := by decide +kernel
theorem dX12_init_147 : decode cX12_init 147 = .ok (.iconst 3, 1) := by decide +kernel
theorem dX12_init_148 : decode cX12_init 148 = .ok (.iconst 1, 1) := by decide +kernel
theorem dX12_init_149 : decode cX12_init 149 = .ok (.iastore, 1) := by decide +kernel
theorem dX12_init_150 : decode cX12_init 150 = .ok (.dup, 1) := by decide +kernel
theorem dX12_init_151 : decode cX12_init 151 = .ok (.iconst 4, 1) := by decide +kernel
theorem dX12_init_152 : decode cX12_init 152 = .ok (.iconst 1, 1) := by decide +kernel
theorem dX12_init_153 : decode cX12_init 153 = .ok (.iastore, 1) := by decide +kernel
theorem dX12_init_154 : decode cX12_init 154 = .ok (.dup, 1) := by decide +kernel
theorem dX12_init_155 : decode cX12_init 155 = .ok (.iconst 5, 1) := by decide +kernel
theorem dX12_init_156 : decode cX12_init 156 = .ok (.bipush 100, 2) := by decide +kernel
theorem dX12_init_158 : decode cX12_init 158 = .ok (.iastore, 1) := by decide +kernel
theorem dX12_init_159 : decode cX12_init 159 = .ok (.dup, 1) := by decide +kernel
theorem dX12_init_160 : decode cX12_init 160 = .ok (.bipush 6, 2) := by decide +kernel
theorem dX12_init_162 : decode cX12_init 162 = .ok (.bipush 99, 2) := by decide +kernel
theorem dX12_init_164 : decode cX12_init 164 = .ok (.iastore, 1) := by decide +kernel
theorem dX12_init_165 : decode cX12_init 165 = .ok (.dup, 1) := by decide +kernel
theorem dX12_init_166 : decode cX12_init 166 = .ok (.bipush 7, 2) := by decide +kernel
theorem dX12_init_168 : decode cX12_init 168 = .ok (.bipush 99, 2) := by decide +kernel
theorem dX12_init_170 : decode cX12_init 170 = .ok (.iastore, 1) := by decide +kernel
theorem dX12_init_171 : decode cX12_init 171 = .ok (.putfield 38, 3) := by decide +kernel
theorem dX12_init_174 : decode cX12_init 174 = .ok (.aload_n 0, 1) := by decide +kernel
theorem dX12_init_175 : decode cX12_init 175 = .ok (.iconst (-1), 1) := by decide +kernel
theorem dX12_init_176 : decode cX12_init 176 = .ok (.putfield 41, 3) := by decide +kernel
theorem dX12_init_179 : decode cX12_init 179 = .ok (.aload_n 0, 1) := by decide +kernel
theorem dX12_init_180 : decode cX12_init 180 = .ok (.sipush 500, 3) := by decide +kernel
theorem dX12_init_183 : decode cX12_init 183 = .ok (.newarray .int, 2) := by decide +kernel
theorem dX12_init_185 : decode cX12_init 185 = .ok (.putfield 44, 3) := by decide +kernel
theorem dX12_init_188 : decode cX12_init 188 = .ok (.aload_n 0, 1) := by decide +kernel
theorem dX12_init_189 : decode cX12_init 189 = .ok (.bipush 117, 2) := by decide +kernel
theorem dX12_init_191 : decode cX12_init 191 = .ok (.newarray .int, 2) := by decide +kernel
theorem dX12_init_193 : decode cX12_init 193 = .ok (.dup, 1) := by decide +kernel
theorem dX12_init_194 : decode cX12_init 194 = .ok (.iconst 0, 1) := by decide +kernel
theorem dX12_init_195 : decode cX12_init 195 = .ok (.bipush 32, 2) := by decide +kernel
theorem dX12_init_197 : decode cX12_init 197 = .ok (.iastore, 1) := by decide +kernel
theorem dX12_init_198 : decode cX12_init 198 = .ok (.dup, 1) := by decide +kernel
theorem dX12_init_199 : decode cX12_init 199 = .ok (.iconst 1, 1) := by decide +kernel
theorem dX12_init_200 : decode cX12_init 200 = .ok (.bipush 103, 2) := by decide +kernel
theorem dX12_init_202 : decode cX12_init 202 = .ok (.iastore, 1) := by decide +kernel
theorem dX12_init_203 : decode cX12_init 203 = .ok (.dup, 1) := by decide +kernel
theorem dX12_init_204 : decode cX12_init 204 = .ok (.iconst 2, 1) := by decide +kernel
theorem dX12_init_205 : decode cX12_init 205 = .ok (.bipush 111, 2) := by decide +kernel
theorem dX12_init_207 : decode cX12_init 207 = .ok (.iastore, 1) := by decide +kernel
theorem dX12_init_208 : decode cX12_init 208 = .ok (.dup, 1) := by decide +kernel
theorem dX12_init_209 : decode cX12_init 209 = .ok (.iconst 3, 1) := by decide +kernel
theorem dX12_init_210 : decode cX12_init 210 = .ok (.bipush 32, 2) := by decide +kernel
theorem dX12_init_212 : decode cX12_init 212 = .ok (.iastore, 1) := by decide +kernel
theorem dX12_init_213 : decode cX12_init 213 = .ok (.dup, 1) := by decide +kernel
theorem dX12_init_214 : decode cX12_init 214 = .ok (.iconst 4, 1) := by decide +kernel
theorem dX12_init_215 : decode cX12_init 215 = .ok (.bipush 99, 2) := by decide +kernel
theorem dX12_init_217 : decode cX12_init 217 = .ok (.iastore, 1) := by decide +kernel
theorem dX12_init_218 : decode cX12_init 218 = .ok (.dup, 1) := by decide +kernel
theorem dX12_init_219 : decode cX12_init 219 = .ok (.iconst 5, 1) := by decide +kernel
theorem dX12_init_220 : decode cX12_init 220 = .ok (.bipush 104, 2) := by decide +kernel
theorem dX12_init_222 : decode cX12_init 222 = .ok (.iastore, 1) := by decide +kernel
theorem dX12_init_223 : decode cX12_init 223 = .ok (.dup, 1) := by decide +kernel
theorem dX12_init_224 : decode cX12_init 224 = .ok (.bipush 6, 2) := by decide +kernel
theorem dX12_init_226 : decode cX12_init 226 = .ok (.bipush 97, 2) := by decide +kernel
theorem dX12_init_228 : decode cX12_init 228 = .ok (.iastore, 1) := by decide +kernel
theorem dX12_init_229 : decode cX12_init 229 = .ok (.dup, 1) := by decide +kernel
theorem dX12_init_230 : decode cX12_init 230 = .ok (.bipush 7, 2) := by decide +kernel
theorem dX12_init_232 : decode cX12_init 232 = .ok (.bipush 110, 2) := by decide +kernel
theorem dX12_init_234 : decode cX12_init 234 = .ok (.iastore, 1) := by decide +kernel
theorem dX12_init_235 : decode cX12_init 235 = .ok (.dup, 1) := by decide +kernel
theorem dX12_init_236 : decode cX12_init 236 = .ok (.bipush 8, 2) := by decide +kernel
theorem dX12_init_238 : decode cX12_init 238 = .ok (.bipush 103, 2) := by decide +kernel
theorem dX12_init_240 : decode cX12_init 240 = .ok (.iastore, 1) := by decide +kernel
theorem dX12_init_241 : decode cX12_init 241 = .ok (.dup, 1) := by decide +kernel
theorem dX12_init_242 : decode cX12_init 242 = .ok (.bipush 9, 2) := by decide +kernel
theorem dX12_init_244 : decode cX12_init 244 = .ok (.bipush 101, 2) := by decide +kernel
theorem dX12_init_246 : decode cX12_init 246 = .ok (.iastore, 1) := by decide +kernel
theorem dX12_init_247 : decode cX12_init 247 = .ok (.dup, 1) := by decide +kernel
theorem dX12_init_248 : decode cX12_init 248 = .ok (.bipush 10, 2) := by decide +kernel
theorem dX12_init_250 : decode cX12_init 250 = .ok (.bipush 32, 2) := by decide +kernel
theorem dX12_init_252 : decode cX12_init 252 = .ok (.iastore, 1) := by decide +kernel
theorem dX12_init_253 : decode cX12_init 253 = .ok (.dup, 1) := by decide +kernel
theorem dX12_init_254 : decode cX12_init 254 = .ok (.bipush 11, 2) := by decide +kernel
theorem dX12_init_256 : decode cX12_init 256 = .ok (.bipush 115, 2) := by decide +kernel
theorem dX12_init_258 : decode cX12_init 258 = .ok (.iastore, 1) := by decide +kernel
theorem dX12_init_259 : decode cX12_init 259 = .ok (.dup, 1) := by decide +kernel
theorem dX12_init_260 : decode cX12_init 260 = .ok (.bipush 12, 2) := by decide +kernel
theorem dX12_init_262 : decode cX12_init 262 = .ok (.bipush 105, 2) := by decide +kernel
theorem dX12_init_264 : decode cX12_init 264 = .ok (.iastore, 1) := by decide +kernel
theorem dX12_init_265 : decode cX12_init 265 = .ok (.dup, 1) := by decide +kernel
theorem dX12_init_266 : decode cX12_init 266 = .ok (.bipush 13, 2) := by decide +kernel
theorem dX12_init_268 : decode cX12_init 268 = .ok (.bipush 100, 2) := by decide +kernel
theorem dX12_init_270 : decode cX12_init 270 = .ok (.iastore, 1) := by decide +kernel
theorem dX12_init_271 : decode cX12_init 271 = .ok (.dup, 1) := by decide +kernel
theorem dX12_init_272 : decode cX12_init 272 = .ok (.bipush 14, 2) := by decide +kernel
theorem dX12_init_274 : decode cX12_init 274 = .ok (.bipush 101, 2) := by decide +kernel
theorem dX12_init_276 : decode cX12_init 276 = .ok (.iastore, 1) := by decide +kernel
theorem dX12_init_277 : decode cX12_init 277 = .ok (.dup, 1) := by decide +kernel
theorem dX12_init_278 : decode cX12_init 278 = .ok (.bipush 15, 2) := by decide +kernel
theorem dX12_init_280 : decode cX12_init 280 = .ok (.bipush 32, 2) := by decide +kernel
theorem dX12_init_282 : decode cX12_init 282 = .ok (.iastore, 1) := by decide +kernel
theorem dX12_init_283 : decode cX12_init 283 = .ok (.dup, 1) := by decide +kernel
theorem dX12_init_284 : decode cX12_init 284 = .ok (.bipush 16, 2) := by decide +kernel
theorem dX12_init_286 : decode cX12_init 286 = .ok (.bipush 97, 2) := by decide +kernel
theorem dX12_init_288 : decode cX12_init 288 = .ok (.iastore, 1) := by decide +kernel
theorem dX12_init_289 : decode cX12_init 289 = .ok (.dup, 1) := by decide +kernel
theorem dX12_init_290 : decode cX12_init 290 = .ok (.bipush 17, 2) := by decide +kernel
theorem dX12_init_292 : decode cX12_init 292 = .ok (.bipush 110, 2) := by decide +kernel
theorem dX12_init_294 : decode cX12_init 294 = .ok (.iastore, 1) := by decide +kernel
theorem dX12_init_295 : decode cX12_init 295 = .ok (.dup, 1) := by decide +kernel
theorem dX12_init_296 : decode cX12_init 296 = .ok (.bipush 18, 2) := by decide +kernel
theorem dX12_init_298 : decode cX12_init 298 = .ok (.bipush 121, 2) := by decide +kernel
theorem dX12_init_300 : decode cX12_init 300 = .ok (.iastore, 1) := by decide +kernel
theorem dX12_init_301 : decode cX12_init 301 = .ok (.dup, 1) := by decide +kernel
theorem dX12_init_302 : decode cX12_init 302 = .ok (.bipush 19, 2) := by decide +kernel
theorem dX12_init_304 : decode cX12_init 304 = .ok (.bipush 32, 2) := by decide +kernel
theorem dX12_init_306 : decode cX12_init 306 = .ok (.iastore, 1) := by decide +kernel
theorem dX12_init_307 : decode cX12_init 307 = .ok (.dup, 1) := by decide +kernel
theorem dX12_init_308 : decode cX12_init 308 = .ok (.bipush 20, 2) := by decide +kernel
theorem dX12_init_310 : decode cX12_init 310 = .ok (.bipush 105, 2) := by decide +kernel
theorem dX12_init_312 : decode cX12_init 312 = .ok (.iastore, 1) := by decide +kernel
theorem dX12_init_313 : decode cX12_init 313 = .ok (.dup, 1) := by decide +kernel
theorem dX12_init_314 : decode cX12_init 314 = .ok (.bipush 21, 2) := by decide +kernel
theorem dX12_init_316 : decode cX12_init 316 = .ok (.bipush 110, 2) := by decide +kernel
theorem dX12_init_318 : decode cX12_init 318 = .ok (.iastore, 1) := by decide +kernel
theorem dX12_init_319 : decode cX12_init 319 = .ok (.dup, 1) := by decide +kernel
theorem dX12_init_320 : decode cX12_init 320 = .ok (.bipush 22, 2) := by decide +kernel
theorem dX12_init_322 : decode cX12_init 322 = .ok (.bipush 32, 2) := by decide +kernel
theorem dX12_init_324 : decode cX12_init 324 = .ok (.iastore, 1) := by decide +kernel
theorem dX12_init_325 : decode cX12_init 325 = .ok (.dup, 1) := by decide +kernel
theorem dX12_init_326 : decode cX12_init 326 = .ok (.bipush 23, 2) := by decide +kernel
theorem dX12_init_328 : decode cX12_init 328 = .ok (.bipush 115, 2) := by decide +kernel
theorem dX12_init_330 : decode cX12_init 330 = .ok (.iastore, 1) := by decide +kernel
theorem dX12_init_331 : decode cX12_init 331 = .ok (.dup, 1) := by decide +kernel
theorem dX12_init_332 : decode cX12_init 332 = .ok (.bipush 24, 2) := by decide +kernel
theorem dX12_init_334 : decode cX12_init 334 = .ok (.bipush 104, 2) := by decide +kernel
theorem dX12_init_336 : decode cX12_init 336 = .ok (.iastore, 1) := by decide +kernel
theorem dX12_init_337 : decode cX12_init 337 = .ok (.dup, 1) := by decide +kernel
theorem dX12_init_338 : decode cX12_init 338 = .ok (.bipush 25, 2) := by decide +kernel
theorem dX12_init_340 : decode cX12_init 340 = .ok (.bipush 97, 2) := by decide +kernel
theorem dX12_init_342 : decode cX12_init 342 = .ok (.iastore, 1) := by decide +kernel
theorem dX12_init_343 : decode cX12_init 343 = .ok (.dup, 1) := by decide +kernel
theorem dX12_init_344 : decode cX12_init 344 = .ok (.bipush 26, 2) := by decide +kernel
theorem dX12_init_346 : decode cX12_init 346 = .ok (.bipush 112, 2) := by decide +kernel
theorem dX12_init_348 : decode cX12_init 348 = .ok (.iastore, 1) := by decide +kernel
theorem dX12_init_349 : decode cX12_init 349 = .ok (.dup, 1) := by decide +kernel
theorem dX12_init_350 : decode cX12_init 350 = .ok (.bipush 27, 2) := by decide +kernel
theorem dX12_init_352 : decode cX12_init 352 = .ok (.bipush 101, 2) := by decide +kernel
theorem dX12_init_354 : decode cX12_init 354 = .ok (.iastore, 1) := by decide +kernel
theorem dX12_init_355 : decode cX12_init 355 = .ok (.dup, 1) := by decide +kernel
theorem dX12_init_356 : decode cX12_init 356 = .ok (.bipush 28, 2) := by decide +kernel
theorem dX12_init_358 : decode cX12_init 358 = .ok (.bipush 32, 2) := by decide +kernel
theorem dX12_init_360 : decode cX12_init 360 = .ok (.iastore, 1) := by decide +kernel
theorem dX12_init_361 : decode cX12_init 361 = .ok (.dup, 1) := by decide +kernel
theorem dX12_init_362 : decode cX12_init 362 = .ok (.bipush 29, 2) := by decide +kernel
theorem dX12_init_364 : decode cX12_init 364 = .ok (.bipush 103, 2) := by decide +kernel
theorem dX12_init_366 : decode cX12_init 366 = .ok (.iastore, 1) := by decide +kernel
theorem dX12_init_367 : decode cX12_init 367 = .ok (.dup, 1) := by decide +kernel
theorem dX12_init_368 : decode cX12_init 368 = .ok (.bipush 30, 2) := by decide +kernel
theorem dX12_init_370 : decode cX12_init 370 = .ok (.bipush 111, 2) := by decide +kernel
theorem dX12_init_372 : decode cX12_init 372 = .ok (.iastore, 1) := by decide +kernel
theorem dX12_init_373 : decode cX12_init 373 = .ok (.dup, 1) := by decide +kernel
theorem dX12_init_374 : decode cX12_init 374 = .ok (.bipush 31, 2) := by decide +kernel
theorem dX12_init_376 : decode cX12_init 376 = .ok (.bipush 110, 2) := by decide +kernel
theorem dX12_init_378 : decode cX12_init 378 = .ok (.iastore, 1) := by decide +kernel
theorem dX12_init_379 : decode cX12_init 379 = .ok (.dup, 1) := by decide +kernel
theorem dX12_init_380 : decode cX12_init 380 = .ok (.bipush 32, 2) := by decide +kernel
theorem dX12_init_382 : decode cX12_init 382 = .ok (.bipush 101, 2) := by decide +kernel
theorem dX12_init_384 : decode cX12_init 384 = .ok (.iastore, 1) := by decide +kernel
theorem dX12_init_385 : decode cX12_init 385 = .ok (.dup, 1) := by decide +kernel
theorem dX12_init_386 : decode cX12_init 386 = .ok (.bipush 33, 2) := by decide +kernel
theorem dX12_init_388 : decode cX12_init 388 = .ok (.bipush 32, 2) := by decide +kernel
theorem dX12_init_390 : decode cX12_init 390 = .ok (.iastore, 1) := by decide +kernel
theorem dX12_init_391 : decode cX12_init 391 = .ok (.dup, 1) := by decide +kernel
theorem dX12_init_392 : decode cX12_init 392 = .ok (.bipush 34, 2) := by decide +kernel
theorem dX12_init_394 : decode cX12_init 394 = .ok (.bipush 116, 2) := by decide +kernel
theorem dX12_init_396 : decode cX12_init 396 = .ok (.iastore, 1) := by decide +kernel
theorem dX12_init_397 : decode cX12_init 397 = .ok (.dup, 1) := by decide +kernel
theorem dX12_init_398 : decode cX12_init 398 = .ok (.bipush 35, 2) := by decide +kernel
theorem dX12_init_400 : decode cX12_init 400 = .ok (.bipush 104, 2) := by decide +kernel
theorem dX12_init_402 : decode cX12_init 402 = .ok (.iastore, 1) := by decide +kernel
theorem dX12_init_403 : decode cX12_init 403 = .ok (.dup, 1) := by decide +kernel
theorem dX12_init_404 : decode cX12_init 404 = .ok (.bipush 36, 2) := by decide +kernel
theorem dX12_init_406 : decode cX12_init 406 = .ok (.bipush 101, 2) := by decide +kernel
theorem dX12_init_408 : decode cX12_init 408 = .ok (.iastore, 1) := by decide +kernel
theorem dX12_init_409 : decode cX12_init 409 = .ok (.dup, 1) := by decide +kernel
theorem dX12_init_410 : decode cX12_init 410 = .ok (.bipush 37, 2) := by decide +kernel
theorem dX12_init_412 : decode cX12_init 412 = .ok (.bipush 114, 2) := by decide +kernel
theorem dX12_init_414 : decode cX12_init 414 = .ok (.iastore, 1) := by decide +kernel
theorem dX12_init_415 : decode cX12_init 415 = .ok (.dup, 1) := by decide +kernel
theorem dX12_init_416 : decode cX12_init 416 = .ok (.bipush 38, 2) := by decide +kernel
theorem dX12_init_418 : decode cX12_init 418 = .ok (.bipush 101, 2) := by decide +kernel
theorem dX12_init_420 : decode cX12_init 420 = .ok (.iastore, 1) := by decide +kernel
theorem dX12_init_421 : decode cX12_init 421 = .ok (.dup, 1) := by decide +kernel
theorem dX12_init_422 : decode cX12_init 422 = .ok (.bipush 39, 2) := by decide +kernel
theorem dX12_init_424 : decode cX12_init 424 = .ok (.bipush 32, 2) := by decide +kernel
theorem dX12_init_426 : decode cX12_init 426 = .ok (.iastore, 1) := by decide +kernel
theorem dX12_init_427 : decode cX12_init 427 = .ok (.dup, 1) := by decide +kernel
theorem dX12_init_428 : decode cX12_init 428 = .ok (.bipush 40, 2) := by decide +kernel
theorem dX12_init_430 : decode cX12_init 430 = .ok (.bipush 97, 2) := by decide +kernel
theorem dX12_init_432 : decode cX12_init 432 = .ok (.iastore, 1) := by decide +kernel
theorem dX12_init_433 : decode cX12_init 433 = .ok (.dup, 1) := by decide +kernel
theorem dX12_init_434 : decode cX12_init 434 = .ok (.bipush 41, 2) := by decide +kernel
theorem dX12_init_436 : decode cX12_init 436 = .ok (.bipush 108, 2) := by decide +kernel
theorem dX12_init_438 : decode cX12_init 438 = .ok (.iastore, 1) := by decide +kernel
theorem dX12_init_439 : decode cX12_init 439 = .ok (.dup, 1) := by decide +kernel
theorem dX12_init_440 : decode cX12_init 440 = .ok (.bipush 42, 2) := by decide +kernel
theorem dX12_init_442 : decode cX12_init 442 = .ok (.bipush 108, 2) := by decide +kernel
theorem dX12_init_444 : decode cX12_init 444 = .ok (.iastore, 1) := by decide +kernel
theorem dX12_init_445 : decode cX12_init 445 = .ok (.dup, 1) := by decide +kernel
theorem dX12_init_446 : decode cX12_init 446 = .ok (.bipush 43, 2) := by decide +kernel
theorem dX12_init_448 : decode cX12_init 448 = .ok (.bipush 32, 2) := by decide +kernel
theorem dX12_init_450 : decode cX12_init 450 = .ok (.iastore, 1) := by decide +kernel
theorem dX12_init_451 : decode cX12_init 451 = .ok (.dup, 1) := by decide +kernel
theorem dX12_init_452 : decode cX12_init 452 = .ok (.bipush 44, 2) := by decide +kernel
theorem dX12_init_454 : decode cX12_init 454 = .ok (.bipush 119, 2) := by decide +kernel
theorem dX12_init_456 : decode cX12_init 456 = .ok (.iastore, 1) := by decide +kernel
theorem dX12_init_457 : decode cX12_init 457 = .ok (.dup, 1) := by decide +kernel
theorem dX12_init_458 : decode cX12_init 458 = .ok (.bipush 45, 2) := by decide +kernel
theorem dX12_init_460 : decode cX12_init 460 = .ok (.bipush 104, 2) := by decide +kernel
theorem dX12_init_462 : decode cX12_init 462 = .ok (.iastore, 1) := by decide +kernel
theorem dX12_init_463 : decode cX12_init 463 = .ok (.dup, 1) := by decide +kernel
theorem dX12_init_464 : decode cX12_init 464 = .ok (.bipush 46, 2) := by decide +kernel
theorem dX12_init_466 : decode cX12_init 466 = .ok (.bipush 101, 2) := by decide +kernel
theorem dX12_init_468 : decode cX12_init 468 = .ok (.iastore, 1) := by decide +kernel
theorem dX12_init_469 : decode cX12_init 469 = .ok (.dup, 1) := by decide +kernel
theorem dX12_init_470 : decode cX12_init 470 = .ok (.bipush 47, 2) := by decide +kernel
theorem dX12_init_472 : decode cX12_init 472 = .ok (.bipush 110, 2) := by decide +kernel
theorem dX12_init_474 : decode cX12_init 474 = .ok (.iastore, 1) := by decide +kernel
theorem dX12_init_475 : decode cX12_init 475 = .ok (.dup, 1) := by decide +kernel
theorem dX12_init_476 : decode cX12_init 476 = .ok (.bipush 48, 2) := by decide +kernel
theorem dX12_init_478 : decode cX12_init 478 = .ok (.bipush 32, 2) := by decide +kernel
theorem dX12_init_480 : decode cX12_init 480 = .ok (.iastore, 1) := by decide +kernel
theorem dX12_init_481 : decode cX12_init 481 = .ok (.dup, 1) := by decide +kernel
theorem dX12_init_482 : decode cX12_init 482 = .ok (.bipush 49, 2) := by decide +kernel
theorem dX12_init_484 : decode cX12_init 484 = .ok (.bipush 111, 2) := by decide +kernel
theorem dX12_init_486 : decode cX12_init 486 = .ok (.iastore, 1) := by decide +kernel
theorem dX12_init_487 : decode cX12_init 487 = .ok (.dup, 1) := by decide +kernel
theorem dX12_init_488 : decode cX12_init 488 = .ok (.bipush 50, 2) := by decide +kernel
theorem dX12_init_490 : decode cX12_init 490 = .ok (.bipush 114, 2) := by decide +kernel
theorem dX12_init_492 : decode cX12_init 492 = .ok (.iastore, 1) := by decide +kernel
theorem dX12_init_493 : decode cX12_init 493 = .ok (.dup, 1) := by decide +kernel
theorem dX12_init_494 : decode cX12_init 494 = .ok (.bipush 51, 2) := by decide +kernel
theorem dX12_init_496 : decode cX12_init 496 = .ok (.bipush 32, 2) := by decide +kernel
theorem dX12_init_498 : decode cX12_init 498 = .ok (.iastore, 1) := by decide +kernel
theorem dX12_init_499 : decode cX12_init 499 = .ok (.dup, 1) := by decide +kernel
theorem dX12_init_500 : decode cX12_init 500 = .ok (.bipush 52, 2) := by decide +kernel
theorem dX12_init_502 : decode cX12_init 502 = .ok (.bipush 97, 2) := by decide +kernel
theorem dX12_init_504 : decode cX12_init 504 = .ok (.iastore, 1) := by decide +kernel
theorem dX12_init_505 : decode cX12_init 505 = .ok (.dup, 1) := by decide +kernel
theorem dX12_init_506 : decode cX12_init 506 = .ok (.bipush 53, 2) := by decide +kernel
theorem dX12_init_508 : decode cX12_init 508 = .ok (.bipush 110, 2) := by decide +kernel
theorem dX12_init_510 : decode cX12_init 510 = .ok (.iastore, 1) := by decide +kernel
theorem dX12_init_511 : decode cX12_init 511 = .ok (.dup, 1) := by decide +kernel
theorem dX12_init_512 : decode cX12_init 512 = .ok (.bipush 54, 2) := by decide +kernel
theorem dX12_init_514 : decode cX12_init 514 = .ok (.bipush 100, 2) := by decide +kernel
theorem dX12_init_516 : decode cX12_init 516 = .ok (.iastore, 1) := by decide +kernel
theorem dX12_init_517 : decode cX12_init 517 = .ok (.dup, 1) := by decide +kernel
theorem dX12_init_518 : decode cX12_init 518 = .ok (.bipush 55, 2) := by decide +kernel
theorem dX12_init_520 : decode cX12_init 520 = .ok (.bipush 32, 2) := by decide +kernel
theorem dX12_init_522 : decode cX12_init 522 = .ok (.iastore, 1) := by decide +kernel
theorem dX12_init_523 : decode cX12_init 523 = .ok (.dup, 1) := by decide +kernel
theorem dX12_init_524 : decode cX12_init 524 = .ok (.bipush 56, 2) := by decide +kernel
theorem dX12_init_526 : decode cX12_init 526 = .ok (.bipush 110, 2) := by decide +kernel
theorem dX12_init_528 : decode cX12_init 528 = .ok (.iastore, 1) := by decide +kernel
theorem dX12_init_529 : decode cX12_init 529 = .ok (.dup, 1) := by decide +kernel
theorem dX12_init_530 : decode cX12_init 530 = .ok (.bipush 57, 2) := by decide +kernel
theorem dX12_init_532 : decode cX12_init 532 = .ok (.bipush 111, 2) := by decide +kernel
theorem dX12_init_534 : decode cX12_init 534 = .ok (.iastore, 1) := by decide +kernel
theorem dX12_init_535 : decode cX12_init 535 = .ok (.dup, 1) := by decide +kernel
theorem dX12_init_536 : decode cX12_init 536 = .ok (.bipush 58, 2) := by decide +kernel
theorem dX12_init_538 : decode cX12_init 538 = .ok (.bipush 116, 2) := by decide +kernel
theorem dX12_init_540 : decode cX12_init 540 = .ok (.iastore, 1) := by decide +kernel
theorem dX12_init_541 : decode cX12_init 541 = .ok (.dup, 1) := by decide +kernel
theorem dX12_init_542 : decode cX12_init 542 = .ok (.bipush 59, 2) := by decide +kernel
theorem dX12_init_544 : decode cX12_init 544 = .ok (.bipush 32, 2) := by decide +kernel
theorem dX12_init_546 : decode cX12_init 546 = .ok (.iastore, 1) := by decide +kernel
theorem dX12_init_547 : decode cX12_init 547 = .ok (.dup, 1) := by decide +kernel
theorem dX12_init_548 : decode cX12_init 548 = .ok (.bipush 60, 2) := by decide +kernel
theorem dX12_init_550 : decode cX12_init 550 = .ok (.bipush 119, 2) := by decide +kernel
theorem dX12_init_552 : decode cX12_init 552 = .ok (.iastore, 1) := by decide +kernel
theorem dX12_init_553 : decode cX12_init 553 = .ok (.dup, 1) := by decide +kernel
theorem dX12_init_554 : decode cX12_init 554 = .ok (.bipush 61, 2) := by decide +kernel
theorem dX12_init_556 : decode cX12_init 556 = .ok (.bipush 101, 2) := by decide +kernel
theorem dX12_init_558 : decode cX12_init 558 = .ok (.iastore, 1) := by decide +kernel
theorem dX12_init_559 : decode cX12_init 559 = .ok (.dup, 1) := by decide +kernel
theorem dX12_init_560 : decode cX12_init 560 = .ok (.bipush 62, 2) := by decide +kernel
theorem dX12_init_562 : decode cX12_init 562 = .ok (.bipush 97, 2) := by decide +kernel
theorem dX12_init_564 : decode cX12_init 564 = .ok (.iastore, 1) := by decide +kernel
theorem dX12_init_565 : decode cX12_init 565 = .ok (.dup, 1) := by decide +kernel
theorem dX12_init_566 : decode cX12_init 566 = .ok (.bipush 63, 2) := by decide +kernel
theorem dX12_init_568 : decode cX12_init 568 = .ok (.bipush 107, 2) := by decide +kernel
theorem dX12_init_570 : decode cX12_init 570 = .ok (.iastore, 1) := by decide +kernel
theorem dX12_init_571 : decode cX12_init 571 = .ok (.dup, 1) := by decide +kernel
theorem dX12_init_572 : decode cX12_init 572 = .ok (.bipush 64, 2) := by decide +kernel
theorem dX12_init_574 : decode cX12_init 574 = .ok (.bipush 32, 2) := by decide +kernel
theorem dX12_init_576 : decode cX12_init 576 = .ok (.iastore, 1) := by decide +kernel
theorem dX12_init_577 : decode cX12_init 577 = .ok (.dup, 1) := by decide +kernel
theorem dX12_init_578 : decode cX12_init 578 = .ok (.bipush 65, 2) := by decide +kernel
theorem dX12_init_580 : decode cX12_init 580 = .ok (.bipush 97, 2) := by decide +kernel
theorem dX12_init_582 : decode cX12_init 582 = .ok (.iastore, 1) := by decide +kernel
theorem dX12_init_583 : decode cX12_init 583 = .ok (.dup, 1) := by decide +kernel
theorem dX12_init_584 : decode cX12_init 584 = .ok (.bipush 66, 2) := by decide +kernel
theorem dX12_init_586 : decode cX12_init 586 = .ok (.bipush 103, 2) := by decide +kernel
theorem dX12_init_588 : decode cX12_init 588 = .ok (.iastore, 1) := by decide +kernel
theorem dX12_init_589 : decode cX12_init 589 = .ok (.dup, 1) := by decide +kernel
theorem dX12_init_590 : decode cX12_init 590 = .ok (.bipush 67, 2) := by decide +kernel
theorem dX12_init_592 : decode cX12_init 592 = .ok (.bipush 101, 2) := by decide +kernel
theorem dX12_init_594 : decode cX12_init 594 = .ok (.iastore, 1) := by decide +kernel
theorem dX12_init_595 : decode cX12_init 595 = .ok (.dup, 1) := by decide +kernel
theorem dX12_init_596 : decode cX12_init 596 = .ok (.bipush 68, 2) := by decide +kernel
theorem dX12_init_598 : decode cX12_init 598 = .ok (.bipush 32, 2) := by decide +kernel
theorem dX12_init_600 : decode cX12_init 600 = .ok (.iastore, 1) := by decide +kernel
theorem dX12_init_601 : decode cX12_init 601 = .ok (.dup, 1) := by decide +kernel
theorem dX12_init_602 : decode cX12_init 602 = .ok (.bipush 69, 2) := by decide +kernel
theorem dX12_init_604 : decode cX12_init 604 = .ok (.bipush 115, 2) := by decide +kernel
theorem dX12_init_606 : decode cX12_init 606 = .ok (.iastore, 1) := by decide +kernel
theorem dX12_init_607 : decode cX12_init 607 = .ok (.dup, 1) := by decide +kernel
theorem dX12_init_608 : decode cX12_init 608 = .ok (.bipush 70, 2) := by decide +kernel
theorem dX12_init_610 : decode cX12_init 610 = .ok (.bipush 111, 2) := by decide +kernel
theorem dX12_init_612 : decode cX12_init 612 = .ok (.iastore, 1) := by decide +kernel
theorem dX12_init_613 : decode cX12_init 613 = .ok (.dup, 1) := by decide +kernel
theorem dX12_init_614 : decode cX12_init 614 = .ok (.bipush 71, 2) := by decide +kernel
theorem dX12_init_616 : decode cX12_init 616 = .ok (.bipush 114, 2) := by decide +kernel
theorem dX12_init_618 : decode cX12_init 618 = .ok (.iastore, 1) := by decide +kernel
theorem dX12_init_619 : decode cX12_init 619 = .ok (.dup, 1) := by decide +kernel
theorem dX12_init_620 : decode cX12_init 620 = .ok (.bipush 72, 2) := by decide +kernel
theorem dX12_init_622 : decode cX12_init 622 = .ok (.bipush 116, 2) := by decide +kernel
theorem dX12_init_624 : decode cX12_init 624 = .ok (.iastore, 1) := by decide +kernel
theorem dX12_init_625 : decode cX12_init 625 = .ok (.dup, 1) := by decide +kernel
theorem dX12_init_626 : decode cX12_init 626 = .ok (.bipush 73, 2) := by decide +kernel
theorem dX12_init_628 : decode cX12_init 628 = .ok (.bipush 32, 2) := by decide +kernel
theorem dX12_init_630 : decode cX12_init 630 = .ok (.iastore, 1) := by decide +kernel
theorem dX12_init_631 : decode cX12_init 631 = .ok (.dup, 1) := by decide +kernel
theorem dX12_init_632 : decode cX12_init 632 = .ok (.bipush 74, 2) := by decide +kernel
theorem dX12_init_634 : decode cX12_init 634 = .ok (.bipush 98, 2) := by decide +kernel
theorem dX12_init_636 : decode cX12_init 636 = .ok (.iastore, 1) := by decide +kernel
theorem dX12_init_637 : decode cX12_init 637 = .ok (.dup, 1) := by decide +kernel
theorem dX12_init_638 : decode cX12_init 638 = .ok (.bipush 75, 2) := by decide +kernel
theorem dX12_init_640 : decode cX12_init 640 = .ok (.bipush 101, 2) := by decide +kernel
theorem dX12_init_642 : decode cX12_init 642 = .ok (.iastore, 1) := by decide +kernel
theorem dX12_init_643 : decode cX12_init 643 = .ok (.dup, 1) := by decide +kernel
theorem dX12_init_644 : decode cX12_init 644 = .ok (.bipush 76, 2) := by decide +kernel
theorem dX12_init_646 : decode cX12_init 646 = .ok (.bipush 115, 2) := by decide +kernel
theorem dX12_init_648 : decode cX12_init 648 = .ok (.iastore, 1) := by decide +kernel
theorem dX12_init_649 : decode cX12_init 649 = .ok (.dup, 1) := by decide +kernel
theorem dX12_init_650 : decode cX12_init 650 = .ok (.bipush 77, 2) := by decide +kernel
theorem dX12_init_652 : decode cX12_init 652 = .ok (.bipush 105, 2) := by decide +kernel
theorem dX12_init_654 : decode cX12_init 654 = .ok (.iastore, 1) := by decide +kernel
theorem dX12_init_655 : decode cX12_init 655 = .ok (.dup, 1) := by decide +kernel
theorem dX12_init_656 : decode cX12_init 656 = .ok (.bipush 78, 2) := by decide +kernel
theorem dX12_init_658 : decode cX12_init 658 = .ok (.bipush 100, 2) := by decide +kernel
theorem dX12_init_660 : decode cX12_init 660 = .ok (.iastore, 1) := by decide +kernel
theorem dX12_init_661 : decode cX12_init 661 = .ok (.dup, 1) := by decide +kernel
theorem dX12_init_662 : decode cX12_init 662 = .ok (.bipush 79, 2) := by decide +kernel
theorem dX12_init_664 : decode cX12_init 664 = .ok (.bipush 101, 2) := by decide +kernel
theorem dX12_init_666 : decode cX12_init 666 = .ok (.iastore, 1) := by decide +kernel
theorem dX12_init_667 : decode cX12_init 667 = .ok (.dup, 1) := by decide +kernel
theorem dX12_init_668 : decode cX12_init 668 = .ok (.bipush 80, 2) := by decide +kernel
theorem dX12_init_670 : decode cX12_init 670 = .ok (.bipush 32, 2) := by decide +kernel
theorem dX12_init_672 : decode cX12_init 672 = .ok (.iastore, 1) := by decide +kernel
theorem dX12_init_673 : decode cX12_init 673 = .ok (.dup, 1) := by decide +kernel
theorem dX12_init_674 : decode cX12_init 674 = .ok (.bipush 81, 2) := by decide +kernel
theorem dX12_init_676 : decode cX12_init 676 = .ok (.bipush 112, 2) := by decide +kernel
theorem dX12_init_678 : decode cX12_init 678 = .ok (.iastore, 1) := by decide +kernel
theorem dX12_init_679 : decode cX12_init 679 = .ok (.dup, 1) := by decide +kernel
theorem dX12_init_680 : decode cX12_init 680 = .ok (.bipush 82, 2) := by decide +kernel
theorem dX12_init_682 : decode cX12_init 682 = .ok (.bipush 108, 2) := by decide +kernel
theorem dX12_init_684 : decode cX12_init 684 = .ok (.iastore, 1) := by decide +kernel
theorem dX12_init_685 : decode cX12_init 685 = .ok (.dup, 1) := by decide +kernel
theorem dX12_init_686 : decode cX12_init 686 = .ok (.bipush 83, 2) := by decide +kernel
theorem dX12_init_688 : decode cX12_init 688 = .ok (.bipush 97, 2) := by decide +kernel
theorem dX12_init_690 : decode cX12_init 690 = .ok (.iastore, 1) := by decide +kernel
theorem dX12_init_691 : decode cX12_init 691 = .ok (.dup, 1) := by decide +kernel
theorem dX12_init_692 : decode cX12_init 692 = .ok (.bipush 84, 2) := by decide +kernel
theorem dX12_init_694 : decode cX12_init 694 = .ok (.bipush 99, 2) := by decide +kernel
theorem dX12_init_696 : decode cX12_init 696 = .ok (.iastore, 1) := by decide +kernel
theorem dX12_init_697 : decode cX12_init 697 = .ok (.dup, 1) := by decide +kernel
theorem dX12_init_698 : decode cX12_init 698 = .ok (.bipush 85, 2) := by decide +kernel
theorem dX12_init_700 : decode cX12_init 700 = .ok (.bipush 101, 2) := by decide +kernel
theorem dX12_init_702 : decode cX12_init 702 = .ok (.iastore, 1) := by decide +kernel
theorem dX12_init_703 : decode cX12_init 703 = .ok (.dup, 1) := by decide +kernel
theorem dX12_init_704 : decode cX12_init 704 = .ok (.bipush 86, 2) := by decide +kernel
theorem dX12_init_706 : decode cX12_init 706 = .ok (.bipush 32, 2) := by decide +kernel
theorem dX12_init_708 : decode cX12_init 708 = .ok (.iastore, 1) := by decide +kernel
theorem dX12_init_709 : decode cX12_init 709 = .ok (.dup, 1) := by decide +kernel
theorem dX12_init_710 : decode cX12_init 710 = .ok (.bipush 87, 2) := by decide +kernel
theorem dX12_init_712 : decode cX12_init 712 = .ok (.bipush 115, 2) := by decide +kernel
theorem dX12_init_714 : decode cX12_init 714 = .ok (.iastore, 1) := by decide +kernel
theorem dX12_init_715 : decode cX12_init 715 = .ok (.dup, 1) := by decide +kernel
theorem dX12_init_716 : decode cX12_init 716 = .ok (.bipush 88, 2) := by decide +kernel
theorem dX12_init_718 : decode cX12_init 718 = .ok (.bipush 105, 2) := by decide +kernel
theorem dX12_init_720 : decode cX12_init 720 = .ok (.iastore, 1) := by decide +kernel
theorem dX12_init_721 : decode cX12_init 721 = .ok (.dup, 1) := by decide +kernel
theorem dX12_init_722 : decode cX12_init 722 = .ok (.bipush 89, 2) := by decide +kernel
theorem dX12_init_724 : decode cX12_init 724 = .ok (.bipush 122, 2) := by decide +kernel
theorem dX12_init_726 : decode cX12_init 726 = .ok (.iastore, 1) := by decide +kernel
theorem dX12_init_727 : decode cX12_init 727 = .ok (.dup, 1) := by decide +kernel
theorem dX12_init_728 : decode cX12_init 728 = .ok (.bipush 90, 2) := by decide +kernel
theorem dX12_init_730 : decode cX12_init 730 = .ok (.bipush 101, 2) := by decide +kernel
theorem dX12_init_732 : decode cX12_init 732 = .ok (.iastore, 1) := by decide +kernel
theorem dX12_init_733 : decode cX12_init 733 = .ok (.dup, 1) := by decide +kernel
theorem dX12_init_734 : decode cX12_init 734 = .ok (.bipush 91, 2) := by decide +kernel
theorem dX12_init_736 : decode cX12_init 736 = .ok (.bipush 32, 2) := by decide +kernel
theorem dX12_init_738 : decode cX12_init 738 = .ok (.iastore, 1) := by decide +kernel
theorem dX12_init_739 : decode cX12_init 739 = .ok (.dup, 1) := by decide +kernel
theorem dX12_init_740 : decode cX12_init 740 = .ok (.bipush 92, 2) := by decide +kernel
theorem dX12_init_742 : decode cX12_init 742 = .ok (.bipush 108, 2) := by decide +kernel
theorem dX12_init_744 : decode cX12_init 744 = .ok (.iastore, 1) := by decide +kernel
theorem dX12_init_745 : decode cX12_init 745 = .ok (.dup, 1) := by decide +kernel
theorem dX12_init_746 : decode cX12_init 746 = .ok (.bipush 93, 2) := by decide +kernel
theorem dX12_init_748 : decode cX12_init 748 = .ok (.bipush 111, 2) := by decide +kernel
theorem dX12_init_750 : decode cX12_init 750 = .ok (.iastore, 1) := by decide +kernel
theorem dX12_init_751 : decode cX12_init 751 = .ok (.dup, 1) := by decide +kernel
theorem dX12_init_752 : decode cX12_init 752 = .ok (.bipush 94, 2) := by decide +kernel
theorem dX12_init_754 : decode cX12_init 754 = .ok (.bipush 97, 2) := by decide +kernel
theorem dX12_init_756 : decode cX12_init 756 = .ok (.iastore, 1) := by decide +kernel
theorem dX12_init_757 : decode cX12_init 757 = .ok (.dup, 1) := by decide +kernel
theorem dX12_init_758 : decode cX12_init 758 = .ok (.bipush 95, 2) := by decide +kernel
theorem dX12_init_760 : decode cX12_init 760 = .ok (.bipush 100, 2) := by decide +kernel
theorem dX12_init_762 : decode cX12_init 762 = .ok (.iastore, 1) := by decide +kernel
theorem dX12_init_763 : decode cX12_init 763 = .ok (.dup, 1) := by decide +kernel
theorem dX12_init_764 : decode cX12_init 764 = .ok (.bipush 96, 2) := by decide +kernel
theorem dX12_init_766 : decode cX12_init 766 = .ok (.bipush 32, 2) := by decide +kernel
theorem dX12_init_768 : decode cX12_init 768 = .ok (.iastore, 1) := by decide +kernel
theorem dX12_init_769 : decode cX12_init 769 = .ok (.dup, 1) := by decide +kernel
theorem dX12_init_770 : decode cX12_init 770 = .ok (.bipush 97, 2) := by decide +kernel
theorem dX12_init_772 : decode cX12_init 772 = .ok (.bipush 100, 2) := by decide +kernel
theorem dX12_init_774 : decode cX12_init 774 = .ok (.iastore, 1) := by decide +kernel
theorem dX12_init_775 : decode cX12_init 775 = .ok (.dup, 1) := by decide +kernel
theorem dX12_init_776 : decode cX12_init 776 = .ok (.bipush 98, 2) := by decide +kernel
theorem dX12_init_778 : decode cX12_init 778 = .ok (.bipush 97, 2) := by decide +kernel
theorem dX12_init_780 : decode cX12_init 780 = .ok (.iastore, 1) := by decide +kernel
theorem dX12_init_781 : decode cX12_init 781 = .ok (.dup, 1) := by decide +kernel
theorem dX12_init_782 : decode cX12_init 782 = .ok (.bipush 99, 2) := by decide +kernel
theorem dX12_init_784 : decode cX12_init 784 = .ok (.bipush 121, 2) := by decide +kernel
theorem dX12_init_786 : decode cX12_init 786 = .ok (.iastore, 1) := by decide +kernel
theorem dX12_init_787 : decode cX12_init 787 = .ok (.dup, 1) := by decide +kernel
theorem dX12_init_788 : decode cX12_init 788 = .ok (.bipush 100, 2) := by decide +kernel
theorem dX12_init_790 : decode cX12_init 790 = .ok (.bipush 32, 2) := by decide +kernel
theorem dX12_init_792 : decode cX12_init 792 = .ok (.iastore, 1) := by decide +kernel
theorem dX12_init_793 : decode cX12_init 793 = .ok (.dup, 1) := by decide +kernel
theorem dX12_init_794 : decode cX12_init 794 = .ok (.bipush 101, 2) := by decide +kernel
theorem dX12_init_796 : decode cX12_init 796 = .ok (.bipush 109, 2) := by decide +kernel
theorem dX12_init_798 : decode cX12_init 798 = .ok (.iastore, 1) := by decide +kernel
theorem dX12_init_799 : decode cX12_init 799 = .ok (.dup, 1) := by decide +kernel
theorem dX12_init_800 : decode cX12_init 800 = .ok (.bipush 102, 2) := by decide +kernel
theorem dX12_init_802 : decode cX12_init 802 = .ok (.bipush 105, 2) := by decide +kernel
theorem dX12_init_804 : decode cX12_init 804 = .ok (.iastore, 1) := by decide +kernel
theorem dX12_init_805 : decode cX12_init 805 = .ok (.dup, 1) := by decide +kernel
theorem dX12_init_806 : decode cX12_init 806 = .ok (.bipush 103, 2) := by decide +kernel
theorem dX12_init_808 : decode cX12_init 808 = .ok (.bipush 100, 2) := by decide +kernel
theorem dX12_init_810 : decode cX12_init 810 = .ok (.iastore, 1) := by decide +kernel
theorem dX12_init_811 : decode cX12_init 811 = .ok (.dup, 1) := by decide +kernel
theorem dX12_init_812 : decode cX12_init 812 = .ok (.bipush 104, 2) := by decide +kernel
theorem dX12_init_814 : decode cX12_init 814 = .ok (.bipush 32, 2) := by decide +kernel
theorem dX12_init_816 : decode cX12_init 816 = .ok (.iastore, 1) := by decide +kernel
theorem dX12_init_817 : decode cX12_init 817 = .ok (.dup, 1) := by decide +kernel
theorem dX12_init_818 : decode cX12_init 818 = .ok (.bipush 105, 2) := by decide +kernel
theorem dX12_init_820 : decode cX12_init 820 = .ok (.bipush 112, 2) := by decide +kernel
theorem dX12_init_822 : decode cX12_init 822 = .ok (.iastore, 1) := by decide +kernel
theorem dX12_init_823 : decode cX12_init 823 = .ok (.dup, 1) := by decide +kernel
theorem dX12_init_824 : decode cX12_init 824 = .ok (.bipush 106, 2) := by decide +kernel
theorem dX12_init_826 : decode cX12_init 826 = .ok (.bipush 104, 2) := by decide +kernel
theorem dX12_init_828 : decode cX12_init 828 = .ok (.iastore, 1) := by decide +kernel
theorem dX12_init_829 : decode cX12_init 829 = .ok (.dup, 1) := by decide +kernel
theorem dX12_init_830 : decode cX12_init 830 = .ok (.bipush 107, 2) := by decide +kernel
theorem dX12_init_832 : decode cX12_init 832 = .ok (.bipush 97, 2) := by decide +kernel
theorem dX12_init_834 : decode cX12_init 834 = .ok (.iastore, 1) := by decide +kernel
theorem dX12_init_835 : decode cX12_init 835 = .ok (.dup, 1) := by decide +kernel
theorem dX12_init_836 : decode cX12_init 836 = .ok (.bipush 108, 2) := by decide +kernel
theorem dX12_init_838 : decode cX12_init 838 = .ok (.bipush 115, 2) := by decide +kernel
theorem dX12_init_840 : decode cX12_init 840 = .ok (.iastore, 1) := by decide +kernel
theorem dX12_init_841 : decode cX12_init 841 = .ok (.dup, 1) := by decide +kernel
theorem dX12_init_842 : decode cX12_init 842 = .ok (.bipush 109, 2) := by decide +kernel
theorem dX12_init_844 : decode cX12_init 844 = .ok (.bipush 101, 2) := by decide +kernel
theorem dX12_init_846 : decode cX12_init 846 = .ok (.iastore, 1) := by decide +kernel
theorem dX12_init_847 : decode cX12_init 847 = .ok (.dup, 1) := by decide +kernel
theorem dX12_init_848 : decode cX12_init 848 = .ok (.bipush 110, 2) := by decide +kernel
theorem dX12_init_850 : decode cX12_init 850 = .ok (.bipush 32, 2) := by decide +kernel
theorem dX12_init_852 : decode cX12_init 852 = .ok (.iastore, 1) := by decide +kernel
theorem dX12_init_853 : decode cX12_init 853 = .ok (.dup, 1) := by decide +kernel
theorem dX12_init_854 : decode cX12_init 854 = .ok (.bipush 111, 2) := by decide +kernel
theorem dX12_init_856 : decode cX12_init 856 = .ok (.bipush 115, 2) := by decide +kernel
theorem dX12_init_858 : decode cX12_init 858 = .ok (.iastore, 1) := by decide +kernel
theorem dX12_init_859 : decode cX12_init 859 = .ok (.dup, 1) := by decide +kernel
theorem dX12_init_860 : decode cX12_init 860 = .ok (.bipush 112, 2) := by decide +kernel
theorem dX12_init_862 : decode cX12_init 862 = .ok (.bipush 105, 2) := by decide +kernel
theorem dX12_init_864 : decode cX12_init 864 = .ok (.iastore, 1) := by decide +kernel
theorem dX12_init_865 : decode cX12_init 865 = .ok (.dup, 1) := by decide +kernel
theorem dX12_init_866 : decode cX12_init 866 = .ok (.bipush 113, 2) := by decide +kernel
theorem dX12_init_868 : decode cX12_init 868 = .ok (.bipush 110, 2) := by decide +kernel
theorem dX12_init_870 : decode cX12_init 870 = .ok (.iastore, 1) := by decide +kernel
theorem dX12_init_871 : decode cX12_init 871 = .ok (.dup, 1) := by decide +kernel
theorem dX12_init_872 : decode cX12_init 872 = .ok (.bipush 114, 2) := by decide +kernel
theorem dX12_init_874 : decode cX12_init 874 = .ok (.bipush 99, 2) := by decide +kernel
theorem dX12_init_876 : decode cX12_init 876 = .ok (.iastore, 1) := by decide +kernel
theorem dX12_init_877 : decode cX12_init 877 = .ok (.dup, 1) := by decide +kernel
theorem dX12_init_878 : decode cX12_init 878 = .ok (.bipush 115, 2) := by decide +kernel
theorem dX12_init_880 : decode cX12_init 880 = .ok (.bipush 101, 2) := by decide +kernel
theorem dX12_init_882 : decode cX12_init 882 = .ok (.iastore, 1) := by decide +kernel
theorem dX12_init_883 : decode cX12_init 883 = .ok (.dup, 1) := by decide +kernel
theorem dX12_init_884 : decode cX12_init 884 = .ok (.bipush 116, 2) := by decide +kernel
theorem dX12_init_886 : decode cX12_init 886 = .ok (.bipush 32, 2) := by decide +kernel
theorem dX12_init_888 : decode cX12_init 888 = .ok (.iastore, 1) := by decide +kernel
theorem dX12_init_889 : decode cX12_init 889 = .ok (.putfield 47, 3) := by decide +kernel
theorem dX12_init_892 : decode cX12_init 892 = .ok (.aload_n 0, 1) := by decide +kernel
theorem dX12_init_893 : decode cX12_init 893 = .ok (.iconst 4, 1) := by decide +kernel
theorem dX12_init_894 : decode cX12_init 894 = .ok (.newarray .int, 2) := by decide +kernel
theorem dX12_init_896 : decode cX12_init 896 = .ok (.putfield 50, 3) := by decide +kernel
theorem dX12_init_899 : decode cX12_init 899 = .ok (.aload_n 0, 1) := by decide +kernel
theorem dX12_init_900 : decode cX12_init 900 = .ok (.bipush 64, 2) := by decide +kernel
theorem dX12_init_902 : decode cX12_init 902 = .ok (.newarray .int, 2) := by decide +kernel
theorem dX12_init_904 : decode cX12_init 904 = .ok (.putfield 53, 3) := by decide +kernel
theorem dX12_init_907 : decode cX12_init 907 = .ok (.aload_n 0, 1) := by decide +kernel
theorem dX12_init_908 : decode cX12_init 908 = .ok (.bipush 64, 2) := by decide +kernel
theorem dX12_init_910 : decode cX12_init 910 = .ok (.newarray .int, 2) := by decide +kernel
theorem dX12_init_912 : decode cX12_init 912 = .ok (.putfield 56, 3) := by decide +kernel
theorem dX12_init_915 : decode cX12_init 915 = .ok (.aload_n 0, 1) := by decide +kernel
theorem dX12_init_916 : decode cX12_init 916 = .ok (.bipush 64, 2) := by decide +kernel
theorem dX12_init_918 : decode cX12_init 918 = .ok (.newarray .int, 2) := by decide +kernel
theorem dX12_init_920 : decode cX12_init 920 = .ok (.putfield 59, 3) := by decide +kernel
theorem dX12_init_923 : decode cX12_init 923 = .ok (.aload_n 0, 1) := by decide +kernel
theorem dX12_init_924 : decode cX12_init 924 = .ok (.sipush 2000, 3) := by decide +kernel
theorem dX12_init_927 : decode cX12_init 927 = .ok (.newarray .int, 2) := by decide +kernel
theorem dX12_init_929 : decode cX12_init 929 = .ok (.putfield 62, 3) := by decide +kernel
theorem dX12_init_932 : decode cX12_init 932 = .ok (.aload_n 0, 1) := by decide +kernel
theorem dX12_init_933 : decode cX12_init 933 = .ok (.sipush 2000, 3) := by decide +kernel
theorem dX12_init_936 : decode cX12_init 936 = .ok (.newarray .int, 2) := by decide +kernel
theorem dX12_init_938 : decode cX12_init 938 = .ok (.putfield 65, 3) := by decide +kernel
theorem dX12_init_941 : decode cX12_init 941 = .ok (.aload_n 0, 1) := by decide +kernel
theorem dX12_init_942 : decode cX12_init 942 = .ok (.bipush 40, 2) := by decide +kernel
theorem dX12_init_944 : decode cX12_init 944 = .ok (.newarray .int, 2) := by decide +kernel
theorem dX12_init_946 : decode cX12_init 946 = .ok (.putfield 68, 3) := by decide +kernel
theorem dX12_init_949 : decode cX12_init 949 = .ok (.aload_n 0, 1) := by decide +kernel
theorem dX12_init_950 : decode cX12_init 950 = .ok (.iconst (-1), 1) := by decide +kernel
theorem dX12_init_951 : decode cX12_init 951 = .ok (.putfield 71, 3) := by decide +kernel
theorem dX12_init_954 : decode cX12_init 954 = .ok (.aload_n 0, 1) := by decide +kernel
theorem dX12_init_955 : decode cX12_init 955 = .ok (.bipush 16, 2) := by decide +kernel
theorem dX12_init_957 : decode cX12_init 957 = .ok (.newarray .int, 2) := by decide +kernel
theorem dX12_init_959 : decode cX12_init 959 = .ok (.putfield 74, 3) := by decide +kernel
theorem dX12_init_962 : decode cX12_init 962 = .ok (.aload_n 0, 1) := by decide +kernel
theorem dX12_init_963 : decode cX12_init 963 = .ok (.bipush 16, 2) := by decide +kernel
theorem dX12_init_965 : decode cX12_init 965 = .ok (.newarray .int, 2) := by decide +kernel
theorem dX12_init_967 : decode cX12_init 967 = .ok (.putfield 77, 3) := by decide +kernel
theorem dX12_init_970 : decode cX12_init 970 = .ok (.aload_n 0, 1) := by decide +kernel
theorem dX12_init_971 : decode cX12_init 971 = .ok (.bipush 16, 2) := by decide +kernel
theorem dX12_init_973 : decode cX12_init 973 = .ok (.newarray .int, 2) := by decide +kernel
theorem dX12_init_975 : decode cX12_init 975 = .ok (.putfield 80, 3) := by decide +kernel
theorem dX12_init_978 : decode cX12_init 978 = .ok (.aload_n 0, 1) := by decide +kernel
theorem dX12_init_979 : decode cX12_init 979 = .ok (.sipush 128, 3) := by decide +kernel
theorem dX12_init_982 : decode cX12_init 982 = .ok (.newarray .int, 2) := by decide +kernel
theorem dX12_init_984 : decode cX12_init 984 = .ok (.putfield 83, 3) := by decide +kernel
theorem dX12_init_987 : decode cX12_init 987 = .ok (.aload_n 0, 1) := by decide +kernel
theorem dX12_init_988 : decode cX12_init 988 = .ok (.bipush 12, 2) := by decide +kernel
theorem dX12_init_990 : decode cX12_init 990 = .ok (.newarray .int, 2) := by decide +kernel
theorem dX12_init_992 : decode cX12_init 992 = .ok (.putfield 86, 3) := by decide +kernel
theorem dX12_init_995 : decode cX12_init 995 = .ok (.aload_n 0, 1) := by decide +kernel
theorem dX12_init_996 : decode cX12_init 996 = .ok (.sipush 520, 3) := by decide +kernel
theorem dX12_init_999 : decode cX12_init 999 = .ok (.newarray .int, 2) := by decide +kernel
theorem dX12_init_1001 : decode cX12_init 1001 = .ok (.putfield 89, 3) := by decide +kernel
theorem dX12_init_1004 : decode cX12_init 1004 = .ok (.aload_n 0, 1) := by decide +kernel
theorem dX12_init_1005 : decode cX12_init 1005 = .ok (.bipush 60, 2) := by decide +kernel
theorem dX12_init_1007 : decode cX12_init 1007 = .ok (.newarray .int, 2) := by decide +kernel
theorem dX12_init_1009 : decode cX12_init 1009 = .ok (.putfield 92, 3) := by decide +kernel
theorem dX12_init_1012 : decode cX12_init 1012 = .ok (.aload_n 0, 1) := by decide +kernel
theorem dX12_init_1013 : decode cX12_init 1013 = .ok (.bipush 60, 2) := by decide +kernel
theorem dX12_init_1015 : decode cX12_init 1015 = .ok (.newarray .int, 2) := by decide +kernel
theorem dX12_init_1017 : decode cX12_init 1017 = .ok (.putfield 95, 3) := by decide +kernel
theorem dX12_init_1020 : decode cX12_init 1020 = .ok (.aload_n 0, 1) := by decide +kernel
theorem dX12_init_1021 : decode cX12_init 1021 = .ok (.bipush 60, 2) := by decide +kernel
theorem dX12_init_1023 : decode cX12_init 1023 = .ok (.newarray .int, 2) := by decide +kernel
theorem dX12_init_1025 : decode cX12_init 1025 = .ok (.putfield 98, 3) := by decide +kernel
theorem dX12_init_1028 : decode cX12_init 1028 = .ok (.aload_n 0, 1) := by decide +kernel
theorem dX12_init_1029 : decode cX12_init 1029 = .ok (.iconst 1, 1) := by decide +kernel
theorem dX12_init_1030 : decode cX12_init 1030 = .ok (.putfield 101, 3) := by decide +kernel
theorem dX12_init_1033 : decode cX12_init 1033 = .ok (.aload_n 0, 1) := by decide +kernel
theorem dX12_init_1034 : decode cX12_init 1034 = .ok (.sipush 128, 3) := by decide +kernel
theorem dX12_init_1037 : decode cX12_init 1037 = .ok (.newarray .long, 2) := by decide +kernel
theorem dX12_init_1039 : decode cX12_init 1039 = .ok (.putfield 104, 3) := by decide +kernel
theorem dX12_init_1042 : decode cX12_init 1042 = .ok (.aload_n 0, 1) := by decide +kernel
theorem dX12_init_1043 : decode cX12_init 1043 = .ok (.sipush 128, 3) := by decide +kernel
theorem dX12_init_1046 : decode cX12_init 1046 = .ok (.newarray .long, 2) := by decide +kernel
theorem dX12_init_1048 : decode cX12_init 1048 = .ok (.putfield 108, 3) := by decide +kernel
theorem dX12_init_1051 : decode cX12_init 1051 = .ok (.aload_n 0, 1) := by decide +kernel
theorem dX12_init_1052 : decode cX12_init 1052 = .ok (.bipush 60, 2) := by decide +kernel
theorem dX12_init_1054 : decode cX12_init 1054 = .ok (.newarray .int, 2) := by decide +kernel
theorem dX12_init_1056 : decode cX12_init 1056 = .ok (.putfield 111, 3) := by decide +kernel
theorem dX12_init_1059 : decode cX12_init 1059 = .ok (.aload_n 0, 1) := by decide +kernel
theorem dX12_init_1060 : decode cX12_init 1060 = .ok (.sipush 1024, 3) := by decide +kernel
theorem dX12_init_1063 : decode cX12_init 1063 = .ok (.newarray .long, 2) := by decide +kernel
theorem dX12_init_1065 : decode cX12_init 1065 = .ok (.putfield 114, 3) := by decide +kernel
theorem dX12_init_1068 : decode cX12_init 1068 = .ok (.aload_n 0, 1) := by decide +kernel
theorem dX12_init_1069 : decode cX12_init 1069 = .ok (.sipush 1024, 3) := by decide +kernel
theorem dX12_init_1072 : decode cX12_init 1072 = .ok (.newarray .long, 2) := by decide +kernel
theorem dX12_init_1074 : decode cX12_init 1074 = .ok (.putfield 117, 3) := by decide +kernel
theorem dX12_init_1077 : decode cX12_init 1077 = .ok (.aload_n 0, 1) := by decide +kernel
theorem dX12_init_1078 : decode cX12_init 1078 = .ok (.sipush 1024, 3) := by decide +kernel
theorem dX12_init_1081 : decode cX12_init 1081 = .ok (.newarray .int, 2) := by decide +kernel
theorem dX12_init_1083 : decode cX12_init 1083 = .ok (.putfield 120, 3) := by decide +kernel
theorem dX12_init_1086 : decode cX12_init 1086 = .ok (.aload_n 0, 1) := by decide +kernel
theorem dX12_init_1087 : decode cX12_init 1087 = .ok (.sipush 1024, 3) := by decide +kernel
theorem dX12_init_1090 : decode cX12_init 1090 = .ok (.newarray .long, 2) := by decide +kernel
theorem dX12_init_1092 : decode cX12_init 1092 = .ok (.putfield 123, 3) := by decide +kernel
theorem dX12_init_1095 : decode cX12_init 1095 = .ok (.aload_n 0, 1) := by decide +kernel
theorem dX12_init_1096 : decode cX12_init 1096 = .ok (.bipush 10, 2) := by decide +kernel
theorem dX12_init_1098 : decode cX12_init 1098 = .ok (.newarray .int, 2) := by decide +kernel
theorem dX12_init_1100 : decode cX12_init 1100 = .ok (.putfield 126, 3) := by decide +kernel
theorem dX12_init_1103 : decode cX12_init 1103 = .ok (.aload_n 0, 1) := by decide +kernel
theorem dX12_init_1104 : decode cX12_init 1104 = .ok (.sipush 1024, 3) := by decide +kernel
theorem dX12_init_1107 : decode cX12_init 1107 = .ok (.newarray .boolean, 2) := by decide +kernel
theorem dX12_init_1109 : decode cX12_init 1109 = .ok (.putfield 129, 3) := by decide +kernel
theorem dX12_init_1112 : decode cX12_init 1112 = .ok (.aload_n 0, 1) := by decide +kernel
theorem dX12_init_1113 : decode cX12_init 1113 = .ok (.sipush 7808, 3) := by decide +kernel
theorem dX12_init_1116 : decode cX12_init 1116 = .ok (.newarray .long, 2) := by decide +kernel
theorem dX12_init_1118 : decode cX12_init 1118 = .ok (.putfield 133, 3) := by decide +kernel
theorem dX12_init_1121 : decode cX12_init 1121 = .ok (.aload_n 0, 1) := by decide +kernel
theorem dX12_init_1122 : decode cX12_init 1122 = .ok (.sipush 7808, 3) := by decide +kernel
theorem dX12_init_1125 : decode cX12_init 1125 = .ok (.newarray .long, 2) := by decide +kernel
theorem dX12_init_1127 : decode cX12_init 1127 = .ok (.putfield 136, 3) := by decide +kernel
theorem dX12_init_1130 : decode cX12_init 1130 = .ok (.aload_n 0, 1) := by decide +kernel
theorem dX12_init_1131 : decode cX12_init 1131 = .ok (.bipush 60, 2) := by decide +kernel
theorem dX12_init_1133 : decode cX12_init 1133 = .ok (.newarray .int, 2) := by decide +kernel
theorem dX12_init_1135 : decode cX12_init 1135 = .ok (.putfield 139, 3) := by decide +kernel
theorem dX12_init_1138 : decode cX12_init 1138 = .ok (.aload_n 0, 1) := by decide +kernel
theorem dX12_init_1139 : decode cX12_init 1139 = .ok (.bipush 60, 2) := by decide +kernel
theorem dX12_init_1141 : decode cX12_init 1141 = .ok (.newarray .int, 2) := by decide +kernel
theorem dX12_init_1143 : decode cX12_init 1143 = .ok (.putfield 142, 3) := by decide +kernel
theorem dX12_init_1146 : decode cX12_init 1146 = .ok (.aload_n 0, 1) := by decide +kernel
theorem dX12_init_1147 : decode cX12_init 1147 = .ok (.bipush 60, 2) := by decide +kernel
theorem dX12_init_1149 : decode cX12_init 1149 = .ok (.newarray .int, 2) := by decide +kernel
theorem dX12_init_1151 : decode cX12_init 1151 = .ok (.putfield 145, 3) := by decide +kernel
theorem dX12_init_1154 : decode cX12_init 1154 = .ok (.aload_n 0, 1) := by decide +kernel
theorem dX12_init_1155 : decode cX12_init 1155 = .ok (.bipush 7, 2) := by decide +kernel
theorem dX12_init_1157 : decode cX12_init 1157 = .ok (.newarray .int, 2) := by decide +kernel
theorem dX12_init_1159 : decode cX12_init 1159 = .ok (.putfield 148, 3) := by decide +kernel
theorem dX12_init_1162 : decode cX12_init 1162 = .ok (.aload_n 0, 1) := by decide +kernel
theorem dX12_init_1163 : decode cX12_init 1163 = .ok (.bipush 7, 2) := by decide +kernel
theorem dX12_init_1165 : decode cX12_init 1165 = .ok (.newarray .int, 2) := by decide +kernel
theorem dX12_init_1167 : decode cX12_init 1167 = .ok (.putfield 151, 3) := by decide +kernel
theorem dX12_init_1170 : decode cX12_init 1170 = .ok (.aload_n 0, 1) := by decide +kernel
theorem dX12_init_1171 : decode cX12_init 1171 = .ok (.bipush 31, 2) := by decide +kernel
theorem dX12_init_1173 : decode cX12_init 1173 = .ok (.newarray .int, 2) := by decide +kernel
theorem dX12_init_1175 : decode cX12_init 1175 = .ok (.putfield 154, 3) := by decide +kernel
theorem dX12_init_1178 : decode cX12_init 1178 = .ok (.aload_n 0, 1) := by decide +kernel
theorem dX12_init_1179 : decode cX12_init 1179 = .ok (.sipush 400, 3) := by decide +kernel
theorem dX12_init_1182 : decode cX12_init 1182 = .ok (.newarray .int, 2) := by decide +kernel
theorem dX12_init_1184 : decode cX12_init 1184 = .ok (.putfield 157, 3) := by decide +kernel
theorem dX12_init_1187 : decode cX12_init 1187 = .ok (.aload_n 0, 1) := by decide +kernel
theorem dX12_init_1188 : decode cX12_init 1188 = .ok (.sipush 400, 3) := by decide +kernel
theorem dX12_init_1191 : decode cX12_init 1191 = .ok (.newarray .int, 2) := by decide +kernel
theorem dX12_init_1193 : decode cX12_init 1193 = .ok (.putfield 160, 3) := by decide +kernel
theorem dX12_init_1196 : decode cX12_init 1196 = .ok (.aload_n 0, 1) := by decide +kernel
theorem dX12_init_1197 : decode cX12_init 1197 = .ok (.sipush 3400, 3) := by decide +kernel
theorem dX12_init_1200 : decode cX12_init 1200 = .ok (.newarray .int, 2) := by decide +kernel
theorem dX12_init_1202 : decode cX12_init 1202 = .ok (.putfield 163, 3) := by decide +kernel
theorem dX12_init_1205 : decode cX12_init 1205 = .ok (.return_, 1) := by decide +kernel
theorem dX12_isIn_0 : decode cX12_isIn 0 = .ok (.iload_n 1, 1) := by decide +kernel
theorem dX12_isIn_1 : decode cX12_isIn 1 = .ok (.iload_n 2, 1) := by decide +kernel
theorem dX12_isIn_2 : decode cX12_isIn 2 = .ok (.if_icmp .lt 12, 3) := by decide +kernel
theorem dX12_isIn_5 : decode cX12_isIn 5 = .ok (.iload_n 1, 1) := by decide +kernel
theorem dX12_isIn_6 : decode cX12_isIn 6 = .ok (.iload_n 3, 1) := by decide +kernel
theorem dX12_isIn_7 : decode cX12_isIn 7 = .ok (.if_icmp .gt 7, 3) := by decide +kernel
theorem dX12_isIn_10 : decode cX12_isIn 10 = .ok (.iconst 1, 1) := by decide +kernel
theorem dX12_isIn_11 : decode cX12_isIn 11 = .ok (.goto 4, 3) := by decide +kernel
theorem dX12_isIn_14 : decode cX12_isIn 14 = .ok (.iconst 0, 1) := by decide +kernel
theorem dX12_isIn_15 : decode cX12_isIn 15 = .ok (.ireturn, 1) := by decide +kernel
theorem dX12_ones_0 : decode cX12_ones 0 = .ok (.iconst 0, 1) := by decide +kernel
theorem dX12_ones_1 : decode cX12_ones 1 = .ok (.istore_n 2, 1) := by decide +kernel
theorem dX12_ones_2 : decode cX12_ones 2 = .ok (.iload_n 1, 1) := by decide +kernel
theorem dX12_ones_3 : decode cX12_ones 3 = .ok (.istore_n 3, 1) := by decide +kernel
theorem dX12_ones_4 : decode cX12_ones 4 = .ok (.iload_n 3, 1) := by decide +kernel
theorem dX12_ones_5 : decode cX12_ones 5 = .ok (.ifCond .eq 16, 3) := by decide +kernel
theorem dX12_ones_8 : decode cX12_ones 8 = .ok (.iload_n 2, 1) := by decide +kernel
theorem dX12_ones_9 : decode cX12_ones 9 = .ok (.iconst 1, 1) := by decide +kernel
theorem dX12_ones_10 : decode cX12_ones 10 = .ok (.iadd, 1) := by decide +kernel
theorem dX12_ones_11 : decode cX12_ones 11 = .ok (.istore_n 2, 1) := by decide +kernel
theorem dX12_ones_12 : decode cX12_ones 12 = .ok (.iload_n 3, 1) := by decide +kernel
theorem dX12_ones_13 : decode cX12_ones 13 = .ok (.iload_n 3, 1) := by decide +kernel
theorem dX12_ones_14 : decode cX12_ones 14 = .ok (.iconst 1, 1) := by decide +kernel
theorem dX12_ones_15 : decode cX12_ones 15 = .ok (.isub, 1) := by decide +kernel
theorem dX12_ones_16 : decode cX12_ones 16 = .ok (.iand, 1) := by decide +kernel
theorem dX12_ones_17 : decode cX12_ones 17 = .ok (.istore_n 3, 1) := by decide +kernel
theorem dX12_ones_18 : decode cX12_ones 18 = .ok (.goto (-14), 3) := by decide +kernel
theorem dX12_ones_21 : decode cX12_ones 21 = .ok (.iload_n 2, 1) := by decide +kernel
theorem dX12_ones_22 : decode cX12_ones 22 = .ok (.ireturn, 1) := by decide +kernel
theorem dX12_size_0 : decode cX12_size 0 = .ok (.iload_n 1, 1) := by decide +kernel
theorem dX12_size_1 : decode cX12_size 1 = .ok (.ifCond .ge 8, 3) := by decide +kernel
theorem dX12_size_4 : decode cX12_size 4 = .ok (.iload_n 1, 1) := by decide +kernel
theorem dX12_size_5 : decode cX12_size 5 = .ok (.ineg, 1) := by decide +kernel
theorem dX12_size_6 : decode cX12_size 6 = .ok (.goto 4, 3) := by decide +kernel
theorem dX12_size_9 : decode cX12_size 9 = .ok (.iload_n 1, 1) := by decide +kernel
theorem dX12_size_10 : decode cX12_size 10 = .ok (.ireturn, 1) := by decide +kernel
theorem dX12_state_0 : decode cX12_state 0 = .ok (.aload_n 0, 1) := by decide +kernel
theorem dX12_state_1 : decode cX12_state 1 = .ok (.iconst 0, 1) := by decide +kernel
theorem dX12_state_2 : decode cX12_state 2 = .ok (.putfield 166, 3) := by decide +kernel
theorem dX12_state_5 : decode cX12_state 5 = .ok (.aload_n 0, 1) := by decide +kernel
theorem dX12_state_6 : decode cX12_state 6 = .ok (.getfield 169, 3) := by decide +kernel
theorem dX12_state_9 : decode cX12_state 9 = .ok (.istore_n 2, 1) := by decide +kernel
theorem dX12_state_10 : decode cX12_state 10 = .ok (.aload_n 0, 1) := by decide +kernel
theorem dX12_state_11 : decode cX12_state 11 = .ok (.iload_n 1, 1) := by decide +kernel
theorem dX12_state_12 : decode cX12_state 12 = .ok (.putfield 169, 3) := by decide +kernel
theorem dX12_state_15 : decode cX12_state 15 = .ok (.iload_n 2, 1) := by decide +kernel
theorem dX12_state_16 : decode cX12_state 16 = .ok (.ireturn, 1) := by decide +kernel
theorem dX12_draw_0 : decode cX12_draw 0 = .ok (.aload_n 0, 1) := by decide +kernel
theorem dX12_draw_1 : decode cX12_draw 1 = .ok (.ldc 172, 2) := by decide +kernel
theorem dX12_draw_3 : decode cX12_draw 3 = .ok (.aload_n 0, 1) := by decide +kernel
theorem dX12_draw_4 : decode cX12_draw 4 = .ok (.getfield 169, 3) := by decide +kernel
theorem dX12_draw_7 : decode cX12_draw 7 = .ok (.imul, 1) := by decide +kernel
theorem dX12_draw_8 : decode cX12_draw 8 = .ok (.ldc 173, 2) := by decide +kernel
theorem dX12_draw_10 : decode cX12_draw 10 = .ok (.iadd, 1) := by decide +kernel
theorem dX12_draw_11 : decode cX12_draw 11 = .ok (.putfield 169, 3) := by decide +kernel
theorem dX12_draw_14 : decode cX12_draw 14 = .ok (.aload_n 0, 1) := by decide +kernel
theorem dX12_draw_15 : decode cX12_draw 15 = .ok (.getfield 169, 3) := by decide +kernel
theorem dX12_draw_18 : decode cX12_draw 18 = .ok (.bipush 8, 2) := by decide +kernel
theorem dX12_draw_20 : decode cX12_draw 20 = .ok (.iushr, 1) := by decide +kernel
theorem dX12_draw_21 : decode cX12_draw 21 = .ok (.iload_n 1, 1) := by decide +kernel
theorem dX12_draw_22 : decode cX12_draw 22 = .ok (.irem, 1) := by decide +kernel
theorem dX12_draw_23 : decode cX12_draw 23 = .ok (.ireturn, 1) := by decide +kernel
theorem dX12_isPlace_0 : decode cX12_isPlace 0 = .ok (.iload_n 1, 1) := by decide +kernel
theorem dX12_isPlace_1 : decode cX12_isPlace 1 = .ok (.ifCond .lt 15, 3) := by decide +kernel
theorem dX12_isPlace_4 : decode cX12_isPlace 4 = .ok (.iload_n 1, 1) := by decide +kernel
theorem dX12_isPlace_5 : decode cX12_isPlace 5 = .ok (.aload_n 0, 1) := by decide +kernel
theorem dX12_isPlace_6 : decode cX12_isPlace 6 = .ok (.getfield 7, 3) := by decide +kernel
theorem dX12_isPlace_9 : decode cX12_isPlace 9 = .ok (.if_icmp .ge 7, 3) := by decide +kernel
theorem dX12_isPlace_12 : decode cX12_isPlace 12 = .ok (.iconst 1, 1) := by decide +kernel
theorem dX12_isPlace_13 : decode cX12_isPlace 13 = .ok (.goto 4, 3) := by decide +kernel
theorem dX12_isPlace_16 : decode cX12_isPlace 16 = .ok (.iconst 0, 1) := by decide +kernel
theorem dX12_isPlace_17 : decode cX12_isPlace 17 = .ok (.ireturn, 1) := by decide +kernel
theorem dX12_row_0 : decode cX12_row 0 = .ok (.aload_n 0, 1) := by decide +kernel
theorem dX12_row_1 : decode cX12_row 1 = .ok (.iconst 0, 1) := by decide +kernel
theorem dX12_row_2 : decode cX12_row 2 = .ok (.putfield 166, 3) := by decide +kernel
theorem dX12_row_5 : decode cX12_row 5 = .ok (.aload_n 0, 1) := by decide +kernel
theorem dX12_row_6 : decode cX12_row 6 = .ok (.iload_n 1, 1) := by decide +kernel
theorem dX12_row_7 : decode cX12_row 7 = .ok (.iconst 2, 1) := by decide +kernel
theorem dX12_row_8 : decode cX12_row 8 = .ok (.bipush 60, 2) := by decide +kernel
theorem dX12_row_10 : decode cX12_row 10 = .ok (.invokevirtual 174, 3) := by decide +kernel
theorem dX12_row_13 : decode cX12_row 13 = .ok (.ifCond .ne 5, 3) := by decide +kernel
theorem dX12_row_16 : decode cX12_row 16 = .ok (.iconst 0, 1) := by decide +kernel
theorem dX12_row_17 : decode cX12_row 17 = .ok (.ireturn, 1) := by decide +kernel
theorem dX12_row_18 : decode cX12_row 18 = .ok (.aload_n 0, 1) := by decide +kernel
theorem dX12_row_19 : decode cX12_row 19 = .ok (.iload_n 1, 1) := by decide +kernel
theorem dX12_row_20 : decode cX12_row 20 = .ok (.putfield 7, 3) := by decide +kernel
theorem dX12_row_23 : decode cX12_row 23 = .ok (.iconst 0, 1) := by decide +kernel
theorem dX12_row_24 : decode cX12_row 24 = .ok (.istore_n 2, 1) := by decide +kernel
theorem dX12_row_25 : decode cX12_row 25 = .ok (.iload_n 2, 1) := by decide +kernel
theorem dX12_row_26 : decode cX12_row 26 = .ok (.bipush 60, 2) := by decide +kernel
theorem dX12_row_28 : decode cX12_row 28 = .ok (.if_icmp .ge 51, 3) := by decide +kernel
theorem dX12_row_31 : decode cX12_row 31 = .ok (.aload_n 0, 1) := by decide +kernel
theorem dX12_row_32 : decode cX12_row 32 = .ok (.getfield 13, 3) := by decide +kernel
theorem dX12_row_35 : decode cX12_row 35 = .ok (.iload_n 2, 1) := by decide +kernel
theorem dX12_row_36 : decode cX12_row 36 = .ok (.iconst 0, 1) := by decide +kernel
theorem dX12_row_37 : decode cX12_row 37 = .ok (.iastore, 1) := by decide +kernel
theorem dX12_row_38 : decode cX12_row 38 = .ok (.aload_n 0, 1) := by decide +kernel
theorem dX12_row_39 : decode cX12_row 39 = .ok (.getfield 17, 3) := by decide +kernel
theorem dX12_row_42 : decode cX12_row 42 = .ok (.iload_n 2, 1) := by decide +kernel
theorem dX12_row_43 : decode cX12_row 43 = .ok (.iconst 0, 1) := by decide +kernel
theorem dX12_row_44 : decode cX12_row 44 = .ok (.iastore, 1) := by decide +kernel
theorem dX12_row_45 : decode cX12_row 45 = .ok (.aload_n 0, 1) := by decide +kernel
theorem dX12_row_46 : decode cX12_row 46 = .ok (.getfield 20, 3) := by decide +kernel
theorem dX12_row_49 : decode cX12_row 49 = .ok (.iload_n 2, 1) := by decide +kernel
theorem dX12_row_50 : decode cX12_row 50 = .ok (.iconst 0, 1) := by decide +kernel
theorem dX12_row_51 : decode cX12_row 51 = .ok (.iastore, 1) := by decide +kernel
theorem dX12_row_52 : decode cX12_row 52 = .ok (.aload_n 0, 1) := by decide +kernel
theorem dX12_row_53 : decode cX12_row 53 = .ok (.getfield 23, 3) := by decide +kernel
theorem dX12_row_56 : decode cX12_row 56 = .ok (.iload_n 2, 1) := by decide +kernel
theorem dX12_row_57 : decode cX12_row 57 = .ok (.iconst 0, 1) := by decide +kernel
theorem dX12_row_58 : decode cX12_row 58 = .ok (.iastore, 1) := by decide +kernel
theorem dX12_row_59 : decode cX12_row 59 = .ok (.aload_n 0, 1) := by decide +kernel
theorem dX12_row_60 : decode cX12_row 60 = .ok (.getfield 26, 3) := by decide +kernel
theorem dX12_row_63 : decode cX12_row 63 = .ok (.iload_n 2, 1) := by decide +kernel
theorem dX12_row_64 : decode cX12_row 64 = .ok (.iconst 0, 1) := by decide +kernel
theorem dX12_row_65 : decode cX12_row 65 = .ok (.iastore, 1) := by decide +kernel
theorem dX12_row_66 : decode cX12_row 66 = .ok (.aload_n 0, 1) := by decide +kernel
theorem dX12_row_67 : decode cX12_row 67 = .ok (.getfield 29, 3) := by decide +kernel
theorem dX12_row_70 : decode cX12_row 70 = .ok (.iload_n 2, 1) := by decide +kernel
theorem dX12_row_71 : decode cX12_row 71 = .ok (.iconst 0, 1) := by decide +kernel
theorem dX12_row_72 : decode cX12_row 72 = .ok (.iastore, 1) := by decide +kernel
theorem dX12_row_73 : decode cX12_row 73 = .ok (.iinc 2 1, 3) := by decide +kernel
theorem dX12_row_76 : decode cX12_row 76 = .ok (.goto (-51), 3) := by decide +kernel
theorem dX12_row_79 : decode cX12_row 79 = .ok (.aload_n 0, 1) := by decide +kernel
theorem dX12_row_80 : decode cX12_row 80 = .ok (.iconst 0, 1) := by decide +kernel
theorem dX12_row_81 : decode cX12_row 81 = .ok (.putfield 178, 3) := by decide +kernel
theorem dX12_row_84 : decode cX12_row 84 = .ok (.aload_n 0, 1) := by decide +kernel
theorem dX12_row_85 : decode cX12_row 85 = .ok (.iconst (-1), 1) := by decide +kernel
theorem dX12_row_86 : decode cX12_row 86 = .ok (.putfield 41, 3) := by decide +kernel
theorem dX12_row_89 : decode cX12_row 89 = .ok (.iconst 1, 1) := by decide +kernel
theorem dX12_row_90 : decode cX12_row 90 = .ok (.ireturn, 1) := by decide +kernel
theorem dX12_place_0 : decode cX12_place 0 = .ok (.aload_n 0, 1) := by decide +kernel
theorem dX12_place_1 : decode cX12_place 1 = .ok (.iconst 0, 1) := by decide +kernel
theorem dX12_place_2 : decode cX12_place 2 = .ok (.putfield 166, 3) := by decide +kernel
theorem dX12_place_5 : decode cX12_place 5 = .ok (.aload_n 0, 1) := by decide +kernel
theorem dX12_place_6 : decode cX12_place 6 = .ok (.iload_n 1, 1) := by decide +kernel
theorem dX12_place_7 : decode cX12_place 7 = .ok (.invokevirtual 181, 3) := by decide +kernel
theorem dX12_place_10 : decode cX12_place 10 = .ok (.ifCond .eq 25, 3) := by decide +kernel
theorem dX12_place_13 : decode cX12_place 13 = .ok (.aload_n 0, 1) := by decide +kernel
theorem dX12_place_14 : decode cX12_place 14 = .ok (.iload_n 2, 1) := by decide +kernel
theorem dX12_place_15 : decode cX12_place 15 = .ok (.iconst 0, 1) := by decide +kernel
theorem dX12_place_16 : decode cX12_place 16 = .ok (.iconst 5, 1) := by decide +kernel
theorem dX12_place_17 : decode cX12_place 17 = .ok (.invokevirtual 174, 3) := by decide +kernel
theorem dX12_place_20 : decode cX12_place 20 = .ok (.ifCond .eq 15, 3) := by decide +kernel
theorem dX12_place_23 : decode cX12_place 23 = .ok (.aload_n 0, 1) := by decide +kernel
theorem dX12_place_24 : decode cX12_place 24 = .ok (.iload_n 3, 1) := by decide +kernel
theorem dX12_place_25 : decode cX12_place 25 = .ok (.iconst 0, 1) := by decide +kernel
theorem dX12_place_26 : decode cX12_place 26 = .ok (.sipush 999, 3) := by decide +kernel
theorem dX12_place_29 : decode cX12_place 29 = .ok (.invokevirtual 174, 3) := by decide +kernel
theorem dX12_place_32 : decode cX12_place 32 = .ok (.ifCond .ne 5, 3) := by decide +kernel
theorem dX12_place_35 : decode cX12_place 35 = .ok (.iconst 0, 1) := by decide +kernel
theorem dX12_place_36 : decode cX12_place 36 = .ok (.ireturn, 1) := by decide +kernel
theorem dX12_place_37 : decode cX12_place 37 = .ok (.aload_n 0, 1) := by decide +kernel
theorem dX12_place_38 : decode cX12_place 38 = .ok (.getfield 13, 3) := by decide +kernel
theorem dX12_place_41 : decode cX12_place 41 = .ok (.iload_n 1, 1) := by decide +kernel
theorem dX12_place_42 : decode cX12_place 42 = .ok (.iload_n 2, 1) := by decide +kernel
theorem dX12_place_43 : decode cX12_place 43 = .ok (.iastore, 1) := by decide +kernel
theorem dX12_place_44 : decode cX12_place 44 = .ok (.aload_n 0, 1) := by decide +kernel
theorem dX12_place_45 : decode cX12_place 45 = .ok (.getfield 17, 3) := by decide +kernel
theorem dX12_place_48 : decode cX12_place 48 = .ok (.iload_n 1, 1) := by decide +kernel
theorem dX12_place_49 : decode cX12_place 49 = .ok (.iload_n 3, 1) := by decide +kernel
theorem dX12_place_50 : decode cX12_place 50 = .ok (.iastore, 1) := by decide +kernel
theorem dX12_place_51 : decode cX12_place 51 = .ok (.aload_n 0, 1) := by decide +kernel
theorem dX12_place_52 : decode cX12_place 52 = .ok (.getfield 20, 3) := by decide +kernel
theorem dX12_place_55 : decode cX12_place 55 = .ok (.iload_n 1, 1) := by decide +kernel
theorem dX12_place_56 : decode cX12_place 56 = .ok (.iload 4, 2) := by decide +kernel
theorem dX12_place_58 : decode cX12_place 58 = .ok (.ifCond .eq 7, 3) := by decide +kernel
theorem dX12_place_61 : decode cX12_place 61 = .ok (.iconst 1, 1) := by decide +kernel
theorem dX12_place_62 : decode cX12_place 62 = .ok (.goto 4, 3) := by decide +kernel
theorem dX12_place_65 : decode cX12_place 65 = .ok (.iconst 0, 1) := by decide +kernel
theorem dX12_place_66 : decode cX12_place 66 = .ok (.iastore, 1) := by decide +kernel
theorem dX12_place_67 : decode cX12_place 67 = .ok (.iconst 1, 1) := by decide +kernel
theorem dX12_place_68 : decode cX12_place 68 = .ok (.ireturn, 1) := by decide +kernel
theorem dX12_sort_0 : decode cX12_sort 0 = .ok (.aload_n 0, 1) := by decide +kernel
theorem dX12_sort_1 : decode cX12_sort 1 = .ok (.iconst 0, 1) := by decide +kernel
theorem dX12_sort_2 : decode cX12_sort 2 = .ok (.putfield 166, 3) := by decide +kernel
theorem dX12_sort_5 : decode cX12_sort 5 = .ok (.aload_n 0, 1) := by decide +kernel
theorem dX12_sort_6 : decode cX12_sort 6 = .ok (.iload_n 1, 1) := by decide +kernel
theorem dX12_sort_7 : decode cX12_sort 7 = .ok (.iconst 0, 1) := by decide +kernel
theorem dX12_sort_8 : decode cX12_sort 8 = .ok (.iconst 5, 1) := by decide +kernel
theorem dX12_sort_9 : decode cX12_sort 9 = .ok (.invokevirtual 174, 3) := by decide +kernel
theorem dX12_sort_12 : decode cX12_sort 12 = .ok (.ifCond .eq 26, 3) := by decide +kernel
theorem dX12_sort_15 : decode cX12_sort 15 = .ok (.aload_n 0, 1) := by decide +kernel
theorem dX12_sort_16 : decode cX12_sort 16 = .ok (.iload_n 2, 1) := by decide +kernel
theorem dX12_sort_17 : decode cX12_sort 17 = .ok (.iconst 0, 1) := by decide +kernel
theorem dX12_sort_18 : decode cX12_sort 18 = .ok (.sipush 1000, 3) := by decide +kernel
theorem dX12_sort_21 : decode cX12_sort 21 = .ok (.invokevirtual 174, 3) := by decide +kernel
theorem dX12_sort_24 : decode cX12_sort 24 = .ok (.ifCond .eq 14, 3) := by decide +kernel
theorem dX12_sort_27 : decode cX12_sort 27 = .ok (.aload_n 0, 1) := by decide +kernel
theorem dX12_sort_28 : decode cX12_sort 28 = .ok (.iload_n 3, 1) := by decide +kernel
theorem dX12_sort_29 : decode cX12_sort 29 = .ok (.iconst 0, 1) := by decide +kernel
theorem dX12_sort_30 : decode cX12_sort 30 = .ok (.bipush 99, 2) := by decide +kernel
theorem dX12_sort_32 : decode cX12_sort 32 = .ok (.invokevirtual 174, 3) := by decide +kernel
theorem dX12_sort_35 : decode cX12_sort 35 = .ok (.ifCond .ne 5, 3) := by decide +kernel
theorem dX12_sort_38 : decode cX12_sort 38 = .ok (.iconst 0, 1) := by decide +kernel
theorem dX12_sort_39 : decode cX12_sort 39 = .ok (.ireturn, 1) := by decide +kernel
theorem dX12_sort_40 : decode cX12_sort 40 = .ok (.aload_n 0, 1) := by decide +kernel
theorem dX12_sort_41 : decode cX12_sort 41 = .ok (.getfield 32, 3) := by decide +kernel
theorem dX12_sort_44 : decode cX12_sort 44 = .ok (.iload_n 1, 1) := by decide +kernel
theorem dX12_sort_45 : decode cX12_sort 45 = .ok (.iload_n 2, 1) := by decide +kernel
theorem dX12_sort_46 : decode cX12_sort 46 = .ok (.iastore, 1) := by decide +kernel
theorem dX12_sort_47 : decode cX12_sort 47 = .ok (.aload_n 0, 1) := by decide +kernel
theorem dX12_sort_48 : decode cX12_sort 48 = .ok (.getfield 35, 3) := by decide +kernel
theorem dX12_sort_51 : decode cX12_sort 51 = .ok (.iload_n 1, 1) := by decide +kernel
theorem dX12_sort_52 : decode cX12_sort 52 = .ok (.iload_n 3, 1) := by decide +kernel
theorem dX12_sort_53 : decode cX12_sort 53 = .ok (.iastore, 1) := by decide +kernel
theorem dX12_sort_54 : decode cX12_sort 54 = .ok (.iconst 1, 1) := by decide +kernel
theorem dX12_sort_55 : decode cX12_sort 55 = .ok (.ireturn, 1) := by decide +kernel
theorem dX12_leastOf_0 : decode cX12_leastOf 0 = .ok (.iload_n 1, 1) := by decide +kernel
theorem dX12_leastOf_1 : decode cX12_leastOf 1 = .ok (.iconst 1, 1) := by decide +kernel
theorem dX12_leastOf_2 : decode cX12_leastOf 2 = .ok (.if_icmp .eq 8, 3) := by decide +kernel
theorem dX12_leastOf_5 : decode cX12_leastOf 5 = .ok (.iload_n 1, 1) := by decide +kernel
theorem dX12_leastOf_6 : decode cX12_leastOf 6 = .ok (.iconst 3, 1) := by decide +kernel
theorem dX12_leastOf_7 : decode cX12_leastOf 7 = .ok (.if_icmp .ne 7, 3) := by decide +kernel
theorem dX12_leastOf_10 : decode cX12_leastOf 10 = .ok (.iconst 1, 1) := by decide +kernel
theorem dX12_leastOf_11 : decode cX12_leastOf 11 = .ok (.goto 4, 3) := by decide +kernel
theorem dX12_leastOf_14 : decode cX12_leastOf 14 = .ok (.iconst 0, 1) := by decide +kernel
theorem dX12_leastOf_15 : decode cX12_leastOf 15 = .ok (.ireturn, 1) := by decide +kernel
theorem dX12_mostOf_0 : decode cX12_mostOf 0 = .ok (.iload_n 1, 1) := by decide +kernel
theorem dX12_mostOf_1 : decode cX12_mostOf 1 = .ok (.iconst 1, 1) := by decide +kernel
theorem dX12_mostOf_2 : decode cX12_mostOf 2 = .ok (.if_icmp .ne 6, 3) := by decide +kernel
theorem dX12_mostOf_5 : decode cX12_mostOf 5 = .ok (.bipush 9, 2) := by decide +kernel
theorem dX12_mostOf_7 : decode cX12_mostOf 7 = .ok (.ireturn, 1) := by decide +kernel
theorem dX12_mostOf_8 : decode cX12_mostOf 8 = .ok (.iload_n 1, 1) := by decide +kernel
theorem dX12_mostOf_9 : decode cX12_mostOf 9 = .ok (.iconst 2, 1) := by decide +kernel
theorem dX12_mostOf_10 : decode cX12_mostOf 10 = .ok (.if_icmp .ne 6, 3) := by decide +kernel
theorem dX12_mostOf_13 : decode cX12_mostOf 13 = .ok (.bipush 20, 2) := by decide +kernel
theorem dX12_mostOf_15 : decode cX12_mostOf 15 = .ok (.ireturn, 1) := by decide +kernel
theorem dX12_mostOf_16 : decode cX12_mostOf 16 = .ok (.iload_n 1, 1) := by decide +kernel
theorem dX12_mostOf_17 : decode cX12_mostOf 17 = .ok (.iconst 5, 1) := by decide +kernel
theorem dX12_mostOf_18 : decode cX12_mostOf 18 = .ok (.if_icmp .ne 7, 3) := by decide +kernel
theorem dX12_mostOf_21 : decode cX12_mostOf 21 = .ok (.sipush 9999, 3) := by decide +kernel
theorem dX12_mostOf_24 : decode cX12_mostOf 24 = .ok (.ireturn, 1) := by decide +kernel
theorem dX12_mostOf_25 : decode cX12_mostOf 25 = .ok (.iload_n 1, 1) := by decide +kernel
theorem dX12_mostOf_26 : decode cX12_mostOf 26 = .ok (.bipush 6, 2) := by decide +kernel
theorem dX12_mostOf_28 : decode cX12_mostOf 28 = .ok (.if_icmp .lt 9, 3) := by decide +kernel
theorem dX12_mostOf_31 : decode cX12_mostOf 31 = .ok (.sipush 999, 3) := by decide +kernel
theorem dX12_mostOf_34 : decode cX12_mostOf 34 = .ok (.goto 5, 3) := by decide +kernel
theorem dX12_mostOf_37 : decode cX12_mostOf 37 = .ok (.bipush 99, 2) := by decide +kernel
theorem dX12_mostOf_39 : decode cX12_mostOf 39 = .ok (.ireturn, 1) := by decide +kernel
theorem dX12_set_0 : decode cX12_set 0 = .ok (.aload_n 0, 1) := by decide +kernel
theorem dX12_set_1 : decode cX12_set 1 = .ok (.iconst 0, 1) := by decide +kernel
theorem dX12_set_2 : decode cX12_set 2 = .ok (.putfield 166, 3) := by decide +kernel
theorem dX12_set_5 : decode cX12_set 5 = .ok (.aload_n 0, 1) := by decide +kernel
theorem dX12_set_6 : decode cX12_set 6 = .ok (.iload_n 1, 1) := by decide +kernel
theorem dX12_set_7 : decode cX12_set 7 = .ok (.iconst 0, 1) := by decide +kernel
theorem dX12_set_8 : decode cX12_set 8 = .ok (.bipush 7, 2) := by decide +kernel
theorem dX12_set_10 : decode cX12_set 10 = .ok (.invokevirtual 174, 3) := by decide +kernel
theorem dX12_set_13 : decode cX12_set 13 = .ok (.ifCond .eq 21, 3) := by decide +kernel
theorem dX12_set_16 : decode cX12_set 16 = .ok (.aload_n 0, 1) := by decide +kernel
theorem dX12_set_17 : decode cX12_set 17 = .ok (.iload_n 2, 1) := by decide +kernel
theorem dX12_set_18 : decode cX12_set 18 = .ok (.aload_n 0, 1) := by decide +kernel
theorem dX12_set_19 : decode cX12_set 19 = .ok (.iload_n 1, 1) := by decide +kernel
theorem dX12_set_20 : decode cX12_set 20 = .ok (.invokevirtual 185, 3) := by decide +kernel
theorem dX12_set_23 : decode cX12_set 23 = .ok (.aload_n 0, 1) := by decide +kernel
theorem dX12_set_24 : decode cX12_set 24 = .ok (.iload_n 1, 1) := by decide +kernel
theorem dX12_set_25 : decode cX12_set 25 = .ok (.invokevirtual 189, 3) := by decide +kernel
theorem dX12_set_28 : decode cX12_set 28 = .ok (.invokevirtual 174, 3) := by decide +kernel
theorem dX12_set_31 : decode cX12_set 31 = .ok (.ifCond .ne 5, 3) := by decide +kernel
theorem dX12_set_34 : decode cX12_set 34 = .ok (.iconst 0, 1) := by decide +kernel
theorem dX12_set_35 : decode cX12_set 35 = .ok (.ireturn, 1) := by decide +kernel
theorem dX12_set_36 : decode cX12_set 36 = .ok (.aload_n 0, 1) := by decide +kernel
theorem dX12_set_37 : decode cX12_set 37 = .ok (.getfield 38, 3) := by decide +kernel
theorem dX12_set_40 : decode cX12_set 40 = .ok (.iload_n 1, 1) := by decide +kernel
theorem dX12_set_41 : decode cX12_set 41 = .ok (.iload_n 2, 1) := by decide +kernel
theorem dX12_set_42 : decode cX12_set 42 = .ok (.iastore, 1) := by decide +kernel
theorem dX12_set_43 : decode cX12_set 43 = .ok (.iconst 1, 1) := by decide +kernel
theorem dX12_set_44 : decode cX12_set 44 = .ok (.ireturn, 1) := by decide +kernel
theorem dX12_puts_0 : decode cX12_puts 0 = .ok (.bipush 24, 2) := by decide +kernel
theorem dX12_puts_2 : decode cX12_puts 2 = .ok (.istore_n 2, 1) := by decide +kernel
theorem dX12_puts_3 : decode cX12_puts 3 = .ok (.iload_n 2, 1) := by decide +kernel
theorem dX12_puts_4 : decode cX12_puts 4 = .ok (.ifCond .lt 35, 3) := by decide +kernel
theorem dX12_puts_7 : decode cX12_puts 7 = .ok (.aload_n 0, 1) := by decide +kernel
theorem dX12_puts_8 : decode cX12_puts 8 = .ok (.getfield 44, 3) := by decide +kernel
theorem dX12_puts_11 : decode cX12_puts 11 = .ok (.aload_n 0, 1) := by decide +kernel
theorem dX12_puts_12 : decode cX12_puts 12 = .ok (.getfield 192, 3) := by decide +kernel
theorem dX12_puts_15 : decode cX12_puts 15 = .ok (.iload_n 1, 1) := by decide +kernel
theorem dX12_puts_16 : decode cX12_puts 16 = .ok (.iload_n 2, 1) := by decide +kernel
theorem dX12_puts_17 : decode cX12_puts 17 = .ok (.ishr, 1) := by decide +kernel
theorem dX12_puts_18 : decode cX12_puts 18 = .ok (.sipush 255, 3) := by decide +kernel
theorem dX12_puts_21 : decode cX12_puts 21 = .ok (.iand, 1) := by decide +kernel
theorem dX12_puts_22 : decode cX12_puts 22 = .ok (.iastore, 1) := by decide +kernel
theorem dX12_puts_23 : decode cX12_puts 23 = .ok (.aload_n 0, 1) := by decide +kernel
theorem dX12_puts_24 : decode cX12_puts 24 = .ok (.aload_n 0, 1) := by decide +kernel
theorem dX12_puts_25 : decode cX12_puts 25 = .ok (.getfield 192, 3) := by decide +kernel
theorem dX12_puts_28 : decode cX12_puts 28 = .ok (.iconst 1, 1) := by decide +kernel
theorem dX12_puts_29 : decode cX12_puts 29 = .ok (.iadd, 1) := by decide +kernel
theorem dX12_puts_30 : decode cX12_puts 30 = .ok (.putfield 192, 3) := by decide +kernel
theorem dX12_puts_33 : decode cX12_puts 33 = .ok (.iinc 2 (-8), 3) := by decide +kernel
theorem dX12_puts_36 : decode cX12_puts 36 = .ok (.goto (-33), 3) := by decide +kernel
theorem dX12_puts_39 : decode cX12_puts 39 = .ok (.return_, 1) := by decide +kernel
theorem dX12_feed_0 : decode cX12_feed 0 = .ok (.aload_n 0, 1) := by decide +kernel
theorem dX12_feed_1 : decode cX12_feed 1 = .ok (.iconst 0, 1) := by decide +kernel
theorem dX12_feed_2 : decode cX12_feed 2 = .ok (.putfield 166, 3) := by decide +kernel
theorem dX12_feed_5 : decode cX12_feed 5 = .ok (.aload_n 0, 1) := by decide +kernel
theorem dX12_feed_6 : decode cX12_feed 6 = .ok (.getfield 192, 3) := by decide +kernel
theorem dX12_feed_9 : decode cX12_feed 9 = .ok (.sipush 480, 3) := by decide +kernel
theorem dX12_feed_12 : decode cX12_feed 12 = .ok (.if_icmp .le 5, 3) := by decide +kernel
theorem dX12_feed_15 : decode cX12_feed 15 = .ok (.iconst (-1), 1) := by decide +kernel
theorem dX12_feed_16 : decode cX12_feed 16 = .ok (.ireturn, 1) := by decide +kernel
theorem dX12_feed_17 : decode cX12_feed 17 = .ok (.aload_n 0, 1) := by decide +kernel
theorem dX12_feed_18 : decode cX12_feed 18 = .ok (.iload_n 1, 1) := by decide +kernel
theorem dX12_feed_19 : decode cX12_feed 19 = .ok (.invokevirtual 195, 3) := by decide +kernel
theorem dX12_feed_22 : decode cX12_feed 22 = .ok (.aload_n 0, 1) := by decide +kernel
theorem dX12_feed_23 : decode cX12_feed 23 = .ok (.iload_n 2, 1) := by decide +kernel
theorem dX12_feed_24 : decode cX12_feed 24 = .ok (.invokevirtual 195, 3) := by decide +kernel
theorem dX12_feed_27 : decode cX12_feed 27 = .ok (.aload_n 0, 1) := by decide +kernel
theorem dX12_feed_28 : decode cX12_feed 28 = .ok (.iload_n 3, 1) := by decide +kernel
theorem dX12_feed_29 : decode cX12_feed 29 = .ok (.invokevirtual 195, 3) := by decide +kernel
theorem dX12_feed_32 : decode cX12_feed 32 = .ok (.aload_n 0, 1) := by decide +kernel
theorem dX12_feed_33 : decode cX12_feed 33 = .ok (.iload 4, 2) := by decide +kernel
theorem dX12_feed_35 : decode cX12_feed 35 = .ok (.invokevirtual 195, 3) := by decide +kernel
theorem dX12_feed_38 : decode cX12_feed 38 = .ok (.aload_n 0, 1) := by decide +kernel
theorem dX12_feed_39 : decode cX12_feed 39 = .ok (.iload 5, 2) := by decide +kernel
theorem dX12_feed_41 : decode cX12_feed 41 = .ok (.invokevirtual 195, 3) := by decide +kernel
theorem dX12_feed_44 : decode cX12_feed 44 = .ok (.aload_n 0, 1) := by decide +kernel
theorem dX12_feed_45 : decode cX12_feed 45 = .ok (.getfield 192, 3) := by decide +kernel
theorem dX12_feed_48 : decode cX12_feed 48 = .ok (.ireturn, 1) := by decide +kernel
theorem dX12_end_0 : decode cX12_end 0 = .ok (.aload_n 0, 1) := by decide +kernel
theorem dX12_end_1 : decode cX12_end 1 = .ok (.iconst 0, 1) := by decide +kernel
theorem dX12_end_2 : decode cX12_end 2 = .ok (.putfield 166, 3) := by decide +kernel
theorem dX12_end_5 : decode cX12_end 5 = .ok (.aload_n 0, 1) := by decide +kernel
theorem dX12_end_6 : decode cX12_end 6 = .ok (.iload_n 1, 1) := by decide +kernel
theorem dX12_end_7 : decode cX12_end 7 = .ok (.iconst 0, 1) := by decide +kernel
theorem dX12_end_8 : decode cX12_end 8 = .ok (.aload_n 0, 1) := by decide +kernel
theorem dX12_end_9 : decode cX12_end 9 = .ok (.getfield 192, 3) := by decide +kernel
theorem dX12_end_12 : decode cX12_end 12 = .ok (.invokevirtual 174, 3) := by decide +kernel
theorem dX12_end_15 : decode cX12_end 15 = .ok (.ifCond .ne 5, 3) := by decide +kernel
theorem dX12_end_18 : decode cX12_end 18 = .ok (.iconst 0, 1) := by decide +kernel
theorem dX12_end_19 : decode cX12_end 19 = .ok (.ireturn, 1) := by decide +kernel
theorem dX12_end_20 : decode cX12_end 20 = .ok (.aload_n 0, 1) := by decide +kernel
theorem dX12_end_21 : decode cX12_end 21 = .ok (.iload_n 1, 1) := by decide +kernel
theorem dX12_end_22 : decode cX12_end 22 = .ok (.putfield 192, 3) := by decide +kernel
theorem dX12_end_25 : decode cX12_end 25 = .ok (.iconst 1, 1) := by decide +kernel
theorem dX12_end_26 : decode cX12_end 26 = .ok (.ireturn, 1) := by decide +kernel
theorem dX12_raw_0 : decode cX12_raw 0 = .ok (.iload_n 1, 1) := by decide +kernel
theorem dX12_raw_1 : decode cX12_raw 1 = .ok (.aload_n 0, 1) := by decide +kernel
theorem dX12_raw_2 : decode cX12_raw 2 = .ok (.getfield 192, 3) := by decide +kernel
theorem dX12_raw_5 : decode cX12_raw 5 = .ok (.if_icmp .ge 12, 3) := by decide +kernel
theorem dX12_raw_8 : decode cX12_raw 8 = .ok (.aload_n 0, 1) := by decide +kernel
theorem dX12_raw_9 : decode cX12_raw 9 = .ok (.getfield 44, 3) := by decide +kernel
theorem dX12_raw_12 : decode cX12_raw 12 = .ok (.iload_n 1, 1) := by decide +kernel
theorem dX12_raw_13 : decode cX12_raw 13 = .ok (.iaload, 1) := by decide +kernel
theorem dX12_raw_14 : decode cX12_raw 14 = .ok (.goto 4, 3) := by decide +kernel
theorem dX12_raw_17 : decode cX12_raw 17 = .ok (.iconst (-1), 1) := by decide +kernel
theorem dX12_raw_18 : decode cX12_raw 18 = .ok (.ireturn, 1) := by decide +kernel
theorem dX12_isLetter_0 : decode cX12_isLetter 0 = .ok (.aload_n 0, 1) := by decide +kernel
theorem dX12_isLetter_1 : decode cX12_isLetter 1 = .ok (.iload_n 1, 1) := by decide +kernel
theorem dX12_isLetter_2 : decode cX12_isLetter 2 = .ok (.bipush 97, 2) := by decide +kernel
theorem dX12_isLetter_4 : decode cX12_isLetter 4 = .ok (.bipush 122, 2) := by decide +kernel
theorem dX12_isLetter_6 : decode cX12_isLetter 6 = .ok (.invokevirtual 174, 3) := by decide +kernel
theorem dX12_isLetter_9 : decode cX12_isLetter 9 = .ok (.ifCond .ne 15, 3) := by decide +kernel
theorem dX12_isLetter_12 : decode cX12_isLetter 12 = .ok (.aload_n 0, 1) := by decide +kernel
theorem dX12_isLetter_13 : decode cX12_isLetter 13 = .ok (.iload_n 1, 1) := by decide +kernel
theorem dX12_isLetter_14 : decode cX12_isLetter 14 = .ok (.bipush 65, 2) := by decide +kernel
theorem dX12_isLetter_16 : decode cX12_isLetter 16 = .ok (.bipush 90, 2) := by decide +kernel
theorem dX12_isLetter_18 : decode cX12_isLetter 18 = .ok (.invokevirtual 174, 3) := by decide +kernel
theorem dX12_isLetter_21 : decode cX12_isLetter 21 = .ok (.ifCond .eq 7, 3) := by decide +kernel
theorem dX12_isLetter_24 : decode cX12_isLetter 24 = .ok (.iconst 1, 1) := by decide +kernel
theorem dX12_isLetter_25 : decode cX12_isLetter 25 = .ok (.goto 4, 3) := by decide +kernel
theorem dX12_isLetter_28 : decode cX12_isLetter 28 = .ok (.iconst 0, 1) := by decide +kernel
theorem dX12_isLetter_29 : decode cX12_isLetter 29 = .ok (.ireturn, 1) := by decide +kernel
theorem dX12_isDigit_0 : decode cX12_isDigit 0 = .ok (.aload_n 0, 1) := by decide +kernel
theorem dX12_isDigit_1 : decode cX12_isDigit 1 = .ok (.iload_n 1, 1) := by decide +kernel
theorem dX12_isDigit_2 : decode cX12_isDigit 2 = .ok (.bipush 48, 2) := by decide +kernel
theorem dX12_isDigit_4 : decode cX12_isDigit 4 = .ok (.bipush 57, 2) := by decide +kernel
theorem dX12_isDigit_6 : decode cX12_isDigit 6 = .ok (.invokevirtual 174, 3) := by decide +kernel
theorem dX12_isDigit_9 : decode cX12_isDigit 9 = .ok (.ireturn, 1) := by decide +kernel
theorem dX12_isMarkSign_0 : decode cX12_isMarkSign 0 = .ok (.iload_n 1, 1) := by decide +kernel
theorem dX12_isMarkSign_1 : decode cX12_isMarkSign 1 = .ok (.bipush 59, 2) := by decide +kernel
theorem dX12_isMarkSign_3 : decode cX12_isMarkSign 3 = .ok (.if_icmp .eq 57, 3) := by decide +kernel
theorem dX12_isMarkSign_6 : decode cX12_isMarkSign 6 = .ok (.iload_n 1, 1) := by decide +kernel
theorem dX12_isMarkSign_7 : decode cX12_isMarkSign 7 = .ok (.bipush 43, 2) := by decide +kernel
theorem dX12_isMarkSign_9 : decode cX12_isMarkSign 9 = .ok (.if_icmp .eq 51, 3) := by decide +kernel
theorem dX12_isMarkSign_12 : decode cX12_isMarkSign 12 = .ok (.iload_n 1, 1) := by decide +kernel
theorem dX12_isMarkSign_13 : decode cX12_isMarkSign 13 = .ok (.bipush 45, 2) := by decide +kernel
theorem dX12_isMarkSign_15 : decode cX12_isMarkSign 15 = .ok (.if_icmp .eq 45, 3) := by decide +kernel
theorem dX12_isMarkSign_18 : decode cX12_isMarkSign 18 = .ok (.iload_n 1, 1) := by decide +kernel
theorem dX12_isMarkSign_19 : decode cX12_isMarkSign 19 = .ok (.bipush 42, 2) := by decide +kernel
theorem dX12_isMarkSign_21 : decode cX12_isMarkSign 21 = .ok (.if_icmp .eq 39, 3) := by decide +kernel
theorem dX12_isMarkSign_24 : decode cX12_isMarkSign 24 = .ok (.iload_n 1, 1) := by decide +kernel
theorem dX12_isMarkSign_25 : decode cX12_isMarkSign 25 = .ok (.bipush 47, 2) := by decide +kernel
theorem dX12_isMarkSign_27 : decode cX12_isMarkSign 27 = .ok (.if_icmp .eq 33, 3) := by decide +kernel
theorem dX12_isMarkSign_30 : decode cX12_isMarkSign 30 = .ok (.iload_n 1, 1) := by decide +kernel
theorem dX12_isMarkSign_31 : decode cX12_isMarkSign 31 = .ok (.bipush 40, 2) := by decide +kernel
theorem dX12_isMarkSign_33 : decode cX12_isMarkSign 33 = .ok (.if_icmp .eq 27, 3) := by decide +kernel
theorem dX12_isMarkSign_36 : decode cX12_isMarkSign 36 = .ok (.iload_n 1, 1) := by decide +kernel
theorem dX12_isMarkSign_37 : decode cX12_isMarkSign 37 = .ok (.bipush 41, 2) := by decide +kernel
theorem dX12_isMarkSign_39 : decode cX12_isMarkSign 39 = .ok (.if_icmp .eq 21, 3) := by decide +kernel
theorem dX12_isMarkSign_42 : decode cX12_isMarkSign 42 = .ok (.iload_n 1, 1) := by decide +kernel
theorem dX12_isMarkSign_43 : decode cX12_isMarkSign 43 = .ok (.bipush 60, 2) := by decide +kernel
theorem dX12_isMarkSign_45 : decode cX12_isMarkSign 45 = .ok (.if_icmp .eq 15, 3) := by decide +kernel
theorem dX12_isMarkSign_48 : decode cX12_isMarkSign 48 = .ok (.iload_n 1, 1) := by decide +kernel
theorem dX12_isMarkSign_49 : decode cX12_isMarkSign 49 = .ok (.bipush 61, 2) := by decide +kernel
theorem dX12_isMarkSign_51 : decode cX12_isMarkSign 51 = .ok (.if_icmp .eq 9, 3) := by decide +kernel
theorem dX12_isMarkSign_54 : decode cX12_isMarkSign 54 = .ok (.iload_n 1, 1) := by decide +kernel
theorem dX12_isMarkSign_55 : decode cX12_isMarkSign 55 = .ok (.bipush 62, 2) := by decide +kernel
theorem dX12_isMarkSign_57 : decode cX12_isMarkSign 57 = .ok (.if_icmp .ne 7, 3) := by decide +kernel
theorem dX12_isMarkSign_60 : decode cX12_isMarkSign 60 = .ok (.iconst 1, 1) := by decide +kernel
theorem dX12_isMarkSign_61 : decode cX12_isMarkSign 61 = .ok (.goto 4, 3) := by decide +kernel
theorem dX12_isMarkSign_64 : decode cX12_isMarkSign 64 = .ok (.iconst 0, 1) := by decide +kernel
theorem dX12_isMarkSign_65 : decode cX12_isMarkSign 65 = .ok (.ireturn, 1) := by decide +kernel
theorem dX12_wordAt_0 : decode cX12_wordAt 0 = .ok (.iconst (-1), 1) := by decide +kernel
theorem dX12_wordAt_1 : decode cX12_wordAt 1 = .ok (.istore_n 3, 1) := by decide +kernel
theorem dX12_wordAt_2 : decode cX12_wordAt 2 = .ok (.iconst 0, 1) := by decide +kernel
theorem dX12_wordAt_3 : decode cX12_wordAt 3 = .ok (.istore 4, 2) := by decide +kernel
theorem dX12_wordAt_5 : decode cX12_wordAt 5 = .ok (.iload 4, 2) := by decide +kernel
theorem dX12_wordAt_7 : decode cX12_wordAt 7 = .ok (.bipush 116, 2) := by decide +kernel
theorem dX12_wordAt_9 : decode cX12_wordAt 9 = .ok (.if_icmp .ge 108, 3) := by decide +kernel
theorem dX12_wordAt_12 : decode cX12_wordAt 12 = .ok (.iconst 0, 1) := by decide +kernel
theorem dX12_wordAt_13 : decode cX12_wordAt 13 = .ok (.istore 5, 2) := by decide +kernel
theorem dX12_wordAt_15 : decode cX12_wordAt 15 = .ok (.iload_n 3, 1) := by decide +kernel
theorem dX12_wordAt_16 : decode cX12_wordAt 16 = .ok (.iconst 1, 1) := by decide +kernel
theorem dX12_wordAt_17 : decode cX12_wordAt 17 = .ok (.iadd, 1) := by decide +kernel
theorem dX12_wordAt_18 : decode cX12_wordAt 18 = .ok (.istore_n 3, 1) := by decide +kernel
theorem dX12_wordAt_19 : decode cX12_wordAt 19 = .ok (.iload_n 1, 1) := by decide +kernel
theorem dX12_wordAt_20 : decode cX12_wordAt 20 = .ok (.iload 5, 2) := by decide +kernel
theorem dX12_wordAt_22 : decode cX12_wordAt 22 = .ok (.iadd, 1) := by decide +kernel
theorem dX12_wordAt_23 : decode cX12_wordAt 23 = .ok (.iload_n 2, 1) := by decide +kernel
theorem dX12_wordAt_24 : decode cX12_wordAt 24 = .ok (.if_icmp .ge 36, 3) := by decide +kernel
theorem dX12_wordAt_27 : decode cX12_wordAt 27 = .ok (.aload_n 0, 1) := by decide +kernel
theorem dX12_wordAt_28 : decode cX12_wordAt 28 = .ok (.getfield 47, 3) := by decide +kernel
theorem dX12_wordAt_31 : decode cX12_wordAt 31 = .ok (.iload 4, 2) := by decide +kernel
theorem dX12_wordAt_33 : decode cX12_wordAt 33 = .ok (.iconst 1, 1) := by decide +kernel
theorem dX12_wordAt_34 : decode cX12_wordAt 34 = .ok (.iadd, 1) := by decide +kernel
theorem dX12_wordAt_35 : decode cX12_wordAt 35 = .ok (.iload 5, 2) := by decide +kernel
theorem dX12_wordAt_37 : decode cX12_wordAt 37 = .ok (.iadd, 1) := by decide +kernel
theorem dX12_wordAt_38 : decode cX12_wordAt 38 = .ok (.iaload, 1) := by decide +kernel
theorem dX12_wordAt_39 : decode cX12_wordAt 39 = .ok (.aload_n 0, 1) := by decide +kernel
theorem dX12_wordAt_40 : decode cX12_wordAt 40 = .ok (.getfield 44, 3) := by decide +kernel
theorem dX12_wordAt_43 : decode cX12_wordAt 43 = .ok (.iload_n 1, 1) := by decide +kernel
theorem dX12_wordAt_44 : decode cX12_wordAt 44 = .ok (.iload 5, 2) := by decide +kernel
theorem dX12_wordAt_46 : decode cX12_wordAt 46 = .ok (.iadd, 1) := by decide +kernel
theorem dX12_wordAt_47 : decode cX12_wordAt 47 = .ok (.iaload, 1) := by decide +kernel
theorem dX12_wordAt_48 : decode cX12_wordAt 48 = .ok (.if_icmp .ne 12, 3) := by decide +kernel
theorem dX12_wordAt_51 : decode cX12_wordAt 51 = .ok (.iload 5, 2) := by decide +kernel
theorem dX12_wordAt_53 : decode cX12_wordAt 53 = .ok (.iconst 1, 1) := by decide +kernel
theorem dX12_wordAt_54 : decode cX12_wordAt 54 = .ok (.iadd, 1) := by decide +kernel
theorem dX12_wordAt_55 : decode cX12_wordAt 55 = .ok (.istore 5, 2) := by decide +kernel
theorem dX12_wordAt_57 : decode cX12_wordAt 57 = .ok (.goto (-38), 3) := by decide +kernel
theorem dX12_wordAt_60 : decode cX12_wordAt 60 = .ok (.iload_n 1, 1) := by decide +kernel
theorem dX12_wordAt_61 : decode cX12_wordAt 61 = .ok (.iload 5, 2) := by decide +kernel
theorem dX12_wordAt_63 : decode cX12_wordAt 63 = .ok (.iadd, 1) := by decide +kernel
theorem dX12_wordAt_64 : decode cX12_wordAt 64 = .ok (.iload_n 2, 1) := by decide +kernel
theorem dX12_wordAt_65 : decode cX12_wordAt 65 = .ok (.if_icmp .ne 22, 3) := by decide +kernel
theorem dX12_wordAt_68 : decode cX12_wordAt 68 = .ok (.aload_n 0, 1) := by decide +kernel
theorem dX12_wordAt_69 : decode cX12_wordAt 69 = .ok (.getfield 47, 3) := by decide +kernel
theorem dX12_wordAt_72 : decode cX12_wordAt 72 = .ok (.iload 4, 2) := by decide +kernel
theorem dX12_wordAt_74 : decode cX12_wordAt 74 = .ok (.iconst 1, 1) := by decide +kernel
theorem dX12_wordAt_75 : decode cX12_wordAt 75 = .ok (.iadd, 1) := by decide +kernel
theorem dX12_wordAt_76 : decode cX12_wordAt 76 = .ok (.iload 5, 2) := by decide +kernel
theorem dX12_wordAt_78 : decode cX12_wordAt 78 = .ok (.iadd, 1) := by decide +kernel
theorem dX12_wordAt_79 : decode cX12_wordAt 79 = .ok (.iaload, 1) := by decide +kernel
theorem dX12_wordAt_80 : decode cX12_wordAt 80 = .ok (.bipush 32, 2) := by decide +kernel
theorem dX12_wordAt_82 : decode cX12_wordAt 82 = .ok (.if_icmp .ne 5, 3) := by decide +kernel
theorem dX12_wordAt_85 : decode cX12_wordAt 85 = .ok (.iload_n 3, 1) := by decide +kernel
theorem dX12_wordAt_86 : decode cX12_wordAt 86 = .ok (.ireturn, 1) := by decide +kernel
theorem dX12_wordAt_87 : decode cX12_wordAt 87 = .ok (.iload 4, 2) := by decide +kernel
theorem dX12_wordAt_89 : decode cX12_wordAt 89 = .ok (.iconst 1, 1) := by decide +kernel
theorem dX12_wordAt_90 : decode cX12_wordAt 90 = .ok (.iadd, 1) := by decide +kernel
theorem dX12_wordAt_91 : decode cX12_wordAt 91 = .ok (.istore 4, 2) := by decide +kernel
theorem dX12_wordAt_93 : decode cX12_wordAt 93 = .ok (.aload_n 0, 1) := by decide +kernel
theorem dX12_wordAt_94 : decode cX12_wordAt 94 = .ok (.getfield 47, 3) := by decide +kernel
theorem dX12_wordAt_97 : decode cX12_wordAt 97 = .ok (.iload 4, 2) := by decide +kernel
theorem dX12_wordAt_99 : decode cX12_wordAt 99 = .ok (.iaload, 1) := by decide +kernel
theorem dX12_wordAt_100 : decode cX12_wordAt 100 = .ok (.bipush 32, 2) := by decide +kernel
theorem dX12_wordAt_102 : decode cX12_wordAt 102 = .ok (.if_icmp .eq 12, 3) := by decide +kernel
theorem dX12_wordAt_105 : decode cX12_wordAt 105 = .ok (.iload 4, 2) := by decide +kernel
theorem dX12_wordAt_107 : decode cX12_wordAt 107 = .ok (.iconst 1, 1) := by decide +kernel
theorem dX12_wordAt_108 : decode cX12_wordAt 108 = .ok (.iadd, 1) := by decide +kernel
theorem dX12_wordAt_109 : decode cX12_wordAt 109 = .ok (.istore 4, 2) := by decide +kernel
theorem dX12_wordAt_111 : decode cX12_wordAt 111 = .ok (.goto (-18), 3) := by decide +kernel
theorem dX12_wordAt_114 : decode cX12_wordAt 114 = .ok (.goto (-109), 3) := by decide +kernel
theorem dX12_wordAt_117 : decode cX12_wordAt 117 = .ok (.iconst (-1), 1) := by decide +kernel
theorem dX12_wordAt_118 : decode cX12_wordAt 118 = .ok (.ireturn, 1) := by decide +kernel
theorem dX12_reads_0 : decode cX12_reads 0 = .ok (.aload_n 0, 1) := by decide +kernel
theorem dX12_reads_1 : decode cX12_reads 1 = .ok (.aload_n 0, 1) := by decide +kernel
theorem dX12_reads_2 : decode cX12_reads 2 = .ok (.getfield 199, 3) := by decide +kernel
theorem dX12_reads_5 : decode cX12_reads 5 = .ok (.invokevirtual 202, 3) := by decide +kernel
theorem dX12_reads_8 : decode cX12_reads 8 = .ok (.bipush 32, 2) := by decide +kernel
theorem dX12_reads_10 : decode cX12_reads 10 = .ok (.if_icmp .eq 16, 3) := by decide +kernel
theorem dX12_reads_13 : decode cX12_reads 13 = .ok (.aload_n 0, 1) := by decide +kernel
theorem dX12_reads_14 : decode cX12_reads 14 = .ok (.aload_n 0, 1) := by decide +kernel
theorem dX12_reads_15 : decode cX12_reads 15 = .ok (.getfield 199, 3) := by decide +kernel
theorem dX12_reads_18 : decode cX12_reads 18 = .ok (.invokevirtual 202, 3) := by decide +kernel
theorem dX12_reads_21 : decode cX12_reads 21 = .ok (.bipush 10, 2) := by decide +kernel
theorem dX12_reads_23 : decode cX12_reads 23 = .ok (.if_icmp .ne 16, 3) := by decide +kernel
theorem dX12_reads_26 : decode cX12_reads 26 = .ok (.aload_n 0, 1) := by decide +kernel
theorem dX12_reads_27 : decode cX12_reads 27 = .ok (.aload_n 0, 1) := by decide +kernel
theorem dX12_reads_28 : decode cX12_reads 28 = .ok (.getfield 199, 3) := by decide +kernel
theorem dX12_reads_31 : decode cX12_reads 31 = .ok (.iconst 1, 1) := by decide +kernel
theorem dX12_reads_32 : decode cX12_reads 32 = .ok (.iadd, 1) := by decide +kernel
theorem dX12_reads_33 : decode cX12_reads 33 = .ok (.putfield 199, 3) := by decide +kernel
theorem dX12_reads_36 : decode cX12_reads 36 = .ok (.goto (-36), 3) := by decide +kernel
theorem dX12_reads_39 : decode cX12_reads 39 = .ok (.aload_n 0, 1) := by decide +kernel
theorem dX12_reads_40 : decode cX12_reads 40 = .ok (.aload_n 0, 1) := by decide +kernel
theorem dX12_reads_41 : decode cX12_reads 41 = .ok (.getfield 199, 3) := by decide +kernel
theorem dX12_reads_44 : decode cX12_reads 44 = .ok (.putfield 205, 3) := by decide +kernel
theorem dX12_reads_47 : decode cX12_reads 47 = .ok (.aload_n 0, 1) := by decide +kernel
theorem dX12_reads_48 : decode cX12_reads 48 = .ok (.iconst 1, 1) := by decide +kernel
theorem dX12_reads_49 : decode cX12_reads 49 = .ok (.putfield 208, 3) := by decide +kernel
theorem dX12_reads_52 : decode cX12_reads 52 = .ok (.aload_n 0, 1) := by decide +kernel
theorem dX12_reads_53 : decode cX12_reads 53 = .ok (.aload_n 0, 1) := by decide +kernel
theorem dX12_reads_54 : decode cX12_reads 54 = .ok (.getfield 199, 3) := by decide +kernel
theorem dX12_reads_57 : decode cX12_reads 57 = .ok (.invokevirtual 202, 3) := by decide +kernel
theorem dX12_reads_60 : decode cX12_reads 60 = .ok (.istore_n 1, 1) := by decide +kernel
theorem dX12_reads_61 : decode cX12_reads 61 = .ok (.iload_n 1, 1) := by decide +kernel
theorem dX12_reads_62 : decode cX12_reads 62 = .ok (.iconst (-1), 1) := by decide +kernel
theorem dX12_reads_63 : decode cX12_reads 63 = .ok (.if_icmp .ne 9, 3) := by decide +kernel
theorem dX12_reads_66 : decode cX12_reads 66 = .ok (.aload_n 0, 1) := by decide +kernel
theorem dX12_reads_67 : decode cX12_reads 67 = .ok (.iconst 0, 1) := by decide +kernel
theorem dX12_reads_68 : decode cX12_reads 68 = .ok (.putfield 208, 3) := by decide +kernel
theorem dX12_reads_71 : decode cX12_reads 71 = .ok (.return_, 1) := by decide +kernel
theorem dX12_reads_72 : decode cX12_reads 72 = .ok (.aload_n 0, 1) := by decide +kernel
theorem dX12_reads_73 : decode cX12_reads 73 = .ok (.aload_n 0, 1) := by decide +kernel
theorem dX12_reads_74 : decode cX12_reads 74 = .ok (.getfield 199, 3) := by decide +kernel
theorem dX12_reads_77 : decode cX12_reads 77 = .ok (.iconst 1, 1) := by decide +kernel
theorem dX12_reads_78 : decode cX12_reads 78 = .ok (.iadd, 1) := by decide +kernel
theorem dX12_reads_79 : decode cX12_reads 79 = .ok (.putfield 199, 3) := by decide +kernel
theorem dX12_reads_82 : decode cX12_reads 82 = .ok (.aload_n 0, 1) := by decide +kernel
theorem dX12_reads_83 : decode cX12_reads 83 = .ok (.iload_n 1, 1) := by decide +kernel
theorem dX12_reads_84 : decode cX12_reads 84 = .ok (.putfield 211, 3) := by decide +kernel
theorem dX12_reads_87 : decode cX12_reads 87 = .ok (.aload_n 0, 1) := by decide +kernel
theorem dX12_reads_88 : decode cX12_reads 88 = .ok (.iload_n 1, 1) := by decide +kernel
theorem dX12_reads_89 : decode cX12_reads 89 = .ok (.invokevirtual 214, 3) := by decide +kernel
theorem dX12_reads_92 : decode cX12_reads 92 = .ok (.ifCond .eq 63, 3) := by decide +kernel
theorem dX12_reads_95 : decode cX12_reads 95 = .ok (.aload_n 0, 1) := by decide +kernel
theorem dX12_reads_96 : decode cX12_reads 96 = .ok (.aload_n 0, 1) := by decide +kernel
theorem dX12_reads_97 : decode cX12_reads 97 = .ok (.aload_n 0, 1) := by decide +kernel
theorem dX12_reads_98 : decode cX12_reads 98 = .ok (.getfield 199, 3) := by decide +kernel
theorem dX12_reads_101 : decode cX12_reads 101 = .ok (.invokevirtual 202, 3) := by decide +kernel
theorem dX12_reads_104 : decode cX12_reads 104 = .ok (.invokevirtual 214, 3) := by decide +kernel
theorem dX12_reads_107 : decode cX12_reads 107 = .ok (.ifCond .eq 16, 3) := by decide +kernel
theorem dX12_reads_110 : decode cX12_reads 110 = .ok (.aload_n 0, 1) := by decide +kernel
theorem dX12_reads_111 : decode cX12_reads 111 = .ok (.aload_n 0, 1) := by decide +kernel
theorem dX12_reads_112 : decode cX12_reads 112 = .ok (.getfield 199, 3) := by decide +kernel
theorem dX12_reads_115 : decode cX12_reads 115 = .ok (.iconst 1, 1) := by decide +kernel
theorem dX12_reads_116 : decode cX12_reads 116 = .ok (.iadd, 1) := by decide +kernel
theorem dX12_reads_117 : decode cX12_reads 117 = .ok (.putfield 199, 3) := by decide +kernel
theorem dX12_reads_120 : decode cX12_reads 120 = .ok (.goto (-25), 3) := by decide +kernel
theorem dX12_reads_123 : decode cX12_reads 123 = .ok (.aload_n 0, 1) := by decide +kernel
theorem dX12_reads_124 : decode cX12_reads 124 = .ok (.aload_n 0, 1) := by decide +kernel
theorem dX12_reads_125 : decode cX12_reads 125 = .ok (.aload_n 0, 1) := by decide +kernel
theorem dX12_reads_126 : decode cX12_reads 126 = .ok (.getfield 205, 3) := by decide +kernel
theorem dX12_reads_129 : decode cX12_reads 129 = .ok (.aload_n 0, 1) := by decide +kernel
theorem dX12_reads_130 : decode cX12_reads 130 = .ok (.getfield 199, 3) := by decide +kernel
theorem dX12_reads_133 : decode cX12_reads 133 = .ok (.invokevirtual 217, 3) := by decide +kernel
theorem dX12_reads_136 : decode cX12_reads 136 = .ok (.putfield 211, 3) := by decide +kernel
theorem dX12_reads_139 : decode cX12_reads 139 = .ok (.aload_n 0, 1) := by decide +kernel
theorem dX12_reads_140 : decode cX12_reads 140 = .ok (.getfield 211, 3) := by decide +kernel
theorem dX12_reads_143 : decode cX12_reads 143 = .ok (.iconst (-1), 1) := by decide +kernel
theorem dX12_reads_144 : decode cX12_reads 144 = .ok (.if_icmp .eq 129, 3) := by decide +kernel
theorem dX12_reads_147 : decode cX12_reads 147 = .ok (.aload_n 0, 1) := by decide +kernel
theorem dX12_reads_148 : decode cX12_reads 148 = .ok (.iconst 2, 1) := by decide +kernel
theorem dX12_reads_149 : decode cX12_reads 149 = .ok (.putfield 208, 3) := by decide +kernel
theorem dX12_reads_152 : decode cX12_reads 152 = .ok (.goto 121, 3) := by decide +kernel
theorem dX12_reads_155 : decode cX12_reads 155 = .ok (.aload_n 0, 1) := by decide +kernel
theorem dX12_reads_156 : decode cX12_reads 156 = .ok (.iload_n 1, 1) := by decide +kernel
theorem dX12_reads_157 : decode cX12_reads 157 = .ok (.invokevirtual 221, 3) := by decide +kernel
theorem dX12_reads_160 : decode cX12_reads 160 = .ok (.ifCond .eq 100, 3) := by decide +kernel
theorem dX12_reads_163 : decode cX12_reads 163 = .ok (.aload_n 0, 1) := by decide +kernel
theorem dX12_reads_164 : decode cX12_reads 164 = .ok (.iload_n 1, 1) := by decide +kernel
theorem dX12_reads_165 : decode cX12_reads 165 = .ok (.bipush 48, 2) := by decide +kernel
theorem dX12_reads_167 : decode cX12_reads 167 = .ok (.isub, 1) := by decide +kernel
theorem dX12_reads_168 : decode cX12_reads 168 = .ok (.putfield 211, 3) := by decide +kernel
theorem dX12_reads_171 : decode cX12_reads 171 = .ok (.aload_n 0, 1) := by decide +kernel
theorem dX12_reads_172 : decode cX12_reads 172 = .ok (.aload_n 0, 1) := by decide +kernel
theorem dX12_reads_173 : decode cX12_reads 173 = .ok (.aload_n 0, 1) := by decide +kernel
theorem dX12_reads_174 : decode cX12_reads 174 = .ok (.getfield 199, 3) := by decide +kernel
theorem dX12_reads_177 : decode cX12_reads 177 = .ok (.invokevirtual 202, 3) := by decide +kernel
theorem dX12_reads_180 : decode cX12_reads 180 = .ok (.invokevirtual 221, 3) := by decide +kernel
theorem dX12_reads_183 : decode cX12_reads 183 = .ok (.ifCond .eq 56, 3) := by decide +kernel
theorem dX12_reads_186 : decode cX12_reads 186 = .ok (.aload_n 0, 1) := by decide +kernel
theorem dX12_reads_187 : decode cX12_reads 187 = .ok (.aload_n 0, 1) := by decide +kernel
theorem dX12_reads_188 : decode cX12_reads 188 = .ok (.getfield 211, 3) := by decide +kernel
theorem dX12_reads_191 : decode cX12_reads 191 = .ok (.sipush 10000, 3) := by decide +kernel
theorem dX12_reads_194 : decode cX12_reads 194 = .ok (.if_icmp .ge 25, 3) := by decide +kernel
theorem dX12_reads_197 : decode cX12_reads 197 = .ok (.bipush 10, 2) := by decide +kernel
theorem dX12_reads_199 : decode cX12_reads 199 = .ok (.aload_n 0, 1) := by decide +kernel
theorem dX12_reads_200 : decode cX12_reads 200 = .ok (.getfield 211, 3) := by decide +kernel
theorem dX12_reads_203 : decode cX12_reads 203 = .ok (.imul, 1) := by decide +kernel
theorem dX12_reads_204 : decode cX12_reads 204 = .ok (.aload_n 0, 1) := by decide +kernel
theorem dX12_reads_205 : decode cX12_reads 205 = .ok (.aload_n 0, 1) := by decide +kernel
theorem dX12_reads_206 : decode cX12_reads 206 = .ok (.getfield 199, 3) := by decide +kernel
theorem dX12_reads_209 : decode cX12_reads 209 = .ok (.invokevirtual 202, 3) := by decide +kernel
theorem dX12_reads_212 : decode cX12_reads 212 = .ok (.iadd, 1) := by decide +kernel
theorem dX12_reads_213 : decode cX12_reads 213 = .ok (.bipush 48, 2) := by decide +kernel
theorem dX12_reads_215 : decode cX12_reads 215 = .ok (.isub, 1) := by decide +kernel
theorem dX12_reads_216 : decode cX12_reads 216 = .ok (.goto 7, 3) := by decide +kernel
theorem dX12_reads_219 : decode cX12_reads 219 = .ok (.aload_n 0, 1) := by decide +kernel
theorem dX12_reads_220 : decode cX12_reads 220 = .ok (.getfield 211, 3) := by decide +kernel
theorem dX12_reads_223 : decode cX12_reads 223 = .ok (.putfield 211, 3) := by decide +kernel
theorem dX12_reads_226 : decode cX12_reads 226 = .ok (.aload_n 0, 1) := by decide +kernel
theorem dX12_reads_227 : decode cX12_reads 227 = .ok (.aload_n 0, 1) := by decide +kernel
theorem dX12_reads_228 : decode cX12_reads 228 = .ok (.getfield 199, 3) := by decide +kernel
theorem dX12_reads_231 : decode cX12_reads 231 = .ok (.iconst 1, 1) := by decide +kernel
theorem dX12_reads_232 : decode cX12_reads 232 = .ok (.iadd, 1) := by decide +kernel
theorem dX12_reads_233 : decode cX12_reads 233 = .ok (.putfield 199, 3) := by decide +kernel
theorem dX12_reads_236 : decode cX12_reads 236 = .ok (.goto (-65), 3) := by decide +kernel
theorem dX12_reads_239 : decode cX12_reads 239 = .ok (.aload_n 0, 1) := by decide +kernel
theorem dX12_reads_240 : decode cX12_reads 240 = .ok (.getfield 199, 3) := by decide +kernel
theorem dX12_reads_243 : decode cX12_reads 243 = .ok (.aload_n 0, 1) := by decide +kernel
theorem dX12_reads_244 : decode cX12_reads 244 = .ok (.getfield 205, 3) := by decide +kernel
theorem dX12_reads_247 : decode cX12_reads 247 = .ok (.isub, 1) := by decide +kernel
theorem dX12_reads_248 : decode cX12_reads 248 = .ok (.iconst 5, 1) := by decide +kernel
theorem dX12_reads_249 : decode cX12_reads 249 = .ok (.if_icmp .ge 24, 3) := by decide +kernel
theorem dX12_reads_252 : decode cX12_reads 252 = .ok (.aload_n 0, 1) := by decide +kernel
theorem dX12_reads_253 : decode cX12_reads 253 = .ok (.iconst 3, 1) := by decide +kernel
theorem dX12_reads_254 : decode cX12_reads 254 = .ok (.putfield 208, 3) := by decide +kernel
theorem dX12_reads_257 : decode cX12_reads 257 = .ok (.goto 16, 3) := by decide +kernel
theorem dX12_reads_260 : decode cX12_reads 260 = .ok (.aload_n 0, 1) := by decide +kernel
theorem dX12_reads_261 : decode cX12_reads 261 = .ok (.iload_n 1, 1) := by decide +kernel
theorem dX12_reads_262 : decode cX12_reads 262 = .ok (.invokevirtual 224, 3) := by decide +kernel
theorem dX12_reads_265 : decode cX12_reads 265 = .ok (.ifCond .eq 8, 3) := by decide +kernel
theorem dX12_reads_268 : decode cX12_reads 268 = .ok (.aload_n 0, 1) := by decide +kernel
theorem dX12_reads_269 : decode cX12_reads 269 = .ok (.iconst 4, 1) := by decide +kernel
theorem dX12_reads_270 : decode cX12_reads 270 = .ok (.putfield 208, 3) := by decide +kernel
theorem dX12_reads_273 : decode cX12_reads 273 = .ok (.return_, 1) := by decide +kernel
theorem dX12_errs_0 : decode cX12_errs 0 = .ok (.aload_n 0, 1) := by decide +kernel
theorem dX12_errs_1 : decode cX12_errs 1 = .ok (.iload_n 1, 1) := by decide +kernel
theorem dX12_errs_2 : decode cX12_errs 2 = .ok (.putfield 227, 3) := by decide +kernel
theorem dX12_errs_5 : decode cX12_errs 5 = .ok (.aload_n 0, 1) := by decide +kernel
theorem dX12_errs_6 : decode cX12_errs 6 = .ok (.aload_n 0, 1) := by decide +kernel
theorem dX12_errs_7 : decode cX12_errs 7 = .ok (.getfield 205, 3) := by decide +kernel
theorem dX12_errs_10 : decode cX12_errs 10 = .ok (.putfield 230, 3) := by decide +kernel
theorem dX12_errs_13 : decode cX12_errs 13 = .ok (.iconst (-1), 1) := by decide +kernel
theorem dX12_errs_14 : decode cX12_errs 14 = .ok (.ireturn, 1) := by decide +kernel
theorem dX12_isWord_0 : decode cX12_isWord 0 = .ok (.aload_n 0, 1) := by decide +kernel
theorem dX12_isWord_1 : decode cX12_isWord 1 = .ok (.getfield 208, 3) := by decide +kernel
theorem dX12_isWord_4 : decode cX12_isWord 4 = .ok (.iconst 2, 1) := by decide +kernel
theorem dX12_isWord_5 : decode cX12_isWord 5 = .ok (.if_icmp .ne 15, 3) := by decide +kernel
theorem dX12_isWord_8 : decode cX12_isWord 8 = .ok (.aload_n 0, 1) := by decide +kernel
theorem dX12_isWord_9 : decode cX12_isWord 9 = .ok (.getfield 211, 3) := by decide +kernel
theorem dX12_isWord_12 : decode cX12_isWord 12 = .ok (.iload_n 1, 1) := by decide +kernel
theorem dX12_isWord_13 : decode cX12_isWord 13 = .ok (.if_icmp .ne 7, 3) := by decide +kernel
theorem dX12_isWord_16 : decode cX12_isWord 16 = .ok (.iconst 1, 1) := by decide +kernel
theorem dX12_isWord_17 : decode cX12_isWord 17 = .ok (.goto 4, 3) := by decide +kernel
theorem dX12_isWord_20 : decode cX12_isWord 20 = .ok (.iconst 0, 1) := by decide +kernel
theorem dX12_isWord_21 : decode cX12_isWord 21 = .ok (.ireturn, 1) := by decide +kernel
theorem dX12_isSign_0 : decode cX12_isSign 0 = .ok (.aload_n 0, 1) := by decide +kernel
theorem dX12_isSign_1 : decode cX12_isSign 1 = .ok (.getfield 208, 3) := by decide +kernel
theorem dX12_isSign_4 : decode cX12_isSign 4 = .ok (.iconst 4, 1) := by decide +kernel
theorem dX12_isSign_5 : decode cX12_isSign 5 = .ok (.if_icmp .ne 15, 3) := by decide +kernel
theorem dX12_isSign_8 : decode cX12_isSign 8 = .ok (.aload_n 0, 1) := by decide +kernel
theorem dX12_isSign_9 : decode cX12_isSign 9 = .ok (.getfield 211, 3) := by decide +kernel
theorem dX12_isSign_12 : decode cX12_isSign 12 = .ok (.iload_n 1, 1) := by decide +kernel
theorem dX12_isSign_13 : decode cX12_isSign 13 = .ok (.if_icmp .ne 7, 3) := by decide +kernel
theorem dX12_isSign_16 : decode cX12_isSign 16 = .ok (.iconst 1, 1) := by decide +kernel
theorem dX12_isSign_17 : decode cX12_isSign 17 = .ok (.goto 4, 3) := by decide +kernel
theorem dX12_isSign_20 : decode cX12_isSign 20 = .ok (.iconst 0, 1) := by decide +kernel
theorem dX12_isSign_21 : decode cX12_isSign 21 = .ok (.ireturn, 1) := by decide +kernel
theorem dX12_emits_0 : decode cX12_emits 0 = .ok (.aload_n 0, 1) := by decide +kernel
theorem dX12_emits_1 : decode cX12_emits 1 = .ok (.getfield 62, 3) := by decide +kernel
theorem dX12_emits_4 : decode cX12_emits 4 = .ok (.sipush 1500, 3) := by decide +kernel
theorem dX12_emits_7 : decode cX12_emits 7 = .ok (.aload_n 0, 1) := by decide +kernel
theorem dX12_emits_8 : decode cX12_emits 8 = .ok (.getfield 233, 3) := by decide +kernel
theorem dX12_emits_11 : decode cX12_emits 11 = .ok (.iadd, 1) := by decide +kernel
theorem dX12_emits_12 : decode cX12_emits 12 = .ok (.iload_n 1, 1) := by decide +kernel
theorem dX12_emits_13 : decode cX12_emits 13 = .ok (.iastore, 1) := by decide +kernel
theorem dX12_emits_14 : decode cX12_emits 14 = .ok (.aload_n 0, 1) := by decide +kernel
theorem dX12_emits_15 : decode cX12_emits 15 = .ok (.getfield 65, 3) := by decide +kernel
theorem dX12_emits_18 : decode cX12_emits 18 = .ok (.sipush 1500, 3) := by decide +kernel
theorem dX12_emits_21 : decode cX12_emits 21 = .ok (.aload_n 0, 1) := by decide +kernel
theorem dX12_emits_22 : decode cX12_emits 22 = .ok (.getfield 233, 3) := by decide +kernel
theorem dX12_emits_25 : decode cX12_emits 25 = .ok (.iadd, 1) := by decide +kernel
theorem dX12_emits_26 : decode cX12_emits 26 = .ok (.iload_n 2, 1) := by decide +kernel
theorem dX12_emits_27 : decode cX12_emits 27 = .ok (.iastore, 1) := by decide +kernel
theorem dX12_emits_28 : decode cX12_emits 28 = .ok (.aload_n 0, 1) := by decide +kernel
theorem dX12_emits_29 : decode cX12_emits 29 = .ok (.aload_n 0, 1) := by decide +kernel
theorem dX12_emits_30 : decode cX12_emits 30 = .ok (.getfield 233, 3) := by decide +kernel
theorem dX12_emits_33 : decode cX12_emits 33 = .ok (.iconst 1, 1) := by decide +kernel
theorem dX12_emits_34 : decode cX12_emits 34 = .ok (.iadd, 1) := by decide +kernel
theorem dX12_emits_35 : decode cX12_emits 35 = .ok (.putfield 233, 3) := by decide +kernel
theorem dX12_emits_38 : decode cX12_emits 38 = .ok (.return_, 1) := by decide +kernel
theorem dX12_isAskedWord_0 : decode cX12_isAskedWord 0 = .ok (.aload_n 0, 1) := by decide +kernel
theorem dX12_isAskedWord_1 : decode cX12_isAskedWord 1 = .ok (.getfield 208, 3) := by decide +kernel
theorem dX12_isAskedWord_4 : decode cX12_isAskedWord 4 = .ok (.iconst 2, 1) := by decide +kernel
theorem dX12_isAskedWord_5 : decode cX12_isAskedWord 5 = .ok (.if_icmp .eq 5, 3) := by decide +kernel
theorem dX12_isAskedWord_8 : decode cX12_isAskedWord 8 = .ok (.iconst 0, 1) := by decide +kernel
theorem dX12_isAskedWord_9 : decode cX12_isAskedWord 9 = .ok (.ireturn, 1) := by decide +kernel
theorem dX12_isAskedWord_10 : decode cX12_isAskedWord 10 = .ok (.aload_n 0, 1) := by decide +kernel
theorem dX12_isAskedWord_11 : decode cX12_isAskedWord 11 = .ok (.getfield 236, 3) := by decide +kernel
theorem dX12_isAskedWord_14 : decode cX12_isAskedWord 14 = .ok (.ifCond .eq 16, 3) := by decide +kernel
theorem dX12_isAskedWord_17 : decode cX12_isAskedWord 17 = .ok (.aload_n 0, 1) := by decide +kernel
theorem dX12_isAskedWord_18 : decode cX12_isAskedWord 18 = .ok (.aload_n 0, 1) := by decide +kernel
theorem dX12_isAskedWord_19 : decode cX12_isAskedWord 19 = .ok (.getfield 211, 3) := by decide +kernel
theorem dX12_isAskedWord_22 : decode cX12_isAskedWord 22 = .ok (.bipush 13, 2) := by decide +kernel
theorem dX12_isAskedWord_24 : decode cX12_isAskedWord 24 = .ok (.bipush 21, 2) := by decide +kernel
theorem dX12_isAskedWord_26 : decode cX12_isAskedWord 26 = .ok (.invokevirtual 174, 3) := by decide +kernel
theorem dX12_isAskedWord_29 : decode cX12_isAskedWord 29 = .ok (.ireturn, 1) := by decide +kernel
theorem dX12_isAskedWord_30 : decode cX12_isAskedWord 30 = .ok (.aload_n 0, 1) := by decide +kernel
theorem dX12_isAskedWord_31 : decode cX12_isAskedWord 31 = .ok (.getfield 211, 3) := by decide +kernel
theorem dX12_isAskedWord_34 : decode cX12_isAskedWord 34 = .ok (.bipush 6, 2) := by decide +kernel
theorem dX12_isAskedWord_36 : decode cX12_isAskedWord 36 = .ok (.if_icmp .eq 36, 3) := by decide +kernel
theorem dX12_isAskedWord_39 : decode cX12_isAskedWord 39 = .ok (.aload_n 0, 1) := by decide +kernel
theorem dX12_isAskedWord_40 : decode cX12_isAskedWord 40 = .ok (.aload_n 0, 1) := by decide +kernel
theorem dX12_isAskedWord_41 : decode cX12_isAskedWord 41 = .ok (.getfield 211, 3) := by decide +kernel
theorem dX12_isAskedWord_44 : decode cX12_isAskedWord 44 = .ok (.bipush 14, 2) := by decide +kernel
theorem dX12_isAskedWord_46 : decode cX12_isAskedWord 46 = .ok (.bipush 18, 2) := by decide +kernel
theorem dX12_isAskedWord_48 : decode cX12_isAskedWord 48 = .ok (.invokevirtual 174, 3) := by decide +kernel
theorem dX12_isAskedWord_51 : decode cX12_isAskedWord 51 = .ok (.ifCond .ne 21, 3) := by decide +kernel
theorem dX12_isAskedWord_54 : decode cX12_isAskedWord 54 = .ok (.aload_n 0, 1) := by decide +kernel
theorem dX12_isAskedWord_55 : decode cX12_isAskedWord 55 = .ok (.getfield 211, 3) := by decide +kernel
theorem dX12_isAskedWord_58 : decode cX12_isAskedWord 58 = .ok (.bipush 20, 2) := by decide +kernel
theorem dX12_isAskedWord_60 : decode cX12_isAskedWord 60 = .ok (.if_icmp .eq 12, 3) := by decide +kernel
theorem dX12_isAskedWord_63 : decode cX12_isAskedWord 63 = .ok (.aload_n 0, 1) := by decide +kernel
theorem dX12_isAskedWord_64 : decode cX12_isAskedWord 64 = .ok (.getfield 211, 3) := by decide +kernel
theorem dX12_isAskedWord_67 : decode cX12_isAskedWord 67 = .ok (.bipush 22, 2) := by decide +kernel
theorem dX12_isAskedWord_69 : decode cX12_isAskedWord 69 = .ok (.if_icmp .lt 7, 3) := by decide +kernel
theorem dX12_isAskedWord_72 : decode cX12_isAskedWord 72 = .ok (.iconst 1, 1) := by decide +kernel
theorem dX12_isAskedWord_73 : decode cX12_isAskedWord 73 = .ok (.goto 4, 3) := by decide +kernel
theorem dX12_isAskedWord_76 : decode cX12_isAskedWord 76 = .ok (.iconst 0, 1) := by decide +kernel
theorem dX12_isAskedWord_77 : decode cX12_isAskedWord 77 = .ok (.ireturn, 1) := by decide +kernel
theorem dX12_readUnit_0 : decode cX12_readUnit 0 = .ok (.aload_n 0, 1) := by decide +kernel
theorem dX12_readUnit_1 : decode cX12_readUnit 1 = .ok (.invokevirtual 240, 3) := by decide +kernel
theorem dX12_readUnit_4 : decode cX12_readUnit 4 = .ok (.istore_n 1, 1) := by decide +kernel
theorem dX12_readUnit_5 : decode cX12_readUnit 5 = .ok (.iload_n 1, 1) := by decide +kernel
theorem dX12_readUnit_6 : decode cX12_readUnit 6 = .ok (.ifCond .ne 17, 3) := by decide +kernel
theorem dX12_readUnit_9 : decode cX12_readUnit 9 = .ok (.aload_n 0, 1) := by decide +kernel
theorem dX12_readUnit_10 : decode cX12_readUnit 10 = .ok (.getfield 208, 3) := by decide +kernel
theorem dX12_readUnit_13 : decode cX12_readUnit 13 = .ok (.iconst 3, 1) := by decide +kernel
theorem dX12_readUnit_14 : decode cX12_readUnit 14 = .ok (.if_icmp .eq 9, 3) := by decide +kernel
theorem dX12_readUnit_17 : decode cX12_readUnit 17 = .ok (.aload_n 0, 1) := by decide +kernel
theorem dX12_readUnit_18 : decode cX12_readUnit 18 = .ok (.iconst 1, 1) := by decide +kernel
theorem dX12_readUnit_19 : decode cX12_readUnit 19 = .ok (.invokevirtual 244, 3) := by decide +kernel
theorem dX12_readUnit_22 : decode cX12_readUnit 22 = .ok (.ireturn, 1) := by decide +kernel
theorem dX12_readUnit_23 : decode cX12_readUnit 23 = .ok (.aload_n 0, 1) := by decide +kernel
theorem dX12_readUnit_24 : decode cX12_readUnit 24 = .ok (.iload_n 1, 1) := by decide +kernel
theorem dX12_readUnit_25 : decode cX12_readUnit 25 = .ok (.ifCond .eq 7, 3) := by decide +kernel
theorem dX12_readUnit_28 : decode cX12_readUnit 28 = .ok (.iconst 1, 1) := by decide +kernel
theorem dX12_readUnit_29 : decode cX12_readUnit 29 = .ok (.goto 4, 3) := by decide +kernel
theorem dX12_readUnit_32 : decode cX12_readUnit 32 = .ok (.iconst 0, 1) := by decide +kernel
theorem dX12_readUnit_33 : decode cX12_readUnit 33 = .ok (.iload_n 1, 1) := by decide +kernel
theorem dX12_readUnit_34 : decode cX12_readUnit 34 = .ok (.ifCond .ne 10, 3) := by decide +kernel
theorem dX12_readUnit_37 : decode cX12_readUnit 37 = .ok (.aload_n 0, 1) := by decide +kernel
theorem dX12_readUnit_38 : decode cX12_readUnit 38 = .ok (.getfield 211, 3) := by decide +kernel
theorem dX12_readUnit_41 : decode cX12_readUnit 41 = .ok (.goto 24, 3) := by decide +kernel
theorem dX12_readUnit_44 : decode cX12_readUnit 44 = .ok (.aload_n 0, 1) := by decide +kernel
theorem dX12_readUnit_45 : decode cX12_readUnit 45 = .ok (.getfield 211, 3) := by decide +kernel
theorem dX12_readUnit_48 : decode cX12_readUnit 48 = .ok (.bipush 6, 2) := by decide +kernel
theorem dX12_readUnit_50 : decode cX12_readUnit 50 = .ok (.if_icmp .ne 8, 3) := by decide +kernel
theorem dX12_readUnit_53 : decode cX12_readUnit 53 = .ok (.bipush 11, 2) := by decide +kernel
theorem dX12_readUnit_55 : decode cX12_readUnit 55 = .ok (.goto 10, 3) := by decide +kernel
theorem dX12_readUnit_58 : decode cX12_readUnit 58 = .ok (.aload_n 0, 1) := by decide +kernel
theorem dX12_readUnit_59 : decode cX12_readUnit 59 = .ok (.getfield 211, 3) := by decide +kernel
theorem dX12_readUnit_62 : decode cX12_readUnit 62 = .ok (.bipush 13, 2) := by decide +kernel
theorem dX12_readUnit_64 : decode cX12_readUnit 64 = .ok (.isub, 1) := by decide +kernel
theorem dX12_readUnit_65 : decode cX12_readUnit 65 = .ok (.invokevirtual 247, 3) := by decide +kernel
theorem dX12_readUnit_68 : decode cX12_readUnit 68 = .ok (.aload_n 0, 1) := by decide +kernel
theorem dX12_readUnit_69 : decode cX12_readUnit 69 = .ok (.invokevirtual 251, 3) := by decide +kernel
theorem dX12_readUnit_72 : decode cX12_readUnit 72 = .ok (.iconst 0, 1) := by decide +kernel
theorem dX12_readUnit_73 : decode cX12_readUnit 73 = .ok (.ireturn, 1) := by decide +kernel
theorem dX12_readProduct_0 : decode cX12_readProduct 0 = .ok (.aload_n 0, 1) := by decide +kernel
theorem dX12_readProduct_1 : decode cX12_readProduct 1 = .ok (.invokevirtual 254, 3) := by decide +kernel
theorem dX12_readProduct_4 : decode cX12_readProduct 4 = .ok (.iconst (-1), 1) := by decide +kernel
theorem dX12_readProduct_5 : decode cX12_readProduct 5 = .ok (.if_icmp .ne 5, 3) := by decide +kernel
theorem dX12_readProduct_8 : decode cX12_readProduct 8 = .ok (.iconst (-1), 1) := by decide +kernel
theorem dX12_readProduct_9 : decode cX12_readProduct 9 = .ok (.ireturn, 1) := by decide +kernel
theorem dX12_readProduct_10 : decode cX12_readProduct 10 = .ok (.aload_n 0, 1) := by decide +kernel
theorem dX12_readProduct_11 : decode cX12_readProduct 11 = .ok (.bipush 42, 2) := by decide +kernel
theorem dX12_readProduct_13 : decode cX12_readProduct 13 = .ok (.invokevirtual 258, 3) := by decide +kernel
theorem dX12_readProduct_16 : decode cX12_readProduct 16 = .ok (.ifCond .ne 12, 3) := by decide +kernel
theorem dX12_readProduct_19 : decode cX12_readProduct 19 = .ok (.aload_n 0, 1) := by decide +kernel
theorem dX12_readProduct_20 : decode cX12_readProduct 20 = .ok (.bipush 47, 2) := by decide +kernel
theorem dX12_readProduct_22 : decode cX12_readProduct 22 = .ok (.invokevirtual 258, 3) := by decide +kernel
theorem dX12_readProduct_25 : decode cX12_readProduct 25 = .ok (.ifCond .eq 76, 3) := by decide +kernel
theorem dX12_readProduct_28 : decode cX12_readProduct 28 = .ok (.aload_n 0, 1) := by decide +kernel
theorem dX12_readProduct_29 : decode cX12_readProduct 29 = .ok (.bipush 42, 2) := by decide +kernel
theorem dX12_readProduct_31 : decode cX12_readProduct 31 = .ok (.invokevirtual 258, 3) := by decide +kernel
theorem dX12_readProduct_34 : decode cX12_readProduct 34 = .ok (.istore_n 1, 1) := by decide +kernel
theorem dX12_readProduct_35 : decode cX12_readProduct 35 = .ok (.aload_n 0, 1) := by decide +kernel
theorem dX12_readProduct_36 : decode cX12_readProduct 36 = .ok (.invokevirtual 251, 3) := by decide +kernel
theorem dX12_readProduct_39 : decode cX12_readProduct 39 = .ok (.iload_n 1, 1) := by decide +kernel
theorem dX12_readProduct_40 : decode cX12_readProduct 40 = .ok (.ifCond .ne 17, 3) := by decide +kernel
theorem dX12_readProduct_43 : decode cX12_readProduct 43 = .ok (.aload_n 0, 1) := by decide +kernel
theorem dX12_readProduct_44 : decode cX12_readProduct 44 = .ok (.getfield 208, 3) := by decide +kernel
theorem dX12_readProduct_47 : decode cX12_readProduct 47 = .ok (.iconst 3, 1) := by decide +kernel
theorem dX12_readProduct_48 : decode cX12_readProduct 48 = .ok (.if_icmp .eq 9, 3) := by decide +kernel
theorem dX12_readProduct_51 : decode cX12_readProduct 51 = .ok (.aload_n 0, 1) := by decide +kernel
theorem dX12_readProduct_52 : decode cX12_readProduct 52 = .ok (.iconst 1, 1) := by decide +kernel
theorem dX12_readProduct_53 : decode cX12_readProduct 53 = .ok (.invokevirtual 244, 3) := by decide +kernel
theorem dX12_readProduct_56 : decode cX12_readProduct 56 = .ok (.ireturn, 1) := by decide +kernel
theorem dX12_readProduct_57 : decode cX12_readProduct 57 = .ok (.iload_n 1, 1) := by decide +kernel
theorem dX12_readProduct_58 : decode cX12_readProduct 58 = .ok (.ifCond .ne 16, 3) := by decide +kernel
theorem dX12_readProduct_61 : decode cX12_readProduct 61 = .ok (.aload_n 0, 1) := by decide +kernel
theorem dX12_readProduct_62 : decode cX12_readProduct 62 = .ok (.getfield 211, 3) := by decide +kernel
theorem dX12_readProduct_65 : decode cX12_readProduct 65 = .ok (.ifCond .ne 9, 3) := by decide +kernel
theorem dX12_readProduct_68 : decode cX12_readProduct 68 = .ok (.aload_n 0, 1) := by decide +kernel
theorem dX12_readProduct_69 : decode cX12_readProduct 69 = .ok (.iconst 2, 1) := by decide +kernel
theorem dX12_readProduct_70 : decode cX12_readProduct 70 = .ok (.invokevirtual 244, 3) := by decide +kernel
theorem dX12_readProduct_73 : decode cX12_readProduct 73 = .ok (.ireturn, 1) := by decide +kernel
theorem dX12_readProduct_74 : decode cX12_readProduct 74 = .ok (.aload_n 0, 1) := by decide +kernel
theorem dX12_readProduct_75 : decode cX12_readProduct 75 = .ok (.invokevirtual 254, 3) := by decide +kernel
theorem dX12_readProduct_78 : decode cX12_readProduct 78 = .ok (.iconst (-1), 1) := by decide +kernel
theorem dX12_readProduct_79 : decode cX12_readProduct 79 = .ok (.if_icmp .ne 5, 3) := by decide +kernel
theorem dX12_readProduct_82 : decode cX12_readProduct 82 = .ok (.iconst (-1), 1) := by decide +kernel
theorem dX12_readProduct_83 : decode cX12_readProduct 83 = .ok (.ireturn, 1) := by decide +kernel
theorem dX12_readProduct_84 : decode cX12_readProduct 84 = .ok (.aload_n 0, 1) := by decide +kernel
theorem dX12_readProduct_85 : decode cX12_readProduct 85 = .ok (.iload_n 1, 1) := by decide +kernel
theorem dX12_readProduct_86 : decode cX12_readProduct 86 = .ok (.ifCond .eq 7, 3) := by decide +kernel
theorem dX12_readProduct_89 : decode cX12_readProduct 89 = .ok (.iconst 4, 1) := by decide +kernel
theorem dX12_readProduct_90 : decode cX12_readProduct 90 = .ok (.goto 4, 3) := by decide +kernel
theorem dX12_readProduct_93 : decode cX12_readProduct 93 = .ok (.iconst 5, 1) := by decide +kernel
theorem dX12_readProduct_94 : decode cX12_readProduct 94 = .ok (.iconst 0, 1) := by decide +kernel
theorem dX12_readProduct_95 : decode cX12_readProduct 95 = .ok (.invokevirtual 247, 3) := by decide +kernel
theorem dX12_readProduct_98 : decode cX12_readProduct 98 = .ok (.goto (-88), 3) := by decide +kernel
theorem dX12_readProduct_101 : decode cX12_readProduct 101 = .ok (.iconst 0, 1) := by decide +kernel
theorem dX12_readProduct_102 : decode cX12_readProduct 102 = .ok (.ireturn, 1) := by decide +kernel
theorem dX12_readSum_0 : decode cX12_readSum 0 = .ok (.aload_n 0, 1) := by decide +kernel
theorem dX12_readSum_1 : decode cX12_readSum 1 = .ok (.invokevirtual 261, 3) := by decide +kernel
theorem dX12_readSum_4 : decode cX12_readSum 4 = .ok (.iconst (-1), 1) := by decide +kernel
theorem dX12_readSum_5 : decode cX12_readSum 5 = .ok (.if_icmp .ne 5, 3) := by decide +kernel
theorem dX12_readSum_8 : decode cX12_readSum 8 = .ok (.iconst (-1), 1) := by decide +kernel
theorem dX12_readSum_9 : decode cX12_readSum 9 = .ok (.ireturn, 1) := by decide +kernel
theorem dX12_readSum_10 : decode cX12_readSum 10 = .ok (.aload_n 0, 1) := by decide +kernel
theorem dX12_readSum_11 : decode cX12_readSum 11 = .ok (.bipush 43, 2) := by decide +kernel
theorem dX12_readSum_13 : decode cX12_readSum 13 = .ok (.invokevirtual 258, 3) := by decide +kernel
theorem dX12_readSum_16 : decode cX12_readSum 16 = .ok (.ifCond .ne 12, 3) := by decide +kernel
theorem dX12_readSum_19 : decode cX12_readSum 19 = .ok (.aload_n 0, 1) := by decide +kernel
theorem dX12_readSum_20 : decode cX12_readSum 20 = .ok (.bipush 45, 2) := by decide +kernel
theorem dX12_readSum_22 : decode cX12_readSum 22 = .ok (.invokevirtual 258, 3) := by decide +kernel
theorem dX12_readSum_25 : decode cX12_readSum 25 = .ok (.ifCond .eq 41, 3) := by decide +kernel
theorem dX12_readSum_28 : decode cX12_readSum 28 = .ok (.aload_n 0, 1) := by decide +kernel
theorem dX12_readSum_29 : decode cX12_readSum 29 = .ok (.getfield 211, 3) := by decide +kernel
theorem dX12_readSum_32 : decode cX12_readSum 32 = .ok (.bipush 43, 2) := by decide +kernel
theorem dX12_readSum_34 : decode cX12_readSum 34 = .ok (.if_icmp .ne 7, 3) := by decide +kernel
theorem dX12_readSum_37 : decode cX12_readSum 37 = .ok (.iconst 2, 1) := by decide +kernel
theorem dX12_readSum_38 : decode cX12_readSum 38 = .ok (.goto 4, 3) := by decide +kernel
theorem dX12_readSum_41 : decode cX12_readSum 41 = .ok (.iconst 3, 1) := by decide +kernel
theorem dX12_readSum_42 : decode cX12_readSum 42 = .ok (.istore_n 1, 1) := by decide +kernel
theorem dX12_readSum_43 : decode cX12_readSum 43 = .ok (.aload_n 0, 1) := by decide +kernel
theorem dX12_readSum_44 : decode cX12_readSum 44 = .ok (.invokevirtual 251, 3) := by decide +kernel
theorem dX12_readSum_47 : decode cX12_readSum 47 = .ok (.aload_n 0, 1) := by decide +kernel
theorem dX12_readSum_48 : decode cX12_readSum 48 = .ok (.invokevirtual 261, 3) := by decide +kernel
theorem dX12_readSum_51 : decode cX12_readSum 51 = .ok (.iconst (-1), 1) := by decide +kernel
theorem dX12_readSum_52 : decode cX12_readSum 52 = .ok (.if_icmp .ne 5, 3) := by decide +kernel
theorem dX12_readSum_55 : decode cX12_readSum 55 = .ok (.iconst (-1), 1) := by decide +kernel
theorem dX12_readSum_56 : decode cX12_readSum 56 = .ok (.ireturn, 1) := by decide +kernel
theorem dX12_readSum_57 : decode cX12_readSum 57 = .ok (.aload_n 0, 1) := by decide +kernel
theorem dX12_readSum_58 : decode cX12_readSum 58 = .ok (.iload_n 1, 1) := by decide +kernel
theorem dX12_readSum_59 : decode cX12_readSum 59 = .ok (.iconst 0, 1) := by decide +kernel
theorem dX12_readSum_60 : decode cX12_readSum 60 = .ok (.invokevirtual 247, 3) := by decide +kernel
theorem dX12_readSum_63 : decode cX12_readSum 63 = .ok (.goto (-53), 3) := by decide +kernel
theorem dX12_readSum_66 : decode cX12_readSum 66 = .ok (.iconst 0, 1) := by decide +kernel
theorem dX12_readSum_67 : decode cX12_readSum 67 = .ok (.ireturn, 1) := by decide +kernel
theorem dX12_readCompared_0 : decode cX12_readCompared 0 = .ok (.aload_n 0, 1) := by decide +kernel
theorem dX12_readCompared_1 : decode cX12_readCompared 1 = .ok (.invokevirtual 264, 3) := by decide +kernel
theorem dX12_readCompared_4 : decode cX12_readCompared 4 = .ok (.iconst (-1), 1) := by decide +kernel
theorem dX12_readCompared_5 : decode cX12_readCompared 5 = .ok (.if_icmp .ne 5, 3) := by decide +kernel
theorem dX12_readCompared_8 : decode cX12_readCompared 8 = .ok (.iconst (-1), 1) := by decide +kernel
theorem dX12_readCompared_9 : decode cX12_readCompared 9 = .ok (.ireturn, 1) := by decide +kernel
theorem dX12_readCompared_10 : decode cX12_readCompared 10 = .ok (.aload_n 0, 1) := by decide +kernel
theorem dX12_readCompared_11 : decode cX12_readCompared 11 = .ok (.bipush 60, 2) := by decide +kernel
theorem dX12_readCompared_13 : decode cX12_readCompared 13 = .ok (.invokevirtual 258, 3) := by decide +kernel
theorem dX12_readCompared_16 : decode cX12_readCompared 16 = .ok (.ifCond .ne 27, 3) := by decide +kernel
theorem dX12_readCompared_19 : decode cX12_readCompared 19 = .ok (.aload_n 0, 1) := by decide +kernel
theorem dX12_readCompared_20 : decode cX12_readCompared 20 = .ok (.bipush 61, 2) := by decide +kernel
theorem dX12_readCompared_22 : decode cX12_readCompared 22 = .ok (.invokevirtual 258, 3) := by decide +kernel
theorem dX12_readCompared_25 : decode cX12_readCompared 25 = .ok (.ifCond .ne 18, 3) := by decide +kernel
theorem dX12_readCompared_28 : decode cX12_readCompared 28 = .ok (.aload_n 0, 1) := by decide +kernel
theorem dX12_readCompared_29 : decode cX12_readCompared 29 = .ok (.bipush 62, 2) := by decide +kernel
theorem dX12_readCompared_31 : decode cX12_readCompared 31 = .ok (.invokevirtual 258, 3) := by decide +kernel
theorem dX12_readCompared_34 : decode cX12_readCompared 34 = .ok (.ifCond .ne 9, 3) := by decide +kernel
theorem dX12_readCompared_37 : decode cX12_readCompared 37 = .ok (.aload_n 0, 1) := by decide +kernel
theorem dX12_readCompared_38 : decode cX12_readCompared 38 = .ok (.iconst 1, 1) := by decide +kernel
theorem dX12_readCompared_39 : decode cX12_readCompared 39 = .ok (.invokevirtual 244, 3) := by decide +kernel
theorem dX12_readCompared_42 : decode cX12_readCompared 42 = .ok (.ireturn, 1) := by decide +kernel
theorem dX12_readCompared_43 : decode cX12_readCompared 43 = .ok (.aload_n 0, 1) := by decide +kernel
theorem dX12_readCompared_44 : decode cX12_readCompared 44 = .ok (.getfield 211, 3) := by decide +kernel
theorem dX12_readCompared_47 : decode cX12_readCompared 47 = .ok (.bipush 60, 2) := by decide +kernel
theorem dX12_readCompared_49 : decode cX12_readCompared 49 = .ok (.if_icmp .ne 8, 3) := by decide +kernel
theorem dX12_readCompared_52 : decode cX12_readCompared 52 = .ok (.bipush 6, 2) := by decide +kernel
theorem dX12_readCompared_54 : decode cX12_readCompared 54 = .ok (.goto 19, 3) := by decide +kernel
theorem dX12_readCompared_57 : decode cX12_readCompared 57 = .ok (.aload_n 0, 1) := by decide +kernel
theorem dX12_readCompared_58 : decode cX12_readCompared 58 = .ok (.getfield 211, 3) := by decide +kernel
theorem dX12_readCompared_61 : decode cX12_readCompared 61 = .ok (.bipush 61, 2) := by decide +kernel
theorem dX12_readCompared_63 : decode cX12_readCompared 63 = .ok (.if_icmp .ne 8, 3) := by decide +kernel
theorem dX12_readCompared_66 : decode cX12_readCompared 66 = .ok (.bipush 7, 2) := by decide +kernel
theorem dX12_readCompared_68 : decode cX12_readCompared 68 = .ok (.goto 5, 3) := by decide +kernel
theorem dX12_readCompared_71 : decode cX12_readCompared 71 = .ok (.bipush 8, 2) := by decide +kernel
theorem dX12_readCompared_73 : decode cX12_readCompared 73 = .ok (.istore_n 1, 1) := by decide +kernel
theorem dX12_readCompared_74 : decode cX12_readCompared 74 = .ok (.aload_n 0, 1) := by decide +kernel
theorem dX12_readCompared_75 : decode cX12_readCompared 75 = .ok (.invokevirtual 251, 3) := by decide +kernel
theorem dX12_readCompared_78 : decode cX12_readCompared 78 = .ok (.aload_n 0, 1) := by decide +kernel
theorem dX12_readCompared_79 : decode cX12_readCompared 79 = .ok (.invokevirtual 264, 3) := by decide +kernel
theorem dX12_readCompared_82 : decode cX12_readCompared 82 = .ok (.iconst (-1), 1) := by decide +kernel
theorem dX12_readCompared_83 : decode cX12_readCompared 83 = .ok (.if_icmp .ne 5, 3) := by decide +kernel
theorem dX12_readCompared_86 : decode cX12_readCompared 86 = .ok (.iconst (-1), 1) := by decide +kernel
theorem dX12_readCompared_87 : decode cX12_readCompared 87 = .ok (.ireturn, 1) := by decide +kernel
theorem dX12_readCompared_88 : decode cX12_readCompared 88 = .ok (.aload_n 0, 1) := by decide +kernel
theorem dX12_readCompared_89 : decode cX12_readCompared 89 = .ok (.iload_n 1, 1) := by decide +kernel
theorem dX12_readCompared_90 : decode cX12_readCompared 90 = .ok (.iconst 0, 1) := by decide +kernel
theorem dX12_readCompared_91 : decode cX12_readCompared 91 = .ok (.invokevirtual 247, 3) := by decide +kernel
theorem dX12_readCompared_94 : decode cX12_readCompared 94 = .ok (.iconst 0, 1) := by decide +kernel
theorem dX12_readCompared_95 : decode cX12_readCompared 95 = .ok (.ireturn, 1) := by decide +kernel
theorem dX12_waits_0 : decode cX12_waits 0 = .ok (.aload_n 0, 1) := by decide +kernel
theorem dX12_waits_1 : decode cX12_waits 1 = .ok (.getfield 68, 3) := by decide +kernel
theorem dX12_waits_4 : decode cX12_waits 4 = .ok (.aload_n 0, 1) := by decide +kernel
theorem dX12_waits_5 : decode cX12_waits 5 = .ok (.getfield 267, 3) := by decide +kernel
theorem dX12_waits_8 : decode cX12_waits 8 = .ok (.iload_n 1, 1) := by decide +kernel
theorem dX12_waits_9 : decode cX12_waits 9 = .ok (.iastore, 1) := by decide +kernel
theorem dX12_waits_10 : decode cX12_waits 10 = .ok (.aload_n 0, 1) := by decide +kernel
theorem dX12_waits_11 : decode cX12_waits 11 = .ok (.aload_n 0, 1) := by decide +kernel
theorem dX12_waits_12 : decode cX12_waits 12 = .ok (.getfield 267, 3) := by decide +kernel
theorem dX12_waits_15 : decode cX12_waits 15 = .ok (.iconst 1, 1) := by decide +kernel
theorem dX12_waits_16 : decode cX12_waits 16 = .ok (.iadd, 1) := by decide +kernel
theorem dX12_waits_17 : decode cX12_waits 17 = .ok (.putfield 267, 3) := by decide +kernel
theorem dX12_waits_20 : decode cX12_waits 20 = .ok (.return_, 1) := by decide +kernel
theorem dX12_settles_0 : decode cX12_settles 0 = .ok (.aload_n 0, 1) := by decide +kernel
theorem dX12_settles_1 : decode cX12_settles 1 = .ok (.getfield 267, 3) := by decide +kernel
theorem dX12_settles_4 : decode cX12_settles 4 = .ok (.ifCond .le 53, 3) := by decide +kernel
theorem dX12_settles_7 : decode cX12_settles 7 = .ok (.aload_n 0, 1) := by decide +kernel
theorem dX12_settles_8 : decode cX12_settles 8 = .ok (.getfield 68, 3) := by decide +kernel
theorem dX12_settles_11 : decode cX12_settles 11 = .ok (.aload_n 0, 1) := by decide +kernel
theorem dX12_settles_12 : decode cX12_settles 12 = .ok (.getfield 267, 3) := by decide +kernel
theorem dX12_settles_15 : decode cX12_settles 15 = .ok (.iconst 1, 1) := by decide +kernel
theorem dX12_settles_16 : decode cX12_settles 16 = .ok (.isub, 1) := by decide +kernel
theorem dX12_settles_17 : decode cX12_settles 17 = .ok (.iaload, 1) := by decide +kernel
theorem dX12_settles_18 : decode cX12_settles 18 = .ok (.iload_n 1, 1) := by decide +kernel
theorem dX12_settles_19 : decode cX12_settles 19 = .ok (.if_icmp .ne 38, 3) := by decide +kernel
theorem dX12_settles_22 : decode cX12_settles 22 = .ok (.aload_n 0, 1) := by decide +kernel
theorem dX12_settles_23 : decode cX12_settles 23 = .ok (.aload_n 0, 1) := by decide +kernel
theorem dX12_settles_24 : decode cX12_settles 24 = .ok (.getfield 267, 3) := by decide +kernel
theorem dX12_settles_27 : decode cX12_settles 27 = .ok (.iconst 1, 1) := by decide +kernel
theorem dX12_settles_28 : decode cX12_settles 28 = .ok (.isub, 1) := by decide +kernel
theorem dX12_settles_29 : decode cX12_settles 29 = .ok (.putfield 267, 3) := by decide +kernel
theorem dX12_settles_32 : decode cX12_settles 32 = .ok (.aload_n 0, 1) := by decide +kernel
theorem dX12_settles_33 : decode cX12_settles 33 = .ok (.iload_n 1, 1) := by decide +kernel
theorem dX12_settles_34 : decode cX12_settles 34 = .ok (.iconst 0, 1) := by decide +kernel
theorem dX12_settles_35 : decode cX12_settles 35 = .ok (.invokevirtual 247, 3) := by decide +kernel
theorem dX12_settles_38 : decode cX12_settles 38 = .ok (.iload_n 1, 1) := by decide +kernel
theorem dX12_settles_39 : decode cX12_settles 39 = .ok (.bipush 9, 2) := by decide +kernel
theorem dX12_settles_41 : decode cX12_settles 41 = .ok (.if_icmp .ne (-41), 3) := by decide +kernel
theorem dX12_settles_44 : decode cX12_settles 44 = .ok (.aload_n 0, 1) := by decide +kernel
theorem dX12_settles_45 : decode cX12_settles 45 = .ok (.aload_n 0, 1) := by decide +kernel
theorem dX12_settles_46 : decode cX12_settles 46 = .ok (.getfield 270, 3) := by decide +kernel
theorem dX12_settles_49 : decode cX12_settles 49 = .ok (.iconst 1, 1) := by decide +kernel
theorem dX12_settles_50 : decode cX12_settles 50 = .ok (.isub, 1) := by decide +kernel
theorem dX12_settles_51 : decode cX12_settles 51 = .ok (.putfield 270, 3) := by decide +kernel
theorem dX12_settles_54 : decode cX12_settles 54 = .ok (.goto (-54), 3) := by decide +kernel
theorem dX12_settles_57 : decode cX12_settles 57 = .ok (.return_, 1) := by decide +kernel
theorem dX12_readAny_0 : decode cX12_readAny 0 = .ok (.iconst 0, 1) := by decide +kernel
theorem dX12_readAny_1 : decode cX12_readAny 1 = .ok (.istore_n 1, 1) := by decide +kernel
theorem dX12_readAny_2 : decode cX12_readAny 2 = .ok (.aload_n 0, 1) := by decide +kernel
theorem dX12_readAny_3 : decode cX12_readAny 3 = .ok (.iconst 0, 1) := by decide +kernel
theorem dX12_readAny_4 : decode cX12_readAny 4 = .ok (.putfield 267, 3) := by decide +kernel
theorem dX12_readAny_7 : decode cX12_readAny 7 = .ok (.iconst 1, 1) := by decide +kernel
theorem dX12_readAny_8 : decode cX12_readAny 8 = .ok (.istore_n 2, 1) := by decide +kernel
theorem dX12_readAny_9 : decode cX12_readAny 9 = .ok (.iload_n 2, 1) := by decide +kernel
theorem dX12_readAny_10 : decode cX12_readAny 10 = .ok (.ifCond .eq 99, 3) := by decide +kernel
theorem dX12_readAny_13 : decode cX12_readAny 13 = .ok (.aload_n 0, 1) := by decide +kernel
theorem dX12_readAny_14 : decode cX12_readAny 14 = .ok (.bipush 12, 2) := by decide +kernel
theorem dX12_readAny_16 : decode cX12_readAny 16 = .ok (.invokevirtual 273, 3) := by decide +kernel
theorem dX12_readAny_19 : decode cX12_readAny 19 = .ok (.istore_n 3, 1) := by decide +kernel
theorem dX12_readAny_20 : decode cX12_readAny 20 = .ok (.iload_n 3, 1) := by decide +kernel
theorem dX12_readAny_21 : decode cX12_readAny 21 = .ok (.ifCond .ne 12, 3) := by decide +kernel
theorem dX12_readAny_24 : decode cX12_readAny 24 = .ok (.aload_n 0, 1) := by decide +kernel
theorem dX12_readAny_25 : decode cX12_readAny 25 = .ok (.bipush 40, 2) := by decide +kernel
theorem dX12_readAny_27 : decode cX12_readAny 27 = .ok (.invokevirtual 258, 3) := by decide +kernel
theorem dX12_readAny_30 : decode cX12_readAny 30 = .ok (.ifCond .eq 58, 3) := by decide +kernel
theorem dX12_readAny_33 : decode cX12_readAny 33 = .ok (.aload_n 0, 1) := by decide +kernel
theorem dX12_readAny_34 : decode cX12_readAny 34 = .ok (.getfield 270, 3) := by decide +kernel
theorem dX12_readAny_37 : decode cX12_readAny 37 = .ok (.bipush 8, 2) := by decide +kernel
theorem dX12_readAny_39 : decode cX12_readAny 39 = .ok (.if_icmp .ne 9, 3) := by decide +kernel
theorem dX12_readAny_42 : decode cX12_readAny 42 = .ok (.aload_n 0, 1) := by decide +kernel
theorem dX12_readAny_43 : decode cX12_readAny 43 = .ok (.iconst 3, 1) := by decide +kernel
theorem dX12_readAny_44 : decode cX12_readAny 44 = .ok (.invokevirtual 244, 3) := by decide +kernel
theorem dX12_readAny_47 : decode cX12_readAny 47 = .ok (.ireturn, 1) := by decide +kernel
theorem dX12_readAny_48 : decode cX12_readAny 48 = .ok (.aload_n 0, 1) := by decide +kernel
theorem dX12_readAny_49 : decode cX12_readAny 49 = .ok (.aload_n 0, 1) := by decide +kernel
theorem dX12_readAny_50 : decode cX12_readAny 50 = .ok (.getfield 270, 3) := by decide +kernel
theorem dX12_readAny_53 : decode cX12_readAny 53 = .ok (.iconst 1, 1) := by decide +kernel
theorem dX12_readAny_54 : decode cX12_readAny 54 = .ok (.iadd, 1) := by decide +kernel
theorem dX12_readAny_55 : decode cX12_readAny 55 = .ok (.putfield 270, 3) := by decide +kernel
theorem dX12_readAny_58 : decode cX12_readAny 58 = .ok (.iload_n 3, 1) := by decide +kernel
theorem dX12_readAny_59 : decode cX12_readAny 59 = .ok (.ifCond .ne 7, 3) := by decide +kernel
theorem dX12_readAny_62 : decode cX12_readAny 62 = .ok (.iload_n 1, 1) := by decide +kernel
theorem dX12_readAny_63 : decode cX12_readAny 63 = .ok (.iconst 1, 1) := by decide +kernel
theorem dX12_readAny_64 : decode cX12_readAny 64 = .ok (.iadd, 1) := by decide +kernel
theorem dX12_readAny_65 : decode cX12_readAny 65 = .ok (.istore_n 1, 1) := by decide +kernel
theorem dX12_readAny_66 : decode cX12_readAny 66 = .ok (.aload_n 0, 1) := by decide +kernel
theorem dX12_readAny_67 : decode cX12_readAny 67 = .ok (.iload_n 3, 1) := by decide +kernel
theorem dX12_readAny_68 : decode cX12_readAny 68 = .ok (.ifCond .eq 8, 3) := by decide +kernel
theorem dX12_readAny_71 : decode cX12_readAny 71 = .ok (.bipush 9, 2) := by decide +kernel
theorem dX12_readAny_73 : decode cX12_readAny 73 = .ok (.goto 5, 3) := by decide +kernel
theorem dX12_readAny_76 : decode cX12_readAny 76 = .ok (.bipush 12, 2) := by decide +kernel
theorem dX12_readAny_78 : decode cX12_readAny 78 = .ok (.invokevirtual 276, 3) := by decide +kernel
theorem dX12_readAny_81 : decode cX12_readAny 81 = .ok (.aload_n 0, 1) := by decide +kernel
theorem dX12_readAny_82 : decode cX12_readAny 82 = .ok (.invokevirtual 251, 3) := by decide +kernel
theorem dX12_readAny_85 : decode cX12_readAny 85 = .ok (.goto (-76), 3) := by decide +kernel
theorem dX12_readAny_88 : decode cX12_readAny 88 = .ok (.aload_n 0, 1) := by decide +kernel
theorem dX12_readAny_89 : decode cX12_readAny 89 = .ok (.invokevirtual 279, 3) := by decide +kernel
theorem dX12_readAny_92 : decode cX12_readAny 92 = .ok (.iconst (-1), 1) := by decide +kernel
theorem dX12_readAny_93 : decode cX12_readAny 93 = .ok (.if_icmp .ne 5, 3) := by decide +kernel
theorem dX12_readAny_96 : decode cX12_readAny 96 = .ok (.iconst (-1), 1) := by decide +kernel
theorem dX12_readAny_97 : decode cX12_readAny 97 = .ok (.ireturn, 1) := by decide +kernel
theorem dX12_readAny_98 : decode cX12_readAny 98 = .ok (.aload_n 0, 1) := by decide +kernel
theorem dX12_readAny_99 : decode cX12_readAny 99 = .ok (.bipush 9, 2) := by decide +kernel
theorem dX12_readAny_101 : decode cX12_readAny 101 = .ok (.invokevirtual 282, 3) := by decide +kernel
theorem dX12_readAny_104 : decode cX12_readAny 104 = .ok (.iconst 0, 1) := by decide +kernel
theorem dX12_readAny_105 : decode cX12_readAny 105 = .ok (.istore_n 2, 1) := by decide +kernel
theorem dX12_readAny_106 : decode cX12_readAny 106 = .ok (.goto (-97), 3) := by decide +kernel
theorem dX12_readAny_109 : decode cX12_readAny 109 = .ok (.aload_n 0, 1) := by decide +kernel
theorem dX12_readAny_110 : decode cX12_readAny 110 = .ok (.bipush 11, 2) := by decide +kernel
theorem dX12_readAny_112 : decode cX12_readAny 112 = .ok (.invokevirtual 273, 3) := by decide +kernel
theorem dX12_readAny_115 : decode cX12_readAny 115 = .ok (.ifCond .eq 24, 3) := by decide +kernel
theorem dX12_readAny_118 : decode cX12_readAny 118 = .ok (.aload_n 0, 1) := by decide +kernel
theorem dX12_readAny_119 : decode cX12_readAny 119 = .ok (.bipush 10, 2) := by decide +kernel
theorem dX12_readAny_121 : decode cX12_readAny 121 = .ok (.invokevirtual 282, 3) := by decide +kernel
theorem dX12_readAny_124 : decode cX12_readAny 124 = .ok (.aload_n 0, 1) := by decide +kernel
theorem dX12_readAny_125 : decode cX12_readAny 125 = .ok (.bipush 10, 2) := by decide +kernel
theorem dX12_readAny_127 : decode cX12_readAny 127 = .ok (.invokevirtual 276, 3) := by decide +kernel
theorem dX12_readAny_130 : decode cX12_readAny 130 = .ok (.aload_n 0, 1) := by decide +kernel
theorem dX12_readAny_131 : decode cX12_readAny 131 = .ok (.invokevirtual 251, 3) := by decide +kernel
theorem dX12_readAny_134 : decode cX12_readAny 134 = .ok (.iconst 1, 1) := by decide +kernel
theorem dX12_readAny_135 : decode cX12_readAny 135 = .ok (.istore_n 2, 1) := by decide +kernel
theorem dX12_readAny_136 : decode cX12_readAny 136 = .ok (.goto (-127), 3) := by decide +kernel
theorem dX12_readAny_139 : decode cX12_readAny 139 = .ok (.aload_n 0, 1) := by decide +kernel
theorem dX12_readAny_140 : decode cX12_readAny 140 = .ok (.bipush 10, 2) := by decide +kernel
theorem dX12_readAny_142 : decode cX12_readAny 142 = .ok (.invokevirtual 273, 3) := by decide +kernel
theorem dX12_readAny_145 : decode cX12_readAny 145 = .ok (.ifCond .eq 30, 3) := by decide +kernel
theorem dX12_readAny_148 : decode cX12_readAny 148 = .ok (.aload_n 0, 1) := by decide +kernel
theorem dX12_readAny_149 : decode cX12_readAny 149 = .ok (.bipush 10, 2) := by decide +kernel
theorem dX12_readAny_151 : decode cX12_readAny 151 = .ok (.invokevirtual 282, 3) := by decide +kernel
theorem dX12_readAny_154 : decode cX12_readAny 154 = .ok (.aload_n 0, 1) := by decide +kernel
theorem dX12_readAny_155 : decode cX12_readAny 155 = .ok (.bipush 11, 2) := by decide +kernel
theorem dX12_readAny_157 : decode cX12_readAny 157 = .ok (.invokevirtual 282, 3) := by decide +kernel
theorem dX12_readAny_160 : decode cX12_readAny 160 = .ok (.aload_n 0, 1) := by decide +kernel
theorem dX12_readAny_161 : decode cX12_readAny 161 = .ok (.bipush 11, 2) := by decide +kernel
theorem dX12_readAny_163 : decode cX12_readAny 163 = .ok (.invokevirtual 276, 3) := by decide +kernel
theorem dX12_readAny_166 : decode cX12_readAny 166 = .ok (.aload_n 0, 1) := by decide +kernel
theorem dX12_readAny_167 : decode cX12_readAny 167 = .ok (.invokevirtual 251, 3) := by decide +kernel
theorem dX12_readAny_170 : decode cX12_readAny 170 = .ok (.iconst 1, 1) := by decide +kernel
theorem dX12_readAny_171 : decode cX12_readAny 171 = .ok (.istore_n 2, 1) := by decide +kernel
theorem dX12_readAny_172 : decode cX12_readAny 172 = .ok (.goto (-163), 3) := by decide +kernel
theorem dX12_readAny_175 : decode cX12_readAny 175 = .ok (.aload_n 0, 1) := by decide +kernel
theorem dX12_readAny_176 : decode cX12_readAny 176 = .ok (.bipush 10, 2) := by decide +kernel
theorem dX12_readAny_178 : decode cX12_readAny 178 = .ok (.invokevirtual 282, 3) := by decide +kernel
theorem dX12_readAny_181 : decode cX12_readAny 181 = .ok (.aload_n 0, 1) := by decide +kernel
theorem dX12_readAny_182 : decode cX12_readAny 182 = .ok (.bipush 11, 2) := by decide +kernel
theorem dX12_readAny_184 : decode cX12_readAny 184 = .ok (.invokevirtual 282, 3) := by decide +kernel
theorem dX12_readAny_187 : decode cX12_readAny 187 = .ok (.iload_n 1, 1) := by decide +kernel
theorem dX12_readAny_188 : decode cX12_readAny 188 = .ok (.ifCond .ne 5, 3) := by decide +kernel
theorem dX12_readAny_191 : decode cX12_readAny 191 = .ok (.iconst 0, 1) := by decide +kernel
theorem dX12_readAny_192 : decode cX12_readAny 192 = .ok (.ireturn, 1) := by decide +kernel
theorem dX12_readAny_193 : decode cX12_readAny 193 = .ok (.aload_n 0, 1) := by decide +kernel
theorem dX12_readAny_194 : decode cX12_readAny 194 = .ok (.bipush 41, 2) := by decide +kernel
theorem dX12_readAny_196 : decode cX12_readAny 196 = .ok (.invokevirtual 258, 3) := by decide +kernel
theorem dX12_readAny_199 : decode cX12_readAny 199 = .ok (.ifCond .ne 9, 3) := by decide +kernel
theorem dX12_readAny_202 : decode cX12_readAny 202 = .ok (.aload_n 0, 1) := by decide +kernel
theorem dX12_readAny_203 : decode cX12_readAny 203 = .ok (.iconst 1, 1) := by decide +kernel
theorem dX12_readAny_204 : decode cX12_readAny 204 = .ok (.invokevirtual 244, 3) := by decide +kernel
theorem dX12_readAny_207 : decode cX12_readAny 207 = .ok (.ireturn, 1) := by decide +kernel
theorem dX12_readAny_208 : decode cX12_readAny 208 = .ok (.aload_n 0, 1) := by decide +kernel
theorem dX12_readAny_209 : decode cX12_readAny 209 = .ok (.aload_n 0, 1) := by decide +kernel
theorem dX12_readAny_210 : decode cX12_readAny 210 = .ok (.getfield 267, 3) := by decide +kernel
theorem dX12_readAny_213 : decode cX12_readAny 213 = .ok (.iconst 1, 1) := by decide +kernel
theorem dX12_readAny_214 : decode cX12_readAny 214 = .ok (.isub, 1) := by decide +kernel
theorem dX12_readAny_215 : decode cX12_readAny 215 = .ok (.putfield 267, 3) := by decide +kernel
theorem dX12_readAny_218 : decode cX12_readAny 218 = .ok (.iload_n 1, 1) := by decide +kernel
theorem dX12_readAny_219 : decode cX12_readAny 219 = .ok (.iconst 1, 1) := by decide +kernel
theorem dX12_readAny_220 : decode cX12_readAny 220 = .ok (.isub, 1) := by decide +kernel
theorem dX12_readAny_221 : decode cX12_readAny 221 = .ok (.istore_n 1, 1) := by decide +kernel
theorem dX12_readAny_222 : decode cX12_readAny 222 = .ok (.aload_n 0, 1) := by decide +kernel
theorem dX12_readAny_223 : decode cX12_readAny 223 = .ok (.aload_n 0, 1) := by decide +kernel
theorem dX12_readAny_224 : decode cX12_readAny 224 = .ok (.getfield 270, 3) := by decide +kernel
theorem dX12_readAny_227 : decode cX12_readAny 227 = .ok (.iconst 1, 1) := by decide +kernel
theorem dX12_readAny_228 : decode cX12_readAny 228 = .ok (.isub, 1) := by decide +kernel
theorem dX12_readAny_229 : decode cX12_readAny 229 = .ok (.putfield 270, 3) := by decide +kernel
theorem dX12_readAny_232 : decode cX12_readAny 232 = .ok (.aload_n 0, 1) := by decide +kernel
theorem dX12_readAny_233 : decode cX12_readAny 233 = .ok (.bipush 9, 2) := by decide +kernel
theorem dX12_readAny_235 : decode cX12_readAny 235 = .ok (.invokevirtual 282, 3) := by decide +kernel
theorem dX12_readAny_238 : decode cX12_readAny 238 = .ok (.aload_n 0, 1) := by decide +kernel
theorem dX12_readAny_239 : decode cX12_readAny 239 = .ok (.invokevirtual 251, 3) := by decide +kernel
theorem dX12_readAny_242 : decode cX12_readAny 242 = .ok (.goto (-233), 3) := by decide +kernel
theorem dX12_readLine_0 : decode cX12_readLine 0 = .ok (.aload_n 0, 1) := by decide +kernel
theorem dX12_readLine_1 : decode cX12_readLine 1 = .ok (.invokevirtual 251, 3) := by decide +kernel
theorem dX12_readLine_4 : decode cX12_readLine 4 = .ok (.aload_n 0, 1) := by decide +kernel
theorem dX12_readLine_5 : decode cX12_readLine 5 = .ok (.getfield 53, 3) := by decide +kernel
theorem dX12_readLine_8 : decode cX12_readLine 8 = .ok (.iload_n 1, 1) := by decide +kernel
theorem dX12_readLine_9 : decode cX12_readLine 9 = .ok (.aload_n 0, 1) := by decide +kernel
theorem dX12_readLine_10 : decode cX12_readLine 10 = .ok (.getfield 233, 3) := by decide +kernel
theorem dX12_readLine_13 : decode cX12_readLine 13 = .ok (.iastore, 1) := by decide +kernel
theorem dX12_readLine_14 : decode cX12_readLine 14 = .ok (.aload_n 0, 1) := by decide +kernel
theorem dX12_readLine_15 : decode cX12_readLine 15 = .ok (.invokevirtual 264, 3) := by decide +kernel
theorem dX12_readLine_18 : decode cX12_readLine 18 = .ok (.iconst (-1), 1) := by decide +kernel
theorem dX12_readLine_19 : decode cX12_readLine 19 = .ok (.if_icmp .ne 5, 3) := by decide +kernel
theorem dX12_readLine_22 : decode cX12_readLine 22 = .ok (.iconst (-1), 1) := by decide +kernel
theorem dX12_readLine_23 : decode cX12_readLine 23 = .ok (.ireturn, 1) := by decide +kernel
theorem dX12_readLine_24 : decode cX12_readLine 24 = .ok (.aload_n 0, 1) := by decide +kernel
theorem dX12_readLine_25 : decode cX12_readLine 25 = .ok (.getfield 56, 3) := by decide +kernel
theorem dX12_readLine_28 : decode cX12_readLine 28 = .ok (.iload_n 1, 1) := by decide +kernel
theorem dX12_readLine_29 : decode cX12_readLine 29 = .ok (.aload_n 0, 1) := by decide +kernel
theorem dX12_readLine_30 : decode cX12_readLine 30 = .ok (.getfield 233, 3) := by decide +kernel
theorem dX12_readLine_33 : decode cX12_readLine 33 = .ok (.iastore, 1) := by decide +kernel
theorem dX12_readLine_34 : decode cX12_readLine 34 = .ok (.aload_n 0, 1) := by decide +kernel
theorem dX12_readLine_35 : decode cX12_readLine 35 = .ok (.bipush 9, 2) := by decide +kernel
theorem dX12_readLine_37 : decode cX12_readLine 37 = .ok (.invokevirtual 273, 3) := by decide +kernel
theorem dX12_readLine_40 : decode cX12_readLine 40 = .ok (.ifCond .eq 17, 3) := by decide +kernel
theorem dX12_readLine_43 : decode cX12_readLine 43 = .ok (.aload_n 0, 1) := by decide +kernel
theorem dX12_readLine_44 : decode cX12_readLine 44 = .ok (.invokevirtual 251, 3) := by decide +kernel
theorem dX12_readLine_47 : decode cX12_readLine 47 = .ok (.aload_n 0, 1) := by decide +kernel
theorem dX12_readLine_48 : decode cX12_readLine 48 = .ok (.invokevirtual 285, 3) := by decide +kernel
theorem dX12_readLine_51 : decode cX12_readLine 51 = .ok (.iconst (-1), 1) := by decide +kernel
theorem dX12_readLine_52 : decode cX12_readLine 52 = .ok (.if_icmp .ne 5, 3) := by decide +kernel
theorem dX12_readLine_55 : decode cX12_readLine 55 = .ok (.iconst (-1), 1) := by decide +kernel
theorem dX12_readLine_56 : decode cX12_readLine 56 = .ok (.ireturn, 1) := by decide +kernel
theorem dX12_readLine_57 : decode cX12_readLine 57 = .ok (.aload_n 0, 1) := by decide +kernel
theorem dX12_readLine_58 : decode cX12_readLine 58 = .ok (.getfield 59, 3) := by decide +kernel
theorem dX12_readLine_61 : decode cX12_readLine 61 = .ok (.iload_n 1, 1) := by decide +kernel
theorem dX12_readLine_62 : decode cX12_readLine 62 = .ok (.aload_n 0, 1) := by decide +kernel
theorem dX12_readLine_63 : decode cX12_readLine 63 = .ok (.getfield 233, 3) := by decide +kernel
theorem dX12_readLine_66 : decode cX12_readLine 66 = .ok (.iastore, 1) := by decide +kernel
theorem dX12_readLine_67 : decode cX12_readLine 67 = .ok (.aload_n 0, 1) := by decide +kernel
theorem dX12_readLine_68 : decode cX12_readLine 68 = .ok (.bipush 59, 2) := by decide +kernel
theorem dX12_readLine_70 : decode cX12_readLine 70 = .ok (.invokevirtual 258, 3) := by decide +kernel
theorem dX12_readLine_73 : decode cX12_readLine 73 = .ok (.ifCond .ne 9, 3) := by decide +kernel
theorem dX12_readLine_76 : decode cX12_readLine 76 = .ok (.aload_n 0, 1) := by decide +kernel
theorem dX12_readLine_77 : decode cX12_readLine 77 = .ok (.iconst 1, 1) := by decide +kernel
theorem dX12_readLine_78 : decode cX12_readLine 78 = .ok (.invokevirtual 244, 3) := by decide +kernel
theorem dX12_readLine_81 : decode cX12_readLine 81 = .ok (.ireturn, 1) := by decide +kernel
theorem dX12_readLine_82 : decode cX12_readLine 82 = .ok (.aload_n 0, 1) := by decide +kernel
theorem dX12_readLine_83 : decode cX12_readLine 83 = .ok (.invokevirtual 251, 3) := by decide +kernel
theorem dX12_readLine_86 : decode cX12_readLine 86 = .ok (.iconst 0, 1) := by decide +kernel
theorem dX12_readLine_87 : decode cX12_readLine 87 = .ok (.ireturn, 1) := by decide +kernel
theorem dX12_readLaw_0 : decode cX12_readLaw 0 = .ok (.iconst 0, 1) := by decide +kernel
theorem dX12_readLaw_1 : decode cX12_readLaw 1 = .ok (.istore_n 1, 1) := by decide +kernel
theorem dX12_readLaw_2 : decode cX12_readLaw 2 = .ok (.aload_n 0, 1) := by decide +kernel
theorem dX12_readLaw_3 : decode cX12_readLaw 3 = .ok (.aload_n 0, 1) := by decide +kernel
theorem dX12_readLaw_4 : decode cX12_readLaw 4 = .ok (.getfield 236, 3) := by decide +kernel
theorem dX12_readLaw_7 : decode cX12_readLaw 7 = .ok (.ifCond .eq 7, 3) := by decide +kernel
theorem dX12_readLaw_10 : decode cX12_readLaw 10 = .ok (.iconst 0, 1) := by decide +kernel
theorem dX12_readLaw_11 : decode cX12_readLaw 11 = .ok (.goto 4, 3) := by decide +kernel
theorem dX12_readLaw_14 : decode cX12_readLaw 14 = .ok (.iconst 1, 1) := by decide +kernel
theorem dX12_readLaw_15 : decode cX12_readLaw 15 = .ok (.invokevirtual 273, 3) := by decide +kernel
theorem dX12_readLaw_18 : decode cX12_readLaw 18 = .ok (.ifCond .eq 36, 3) := by decide +kernel
theorem dX12_readLaw_21 : decode cX12_readLaw 21 = .ok (.iload_n 1, 1) := by decide +kernel
theorem dX12_readLaw_22 : decode cX12_readLaw 22 = .ok (.bipush 16, 2) := by decide +kernel
theorem dX12_readLaw_24 : decode cX12_readLaw 24 = .ok (.if_icmp .ne 9, 3) := by decide +kernel
theorem dX12_readLaw_27 : decode cX12_readLaw 27 = .ok (.aload_n 0, 1) := by decide +kernel
theorem dX12_readLaw_28 : decode cX12_readLaw 28 = .ok (.iconst 3, 1) := by decide +kernel
theorem dX12_readLaw_29 : decode cX12_readLaw 29 = .ok (.invokevirtual 244, 3) := by decide +kernel
theorem dX12_readLaw_32 : decode cX12_readLaw 32 = .ok (.ireturn, 1) := by decide +kernel
theorem dX12_readLaw_33 : decode cX12_readLaw 33 = .ok (.aload_n 0, 1) := by decide +kernel
theorem dX12_readLaw_34 : decode cX12_readLaw 34 = .ok (.bipush 48, 2) := by decide +kernel
theorem dX12_readLaw_36 : decode cX12_readLaw 36 = .ok (.iload_n 1, 1) := by decide +kernel
theorem dX12_readLaw_37 : decode cX12_readLaw 37 = .ok (.iadd, 1) := by decide +kernel
theorem dX12_readLaw_38 : decode cX12_readLaw 38 = .ok (.invokevirtual 288, 3) := by decide +kernel
theorem dX12_readLaw_41 : decode cX12_readLaw 41 = .ok (.iconst (-1), 1) := by decide +kernel
theorem dX12_readLaw_42 : decode cX12_readLaw 42 = .ok (.if_icmp .ne 5, 3) := by decide +kernel
theorem dX12_readLaw_45 : decode cX12_readLaw 45 = .ok (.iconst (-1), 1) := by decide +kernel
theorem dX12_readLaw_46 : decode cX12_readLaw 46 = .ok (.ireturn, 1) := by decide +kernel
theorem dX12_readLaw_47 : decode cX12_readLaw 47 = .ok (.iload_n 1, 1) := by decide +kernel
theorem dX12_readLaw_48 : decode cX12_readLaw 48 = .ok (.iconst 1, 1) := by decide +kernel
theorem dX12_readLaw_49 : decode cX12_readLaw 49 = .ok (.iadd, 1) := by decide +kernel
theorem dX12_readLaw_50 : decode cX12_readLaw 50 = .ok (.istore_n 1, 1) := by decide +kernel
theorem dX12_readLaw_51 : decode cX12_readLaw 51 = .ok (.goto (-49), 3) := by decide +kernel
theorem dX12_readLaw_54 : decode cX12_readLaw 54 = .ok (.aload_n 0, 1) := by decide +kernel
theorem dX12_readLaw_55 : decode cX12_readLaw 55 = .ok (.getfield 208, 3) := by decide +kernel
theorem dX12_readLaw_58 : decode cX12_readLaw 58 = .ok (.ifCond .ne 7, 3) := by decide +kernel
theorem dX12_readLaw_61 : decode cX12_readLaw 61 = .ok (.iload_n 1, 1) := by decide +kernel
theorem dX12_readLaw_62 : decode cX12_readLaw 62 = .ok (.goto 8, 3) := by decide +kernel
theorem dX12_readLaw_65 : decode cX12_readLaw 65 = .ok (.aload_n 0, 1) := by decide +kernel
theorem dX12_readLaw_66 : decode cX12_readLaw 66 = .ok (.iconst 1, 1) := by decide +kernel
theorem dX12_readLaw_67 : decode cX12_readLaw 67 = .ok (.invokevirtual 244, 3) := by decide +kernel
theorem dX12_readLaw_70 : decode cX12_readLaw 70 = .ok (.ireturn, 1) := by decide +kernel
theorem dX12_readNumber_0 : decode cX12_readNumber 0 = .ok (.aload_n 0, 1) := by decide +kernel
theorem dX12_readNumber_1 : decode cX12_readNumber 1 = .ok (.getfield 208, 3) := by decide +kernel
theorem dX12_readNumber_4 : decode cX12_readNumber 4 = .ok (.iconst 3, 1) := by decide +kernel
theorem dX12_readNumber_5 : decode cX12_readNumber 5 = .ok (.if_icmp .eq 9, 3) := by decide +kernel
theorem dX12_readNumber_8 : decode cX12_readNumber 8 = .ok (.aload_n 0, 1) := by decide +kernel
theorem dX12_readNumber_9 : decode cX12_readNumber 9 = .ok (.iconst 1, 1) := by decide +kernel
theorem dX12_readNumber_10 : decode cX12_readNumber 10 = .ok (.invokevirtual 244, 3) := by decide +kernel
theorem dX12_readNumber_13 : decode cX12_readNumber 13 = .ok (.ireturn, 1) := by decide +kernel
theorem dX12_readNumber_14 : decode cX12_readNumber 14 = .ok (.aload_n 0, 1) := by decide +kernel
theorem dX12_readNumber_15 : decode cX12_readNumber 15 = .ok (.aload_n 0, 1) := by decide +kernel
theorem dX12_readNumber_16 : decode cX12_readNumber 16 = .ok (.getfield 211, 3) := by decide +kernel
theorem dX12_readNumber_19 : decode cX12_readNumber 19 = .ok (.iload_n 1, 1) := by decide +kernel
theorem dX12_readNumber_20 : decode cX12_readNumber 20 = .ok (.bipush 8, 2) := by decide +kernel
theorem dX12_readNumber_22 : decode cX12_readNumber 22 = .ok (.invokevirtual 174, 3) := by decide +kernel
theorem dX12_readNumber_25 : decode cX12_readNumber 25 = .ok (.ifCond .ne 9, 3) := by decide +kernel
theorem dX12_readNumber_28 : decode cX12_readNumber 28 = .ok (.aload_n 0, 1) := by decide +kernel
theorem dX12_readNumber_29 : decode cX12_readNumber 29 = .ok (.iconst 2, 1) := by decide +kernel
theorem dX12_readNumber_30 : decode cX12_readNumber 30 = .ok (.invokevirtual 244, 3) := by decide +kernel
theorem dX12_readNumber_33 : decode cX12_readNumber 33 = .ok (.ireturn, 1) := by decide +kernel
theorem dX12_readNumber_34 : decode cX12_readNumber 34 = .ok (.aload_n 0, 1) := by decide +kernel
theorem dX12_readNumber_35 : decode cX12_readNumber 35 = .ok (.getfield 211, 3) := by decide +kernel
theorem dX12_readNumber_38 : decode cX12_readNumber 38 = .ok (.istore_n 2, 1) := by decide +kernel
theorem dX12_readNumber_39 : decode cX12_readNumber 39 = .ok (.aload_n 0, 1) := by decide +kernel
theorem dX12_readNumber_40 : decode cX12_readNumber 40 = .ok (.invokevirtual 251, 3) := by decide +kernel
theorem dX12_readNumber_43 : decode cX12_readNumber 43 = .ok (.iload_n 2, 1) := by decide +kernel
theorem dX12_readNumber_44 : decode cX12_readNumber 44 = .ok (.ireturn, 1) := by decide +kernel
theorem dX12_readShape_0 : decode cX12_readShape 0 = .ok (.iconst 0, 1) := by decide +kernel
theorem dX12_readShape_1 : decode cX12_readShape 1 = .ok (.istore_n 2, 1) := by decide +kernel
theorem dX12_readShape_2 : decode cX12_readShape 2 = .ok (.aload_n 0, 1) := by decide +kernel
theorem dX12_readShape_3 : decode cX12_readShape 3 = .ok (.getfield 208, 3) := by decide +kernel
theorem dX12_readShape_6 : decode cX12_readShape 6 = .ok (.iconst 2, 1) := by decide +kernel
theorem dX12_readShape_7 : decode cX12_readShape 7 = .ok (.if_icmp .ne 56, 3) := by decide +kernel
theorem dX12_readShape_10 : decode cX12_readShape 10 = .ok (.aload_n 0, 1) := by decide +kernel
theorem dX12_readShape_11 : decode cX12_readShape 11 = .ok (.aload_n 0, 1) := by decide +kernel
theorem dX12_readShape_12 : decode cX12_readShape 12 = .ok (.getfield 211, 3) := by decide +kernel
theorem dX12_readShape_15 : decode cX12_readShape 15 = .ok (.bipush 6, 2) := by decide +kernel
theorem dX12_readShape_17 : decode cX12_readShape 17 = .ok (.bipush 8, 2) := by decide +kernel
theorem dX12_readShape_19 : decode cX12_readShape 19 = .ok (.invokevirtual 174, 3) := by decide +kernel
theorem dX12_readShape_22 : decode cX12_readShape 22 = .ok (.ifCond .eq 41, 3) := by decide +kernel
theorem dX12_readShape_25 : decode cX12_readShape 25 = .ok (.iload_n 2, 1) := by decide +kernel
theorem dX12_readShape_26 : decode cX12_readShape 26 = .ok (.bipush 8, 2) := by decide +kernel
theorem dX12_readShape_28 : decode cX12_readShape 28 = .ok (.if_icmp .ne 9, 3) := by decide +kernel
theorem dX12_readShape_31 : decode cX12_readShape 31 = .ok (.aload_n 0, 1) := by decide +kernel
theorem dX12_readShape_32 : decode cX12_readShape 32 = .ok (.iconst 3, 1) := by decide +kernel
theorem dX12_readShape_33 : decode cX12_readShape 33 = .ok (.invokevirtual 244, 3) := by decide +kernel
theorem dX12_readShape_36 : decode cX12_readShape 36 = .ok (.ireturn, 1) := by decide +kernel
theorem dX12_readShape_37 : decode cX12_readShape 37 = .ok (.aload_n 0, 1) := by decide +kernel
theorem dX12_readShape_38 : decode cX12_readShape 38 = .ok (.getfield 83, 3) := by decide +kernel
theorem dX12_readShape_41 : decode cX12_readShape 41 = .ok (.bipush 8, 2) := by decide +kernel
theorem dX12_readShape_43 : decode cX12_readShape 43 = .ok (.iload_n 1, 1) := by decide +kernel
theorem dX12_readShape_44 : decode cX12_readShape 44 = .ok (.imul, 1) := by decide +kernel
theorem dX12_readShape_45 : decode cX12_readShape 45 = .ok (.iload_n 2, 1) := by decide +kernel
theorem dX12_readShape_46 : decode cX12_readShape 46 = .ok (.iadd, 1) := by decide +kernel
theorem dX12_readShape_47 : decode cX12_readShape 47 = .ok (.aload_n 0, 1) := by decide +kernel
theorem dX12_readShape_48 : decode cX12_readShape 48 = .ok (.getfield 211, 3) := by decide +kernel
theorem dX12_readShape_51 : decode cX12_readShape 51 = .ok (.iastore, 1) := by decide +kernel
theorem dX12_readShape_52 : decode cX12_readShape 52 = .ok (.iload_n 2, 1) := by decide +kernel
theorem dX12_readShape_53 : decode cX12_readShape 53 = .ok (.iconst 1, 1) := by decide +kernel
theorem dX12_readShape_54 : decode cX12_readShape 54 = .ok (.iadd, 1) := by decide +kernel
theorem dX12_readShape_55 : decode cX12_readShape 55 = .ok (.istore_n 2, 1) := by decide +kernel
theorem dX12_readShape_56 : decode cX12_readShape 56 = .ok (.aload_n 0, 1) := by decide +kernel
theorem dX12_readShape_57 : decode cX12_readShape 57 = .ok (.invokevirtual 251, 3) := by decide +kernel
theorem dX12_readShape_60 : decode cX12_readShape 60 = .ok (.goto (-58), 3) := by decide +kernel
theorem dX12_readShape_63 : decode cX12_readShape 63 = .ok (.iload_n 2, 1) := by decide +kernel
theorem dX12_readShape_64 : decode cX12_readShape 64 = .ok (.ifCond .ne 11, 3) := by decide +kernel
theorem dX12_readShape_67 : decode cX12_readShape 67 = .ok (.aload_n 0, 1) := by decide +kernel
theorem dX12_readShape_68 : decode cX12_readShape 68 = .ok (.iconst 1, 1) := by decide +kernel
theorem dX12_readShape_69 : decode cX12_readShape 69 = .ok (.invokevirtual 244, 3) := by decide +kernel
theorem dX12_readShape_72 : decode cX12_readShape 72 = .ok (.goto 4, 3) := by decide +kernel
theorem dX12_readShape_75 : decode cX12_readShape 75 = .ok (.iload_n 2, 1) := by decide +kernel
theorem dX12_readShape_76 : decode cX12_readShape 76 = .ok (.ireturn, 1) := by decide +kernel
theorem dX12_readFail_0 : decode cX12_readFail 0 = .ok (.aload_n 0, 1) := by decide +kernel
theorem dX12_readFail_1 : decode cX12_readFail 1 = .ok (.getfield 74, 3) := by decide +kernel
theorem dX12_readFail_4 : decode cX12_readFail 4 = .ok (.iload_n 1, 1) := by decide +kernel
theorem dX12_readFail_5 : decode cX12_readFail 5 = .ok (.aload_n 0, 1) := by decide +kernel
theorem dX12_readFail_6 : decode cX12_readFail 6 = .ok (.getfield 211, 3) := by decide +kernel
theorem dX12_readFail_9 : decode cX12_readFail 9 = .ok (.iastore, 1) := by decide +kernel
theorem dX12_readFail_10 : decode cX12_readFail 10 = .ok (.aload_n 0, 1) := by decide +kernel
theorem dX12_readFail_11 : decode cX12_readFail 11 = .ok (.invokevirtual 251, 3) := by decide +kernel
theorem dX12_readFail_14 : decode cX12_readFail 14 = .ok (.aload_n 0, 1) := by decide +kernel
theorem dX12_readFail_15 : decode cX12_readFail 15 = .ok (.getfield 74, 3) := by decide +kernel
theorem dX12_readFail_18 : decode cX12_readFail 18 = .ok (.iload_n 1, 1) := by decide +kernel
theorem dX12_readFail_19 : decode cX12_readFail 19 = .ok (.iaload, 1) := by decide +kernel
theorem dX12_readFail_20 : decode cX12_readFail 20 = .ok (.iconst 5, 1) := by decide +kernel
theorem dX12_readFail_21 : decode cX12_readFail 21 = .ok (.if_icmp .ne 21, 3) := by decide +kernel
theorem dX12_readFail_24 : decode cX12_readFail 24 = .ok (.aload_n 0, 1) := by decide +kernel
theorem dX12_readFail_25 : decode cX12_readFail 25 = .ok (.getfield 77, 3) := by decide +kernel
theorem dX12_readFail_28 : decode cX12_readFail 28 = .ok (.iload_n 1, 1) := by decide +kernel
theorem dX12_readFail_29 : decode cX12_readFail 29 = .ok (.aload_n 0, 1) := by decide +kernel
theorem dX12_readFail_30 : decode cX12_readFail 30 = .ok (.iload_n 1, 1) := by decide +kernel
theorem dX12_readFail_31 : decode cX12_readFail 31 = .ok (.invokevirtual 291, 3) := by decide +kernel
theorem dX12_readFail_34 : decode cX12_readFail 34 = .ok (.iastore, 1) := by decide +kernel
theorem dX12_readFail_35 : decode cX12_readFail 35 = .ok (.aload_n 0, 1) := by decide +kernel
theorem dX12_readFail_36 : decode cX12_readFail 36 = .ok (.getfield 77, 3) := by decide +kernel
theorem dX12_readFail_39 : decode cX12_readFail 39 = .ok (.iload_n 1, 1) := by decide +kernel
theorem dX12_readFail_40 : decode cX12_readFail 40 = .ok (.iaload, 1) := by decide +kernel
theorem dX12_readFail_41 : decode cX12_readFail 41 = .ok (.ireturn, 1) := by decide +kernel
theorem dX12_readFail_42 : decode cX12_readFail 42 = .ok (.aload_n 0, 1) := by decide +kernel
theorem dX12_readFail_43 : decode cX12_readFail 43 = .ok (.getfield 77, 3) := by decide +kernel
theorem dX12_readFail_46 : decode cX12_readFail 46 = .ok (.iload_n 1, 1) := by decide +kernel
theorem dX12_readFail_47 : decode cX12_readFail 47 = .ok (.aload_n 0, 1) := by decide +kernel
theorem dX12_readFail_48 : decode cX12_readFail 48 = .ok (.iconst 1, 1) := by decide +kernel
theorem dX12_readFail_49 : decode cX12_readFail 49 = .ok (.invokevirtual 294, 3) := by decide +kernel
theorem dX12_readFail_52 : decode cX12_readFail 52 = .ok (.iastore, 1) := by decide +kernel
theorem dX12_readFail_53 : decode cX12_readFail 53 = .ok (.aload_n 0, 1) := by decide +kernel
theorem dX12_readFail_54 : decode cX12_readFail 54 = .ok (.getfield 77, 3) := by decide +kernel
theorem dX12_readFail_57 : decode cX12_readFail 57 = .ok (.iload_n 1, 1) := by decide +kernel
theorem dX12_readFail_58 : decode cX12_readFail 58 = .ok (.iaload, 1) := by decide +kernel
theorem dX12_readFail_59 : decode cX12_readFail 59 = .ok (.iconst (-1), 1) := by decide +kernel
theorem dX12_readFail_60 : decode cX12_readFail 60 = .ok (.if_icmp .eq 13, 3) := by decide +kernel
theorem dX12_readFail_63 : decode cX12_readFail 63 = .ok (.aload_n 0, 1) := by decide +kernel
theorem dX12_readFail_64 : decode cX12_readFail 64 = .ok (.getfield 74, 3) := by decide +kernel
theorem dX12_readFail_67 : decode cX12_readFail 67 = .ok (.iload_n 1, 1) := by decide +kernel
theorem dX12_readFail_68 : decode cX12_readFail 68 = .ok (.iaload, 1) := by decide +kernel
theorem dX12_readFail_69 : decode cX12_readFail 69 = .ok (.iconst 2, 1) := by decide +kernel
theorem dX12_readFail_70 : decode cX12_readFail 70 = .ok (.if_icmp .ne 10, 3) := by decide +kernel
theorem dX12_readFail_73 : decode cX12_readFail 73 = .ok (.aload_n 0, 1) := by decide +kernel
theorem dX12_readFail_74 : decode cX12_readFail 74 = .ok (.getfield 77, 3) := by decide +kernel
theorem dX12_readFail_77 : decode cX12_readFail 77 = .ok (.iload_n 1, 1) := by decide +kernel
theorem dX12_readFail_78 : decode cX12_readFail 78 = .ok (.iaload, 1) := by decide +kernel
theorem dX12_readFail_79 : decode cX12_readFail 79 = .ok (.ireturn, 1) := by decide +kernel
theorem dX12_readFail_80 : decode cX12_readFail 80 = .ok (.aload_n 0, 1) := by decide +kernel
theorem dX12_readFail_81 : decode cX12_readFail 81 = .ok (.iconst 4, 1) := by decide +kernel
theorem dX12_readFail_82 : decode cX12_readFail 82 = .ok (.invokevirtual 273, 3) := by decide +kernel
theorem dX12_readFail_85 : decode cX12_readFail 85 = .ok (.ifCond .ne 9, 3) := by decide +kernel
theorem dX12_readFail_88 : decode cX12_readFail 88 = .ok (.aload_n 0, 1) := by decide +kernel
theorem dX12_readFail_89 : decode cX12_readFail 89 = .ok (.iconst 1, 1) := by decide +kernel
theorem dX12_readFail_90 : decode cX12_readFail 90 = .ok (.invokevirtual 244, 3) := by decide +kernel
theorem dX12_readFail_93 : decode cX12_readFail 93 = .ok (.ireturn, 1) := by decide +kernel
theorem dX12_readFail_94 : decode cX12_readFail 94 = .ok (.aload_n 0, 1) := by decide +kernel
theorem dX12_readFail_95 : decode cX12_readFail 95 = .ok (.invokevirtual 251, 3) := by decide +kernel
theorem dX12_readFail_98 : decode cX12_readFail 98 = .ok (.aload_n 0, 1) := by decide +kernel
theorem dX12_readFail_99 : decode cX12_readFail 99 = .ok (.getfield 80, 3) := by decide +kernel
theorem dX12_readFail_102 : decode cX12_readFail 102 = .ok (.iload_n 1, 1) := by decide +kernel
theorem dX12_readFail_103 : decode cX12_readFail 103 = .ok (.aload_n 0, 1) := by decide +kernel
theorem dX12_readFail_104 : decode cX12_readFail 104 = .ok (.aload_n 0, 1) := by decide +kernel
theorem dX12_readFail_105 : decode cX12_readFail 105 = .ok (.getfield 77, 3) := by decide +kernel
theorem dX12_readFail_108 : decode cX12_readFail 108 = .ok (.iload_n 1, 1) := by decide +kernel
theorem dX12_readFail_109 : decode cX12_readFail 109 = .ok (.iaload, 1) := by decide +kernel
theorem dX12_readFail_110 : decode cX12_readFail 110 = .ok (.invokevirtual 294, 3) := by decide +kernel
theorem dX12_readFail_113 : decode cX12_readFail 113 = .ok (.iastore, 1) := by decide +kernel
theorem dX12_readFail_114 : decode cX12_readFail 114 = .ok (.aload_n 0, 1) := by decide +kernel
theorem dX12_readFail_115 : decode cX12_readFail 115 = .ok (.getfield 80, 3) := by decide +kernel
theorem dX12_readFail_118 : decode cX12_readFail 118 = .ok (.iload_n 1, 1) := by decide +kernel
theorem dX12_readFail_119 : decode cX12_readFail 119 = .ok (.iaload, 1) := by decide +kernel
theorem dX12_readFail_120 : decode cX12_readFail 120 = .ok (.ireturn, 1) := by decide +kernel
theorem dX12_readFails_0 : decode cX12_readFails 0 = .ok (.iconst 0, 1) := by decide +kernel
theorem dX12_readFails_1 : decode cX12_readFails 1 = .ok (.istore_n 1, 1) := by decide +kernel
theorem dX12_readFails_2 : decode cX12_readFails 2 = .ok (.aload_n 0, 1) := by decide +kernel
theorem dX12_readFails_3 : decode cX12_readFails 3 = .ok (.getfield 208, 3) := by decide +kernel
theorem dX12_readFails_6 : decode cX12_readFails 6 = .ok (.iconst 2, 1) := by decide +kernel
theorem dX12_readFails_7 : decode cX12_readFails 7 = .ok (.if_icmp .ne 79, 3) := by decide +kernel
theorem dX12_readFails_10 : decode cX12_readFails 10 = .ok (.aload_n 0, 1) := by decide +kernel
theorem dX12_readFails_11 : decode cX12_readFails 11 = .ok (.getfield 211, 3) := by decide +kernel
theorem dX12_readFails_14 : decode cX12_readFails 14 = .ok (.iconst 2, 1) := by decide +kernel
theorem dX12_readFails_15 : decode cX12_readFails 15 = .ok (.if_icmp .eq 19, 3) := by decide +kernel
theorem dX12_readFails_18 : decode cX12_readFails 18 = .ok (.aload_n 0, 1) := by decide +kernel
theorem dX12_readFails_19 : decode cX12_readFails 19 = .ok (.getfield 211, 3) := by decide +kernel
theorem dX12_readFails_22 : decode cX12_readFails 22 = .ok (.iconst 3, 1) := by decide +kernel
theorem dX12_readFails_23 : decode cX12_readFails 23 = .ok (.if_icmp .eq 11, 3) := by decide +kernel
theorem dX12_readFails_26 : decode cX12_readFails 26 = .ok (.aload_n 0, 1) := by decide +kernel
theorem dX12_readFails_27 : decode cX12_readFails 27 = .ok (.getfield 211, 3) := by decide +kernel
theorem dX12_readFails_30 : decode cX12_readFails 30 = .ok (.iconst 5, 1) := by decide +kernel
theorem dX12_readFails_31 : decode cX12_readFails 31 = .ok (.if_icmp .ne 55, 3) := by decide +kernel
theorem dX12_readFails_34 : decode cX12_readFails 34 = .ok (.iload_n 1, 1) := by decide +kernel
theorem dX12_readFails_35 : decode cX12_readFails 35 = .ok (.bipush 8, 2) := by decide +kernel
theorem dX12_readFails_37 : decode cX12_readFails 37 = .ok (.if_icmp .ne 9, 3) := by decide +kernel
theorem dX12_readFails_40 : decode cX12_readFails 40 = .ok (.aload_n 0, 1) := by decide +kernel
theorem dX12_readFails_41 : decode cX12_readFails 41 = .ok (.iconst 3, 1) := by decide +kernel
theorem dX12_readFails_42 : decode cX12_readFails 42 = .ok (.invokevirtual 244, 3) := by decide +kernel
theorem dX12_readFails_45 : decode cX12_readFails 45 = .ok (.ireturn, 1) := by decide +kernel
theorem dX12_readFails_46 : decode cX12_readFails 46 = .ok (.aload_n 0, 1) := by decide +kernel
theorem dX12_readFails_47 : decode cX12_readFails 47 = .ok (.bipush 8, 2) := by decide +kernel
theorem dX12_readFails_49 : decode cX12_readFails 49 = .ok (.iload_n 1, 1) := by decide +kernel
theorem dX12_readFails_50 : decode cX12_readFails 50 = .ok (.iadd, 1) := by decide +kernel
theorem dX12_readFails_51 : decode cX12_readFails 51 = .ok (.invokevirtual 297, 3) := by decide +kernel
theorem dX12_readFails_54 : decode cX12_readFails 54 = .ok (.iconst (-1), 1) := by decide +kernel
theorem dX12_readFails_55 : decode cX12_readFails 55 = .ok (.if_icmp .ne 5, 3) := by decide +kernel
theorem dX12_readFails_58 : decode cX12_readFails 58 = .ok (.iconst (-1), 1) := by decide +kernel
theorem dX12_readFails_59 : decode cX12_readFails 59 = .ok (.ireturn, 1) := by decide +kernel
theorem dX12_readFails_60 : decode cX12_readFails 60 = .ok (.aload_n 0, 1) := by decide +kernel
theorem dX12_readFails_61 : decode cX12_readFails 61 = .ok (.bipush 59, 2) := by decide +kernel
theorem dX12_readFails_63 : decode cX12_readFails 63 = .ok (.invokevirtual 258, 3) := by decide +kernel
theorem dX12_readFails_66 : decode cX12_readFails 66 = .ok (.ifCond .ne 9, 3) := by decide +kernel
theorem dX12_readFails_69 : decode cX12_readFails 69 = .ok (.aload_n 0, 1) := by decide +kernel
theorem dX12_readFails_70 : decode cX12_readFails 70 = .ok (.iconst 1, 1) := by decide +kernel
theorem dX12_readFails_71 : decode cX12_readFails 71 = .ok (.invokevirtual 244, 3) := by decide +kernel
theorem dX12_readFails_74 : decode cX12_readFails 74 = .ok (.ireturn, 1) := by decide +kernel
theorem dX12_readFails_75 : decode cX12_readFails 75 = .ok (.aload_n 0, 1) := by decide +kernel
theorem dX12_readFails_76 : decode cX12_readFails 76 = .ok (.invokevirtual 251, 3) := by decide +kernel
theorem dX12_readFails_79 : decode cX12_readFails 79 = .ok (.iload_n 1, 1) := by decide +kernel
theorem dX12_readFails_80 : decode cX12_readFails 80 = .ok (.iconst 1, 1) := by decide +kernel
theorem dX12_readFails_81 : decode cX12_readFails 81 = .ok (.iadd, 1) := by decide +kernel
theorem dX12_readFails_82 : decode cX12_readFails 82 = .ok (.istore_n 1, 1) := by decide +kernel
theorem dX12_readFails_83 : decode cX12_readFails 83 = .ok (.goto (-81), 3) := by decide +kernel
theorem dX12_readFails_86 : decode cX12_readFails 86 = .ok (.aload_n 0, 1) := by decide +kernel
theorem dX12_readFails_87 : decode cX12_readFails 87 = .ok (.getfield 208, 3) := by decide +kernel
theorem dX12_readFails_90 : decode cX12_readFails 90 = .ok (.ifCond .ne 7, 3) := by decide +kernel
theorem dX12_readFails_93 : decode cX12_readFails 93 = .ok (.iload_n 1, 1) := by decide +kernel
theorem dX12_readFails_94 : decode cX12_readFails 94 = .ok (.goto 8, 3) := by decide +kernel
theorem dX12_readFails_97 : decode cX12_readFails 97 = .ok (.aload_n 0, 1) := by decide +kernel
theorem dX12_readFails_98 : decode cX12_readFails 98 = .ok (.iconst 1, 1) := by decide +kernel
theorem dX12_readFails_99 : decode cX12_readFails 99 = .ok (.invokevirtual 244, 3) := by decide +kernel
theorem dX12_readFails_102 : decode cX12_readFails 102 = .ok (.ireturn, 1) := by decide +kernel
theorem dX12_takes_0 : decode cX12_takes 0 = .ok (.iconst 0, 1) := by decide +kernel
theorem dX12_takes_1 : decode cX12_takes 1 = .ok (.istore_n 3, 1) := by decide +kernel
theorem dX12_takes_2 : decode cX12_takes 2 = .ok (.iload_n 3, 1) := by decide +kernel
theorem dX12_takes_3 : decode cX12_takes 3 = .ok (.iload_n 2, 1) := by decide +kernel
theorem dX12_takes_4 : decode cX12_takes 4 = .ok (.if_icmp .ge 69, 3) := by decide +kernel
theorem dX12_takes_7 : decode cX12_takes 7 = .ok (.aload_n 0, 1) := by decide +kernel
theorem dX12_takes_8 : decode cX12_takes 8 = .ok (.getfield 53, 3) := by decide +kernel
theorem dX12_takes_11 : decode cX12_takes 11 = .ok (.bipush 16, 2) := by decide +kernel
theorem dX12_takes_13 : decode cX12_takes 13 = .ok (.iload_n 1, 1) := by decide +kernel
theorem dX12_takes_14 : decode cX12_takes 14 = .ok (.imul, 1) := by decide +kernel
theorem dX12_takes_15 : decode cX12_takes 15 = .ok (.iload_n 3, 1) := by decide +kernel
theorem dX12_takes_16 : decode cX12_takes 16 = .ok (.iadd, 1) := by decide +kernel
theorem dX12_takes_17 : decode cX12_takes 17 = .ok (.aload_n 0, 1) := by decide +kernel
theorem dX12_takes_18 : decode cX12_takes 18 = .ok (.getfield 53, 3) := by decide +kernel
theorem dX12_takes_21 : decode cX12_takes 21 = .ok (.bipush 48, 2) := by decide +kernel
theorem dX12_takes_23 : decode cX12_takes 23 = .ok (.iload_n 3, 1) := by decide +kernel
theorem dX12_takes_24 : decode cX12_takes 24 = .ok (.iadd, 1) := by decide +kernel
theorem dX12_takes_25 : decode cX12_takes 25 = .ok (.iaload, 1) := by decide +kernel
theorem dX12_takes_26 : decode cX12_takes 26 = .ok (.iastore, 1) := by decide +kernel
theorem dX12_takes_27 : decode cX12_takes 27 = .ok (.aload_n 0, 1) := by decide +kernel
theorem dX12_takes_28 : decode cX12_takes 28 = .ok (.getfield 56, 3) := by decide +kernel
theorem dX12_takes_31 : decode cX12_takes 31 = .ok (.bipush 16, 2) := by decide +kernel
theorem dX12_takes_33 : decode cX12_takes 33 = .ok (.iload_n 1, 1) := by decide +kernel
theorem dX12_takes_34 : decode cX12_takes 34 = .ok (.imul, 1) := by decide +kernel
theorem dX12_takes_35 : decode cX12_takes 35 = .ok (.iload_n 3, 1) := by decide +kernel
theorem dX12_takes_36 : decode cX12_takes 36 = .ok (.iadd, 1) := by decide +kernel
theorem dX12_takes_37 : decode cX12_takes 37 = .ok (.aload_n 0, 1) := by decide +kernel
theorem dX12_takes_38 : decode cX12_takes 38 = .ok (.getfield 56, 3) := by decide +kernel
theorem dX12_takes_41 : decode cX12_takes 41 = .ok (.bipush 48, 2) := by decide +kernel
theorem dX12_takes_43 : decode cX12_takes 43 = .ok (.iload_n 3, 1) := by decide +kernel
theorem dX12_takes_44 : decode cX12_takes 44 = .ok (.iadd, 1) := by decide +kernel
theorem dX12_takes_45 : decode cX12_takes 45 = .ok (.iaload, 1) := by decide +kernel
theorem dX12_takes_46 : decode cX12_takes 46 = .ok (.iastore, 1) := by decide +kernel
theorem dX12_takes_47 : decode cX12_takes 47 = .ok (.aload_n 0, 1) := by decide +kernel
theorem dX12_takes_48 : decode cX12_takes 48 = .ok (.getfield 59, 3) := by decide +kernel
theorem dX12_takes_51 : decode cX12_takes 51 = .ok (.bipush 16, 2) := by decide +kernel
theorem dX12_takes_53 : decode cX12_takes 53 = .ok (.iload_n 1, 1) := by decide +kernel
theorem dX12_takes_54 : decode cX12_takes 54 = .ok (.imul, 1) := by decide +kernel
theorem dX12_takes_55 : decode cX12_takes 55 = .ok (.iload_n 3, 1) := by decide +kernel
theorem dX12_takes_56 : decode cX12_takes 56 = .ok (.iadd, 1) := by decide +kernel
theorem dX12_takes_57 : decode cX12_takes 57 = .ok (.aload_n 0, 1) := by decide +kernel
theorem dX12_takes_58 : decode cX12_takes 58 = .ok (.getfield 59, 3) := by decide +kernel
theorem dX12_takes_61 : decode cX12_takes 61 = .ok (.bipush 48, 2) := by decide +kernel
theorem dX12_takes_63 : decode cX12_takes 63 = .ok (.iload_n 3, 1) := by decide +kernel
theorem dX12_takes_64 : decode cX12_takes 64 = .ok (.iadd, 1) := by decide +kernel
theorem dX12_takes_65 : decode cX12_takes 65 = .ok (.iaload, 1) := by decide +kernel
theorem dX12_takes_66 : decode cX12_takes 66 = .ok (.iastore, 1) := by decide +kernel
theorem dX12_takes_67 : decode cX12_takes 67 = .ok (.iinc 3 1, 3) := by decide +kernel
theorem dX12_takes_70 : decode cX12_takes 70 = .ok (.goto (-68), 3) := by decide +kernel
theorem dX12_takes_73 : decode cX12_takes 73 = .ok (.iconst 0, 1) := by decide +kernel
theorem dX12_takes_74 : decode cX12_takes 74 = .ok (.istore_n 3, 1) := by decide +kernel
theorem dX12_takes_75 : decode cX12_takes 75 = .ok (.iload_n 3, 1) := by decide +kernel
theorem dX12_takes_76 : decode cX12_takes 76 = .ok (.aload_n 0, 1) := by decide +kernel
theorem dX12_takes_77 : decode cX12_takes 77 = .ok (.getfield 233, 3) := by decide +kernel
theorem dX12_takes_80 : decode cX12_takes 80 = .ok (.if_icmp .ge 53, 3) := by decide +kernel
theorem dX12_takes_83 : decode cX12_takes 83 = .ok (.aload_n 0, 1) := by decide +kernel
theorem dX12_takes_84 : decode cX12_takes 84 = .ok (.getfield 62, 3) := by decide +kernel
theorem dX12_takes_87 : decode cX12_takes 87 = .ok (.sipush 500, 3) := by decide +kernel
theorem dX12_takes_90 : decode cX12_takes 90 = .ok (.iload_n 1, 1) := by decide +kernel
theorem dX12_takes_91 : decode cX12_takes 91 = .ok (.imul, 1) := by decide +kernel
theorem dX12_takes_92 : decode cX12_takes 92 = .ok (.iload_n 3, 1) := by decide +kernel
theorem dX12_takes_93 : decode cX12_takes 93 = .ok (.iadd, 1) := by decide +kernel
theorem dX12_takes_94 : decode cX12_takes 94 = .ok (.aload_n 0, 1) := by decide +kernel
theorem dX12_takes_95 : decode cX12_takes 95 = .ok (.getfield 62, 3) := by decide +kernel
theorem dX12_takes_98 : decode cX12_takes 98 = .ok (.sipush 1500, 3) := by decide +kernel
theorem dX12_takes_101 : decode cX12_takes 101 = .ok (.iload_n 3, 1) := by decide +kernel
theorem dX12_takes_102 : decode cX12_takes 102 = .ok (.iadd, 1) := by decide +kernel
theorem dX12_takes_103 : decode cX12_takes 103 = .ok (.iaload, 1) := by decide +kernel
theorem dX12_takes_104 : decode cX12_takes 104 = .ok (.iastore, 1) := by decide +kernel
theorem dX12_takes_105 : decode cX12_takes 105 = .ok (.aload_n 0, 1) := by decide +kernel
theorem dX12_takes_106 : decode cX12_takes 106 = .ok (.getfield 65, 3) := by decide +kernel
theorem dX12_takes_109 : decode cX12_takes 109 = .ok (.sipush 500, 3) := by decide +kernel
theorem dX12_takes_112 : decode cX12_takes 112 = .ok (.iload_n 1, 1) := by decide +kernel
theorem dX12_takes_113 : decode cX12_takes 113 = .ok (.imul, 1) := by decide +kernel
theorem dX12_takes_114 : decode cX12_takes 114 = .ok (.iload_n 3, 1) := by decide +kernel
theorem dX12_takes_115 : decode cX12_takes 115 = .ok (.iadd, 1) := by decide +kernel
theorem dX12_takes_116 : decode cX12_takes 116 = .ok (.aload_n 0, 1) := by decide +kernel
theorem dX12_takes_117 : decode cX12_takes 117 = .ok (.getfield 65, 3) := by decide +kernel
theorem dX12_takes_120 : decode cX12_takes 120 = .ok (.sipush 1500, 3) := by decide +kernel
theorem dX12_takes_123 : decode cX12_takes 123 = .ok (.iload_n 3, 1) := by decide +kernel
theorem dX12_takes_124 : decode cX12_takes 124 = .ok (.iadd, 1) := by decide +kernel
theorem dX12_takes_125 : decode cX12_takes 125 = .ok (.iaload, 1) := by decide +kernel
theorem dX12_takes_126 : decode cX12_takes 126 = .ok (.iastore, 1) := by decide +kernel
theorem dX12_takes_127 : decode cX12_takes 127 = .ok (.iinc 3 1, 3) := by decide +kernel
theorem dX12_takes_130 : decode cX12_takes 130 = .ok (.goto (-55), 3) := by decide +kernel
theorem dX12_takes_133 : decode cX12_takes 133 = .ok (.aload_n 0, 1) := by decide +kernel
theorem dX12_takes_134 : decode cX12_takes 134 = .ok (.getfield 50, 3) := by decide +kernel
theorem dX12_takes_137 : decode cX12_takes 137 = .ok (.iload_n 1, 1) := by decide +kernel
theorem dX12_takes_138 : decode cX12_takes 138 = .ok (.iload_n 2, 1) := by decide +kernel
theorem dX12_takes_139 : decode cX12_takes 139 = .ok (.iastore, 1) := by decide +kernel
theorem dX12_takes_140 : decode cX12_takes 140 = .ok (.return_, 1) := by decide +kernel
theorem dX12_takesFails_0 : decode cX12_takesFails 0 = .ok (.iconst 0, 1) := by decide +kernel
theorem dX12_takesFails_1 : decode cX12_takesFails 1 = .ok (.istore_n 2, 1) := by decide +kernel
theorem dX12_takesFails_2 : decode cX12_takesFails 2 = .ok (.iload_n 2, 1) := by decide +kernel
theorem dX12_takesFails_3 : decode cX12_takesFails 3 = .ok (.iload_n 1, 1) := by decide +kernel
theorem dX12_takesFails_4 : decode cX12_takesFails 4 = .ok (.if_icmp .ge 93, 3) := by decide +kernel
theorem dX12_takesFails_7 : decode cX12_takesFails 7 = .ok (.aload_n 0, 1) := by decide +kernel
theorem dX12_takesFails_8 : decode cX12_takesFails 8 = .ok (.getfield 74, 3) := by decide +kernel
theorem dX12_takesFails_11 : decode cX12_takesFails 11 = .ok (.iload_n 2, 1) := by decide +kernel
theorem dX12_takesFails_12 : decode cX12_takesFails 12 = .ok (.aload_n 0, 1) := by decide +kernel
theorem dX12_takesFails_13 : decode cX12_takesFails 13 = .ok (.getfield 74, 3) := by decide +kernel
theorem dX12_takesFails_16 : decode cX12_takesFails 16 = .ok (.bipush 8, 2) := by decide +kernel
theorem dX12_takesFails_18 : decode cX12_takesFails 18 = .ok (.iload_n 2, 1) := by decide +kernel
theorem dX12_takesFails_19 : decode cX12_takesFails 19 = .ok (.iadd, 1) := by decide +kernel
theorem dX12_takesFails_20 : decode cX12_takesFails 20 = .ok (.iaload, 1) := by decide +kernel
theorem dX12_takesFails_21 : decode cX12_takesFails 21 = .ok (.iastore, 1) := by decide +kernel
theorem dX12_takesFails_22 : decode cX12_takesFails 22 = .ok (.aload_n 0, 1) := by decide +kernel
theorem dX12_takesFails_23 : decode cX12_takesFails 23 = .ok (.getfield 77, 3) := by decide +kernel
theorem dX12_takesFails_26 : decode cX12_takesFails 26 = .ok (.iload_n 2, 1) := by decide +kernel
theorem dX12_takesFails_27 : decode cX12_takesFails 27 = .ok (.aload_n 0, 1) := by decide +kernel
theorem dX12_takesFails_28 : decode cX12_takesFails 28 = .ok (.getfield 77, 3) := by decide +kernel
theorem dX12_takesFails_31 : decode cX12_takesFails 31 = .ok (.bipush 8, 2) := by decide +kernel
theorem dX12_takesFails_33 : decode cX12_takesFails 33 = .ok (.iload_n 2, 1) := by decide +kernel
theorem dX12_takesFails_34 : decode cX12_takesFails 34 = .ok (.iadd, 1) := by decide +kernel
theorem dX12_takesFails_35 : decode cX12_takesFails 35 = .ok (.iaload, 1) := by decide +kernel
theorem dX12_takesFails_36 : decode cX12_takesFails 36 = .ok (.iastore, 1) := by decide +kernel
theorem dX12_takesFails_37 : decode cX12_takesFails 37 = .ok (.aload_n 0, 1) := by decide +kernel
theorem dX12_takesFails_38 : decode cX12_takesFails 38 = .ok (.getfield 80, 3) := by decide +kernel
theorem dX12_takesFails_41 : decode cX12_takesFails 41 = .ok (.iload_n 2, 1) := by decide +kernel
theorem dX12_takesFails_42 : decode cX12_takesFails 42 = .ok (.aload_n 0, 1) := by decide +kernel
theorem dX12_takesFails_43 : decode cX12_takesFails 43 = .ok (.getfield 80, 3) := by decide +kernel
theorem dX12_takesFails_46 : decode cX12_takesFails 46 = .ok (.bipush 8, 2) := by decide +kernel
theorem dX12_takesFails_48 : decode cX12_takesFails 48 = .ok (.iload_n 2, 1) := by decide +kernel
theorem dX12_takesFails_49 : decode cX12_takesFails 49 = .ok (.iadd, 1) := by decide +kernel
theorem dX12_takesFails_50 : decode cX12_takesFails 50 = .ok (.iaload, 1) := by decide +kernel
theorem dX12_takesFails_51 : decode cX12_takesFails 51 = .ok (.iastore, 1) := by decide +kernel
theorem dX12_takesFails_52 : decode cX12_takesFails 52 = .ok (.iconst 0, 1) := by decide +kernel
theorem dX12_takesFails_53 : decode cX12_takesFails 53 = .ok (.istore_n 3, 1) := by decide +kernel
theorem dX12_takesFails_54 : decode cX12_takesFails 54 = .ok (.iload_n 3, 1) := by decide +kernel
theorem dX12_takesFails_55 : decode cX12_takesFails 55 = .ok (.bipush 8, 2) := by decide +kernel
theorem dX12_takesFails_57 : decode cX12_takesFails 57 = .ok (.if_icmp .ge 34, 3) := by decide +kernel
theorem dX12_takesFails_60 : decode cX12_takesFails 60 = .ok (.aload_n 0, 1) := by decide +kernel
theorem dX12_takesFails_61 : decode cX12_takesFails 61 = .ok (.getfield 83, 3) := by decide +kernel
theorem dX12_takesFails_64 : decode cX12_takesFails 64 = .ok (.bipush 8, 2) := by decide +kernel
theorem dX12_takesFails_66 : decode cX12_takesFails 66 = .ok (.iload_n 2, 1) := by decide +kernel
theorem dX12_takesFails_67 : decode cX12_takesFails 67 = .ok (.imul, 1) := by decide +kernel
theorem dX12_takesFails_68 : decode cX12_takesFails 68 = .ok (.iload_n 3, 1) := by decide +kernel
theorem dX12_takesFails_69 : decode cX12_takesFails 69 = .ok (.iadd, 1) := by decide +kernel
theorem dX12_takesFails_70 : decode cX12_takesFails 70 = .ok (.aload_n 0, 1) := by decide +kernel
theorem dX12_takesFails_71 : decode cX12_takesFails 71 = .ok (.getfield 83, 3) := by decide +kernel
theorem dX12_takesFails_74 : decode cX12_takesFails 74 = .ok (.bipush 8, 2) := by decide +kernel
theorem dX12_takesFails_76 : decode cX12_takesFails 76 = .ok (.bipush 8, 2) := by decide +kernel
theorem dX12_takesFails_78 : decode cX12_takesFails 78 = .ok (.iload_n 2, 1) := by decide +kernel
theorem dX12_takesFails_79 : decode cX12_takesFails 79 = .ok (.iadd, 1) := by decide +kernel
theorem dX12_takesFails_80 : decode cX12_takesFails 80 = .ok (.imul, 1) := by decide +kernel
theorem dX12_takesFails_81 : decode cX12_takesFails 81 = .ok (.iload_n 3, 1) := by decide +kernel
theorem dX12_takesFails_82 : decode cX12_takesFails 82 = .ok (.iadd, 1) := by decide +kernel
theorem dX12_takesFails_83 : decode cX12_takesFails 83 = .ok (.iaload, 1) := by decide +kernel
theorem dX12_takesFails_84 : decode cX12_takesFails 84 = .ok (.iastore, 1) := by decide +kernel
theorem dX12_takesFails_85 : decode cX12_takesFails 85 = .ok (.iinc 3 1, 3) := by decide +kernel
theorem dX12_takesFails_88 : decode cX12_takesFails 88 = .ok (.goto (-34), 3) := by decide +kernel
theorem dX12_takesFails_91 : decode cX12_takesFails 91 = .ok (.iinc 2 1, 3) := by decide +kernel
theorem dX12_takesFails_94 : decode cX12_takesFails 94 = .ok (.goto (-92), 3) := by decide +kernel
theorem dX12_takesFails_97 : decode cX12_takesFails 97 = .ok (.aload_n 0, 1) := by decide +kernel
theorem dX12_takesFails_98 : decode cX12_takesFails 98 = .ok (.iload_n 1, 1) := by decide +kernel
theorem dX12_takesFails_99 : decode cX12_takesFails 99 = .ok (.putfield 300, 3) := by decide +kernel
theorem dX12_takesFails_102 : decode cX12_takesFails 102 = .ok (.return_, 1) := by decide +kernel
theorem dX12_text_0 : decode cX12_text 0 = .ok (.aload_n 0, 1) := by decide +kernel
theorem dX12_text_1 : decode cX12_text 1 = .ok (.iconst 0, 1) := by decide +kernel
theorem dX12_text_2 : decode cX12_text 2 = .ok (.putfield 166, 3) := by decide +kernel
theorem dX12_text_5 : decode cX12_text 5 = .ok (.aload_n 0, 1) := by decide +kernel
theorem dX12_text_6 : decode cX12_text 6 = .ok (.iconst 0, 1) := by decide +kernel
theorem dX12_text_7 : decode cX12_text 7 = .ok (.putfield 303, 3) := by decide +kernel
theorem dX12_text_10 : decode cX12_text 10 = .ok (.aload_n 0, 1) := by decide +kernel
theorem dX12_text_11 : decode cX12_text 11 = .ok (.iconst (-1), 1) := by decide +kernel
theorem dX12_text_12 : decode cX12_text 12 = .ok (.putfield 71, 3) := by decide +kernel
theorem dX12_text_15 : decode cX12_text 15 = .ok (.aload_n 0, 1) := by decide +kernel
theorem dX12_text_16 : decode cX12_text 16 = .ok (.iload_n 1, 1) := by decide +kernel
theorem dX12_text_17 : decode cX12_text 17 = .ok (.iconst 0, 1) := by decide +kernel
theorem dX12_text_18 : decode cX12_text 18 = .ok (.iconst 3, 1) := by decide +kernel
theorem dX12_text_19 : decode cX12_text 19 = .ok (.invokevirtual 174, 3) := by decide +kernel
theorem dX12_text_22 : decode cX12_text 22 = .ok (.istore_n 2, 1) := by decide +kernel
theorem dX12_text_23 : decode cX12_text 23 = .ok (.aload_n 0, 1) := by decide +kernel
theorem dX12_text_24 : decode cX12_text 24 = .ok (.iload_n 1, 1) := by decide +kernel
theorem dX12_text_25 : decode cX12_text 25 = .ok (.ifCond .ne 7, 3) := by decide +kernel
theorem dX12_text_28 : decode cX12_text 28 = .ok (.iconst 1, 1) := by decide +kernel
theorem dX12_text_29 : decode cX12_text 29 = .ok (.goto 4, 3) := by decide +kernel
theorem dX12_text_32 : decode cX12_text 32 = .ok (.iconst 0, 1) := by decide +kernel
theorem dX12_text_33 : decode cX12_text 33 = .ok (.putfield 236, 3) := by decide +kernel
theorem dX12_text_36 : decode cX12_text 36 = .ok (.aload_n 0, 1) := by decide +kernel
theorem dX12_text_37 : decode cX12_text 37 = .ok (.iconst 0, 1) := by decide +kernel
theorem dX12_text_38 : decode cX12_text 38 = .ok (.putfield 199, 3) := by decide +kernel
theorem dX12_text_41 : decode cX12_text 41 = .ok (.aload_n 0, 1) := by decide +kernel
theorem dX12_text_42 : decode cX12_text 42 = .ok (.iconst 0, 1) := by decide +kernel
theorem dX12_text_43 : decode cX12_text 43 = .ok (.putfield 233, 3) := by decide +kernel
theorem dX12_text_46 : decode cX12_text 46 = .ok (.aload_n 0, 1) := by decide +kernel
theorem dX12_text_47 : decode cX12_text 47 = .ok (.iconst 0, 1) := by decide +kernel
theorem dX12_text_48 : decode cX12_text 48 = .ok (.putfield 270, 3) := by decide +kernel
theorem dX12_text_51 : decode cX12_text 51 = .ok (.aload_n 0, 1) := by decide +kernel
theorem dX12_text_52 : decode cX12_text 52 = .ok (.invokevirtual 251, 3) := by decide +kernel
theorem dX12_text_55 : decode cX12_text 55 = .ok (.iload_n 2, 1) := by decide +kernel
theorem dX12_text_56 : decode cX12_text 56 = .ok (.ifCond .ne 7, 3) := by decide +kernel
theorem dX12_text_59 : decode cX12_text 59 = .ok (.iconst (-1), 1) := by decide +kernel
theorem dX12_text_60 : decode cX12_text 60 = .ok (.goto 19, 3) := by decide +kernel
theorem dX12_text_63 : decode cX12_text 63 = .ok (.iload_n 1, 1) := by decide +kernel
theorem dX12_text_64 : decode cX12_text 64 = .ok (.iconst 3, 1) := by decide +kernel
theorem dX12_text_65 : decode cX12_text 65 = .ok (.if_icmp .ne 10, 3) := by decide +kernel
theorem dX12_text_68 : decode cX12_text 68 = .ok (.aload_n 0, 1) := by decide +kernel
theorem dX12_text_69 : decode cX12_text 69 = .ok (.invokevirtual 306, 3) := by decide +kernel
theorem dX12_text_72 : decode cX12_text 72 = .ok (.goto 7, 3) := by decide +kernel
theorem dX12_text_75 : decode cX12_text 75 = .ok (.aload_n 0, 1) := by decide +kernel
theorem dX12_text_76 : decode cX12_text 76 = .ok (.invokevirtual 309, 3) := by decide +kernel
theorem dX12_text_79 : decode cX12_text 79 = .ok (.istore_n 3, 1) := by decide +kernel
theorem dX12_text_80 : decode cX12_text 80 = .ok (.aload_n 0, 1) := by decide +kernel
theorem dX12_text_81 : decode cX12_text 81 = .ok (.iconst 0, 1) := by decide +kernel
theorem dX12_text_82 : decode cX12_text 82 = .ok (.putfield 192, 3) := by decide +kernel
theorem dX12_text_85 : decode cX12_text 85 = .ok (.iload_n 2, 1) := by decide +kernel
theorem dX12_text_86 : decode cX12_text 86 = .ok (.ifCond .eq 24, 3) := by decide +kernel
theorem dX12_text_89 : decode cX12_text 89 = .ok (.iload_n 3, 1) := by decide +kernel
theorem dX12_text_90 : decode cX12_text 90 = .ok (.iconst (-1), 1) := by decide +kernel
theorem dX12_text_91 : decode cX12_text 91 = .ok (.if_icmp .ne 19, 3) := by decide +kernel
theorem dX12_text_94 : decode cX12_text 94 = .ok (.aload_n 0, 1) := by decide +kernel
theorem dX12_text_95 : decode cX12_text 95 = .ok (.aload_n 0, 1) := by decide +kernel
theorem dX12_text_96 : decode cX12_text 96 = .ok (.getfield 227, 3) := by decide +kernel
theorem dX12_text_99 : decode cX12_text 99 = .ok (.putfield 303, 3) := by decide +kernel
theorem dX12_text_102 : decode cX12_text 102 = .ok (.aload_n 0, 1) := by decide +kernel
theorem dX12_text_103 : decode cX12_text 103 = .ok (.aload_n 0, 1) := by decide +kernel
theorem dX12_text_104 : decode cX12_text 104 = .ok (.getfield 230, 3) := by decide +kernel
theorem dX12_text_107 : decode cX12_text 107 = .ok (.putfield 71, 3) := by decide +kernel
theorem dX12_text_110 : decode cX12_text 110 = .ok (.iload_n 3, 1) := by decide +kernel
theorem dX12_text_111 : decode cX12_text 111 = .ok (.iconst (-1), 1) := by decide +kernel
theorem dX12_text_112 : decode cX12_text 112 = .ok (.if_icmp .ne 5, 3) := by decide +kernel
theorem dX12_text_115 : decode cX12_text 115 = .ok (.iconst (-1), 1) := by decide +kernel
theorem dX12_text_116 : decode cX12_text 116 = .ok (.ireturn, 1) := by decide +kernel
theorem dX12_text_117 : decode cX12_text 117 = .ok (.iload_n 1, 1) := by decide +kernel
theorem dX12_text_118 : decode cX12_text 118 = .ok (.iconst 3, 1) := by decide +kernel
theorem dX12_text_119 : decode cX12_text 119 = .ok (.if_icmp .ne 11, 3) := by decide +kernel
theorem dX12_text_122 : decode cX12_text 122 = .ok (.aload_n 0, 1) := by decide +kernel
theorem dX12_text_123 : decode cX12_text 123 = .ok (.iload_n 3, 1) := by decide +kernel
theorem dX12_text_124 : decode cX12_text 124 = .ok (.invokevirtual 312, 3) := by decide +kernel
theorem dX12_text_127 : decode cX12_text 127 = .ok (.goto 9, 3) := by decide +kernel
theorem dX12_text_130 : decode cX12_text 130 = .ok (.aload_n 0, 1) := by decide +kernel
theorem dX12_text_131 : decode cX12_text 131 = .ok (.iload_n 1, 1) := by decide +kernel
theorem dX12_text_132 : decode cX12_text 132 = .ok (.iload_n 3, 1) := by decide +kernel
theorem dX12_text_133 : decode cX12_text 133 = .ok (.invokevirtual 315, 3) := by decide +kernel
theorem dX12_text_136 : decode cX12_text 136 = .ok (.iload_n 3, 1) := by decide +kernel
theorem dX12_text_137 : decode cX12_text 137 = .ok (.ireturn, 1) := by decide +kernel
theorem dX12_fault_0 : decode cX12_fault 0 = .ok (.aload_n 0, 1) := by decide +kernel
theorem dX12_fault_1 : decode cX12_fault 1 = .ok (.iconst 0, 1) := by decide +kernel
theorem dX12_fault_2 : decode cX12_fault 2 = .ok (.putfield 166, 3) := by decide +kernel
theorem dX12_fault_5 : decode cX12_fault 5 = .ok (.iload_n 1, 1) := by decide +kernel
theorem dX12_fault_6 : decode cX12_fault 6 = .ok (.ifCond .ne 10, 3) := by decide +kernel
theorem dX12_fault_9 : decode cX12_fault 9 = .ok (.aload_n 0, 1) := by decide +kernel
theorem dX12_fault_10 : decode cX12_fault 10 = .ok (.getfield 303, 3) := by decide +kernel
theorem dX12_fault_13 : decode cX12_fault 13 = .ok (.goto 16, 3) := by decide +kernel
theorem dX12_fault_16 : decode cX12_fault 16 = .ok (.iload_n 1, 1) := by decide +kernel
theorem dX12_fault_17 : decode cX12_fault 17 = .ok (.iconst 1, 1) := by decide +kernel
theorem dX12_fault_18 : decode cX12_fault 18 = .ok (.if_icmp .ne 10, 3) := by decide +kernel
theorem dX12_fault_21 : decode cX12_fault 21 = .ok (.aload_n 0, 1) := by decide +kernel
theorem dX12_fault_22 : decode cX12_fault 22 = .ok (.getfield 71, 3) := by decide +kernel
theorem dX12_fault_25 : decode cX12_fault 25 = .ok (.goto 4, 3) := by decide +kernel
theorem dX12_fault_28 : decode cX12_fault 28 = .ok (.iconst (-1), 1) := by decide +kernel
theorem dX12_fault_29 : decode cX12_fault 29 = .ok (.ireturn, 1) := by decide +kernel
theorem dX12_twoOf_0 : decode cX12_twoOf 0 = .ok (.iload_n 1, 1) := by decide +kernel
theorem dX12_twoOf_1 : decode cX12_twoOf 1 = .ok (.iconst 2, 1) := by decide +kernel
theorem dX12_twoOf_2 : decode cX12_twoOf 2 = .ok (.if_icmp .ne 7, 3) := by decide +kernel
theorem dX12_twoOf_5 : decode cX12_twoOf 5 = .ok (.iload_n 2, 1) := by decide +kernel
theorem dX12_twoOf_6 : decode cX12_twoOf 6 = .ok (.iload_n 3, 1) := by decide +kernel
theorem dX12_twoOf_7 : decode cX12_twoOf 7 = .ok (.iadd, 1) := by decide +kernel
theorem dX12_twoOf_8 : decode cX12_twoOf 8 = .ok (.ireturn, 1) := by decide +kernel
theorem dX12_twoOf_9 : decode cX12_twoOf 9 = .ok (.iload_n 1, 1) := by decide +kernel
theorem dX12_twoOf_10 : decode cX12_twoOf 10 = .ok (.iconst 3, 1) := by decide +kernel
theorem dX12_twoOf_11 : decode cX12_twoOf 11 = .ok (.if_icmp .ne 7, 3) := by decide +kernel
theorem dX12_twoOf_14 : decode cX12_twoOf 14 = .ok (.iload_n 2, 1) := by decide +kernel
theorem dX12_twoOf_15 : decode cX12_twoOf 15 = .ok (.iload_n 3, 1) := by decide +kernel
theorem dX12_twoOf_16 : decode cX12_twoOf 16 = .ok (.isub, 1) := by decide +kernel
theorem dX12_twoOf_17 : decode cX12_twoOf 17 = .ok (.ireturn, 1) := by decide +kernel
theorem dX12_twoOf_18 : decode cX12_twoOf 18 = .ok (.iload_n 1, 1) := by decide +kernel
theorem dX12_twoOf_19 : decode cX12_twoOf 19 = .ok (.iconst 4, 1) := by decide +kernel
theorem dX12_twoOf_20 : decode cX12_twoOf 20 = .ok (.if_icmp .ne 7, 3) := by decide +kernel
theorem dX12_twoOf_23 : decode cX12_twoOf 23 = .ok (.iload_n 2, 1) := by decide +kernel
theorem dX12_twoOf_24 : decode cX12_twoOf 24 = .ok (.iload_n 3, 1) := by decide +kernel
theorem dX12_twoOf_25 : decode cX12_twoOf 25 = .ok (.imul, 1) := by decide +kernel
theorem dX12_twoOf_26 : decode cX12_twoOf 26 = .ok (.ireturn, 1) := by decide +kernel
theorem dX12_twoOf_27 : decode cX12_twoOf 27 = .ok (.iload_n 1, 1) := by decide +kernel
theorem dX12_twoOf_28 : decode cX12_twoOf 28 = .ok (.iconst 5, 1) := by decide +kernel
theorem dX12_twoOf_29 : decode cX12_twoOf 29 = .ok (.if_icmp .ne 7, 3) := by decide +kernel
theorem dX12_twoOf_32 : decode cX12_twoOf 32 = .ok (.iload_n 2, 1) := by decide +kernel
theorem dX12_twoOf_33 : decode cX12_twoOf 33 = .ok (.iload_n 3, 1) := by decide +kernel
theorem dX12_twoOf_34 : decode cX12_twoOf 34 = .ok (.idiv, 1) := by decide +kernel
theorem dX12_twoOf_35 : decode cX12_twoOf 35 = .ok (.ireturn, 1) := by decide +kernel
theorem dX12_twoOf_36 : decode cX12_twoOf 36 = .ok (.iload_n 1, 1) := by decide +kernel
theorem dX12_twoOf_37 : decode cX12_twoOf 37 = .ok (.bipush 6, 2) := by decide +kernel
theorem dX12_twoOf_39 : decode cX12_twoOf 39 = .ok (.if_icmp .ne 14, 3) := by decide +kernel
theorem dX12_twoOf_42 : decode cX12_twoOf 42 = .ok (.iload_n 2, 1) := by decide +kernel
theorem dX12_twoOf_43 : decode cX12_twoOf 43 = .ok (.iload_n 3, 1) := by decide +kernel
theorem dX12_twoOf_44 : decode cX12_twoOf 44 = .ok (.if_icmp .ge 7, 3) := by decide +kernel
theorem dX12_twoOf_47 : decode cX12_twoOf 47 = .ok (.iconst 1, 1) := by decide +kernel
theorem dX12_twoOf_48 : decode cX12_twoOf 48 = .ok (.goto 4, 3) := by decide +kernel
theorem dX12_twoOf_51 : decode cX12_twoOf 51 = .ok (.iconst 0, 1) := by decide +kernel
theorem dX12_twoOf_52 : decode cX12_twoOf 52 = .ok (.ireturn, 1) := by decide +kernel
theorem dX12_twoOf_53 : decode cX12_twoOf 53 = .ok (.iload_n 1, 1) := by decide +kernel
theorem dX12_twoOf_54 : decode cX12_twoOf 54 = .ok (.bipush 7, 2) := by decide +kernel
theorem dX12_twoOf_56 : decode cX12_twoOf 56 = .ok (.if_icmp .ne 14, 3) := by decide +kernel
theorem dX12_twoOf_59 : decode cX12_twoOf 59 = .ok (.iload_n 2, 1) := by decide +kernel
theorem dX12_twoOf_60 : decode cX12_twoOf 60 = .ok (.iload_n 3, 1) := by decide +kernel
theorem dX12_twoOf_61 : decode cX12_twoOf 61 = .ok (.if_icmp .ne 7, 3) := by decide +kernel
theorem dX12_twoOf_64 : decode cX12_twoOf 64 = .ok (.iconst 1, 1) := by decide +kernel
theorem dX12_twoOf_65 : decode cX12_twoOf 65 = .ok (.goto 4, 3) := by decide +kernel
theorem dX12_twoOf_68 : decode cX12_twoOf 68 = .ok (.iconst 0, 1) := by decide +kernel
theorem dX12_twoOf_69 : decode cX12_twoOf 69 = .ok (.ireturn, 1) := by decide +kernel
theorem dX12_twoOf_70 : decode cX12_twoOf 70 = .ok (.iload_n 1, 1) := by decide +kernel
theorem dX12_twoOf_71 : decode cX12_twoOf 71 = .ok (.bipush 8, 2) := by decide +kernel
theorem dX12_twoOf_73 : decode cX12_twoOf 73 = .ok (.if_icmp .ne 14, 3) := by decide +kernel
theorem dX12_twoOf_76 : decode cX12_twoOf 76 = .ok (.iload_n 2, 1) := by decide +kernel
theorem dX12_twoOf_77 : decode cX12_twoOf 77 = .ok (.iload_n 3, 1) := by decide +kernel
theorem dX12_twoOf_78 : decode cX12_twoOf 78 = .ok (.if_icmp .le 7, 3) := by decide +kernel
theorem dX12_twoOf_81 : decode cX12_twoOf 81 = .ok (.iconst 1, 1) := by decide +kernel
theorem dX12_twoOf_82 : decode cX12_twoOf 82 = .ok (.goto 4, 3) := by decide +kernel
theorem dX12_twoOf_85 : decode cX12_twoOf 85 = .ok (.iconst 0, 1) := by decide +kernel
theorem dX12_twoOf_86 : decode cX12_twoOf 86 = .ok (.ireturn, 1) := by decide +kernel
theorem dX12_twoOf_87 : decode cX12_twoOf 87 = .ok (.iload_n 1, 1) := by decide +kernel
theorem dX12_twoOf_88 : decode cX12_twoOf 88 = .ok (.bipush 10, 2) := by decide +kernel
theorem dX12_twoOf_90 : decode cX12_twoOf 90 = .ok (.if_icmp .ne 9, 3) := by decide +kernel
theorem dX12_twoOf_93 : decode cX12_twoOf 93 = .ok (.iload_n 2, 1) := by decide +kernel
theorem dX12_twoOf_94 : decode cX12_twoOf 94 = .ok (.iload_n 3, 1) := by decide +kernel
theorem dX12_twoOf_95 : decode cX12_twoOf 95 = .ok (.imul, 1) := by decide +kernel
theorem dX12_twoOf_96 : decode cX12_twoOf 96 = .ok (.goto 14, 3) := by decide +kernel
theorem dX12_twoOf_99 : decode cX12_twoOf 99 = .ok (.iload_n 2, 1) := by decide +kernel
theorem dX12_twoOf_100 : decode cX12_twoOf 100 = .ok (.iload_n 3, 1) := by decide +kernel
theorem dX12_twoOf_101 : decode cX12_twoOf 101 = .ok (.iadd, 1) := by decide +kernel
theorem dX12_twoOf_102 : decode cX12_twoOf 102 = .ok (.ifCond .le 7, 3) := by decide +kernel
theorem dX12_twoOf_105 : decode cX12_twoOf 105 = .ok (.iconst 1, 1) := by decide +kernel
theorem dX12_twoOf_106 : decode cX12_twoOf 106 = .ok (.goto 4, 3) := by decide +kernel
theorem dX12_twoOf_109 : decode cX12_twoOf 109 = .ok (.iconst 0, 1) := by decide +kernel
theorem dX12_twoOf_110 : decode cX12_twoOf 110 = .ok (.ireturn, 1) := by decide +kernel
theorem dX12_worth_0 : decode cX12_worth 0 = .ok (.iconst 0, 1) := by decide +kernel
theorem dX12_worth_1 : decode cX12_worth 1 = .ok (.istore 4, 2) := by decide +kernel
theorem dX12_worth_3 : decode cX12_worth 3 = .ok (.sipush 500, 3) := by decide +kernel
theorem dX12_worth_6 : decode cX12_worth 6 = .ok (.iload_n 1, 1) := by decide +kernel
theorem dX12_worth_7 : decode cX12_worth 7 = .ok (.imul, 1) := by decide +kernel
theorem dX12_worth_8 : decode cX12_worth 8 = .ok (.iload_n 2, 1) := by decide +kernel
theorem dX12_worth_9 : decode cX12_worth 9 = .ok (.iadd, 1) := by decide +kernel
theorem dX12_worth_10 : decode cX12_worth 10 = .ok (.istore 5, 2) := by decide +kernel
theorem dX12_worth_12 : decode cX12_worth 12 = .ok (.iload 5, 2) := by decide +kernel
theorem dX12_worth_14 : decode cX12_worth 14 = .ok (.sipush 500, 3) := by decide +kernel
theorem dX12_worth_17 : decode cX12_worth 17 = .ok (.iload_n 1, 1) := by decide +kernel
theorem dX12_worth_18 : decode cX12_worth 18 = .ok (.imul, 1) := by decide +kernel
theorem dX12_worth_19 : decode cX12_worth 19 = .ok (.iload_n 3, 1) := by decide +kernel
theorem dX12_worth_20 : decode cX12_worth 20 = .ok (.iadd, 1) := by decide +kernel
theorem dX12_worth_21 : decode cX12_worth 21 = .ok (.if_icmp .ge 155, 3) := by decide +kernel
theorem dX12_worth_24 : decode cX12_worth 24 = .ok (.aload_n 0, 1) := by decide +kernel
theorem dX12_worth_25 : decode cX12_worth 25 = .ok (.getfield 62, 3) := by decide +kernel
theorem dX12_worth_28 : decode cX12_worth 28 = .ok (.iload 5, 2) := by decide +kernel
theorem dX12_worth_30 : decode cX12_worth 30 = .ok (.iaload, 1) := by decide +kernel
theorem dX12_worth_31 : decode cX12_worth 31 = .ok (.ifCond .eq 14, 3) := by decide +kernel
theorem dX12_worth_34 : decode cX12_worth 34 = .ok (.aload_n 0, 1) := by decide +kernel
theorem dX12_worth_35 : decode cX12_worth 35 = .ok (.getfield 62, 3) := by decide +kernel
theorem dX12_worth_38 : decode cX12_worth 38 = .ok (.iload 5, 2) := by decide +kernel
theorem dX12_worth_40 : decode cX12_worth 40 = .ok (.iaload, 1) := by decide +kernel
theorem dX12_worth_41 : decode cX12_worth 41 = .ok (.iconst 1, 1) := by decide +kernel
theorem dX12_worth_42 : decode cX12_worth 42 = .ok (.if_icmp .ne 51, 3) := by decide +kernel
theorem dX12_worth_45 : decode cX12_worth 45 = .ok (.aload_n 0, 1) := by decide +kernel
theorem dX12_worth_46 : decode cX12_worth 46 = .ok (.getfield 89, 3) := by decide +kernel
theorem dX12_worth_49 : decode cX12_worth 49 = .ok (.iload 4, 2) := by decide +kernel
theorem dX12_worth_51 : decode cX12_worth 51 = .ok (.aload_n 0, 1) := by decide +kernel
theorem dX12_worth_52 : decode cX12_worth 52 = .ok (.getfield 62, 3) := by decide +kernel
theorem dX12_worth_55 : decode cX12_worth 55 = .ok (.iload 5, 2) := by decide +kernel
theorem dX12_worth_57 : decode cX12_worth 57 = .ok (.iaload, 1) := by decide +kernel
theorem dX12_worth_58 : decode cX12_worth 58 = .ok (.ifCond .ne 13, 3) := by decide +kernel
theorem dX12_worth_61 : decode cX12_worth 61 = .ok (.aload_n 0, 1) := by decide +kernel
theorem dX12_worth_62 : decode cX12_worth 62 = .ok (.getfield 65, 3) := by decide +kernel
theorem dX12_worth_65 : decode cX12_worth 65 = .ok (.iload 5, 2) := by decide +kernel
theorem dX12_worth_67 : decode cX12_worth 67 = .ok (.iaload, 1) := by decide +kernel
theorem dX12_worth_68 : decode cX12_worth 68 = .ok (.goto 15, 3) := by decide +kernel
theorem dX12_worth_71 : decode cX12_worth 71 = .ok (.aload_n 0, 1) := by decide +kernel
theorem dX12_worth_72 : decode cX12_worth 72 = .ok (.getfield 86, 3) := by decide +kernel
theorem dX12_worth_75 : decode cX12_worth 75 = .ok (.aload_n 0, 1) := by decide +kernel
theorem dX12_worth_76 : decode cX12_worth 76 = .ok (.getfield 65, 3) := by decide +kernel
theorem dX12_worth_79 : decode cX12_worth 79 = .ok (.iload 5, 2) := by decide +kernel
theorem dX12_worth_81 : decode cX12_worth 81 = .ok (.iaload, 1) := by decide +kernel
theorem dX12_worth_82 : decode cX12_worth 82 = .ok (.iaload, 1) := by decide +kernel
theorem dX12_worth_83 : decode cX12_worth 83 = .ok (.iastore, 1) := by decide +kernel
theorem dX12_worth_84 : decode cX12_worth 84 = .ok (.iload 4, 2) := by decide +kernel
theorem dX12_worth_86 : decode cX12_worth 86 = .ok (.iconst 1, 1) := by decide +kernel
theorem dX12_worth_87 : decode cX12_worth 87 = .ok (.iadd, 1) := by decide +kernel
theorem dX12_worth_88 : decode cX12_worth 88 = .ok (.istore 4, 2) := by decide +kernel
theorem dX12_worth_90 : decode cX12_worth 90 = .ok (.goto 80, 3) := by decide +kernel
theorem dX12_worth_93 : decode cX12_worth 93 = .ok (.aload_n 0, 1) := by decide +kernel
theorem dX12_worth_94 : decode cX12_worth 94 = .ok (.getfield 62, 3) := by decide +kernel
theorem dX12_worth_97 : decode cX12_worth 97 = .ok (.iload 5, 2) := by decide +kernel
theorem dX12_worth_99 : decode cX12_worth 99 = .ok (.iaload, 1) := by decide +kernel
theorem dX12_worth_100 : decode cX12_worth 100 = .ok (.bipush 9, 2) := by decide +kernel
theorem dX12_worth_102 : decode cX12_worth 102 = .ok (.if_icmp .ne 26, 3) := by decide +kernel
theorem dX12_worth_105 : decode cX12_worth 105 = .ok (.aload_n 0, 1) := by decide +kernel
theorem dX12_worth_106 : decode cX12_worth 106 = .ok (.getfield 89, 3) := by decide +kernel
theorem dX12_worth_109 : decode cX12_worth 109 = .ok (.iload 4, 2) := by decide +kernel
theorem dX12_worth_111 : decode cX12_worth 111 = .ok (.iconst 1, 1) := by decide +kernel
theorem dX12_worth_112 : decode cX12_worth 112 = .ok (.isub, 1) := by decide +kernel
theorem dX12_worth_113 : decode cX12_worth 113 = .ok (.iconst 1, 1) := by decide +kernel
theorem dX12_worth_114 : decode cX12_worth 114 = .ok (.aload_n 0, 1) := by decide +kernel
theorem dX12_worth_115 : decode cX12_worth 115 = .ok (.getfield 89, 3) := by decide +kernel
theorem dX12_worth_118 : decode cX12_worth 118 = .ok (.iload 4, 2) := by decide +kernel
theorem dX12_worth_120 : decode cX12_worth 120 = .ok (.iconst 1, 1) := by decide +kernel
theorem dX12_worth_121 : decode cX12_worth 121 = .ok (.isub, 1) := by decide +kernel
theorem dX12_worth_122 : decode cX12_worth 122 = .ok (.iaload, 1) := by decide +kernel
theorem dX12_worth_123 : decode cX12_worth 123 = .ok (.isub, 1) := by decide +kernel
theorem dX12_worth_124 : decode cX12_worth 124 = .ok (.iastore, 1) := by decide +kernel
theorem dX12_worth_125 : decode cX12_worth 125 = .ok (.goto 45, 3) := by decide +kernel
theorem dX12_worth_128 : decode cX12_worth 128 = .ok (.iload 4, 2) := by decide +kernel
theorem dX12_worth_130 : decode cX12_worth 130 = .ok (.iconst 1, 1) := by decide +kernel
theorem dX12_worth_131 : decode cX12_worth 131 = .ok (.isub, 1) := by decide +kernel
theorem dX12_worth_132 : decode cX12_worth 132 = .ok (.istore 4, 2) := by decide +kernel
theorem dX12_worth_134 : decode cX12_worth 134 = .ok (.aload_n 0, 1) := by decide +kernel
theorem dX12_worth_135 : decode cX12_worth 135 = .ok (.getfield 89, 3) := by decide +kernel
theorem dX12_worth_138 : decode cX12_worth 138 = .ok (.iload 4, 2) := by decide +kernel
theorem dX12_worth_140 : decode cX12_worth 140 = .ok (.iconst 1, 1) := by decide +kernel
theorem dX12_worth_141 : decode cX12_worth 141 = .ok (.isub, 1) := by decide +kernel
theorem dX12_worth_142 : decode cX12_worth 142 = .ok (.aload_n 0, 1) := by decide +kernel
theorem dX12_worth_143 : decode cX12_worth 143 = .ok (.aload_n 0, 1) := by decide +kernel
theorem dX12_worth_144 : decode cX12_worth 144 = .ok (.getfield 62, 3) := by decide +kernel
theorem dX12_worth_147 : decode cX12_worth 147 = .ok (.iload 5, 2) := by decide +kernel
theorem dX12_worth_149 : decode cX12_worth 149 = .ok (.iaload, 1) := by decide +kernel
theorem dX12_worth_150 : decode cX12_worth 150 = .ok (.aload_n 0, 1) := by decide +kernel
theorem dX12_worth_151 : decode cX12_worth 151 = .ok (.getfield 89, 3) := by decide +kernel
theorem dX12_worth_154 : decode cX12_worth 154 = .ok (.iload 4, 2) := by decide +kernel
theorem dX12_worth_156 : decode cX12_worth 156 = .ok (.iconst 1, 1) := by decide +kernel
theorem dX12_worth_157 : decode cX12_worth 157 = .ok (.isub, 1) := by decide +kernel
theorem dX12_worth_158 : decode cX12_worth 158 = .ok (.iaload, 1) := by decide +kernel
theorem dX12_worth_159 : decode cX12_worth 159 = .ok (.aload_n 0, 1) := by decide +kernel
theorem dX12_worth_160 : decode cX12_worth 160 = .ok (.getfield 89, 3) := by decide +kernel
theorem dX12_worth_163 : decode cX12_worth 163 = .ok (.iload 4, 2) := by decide +kernel
theorem dX12_worth_165 : decode cX12_worth 165 = .ok (.iaload, 1) := by decide +kernel
theorem dX12_worth_166 : decode cX12_worth 166 = .ok (.invokevirtual 318, 3) := by decide +kernel
theorem dX12_worth_169 : decode cX12_worth 169 = .ok (.iastore, 1) := by decide +kernel
theorem dX12_worth_170 : decode cX12_worth 170 = .ok (.iinc 5 1, 3) := by decide +kernel
theorem dX12_worth_173 : decode cX12_worth 173 = .ok (.goto (-161), 3) := by decide +kernel
theorem dX12_worth_176 : decode cX12_worth 176 = .ok (.aload_n 0, 1) := by decide +kernel
theorem dX12_worth_177 : decode cX12_worth 177 = .ok (.getfield 89, 3) := by decide +kernel
theorem dX12_worth_180 : decode cX12_worth 180 = .ok (.iconst 0, 1) := by decide +kernel
theorem dX12_worth_181 : decode cX12_worth 181 = .ok (.iaload, 1) := by decide +kernel
theorem dX12_worth_182 : decode cX12_worth 182 = .ok (.ireturn, 1) := by decide +kernel
theorem dX12_tells_0 : decode cX12_tells 0 = .ok (.bipush 16, 2) := by decide +kernel
theorem dX12_tells_2 : decode cX12_tells 2 = .ok (.iload_n 1, 1) := by decide +kernel
theorem dX12_tells_3 : decode cX12_tells 3 = .ok (.imul, 1) := by decide +kernel
theorem dX12_tells_4 : decode cX12_tells 4 = .ok (.istore_n 2, 1) := by decide +kernel
theorem dX12_tells_5 : decode cX12_tells 5 = .ok (.iload_n 2, 1) := by decide +kernel
theorem dX12_tells_6 : decode cX12_tells 6 = .ok (.bipush 16, 2) := by decide +kernel
theorem dX12_tells_8 : decode cX12_tells 8 = .ok (.iload_n 1, 1) := by decide +kernel
theorem dX12_tells_9 : decode cX12_tells 9 = .ok (.imul, 1) := by decide +kernel
theorem dX12_tells_10 : decode cX12_tells 10 = .ok (.aload_n 0, 1) := by decide +kernel
theorem dX12_tells_11 : decode cX12_tells 11 = .ok (.getfield 50, 3) := by decide +kernel
theorem dX12_tells_14 : decode cX12_tells 14 = .ok (.iload_n 1, 1) := by decide +kernel
theorem dX12_tells_15 : decode cX12_tells 15 = .ok (.iaload, 1) := by decide +kernel
theorem dX12_tells_16 : decode cX12_tells 16 = .ok (.iadd, 1) := by decide +kernel
theorem dX12_tells_17 : decode cX12_tells 17 = .ok (.if_icmp .ge 62, 3) := by decide +kernel
theorem dX12_tells_20 : decode cX12_tells 20 = .ok (.aload_n 0, 1) := by decide +kernel
theorem dX12_tells_21 : decode cX12_tells 21 = .ok (.getfield 59, 3) := by decide +kernel
theorem dX12_tells_24 : decode cX12_tells 24 = .ok (.iload_n 2, 1) := by decide +kernel
theorem dX12_tells_25 : decode cX12_tells 25 = .ok (.iaload, 1) := by decide +kernel
theorem dX12_tells_26 : decode cX12_tells 26 = .ok (.aload_n 0, 1) := by decide +kernel
theorem dX12_tells_27 : decode cX12_tells 27 = .ok (.getfield 56, 3) := by decide +kernel
theorem dX12_tells_30 : decode cX12_tells 30 = .ok (.iload_n 2, 1) := by decide +kernel
theorem dX12_tells_31 : decode cX12_tells 31 = .ok (.iaload, 1) := by decide +kernel
theorem dX12_tells_32 : decode cX12_tells 32 = .ok (.if_icmp .eq 23, 3) := by decide +kernel
theorem dX12_tells_35 : decode cX12_tells 35 = .ok (.aload_n 0, 1) := by decide +kernel
theorem dX12_tells_36 : decode cX12_tells 36 = .ok (.iload_n 1, 1) := by decide +kernel
theorem dX12_tells_37 : decode cX12_tells 37 = .ok (.aload_n 0, 1) := by decide +kernel
theorem dX12_tells_38 : decode cX12_tells 38 = .ok (.getfield 56, 3) := by decide +kernel
theorem dX12_tells_41 : decode cX12_tells 41 = .ok (.iload_n 2, 1) := by decide +kernel
theorem dX12_tells_42 : decode cX12_tells 42 = .ok (.iaload, 1) := by decide +kernel
theorem dX12_tells_43 : decode cX12_tells 43 = .ok (.aload_n 0, 1) := by decide +kernel
theorem dX12_tells_44 : decode cX12_tells 44 = .ok (.getfield 59, 3) := by decide +kernel
theorem dX12_tells_47 : decode cX12_tells 47 = .ok (.iload_n 2, 1) := by decide +kernel
theorem dX12_tells_48 : decode cX12_tells 48 = .ok (.iaload, 1) := by decide +kernel
theorem dX12_tells_49 : decode cX12_tells 49 = .ok (.invokevirtual 322, 3) := by decide +kernel
theorem dX12_tells_52 : decode cX12_tells 52 = .ok (.ifCond .eq 21, 3) := by decide +kernel
theorem dX12_tells_55 : decode cX12_tells 55 = .ok (.aload_n 0, 1) := by decide +kernel
theorem dX12_tells_56 : decode cX12_tells 56 = .ok (.iload_n 1, 1) := by decide +kernel
theorem dX12_tells_57 : decode cX12_tells 57 = .ok (.aload_n 0, 1) := by decide +kernel
theorem dX12_tells_58 : decode cX12_tells 58 = .ok (.getfield 53, 3) := by decide +kernel
theorem dX12_tells_61 : decode cX12_tells 61 = .ok (.iload_n 2, 1) := by decide +kernel
theorem dX12_tells_62 : decode cX12_tells 62 = .ok (.iaload, 1) := by decide +kernel
theorem dX12_tells_63 : decode cX12_tells 63 = .ok (.aload_n 0, 1) := by decide +kernel
theorem dX12_tells_64 : decode cX12_tells 64 = .ok (.getfield 56, 3) := by decide +kernel
theorem dX12_tells_67 : decode cX12_tells 67 = .ok (.iload_n 2, 1) := by decide +kernel
theorem dX12_tells_68 : decode cX12_tells 68 = .ok (.iaload, 1) := by decide +kernel
theorem dX12_tells_69 : decode cX12_tells 69 = .ok (.invokevirtual 322, 3) := by decide +kernel
theorem dX12_tells_72 : decode cX12_tells 72 = .ok (.ireturn, 1) := by decide +kernel
theorem dX12_tells_73 : decode cX12_tells 73 = .ok (.iinc 2 1, 3) := by decide +kernel
theorem dX12_tells_76 : decode cX12_tells 76 = .ok (.goto (-71), 3) := by decide +kernel
theorem dX12_tells_79 : decode cX12_tells 79 = .ok (.iconst 0, 1) := by decide +kernel
theorem dX12_tells_80 : decode cX12_tells 80 = .ok (.ireturn, 1) := by decide +kernel
theorem dX12_goesOf_0 : decode cX12_goesOf 0 = .ok (.aload_n 0, 1) := by decide +kernel
theorem dX12_goesOf_1 : decode cX12_goesOf 1 = .ok (.getfield 86, 3) := by decide +kernel
theorem dX12_goesOf_4 : decode cX12_goesOf 4 = .ok (.iconst 0, 1) := by decide +kernel
theorem dX12_goesOf_5 : decode cX12_goesOf 5 = .ok (.aload_n 0, 1) := by decide +kernel
theorem dX12_goesOf_6 : decode cX12_goesOf 6 = .ok (.getfield 32, 3) := by decide +kernel
theorem dX12_goesOf_9 : decode cX12_goesOf 9 = .ok (.iload_n 1, 1) := by decide +kernel
theorem dX12_goesOf_10 : decode cX12_goesOf 10 = .ok (.iaload, 1) := by decide +kernel
theorem dX12_goesOf_11 : decode cX12_goesOf 11 = .ok (.iastore, 1) := by decide +kernel
theorem dX12_goesOf_12 : decode cX12_goesOf 12 = .ok (.aload_n 0, 1) := by decide +kernel
theorem dX12_goesOf_13 : decode cX12_goesOf 13 = .ok (.getfield 86, 3) := by decide +kernel
theorem dX12_goesOf_16 : decode cX12_goesOf 16 = .ok (.iconst 1, 1) := by decide +kernel
theorem dX12_goesOf_17 : decode cX12_goesOf 17 = .ok (.iload_n 2, 1) := by decide +kernel
theorem dX12_goesOf_18 : decode cX12_goesOf 18 = .ok (.iastore, 1) := by decide +kernel
theorem dX12_goesOf_19 : decode cX12_goesOf 19 = .ok (.aload_n 0, 1) := by decide +kernel
theorem dX12_goesOf_20 : decode cX12_goesOf 20 = .ok (.getfield 86, 3) := by decide +kernel
theorem dX12_goesOf_23 : decode cX12_goesOf 23 = .ok (.iconst 2, 1) := by decide +kernel
theorem dX12_goesOf_24 : decode cX12_goesOf 24 = .ok (.iload_n 1, 1) := by decide +kernel
theorem dX12_goesOf_25 : decode cX12_goesOf 25 = .ok (.iastore, 1) := by decide +kernel
theorem dX12_goesOf_26 : decode cX12_goesOf 26 = .ok (.aload_n 0, 1) := by decide +kernel
theorem dX12_goesOf_27 : decode cX12_goesOf 27 = .ok (.getfield 86, 3) := by decide +kernel
theorem dX12_goesOf_30 : decode cX12_goesOf 30 = .ok (.iconst 3, 1) := by decide +kernel
theorem dX12_goesOf_31 : decode cX12_goesOf 31 = .ok (.iload_n 3, 1) := by decide +kernel
theorem dX12_goesOf_32 : decode cX12_goesOf 32 = .ok (.iastore, 1) := by decide +kernel
theorem dX12_goesOf_33 : decode cX12_goesOf 33 = .ok (.aload_n 0, 1) := by decide +kernel
theorem dX12_goesOf_34 : decode cX12_goesOf 34 = .ok (.getfield 86, 3) := by decide +kernel
theorem dX12_goesOf_37 : decode cX12_goesOf 37 = .ok (.iconst 4, 1) := by decide +kernel
theorem dX12_goesOf_38 : decode cX12_goesOf 38 = .ok (.iload 4, 2) := by decide +kernel
theorem dX12_goesOf_40 : decode cX12_goesOf 40 = .ok (.iastore, 1) := by decide +kernel
theorem dX12_goesOf_41 : decode cX12_goesOf 41 = .ok (.aload_n 0, 1) := by decide +kernel
theorem dX12_goesOf_42 : decode cX12_goesOf 42 = .ok (.getfield 86, 3) := by decide +kernel
theorem dX12_goesOf_45 : decode cX12_goesOf 45 = .ok (.iconst 5, 1) := by decide +kernel
theorem dX12_goesOf_46 : decode cX12_goesOf 46 = .ok (.aload_n 0, 1) := by decide +kernel
theorem dX12_goesOf_47 : decode cX12_goesOf 47 = .ok (.getfield 7, 3) := by decide +kernel
theorem dX12_goesOf_50 : decode cX12_goesOf 50 = .ok (.iastore, 1) := by decide +kernel
theorem dX12_goesOf_51 : decode cX12_goesOf 51 = .ok (.aload_n 0, 1) := by decide +kernel
theorem dX12_goesOf_52 : decode cX12_goesOf 52 = .ok (.getfield 86, 3) := by decide +kernel
theorem dX12_goesOf_55 : decode cX12_goesOf 55 = .ok (.bipush 6, 2) := by decide +kernel
theorem dX12_goesOf_57 : decode cX12_goesOf 57 = .ok (.aload_n 0, 1) := by decide +kernel
theorem dX12_goesOf_58 : decode cX12_goesOf 58 = .ok (.getfield 38, 3) := by decide +kernel
theorem dX12_goesOf_61 : decode cX12_goesOf 61 = .ok (.iconst 0, 1) := by decide +kernel
theorem dX12_goesOf_62 : decode cX12_goesOf 62 = .ok (.iaload, 1) := by decide +kernel
theorem dX12_goesOf_63 : decode cX12_goesOf 63 = .ok (.iastore, 1) := by decide +kernel
theorem dX12_goesOf_64 : decode cX12_goesOf 64 = .ok (.aload_n 0, 1) := by decide +kernel
theorem dX12_goesOf_65 : decode cX12_goesOf 65 = .ok (.getfield 86, 3) := by decide +kernel
theorem dX12_goesOf_68 : decode cX12_goesOf 68 = .ok (.bipush 7, 2) := by decide +kernel
theorem dX12_goesOf_70 : decode cX12_goesOf 70 = .ok (.iload 5, 2) := by decide +kernel
theorem dX12_goesOf_72 : decode cX12_goesOf 72 = .ok (.iastore, 1) := by decide +kernel
theorem dX12_goesOf_73 : decode cX12_goesOf 73 = .ok (.aload_n 0, 1) := by decide +kernel
theorem dX12_goesOf_74 : decode cX12_goesOf 74 = .ok (.getfield 86, 3) := by decide +kernel
theorem dX12_goesOf_77 : decode cX12_goesOf 77 = .ok (.bipush 8, 2) := by decide +kernel
theorem dX12_goesOf_79 : decode cX12_goesOf 79 = .ok (.aload_n 0, 1) := by decide +kernel
theorem dX12_goesOf_80 : decode cX12_goesOf 80 = .ok (.iconst 2, 1) := by decide +kernel
theorem dX12_goesOf_81 : decode cX12_goesOf 81 = .ok (.iload 4, 2) := by decide +kernel
theorem dX12_goesOf_83 : decode cX12_goesOf 83 = .ok (.imul, 1) := by decide +kernel
theorem dX12_goesOf_84 : decode cX12_goesOf 84 = .ok (.iconst 1, 1) := by decide +kernel
theorem dX12_goesOf_85 : decode cX12_goesOf 85 = .ok (.iadd, 1) := by decide +kernel
theorem dX12_goesOf_86 : decode cX12_goesOf 86 = .ok (.aload_n 0, 1) := by decide +kernel
theorem dX12_goesOf_87 : decode cX12_goesOf 87 = .ok (.getfield 7, 3) := by decide +kernel
theorem dX12_goesOf_90 : decode cX12_goesOf 90 = .ok (.isub, 1) := by decide +kernel
theorem dX12_goesOf_91 : decode cX12_goesOf 91 = .ok (.invokevirtual 325, 3) := by decide +kernel
theorem dX12_goesOf_94 : decode cX12_goesOf 94 = .ok (.iastore, 1) := by decide +kernel
theorem dX12_goesOf_95 : decode cX12_goesOf 95 = .ok (.aload_n 0, 1) := by decide +kernel
theorem dX12_goesOf_96 : decode cX12_goesOf 96 = .ok (.iconst 0, 1) := by decide +kernel
theorem dX12_goesOf_97 : decode cX12_goesOf 97 = .ok (.invokevirtual 328, 3) := by decide +kernel
theorem dX12_goesOf_100 : decode cX12_goesOf 100 = .ok (.istore 6, 2) := by decide +kernel
theorem dX12_goesOf_102 : decode cX12_goesOf 102 = .ok (.iload 6, 2) := by decide +kernel
theorem dX12_goesOf_104 : decode cX12_goesOf 104 = .ok (.ifCond .ge 7, 3) := by decide +kernel
theorem dX12_goesOf_107 : decode cX12_goesOf 107 = .ok (.iconst 0, 1) := by decide +kernel
theorem dX12_goesOf_108 : decode cX12_goesOf 108 = .ok (.goto 19, 3) := by decide +kernel
theorem dX12_goesOf_111 : decode cX12_goesOf 111 = .ok (.iload 6, 2) := by decide +kernel
theorem dX12_goesOf_113 : decode cX12_goesOf 113 = .ok (.sipush 1000, 3) := by decide +kernel
theorem dX12_goesOf_116 : decode cX12_goesOf 116 = .ok (.if_icmp .le 9, 3) := by decide +kernel
theorem dX12_goesOf_119 : decode cX12_goesOf 119 = .ok (.sipush 1000, 3) := by decide +kernel
theorem dX12_goesOf_122 : decode cX12_goesOf 122 = .ok (.goto 5, 3) := by decide +kernel
theorem dX12_goesOf_125 : decode cX12_goesOf 125 = .ok (.iload 6, 2) := by decide +kernel
theorem dX12_goesOf_127 : decode cX12_goesOf 127 = .ok (.ireturn, 1) := by decide +kernel
theorem dX12_besideOf_0 : decode cX12_besideOf 0 = .ok (.iload_n 1, 1) := by decide +kernel
theorem dX12_besideOf_1 : decode cX12_besideOf 1 = .ok (.ifCond .le 14, 3) := by decide +kernel
theorem dX12_besideOf_4 : decode cX12_besideOf 4 = .ok (.aload_n 0, 1) := by decide +kernel
theorem dX12_besideOf_5 : decode cX12_besideOf 5 = .ok (.getfield 20, 3) := by decide +kernel
theorem dX12_besideOf_8 : decode cX12_besideOf 8 = .ok (.iload_n 1, 1) := by decide +kernel
theorem dX12_besideOf_9 : decode cX12_besideOf 9 = .ok (.iconst 1, 1) := by decide +kernel
theorem dX12_besideOf_10 : decode cX12_besideOf 10 = .ok (.isub, 1) := by decide +kernel
theorem dX12_besideOf_11 : decode cX12_besideOf 11 = .ok (.iaload, 1) := by decide +kernel
theorem dX12_besideOf_12 : decode cX12_besideOf 12 = .ok (.goto 4, 3) := by decide +kernel
theorem dX12_besideOf_15 : decode cX12_besideOf 15 = .ok (.iconst 0, 1) := by decide +kernel
theorem dX12_besideOf_16 : decode cX12_besideOf 16 = .ok (.iload_n 1, 1) := by decide +kernel
theorem dX12_besideOf_17 : decode cX12_besideOf 17 = .ok (.aload_n 0, 1) := by decide +kernel
theorem dX12_besideOf_18 : decode cX12_besideOf 18 = .ok (.getfield 7, 3) := by decide +kernel
theorem dX12_besideOf_21 : decode cX12_besideOf 21 = .ok (.iconst 1, 1) := by decide +kernel
theorem dX12_besideOf_22 : decode cX12_besideOf 22 = .ok (.isub, 1) := by decide +kernel
theorem dX12_besideOf_23 : decode cX12_besideOf 23 = .ok (.if_icmp .ge 14, 3) := by decide +kernel
theorem dX12_besideOf_26 : decode cX12_besideOf 26 = .ok (.aload_n 0, 1) := by decide +kernel
theorem dX12_besideOf_27 : decode cX12_besideOf 27 = .ok (.getfield 20, 3) := by decide +kernel
theorem dX12_besideOf_30 : decode cX12_besideOf 30 = .ok (.iload_n 1, 1) := by decide +kernel
theorem dX12_besideOf_31 : decode cX12_besideOf 31 = .ok (.iconst 1, 1) := by decide +kernel
theorem dX12_besideOf_32 : decode cX12_besideOf 32 = .ok (.iadd, 1) := by decide +kernel
theorem dX12_besideOf_33 : decode cX12_besideOf 33 = .ok (.iaload, 1) := by decide +kernel
theorem dX12_besideOf_34 : decode cX12_besideOf 34 = .ok (.goto 4, 3) := by decide +kernel
theorem dX12_besideOf_37 : decode cX12_besideOf 37 = .ok (.iconst 0, 1) := by decide +kernel
theorem dX12_besideOf_38 : decode cX12_besideOf 38 = .ok (.iadd, 1) := by decide +kernel
theorem dX12_besideOf_39 : decode cX12_besideOf 39 = .ok (.ireturn, 1) := by decide +kernel
theorem dX12_goesNow_0 : decode cX12_goesNow 0 = .ok (.aload_n 0, 1) := by decide +kernel
theorem dX12_goesNow_1 : decode cX12_goesNow 1 = .ok (.aload_n 0, 1) := by decide +kernel
theorem dX12_goesNow_2 : decode cX12_goesNow 2 = .ok (.getfield 13, 3) := by decide +kernel
theorem dX12_goesNow_5 : decode cX12_goesNow 5 = .ok (.iload_n 1, 1) := by decide +kernel
theorem dX12_goesNow_6 : decode cX12_goesNow 6 = .ok (.iaload, 1) := by decide +kernel
theorem dX12_goesNow_7 : decode cX12_goesNow 7 = .ok (.aload_n 0, 1) := by decide +kernel
theorem dX12_goesNow_8 : decode cX12_goesNow 8 = .ok (.getfield 17, 3) := by decide +kernel
theorem dX12_goesNow_11 : decode cX12_goesNow 11 = .ok (.iload_n 1, 1) := by decide +kernel
theorem dX12_goesNow_12 : decode cX12_goesNow 12 = .ok (.iaload, 1) := by decide +kernel
theorem dX12_goesNow_13 : decode cX12_goesNow 13 = .ok (.aload_n 0, 1) := by decide +kernel
theorem dX12_goesNow_14 : decode cX12_goesNow 14 = .ok (.iload_n 1, 1) := by decide +kernel
theorem dX12_goesNow_15 : decode cX12_goesNow 15 = .ok (.invokevirtual 331, 3) := by decide +kernel
theorem dX12_goesNow_18 : decode cX12_goesNow 18 = .ok (.iload_n 1, 1) := by decide +kernel
theorem dX12_goesNow_19 : decode cX12_goesNow 19 = .ok (.aload_n 0, 1) := by decide +kernel
theorem dX12_goesNow_20 : decode cX12_goesNow 20 = .ok (.getfield 334, 3) := by decide +kernel
theorem dX12_goesNow_23 : decode cX12_goesNow 23 = .ok (.invokevirtual 337, 3) := by decide +kernel
theorem dX12_goesNow_26 : decode cX12_goesNow 26 = .ok (.ireturn, 1) := by decide +kernel
theorem dX12_urgeOf_0 : decode cX12_urgeOf 0 = .ok (.aload_n 0, 1) := by decide +kernel
theorem dX12_urgeOf_1 : decode cX12_urgeOf 1 = .ok (.getfield 86, 3) := by decide +kernel
theorem dX12_urgeOf_4 : decode cX12_urgeOf 4 = .ok (.iconst 1, 1) := by decide +kernel
theorem dX12_urgeOf_5 : decode cX12_urgeOf 5 = .ok (.aload_n 0, 1) := by decide +kernel
theorem dX12_urgeOf_6 : decode cX12_urgeOf 6 = .ok (.getfield 17, 3) := by decide +kernel
theorem dX12_urgeOf_9 : decode cX12_urgeOf 9 = .ok (.iload_n 2, 1) := by decide +kernel
theorem dX12_urgeOf_10 : decode cX12_urgeOf 10 = .ok (.iaload, 1) := by decide +kernel
theorem dX12_urgeOf_11 : decode cX12_urgeOf 11 = .ok (.iastore, 1) := by decide +kernel
theorem dX12_urgeOf_12 : decode cX12_urgeOf 12 = .ok (.aload_n 0, 1) := by decide +kernel
theorem dX12_urgeOf_13 : decode cX12_urgeOf 13 = .ok (.getfield 86, 3) := by decide +kernel
theorem dX12_urgeOf_16 : decode cX12_urgeOf 16 = .ok (.iconst 2, 1) := by decide +kernel
theorem dX12_urgeOf_17 : decode cX12_urgeOf 17 = .ok (.aload_n 0, 1) := by decide +kernel
theorem dX12_urgeOf_18 : decode cX12_urgeOf 18 = .ok (.getfield 13, 3) := by decide +kernel
theorem dX12_urgeOf_21 : decode cX12_urgeOf 21 = .ok (.iload_n 2, 1) := by decide +kernel
theorem dX12_urgeOf_22 : decode cX12_urgeOf 22 = .ok (.iaload, 1) := by decide +kernel
theorem dX12_urgeOf_23 : decode cX12_urgeOf 23 = .ok (.iastore, 1) := by decide +kernel
theorem dX12_urgeOf_24 : decode cX12_urgeOf 24 = .ok (.aload_n 0, 1) := by decide +kernel
theorem dX12_urgeOf_25 : decode cX12_urgeOf 25 = .ok (.getfield 86, 3) := by decide +kernel
theorem dX12_urgeOf_28 : decode cX12_urgeOf 28 = .ok (.iconst 3, 1) := by decide +kernel
theorem dX12_urgeOf_29 : decode cX12_urgeOf 29 = .ok (.aload_n 0, 1) := by decide +kernel
theorem dX12_urgeOf_30 : decode cX12_urgeOf 30 = .ok (.iload_n 2, 1) := by decide +kernel
theorem dX12_urgeOf_31 : decode cX12_urgeOf 31 = .ok (.invokevirtual 331, 3) := by decide +kernel
theorem dX12_urgeOf_34 : decode cX12_urgeOf 34 = .ok (.iastore, 1) := by decide +kernel
theorem dX12_urgeOf_35 : decode cX12_urgeOf 35 = .ok (.aload_n 0, 1) := by decide +kernel
theorem dX12_urgeOf_36 : decode cX12_urgeOf 36 = .ok (.getfield 86, 3) := by decide +kernel
theorem dX12_urgeOf_39 : decode cX12_urgeOf 39 = .ok (.iconst 4, 1) := by decide +kernel
theorem dX12_urgeOf_40 : decode cX12_urgeOf 40 = .ok (.iload_n 2, 1) := by decide +kernel
theorem dX12_urgeOf_41 : decode cX12_urgeOf 41 = .ok (.iastore, 1) := by decide +kernel
theorem dX12_urgeOf_42 : decode cX12_urgeOf 42 = .ok (.aload_n 0, 1) := by decide +kernel
theorem dX12_urgeOf_43 : decode cX12_urgeOf 43 = .ok (.getfield 86, 3) := by decide +kernel
theorem dX12_urgeOf_46 : decode cX12_urgeOf 46 = .ok (.iconst 5, 1) := by decide +kernel
theorem dX12_urgeOf_47 : decode cX12_urgeOf 47 = .ok (.aload_n 0, 1) := by decide +kernel
theorem dX12_urgeOf_48 : decode cX12_urgeOf 48 = .ok (.getfield 7, 3) := by decide +kernel
theorem dX12_urgeOf_51 : decode cX12_urgeOf 51 = .ok (.iastore, 1) := by decide +kernel
theorem dX12_urgeOf_52 : decode cX12_urgeOf 52 = .ok (.aload_n 0, 1) := by decide +kernel
theorem dX12_urgeOf_53 : decode cX12_urgeOf 53 = .ok (.getfield 86, 3) := by decide +kernel
theorem dX12_urgeOf_56 : decode cX12_urgeOf 56 = .ok (.bipush 7, 2) := by decide +kernel
theorem dX12_urgeOf_58 : decode cX12_urgeOf 58 = .ok (.aload_n 0, 1) := by decide +kernel
theorem dX12_urgeOf_59 : decode cX12_urgeOf 59 = .ok (.getfield 334, 3) := by decide +kernel
theorem dX12_urgeOf_62 : decode cX12_urgeOf 62 = .ok (.iastore, 1) := by decide +kernel
theorem dX12_urgeOf_63 : decode cX12_urgeOf 63 = .ok (.aload_n 0, 1) := by decide +kernel
theorem dX12_urgeOf_64 : decode cX12_urgeOf 64 = .ok (.getfield 86, 3) := by decide +kernel
theorem dX12_urgeOf_67 : decode cX12_urgeOf 67 = .ok (.bipush 9, 2) := by decide +kernel
theorem dX12_urgeOf_69 : decode cX12_urgeOf 69 = .ok (.iload_n 2, 1) := by decide +kernel
theorem dX12_urgeOf_70 : decode cX12_urgeOf 70 = .ok (.aload_n 0, 1) := by decide +kernel
theorem dX12_urgeOf_71 : decode cX12_urgeOf 71 = .ok (.getfield 334, 3) := by decide +kernel
theorem dX12_urgeOf_74 : decode cX12_urgeOf 74 = .ok (.iadd, 1) := by decide +kernel
theorem dX12_urgeOf_75 : decode cX12_urgeOf 75 = .ok (.aload_n 0, 1) := by decide +kernel
theorem dX12_urgeOf_76 : decode cX12_urgeOf 76 = .ok (.getfield 38, 3) := by decide +kernel
theorem dX12_urgeOf_79 : decode cX12_urgeOf 79 = .ok (.iconst 1, 1) := by decide +kernel
theorem dX12_urgeOf_80 : decode cX12_urgeOf 80 = .ok (.iaload, 1) := by decide +kernel
theorem dX12_urgeOf_81 : decode cX12_urgeOf 81 = .ok (.irem, 1) := by decide +kernel
theorem dX12_urgeOf_82 : decode cX12_urgeOf 82 = .ok (.iastore, 1) := by decide +kernel
theorem dX12_urgeOf_83 : decode cX12_urgeOf 83 = .ok (.aload_n 0, 1) := by decide +kernel
theorem dX12_urgeOf_84 : decode cX12_urgeOf 84 = .ok (.getfield 86, 3) := by decide +kernel
theorem dX12_urgeOf_87 : decode cX12_urgeOf 87 = .ok (.bipush 10, 2) := by decide +kernel
theorem dX12_urgeOf_89 : decode cX12_urgeOf 89 = .ok (.aload_n 0, 1) := by decide +kernel
theorem dX12_urgeOf_90 : decode cX12_urgeOf 90 = .ok (.getfield 23, 3) := by decide +kernel
theorem dX12_urgeOf_93 : decode cX12_urgeOf 93 = .ok (.iload_n 2, 1) := by decide +kernel
theorem dX12_urgeOf_94 : decode cX12_urgeOf 94 = .ok (.iaload, 1) := by decide +kernel
theorem dX12_urgeOf_95 : decode cX12_urgeOf 95 = .ok (.ifCond .ne 12, 3) := by decide +kernel
theorem dX12_urgeOf_98 : decode cX12_urgeOf 98 = .ok (.aload_n 0, 1) := by decide +kernel
theorem dX12_urgeOf_99 : decode cX12_urgeOf 99 = .ok (.getfield 334, 3) := by decide +kernel
theorem dX12_urgeOf_102 : decode cX12_urgeOf 102 = .ok (.iconst 1, 1) := by decide +kernel
theorem dX12_urgeOf_103 : decode cX12_urgeOf 103 = .ok (.iadd, 1) := by decide +kernel
theorem dX12_urgeOf_104 : decode cX12_urgeOf 104 = .ok (.goto 16, 3) := by decide +kernel
theorem dX12_urgeOf_107 : decode cX12_urgeOf 107 = .ok (.aload_n 0, 1) := by decide +kernel
theorem dX12_urgeOf_108 : decode cX12_urgeOf 108 = .ok (.getfield 334, 3) := by decide +kernel
theorem dX12_urgeOf_111 : decode cX12_urgeOf 111 = .ok (.iconst 1, 1) := by decide +kernel
theorem dX12_urgeOf_112 : decode cX12_urgeOf 112 = .ok (.iadd, 1) := by decide +kernel
theorem dX12_urgeOf_113 : decode cX12_urgeOf 113 = .ok (.aload_n 0, 1) := by decide +kernel
theorem dX12_urgeOf_114 : decode cX12_urgeOf 114 = .ok (.getfield 23, 3) := by decide +kernel
theorem dX12_urgeOf_117 : decode cX12_urgeOf 117 = .ok (.iload_n 2, 1) := by decide +kernel
theorem dX12_urgeOf_118 : decode cX12_urgeOf 118 = .ok (.iaload, 1) := by decide +kernel
theorem dX12_urgeOf_119 : decode cX12_urgeOf 119 = .ok (.isub, 1) := by decide +kernel
theorem dX12_urgeOf_120 : decode cX12_urgeOf 120 = .ok (.iastore, 1) := by decide +kernel
theorem dX12_urgeOf_121 : decode cX12_urgeOf 121 = .ok (.aload_n 0, 1) := by decide +kernel
theorem dX12_urgeOf_122 : decode cX12_urgeOf 122 = .ok (.getfield 86, 3) := by decide +kernel
theorem dX12_urgeOf_125 : decode cX12_urgeOf 125 = .ok (.bipush 11, 2) := by decide +kernel
theorem dX12_urgeOf_127 : decode cX12_urgeOf 127 = .ok (.aload_n 0, 1) := by decide +kernel
theorem dX12_urgeOf_128 : decode cX12_urgeOf 128 = .ok (.getfield 20, 3) := by decide +kernel
theorem dX12_urgeOf_131 : decode cX12_urgeOf 131 = .ok (.iload_n 2, 1) := by decide +kernel
theorem dX12_urgeOf_132 : decode cX12_urgeOf 132 = .ok (.iaload, 1) := by decide +kernel
theorem dX12_urgeOf_133 : decode cX12_urgeOf 133 = .ok (.iastore, 1) := by decide +kernel
theorem dX12_urgeOf_134 : decode cX12_urgeOf 134 = .ok (.aload_n 0, 1) := by decide +kernel
theorem dX12_urgeOf_135 : decode cX12_urgeOf 135 = .ok (.iload_n 1, 1) := by decide +kernel
theorem dX12_urgeOf_136 : decode cX12_urgeOf 136 = .ok (.invokevirtual 328, 3) := by decide +kernel
theorem dX12_urgeOf_139 : decode cX12_urgeOf 139 = .ok (.ireturn, 1) := by decide +kernel
theorem dX12_guessOf_0 : decode cX12_guessOf 0 = .ok (.aload_n 0, 1) := by decide +kernel
theorem dX12_guessOf_1 : decode cX12_guessOf 1 = .ok (.getfield 23, 3) := by decide +kernel
theorem dX12_guessOf_4 : decode cX12_guessOf 4 = .ok (.iload_n 1, 1) := by decide +kernel
theorem dX12_guessOf_5 : decode cX12_guessOf 5 = .ok (.iaload, 1) := by decide +kernel
theorem dX12_guessOf_6 : decode cX12_guessOf 6 = .ok (.ifCond .ne 7, 3) := by decide +kernel
theorem dX12_guessOf_9 : decode cX12_guessOf 9 = .ok (.sipush 500, 3) := by decide +kernel
theorem dX12_guessOf_12 : decode cX12_guessOf 12 = .ok (.ireturn, 1) := by decide +kernel
theorem dX12_guessOf_13 : decode cX12_guessOf 13 = .ok (.aload_n 0, 1) := by decide +kernel
theorem dX12_guessOf_14 : decode cX12_guessOf 14 = .ok (.getfield 26, 3) := by decide +kernel
theorem dX12_guessOf_17 : decode cX12_guessOf 17 = .ok (.iload_n 1, 1) := by decide +kernel
theorem dX12_guessOf_18 : decode cX12_guessOf 18 = .ok (.iaload, 1) := by decide +kernel
theorem dX12_guessOf_19 : decode cX12_guessOf 19 = .ok (.iconst 1, 1) := by decide +kernel
theorem dX12_guessOf_20 : decode cX12_guessOf 20 = .ok (.if_icmp .ne 7, 3) := by decide +kernel
theorem dX12_guessOf_23 : decode cX12_guessOf 23 = .ok (.sipush 1000, 3) := by decide +kernel
theorem dX12_guessOf_26 : decode cX12_guessOf 26 = .ok (.ireturn, 1) := by decide +kernel
theorem dX12_guessOf_27 : decode cX12_guessOf 27 = .ok (.sipush 1000, 3) := by decide +kernel
theorem dX12_guessOf_30 : decode cX12_guessOf 30 = .ok (.istore_n 2, 1) := by decide +kernel
theorem dX12_guessOf_31 : decode cX12_guessOf 31 = .ok (.aload_n 0, 1) := by decide +kernel
theorem dX12_guessOf_32 : decode cX12_guessOf 32 = .ok (.aload_n 0, 1) := by decide +kernel
theorem dX12_guessOf_33 : decode cX12_guessOf 33 = .ok (.getfield 13, 3) := by decide +kernel
theorem dX12_guessOf_36 : decode cX12_guessOf 36 = .ok (.iload_n 1, 1) := by decide +kernel
theorem dX12_guessOf_37 : decode cX12_guessOf 37 = .ok (.iaload, 1) := by decide +kernel
theorem dX12_guessOf_38 : decode cX12_guessOf 38 = .ok (.aload_n 0, 1) := by decide +kernel
theorem dX12_guessOf_39 : decode cX12_guessOf 39 = .ok (.getfield 17, 3) := by decide +kernel
theorem dX12_guessOf_42 : decode cX12_guessOf 42 = .ok (.iload_n 1, 1) := by decide +kernel
theorem dX12_guessOf_43 : decode cX12_guessOf 43 = .ok (.iaload, 1) := by decide +kernel
theorem dX12_guessOf_44 : decode cX12_guessOf 44 = .ok (.iconst 0, 1) := by decide +kernel
theorem dX12_guessOf_45 : decode cX12_guessOf 45 = .ok (.iload_n 1, 1) := by decide +kernel
