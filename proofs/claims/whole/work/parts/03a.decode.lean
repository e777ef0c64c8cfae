theorem dX0_init_0 : decode cX0_init 0 = .ok (.aload_n 0, 1) := by decide +kernel
theorem dX0_init_1 : decode cX0_init 1 = .ok (.invokespecial 3, 3) := by decide +kernel
theorem dX0_init_4 : decode cX0_init 4 = .ok (.aload_n 0, 1) := by decide +kernel
theorem dX0_init_5 : decode cX0_init 5 = .ok (.bipush 12, 2) := by decide +kernel
theorem dX0_init_7 : decode cX0_init 7 = .ok (.newarray .int, 2) := by decide +kernel
theorem dX0_init_9 : decode cX0_init 9 = .ok (.putfield 11, 3) := by decide +kernel
theorem dX0_init_12 : decode cX0_init 12 = .ok (.aload_n 0, 1) := by decide +kernel
theorem dX0_init_13 : decode cX0_init 13 = .ok (.bipush 64, 2) := by decide +kernel
theorem dX0_init_15 : decode cX0_init 15 = .ok (.newarray .int, 2) := by decide +kernel
theorem dX0_init_17 : decode cX0_init 17 = .ok (.putfield 17, 3) := by decide +kernel
theorem dX0_init_20 : decode cX0_init 20 = .ok (.return_, 1) := by decide +kernel
theorem dX0_goes_0 : decode cX0_goes 0 = .ok (.aload_n 0, 1) := by decide +kernel
theorem dX0_goes_1 : decode cX0_goes 1 = .ok (.aload_n 1, 1) := by decide +kernel
theorem dX0_goes_2 : decode cX0_goes 2 = .ok (.iload_n 3, 1) := by decide +kernel
theorem dX0_goes_3 : decode cX0_goes 3 = .ok (.iload 4, 2) := by decide +kernel
theorem dX0_goes_5 : decode cX0_goes 5 = .ok (.iload 5, 2) := by decide +kernel
theorem dX0_goes_7 : decode cX0_goes 7 = .ok (.invokevirtual 20, 3) := by decide +kernel
theorem dX0_goes_10 : decode cX0_goes 10 = .ok (.iconst 0, 1) := by decide +kernel
theorem dX0_goes_11 : decode cX0_goes 11 = .ok (.sipush 1000, 3) := by decide +kernel
theorem dX0_goes_14 : decode cX0_goes 14 = .ok (.aload_n 0, 1) := by decide +kernel
theorem dX0_goes_15 : decode cX0_goes 15 = .ok (.aload_n 2, 1) := by decide +kernel
theorem dX0_goes_16 : decode cX0_goes 16 = .ok (.invokevirtual 24, 3) := by decide +kernel
theorem dX0_goes_19 : decode cX0_goes 19 = .ok (.invokestatic 28, 3) := by decide +kernel
theorem dX0_goes_22 : decode cX0_goes 22 = .ok (.invokestatic 34, 3) := by decide +kernel
theorem dX0_goes_25 : decode cX0_goes 25 = .ok (.ireturn, 1) := by decide +kernel
theorem dX0_urge_0 : decode cX0_urge 0 = .ok (.aload_n 0, 1) := by decide +kernel
theorem dX0_urge_1 : decode cX0_urge 1 = .ok (.aload_n 1, 1) := by decide +kernel
theorem dX0_urge_2 : decode cX0_urge 2 = .ok (.iload_n 3, 1) := by decide +kernel
theorem dX0_urge_3 : decode cX0_urge 3 = .ok (.aload_n 1, 1) := by decide +kernel
theorem dX0_urge_4 : decode cX0_urge 4 = .ok (.getfield 37, 3) := by decide +kernel
theorem dX0_urge_7 : decode cX0_urge 7 = .ok (.iload_n 3, 1) := by decide +kernel
theorem dX0_urge_8 : decode cX0_urge 8 = .ok (.invokestatic 43, 3) := by decide +kernel
theorem dX0_urge_11 : decode cX0_urge 11 = .ok (.iconst 0, 1) := by decide +kernel
theorem dX0_urge_12 : decode cX0_urge 12 = .ok (.invokevirtual 20, 3) := by decide +kernel
theorem dX0_urge_15 : decode cX0_urge 15 = .ok (.aload_n 0, 1) := by decide +kernel
theorem dX0_urge_16 : decode cX0_urge 16 = .ok (.aload_n 2, 1) := by decide +kernel
theorem dX0_urge_17 : decode cX0_urge 17 = .ok (.invokevirtual 24, 3) := by decide +kernel
theorem dX0_urge_20 : decode cX0_urge 20 = .ok (.ireturn, 1) := by decide +kernel
theorem dX0_guess_0 : decode cX0_guess 0 = .ok (.aload_n 1, 1) := by decide +kernel
theorem dX0_guess_1 : decode cX0_guess 1 = .ok (.getfield 47, 3) := by decide +kernel
theorem dX0_guess_4 : decode cX0_guess 4 = .ok (.iload_n 3, 1) := by decide +kernel
theorem dX0_guess_5 : decode cX0_guess 5 = .ok (.iaload, 1) := by decide +kernel
theorem dX0_guess_6 : decode cX0_guess 6 = .ok (.iconst (-1), 1) := by decide +kernel
theorem dX0_guess_7 : decode cX0_guess 7 = .ok (.if_icmp .ne 7, 3) := by decide +kernel
theorem dX0_guess_10 : decode cX0_guess 10 = .ok (.sipush 500, 3) := by decide +kernel
theorem dX0_guess_13 : decode cX0_guess 13 = .ok (.ireturn, 1) := by decide +kernel
theorem dX0_guess_14 : decode cX0_guess 14 = .ok (.aload_n 1, 1) := by decide +kernel
theorem dX0_guess_15 : decode cX0_guess 15 = .ok (.getfield 50, 3) := by decide +kernel
theorem dX0_guess_18 : decode cX0_guess 18 = .ok (.iload_n 3, 1) := by decide +kernel
theorem dX0_guess_19 : decode cX0_guess 19 = .ok (.invokestatic 53, 3) := by decide +kernel
theorem dX0_guess_22 : decode cX0_guess 22 = .ok (.iconst 1, 1) := by decide +kernel
theorem dX0_guess_23 : decode cX0_guess 23 = .ok (.if_icmp .ne 7, 3) := by decide +kernel
theorem dX0_guess_26 : decode cX0_guess 26 = .ok (.sipush 1000, 3) := by decide +kernel
theorem dX0_guess_29 : decode cX0_guess 29 = .ok (.ireturn, 1) := by decide +kernel
theorem dX0_guess_30 : decode cX0_guess 30 = .ok (.sipush 1000, 3) := by decide +kernel
theorem dX0_guess_33 : decode cX0_guess 33 = .ok (.aload_n 0, 1) := by decide +kernel
theorem dX0_guess_34 : decode cX0_guess 34 = .ok (.aload_n 1, 1) := by decide +kernel
theorem dX0_guess_35 : decode cX0_guess 35 = .ok (.aload_n 2, 1) := by decide +kernel
theorem dX0_guess_36 : decode cX0_guess 36 = .ok (.iload_n 3, 1) := by decide +kernel
theorem dX0_guess_37 : decode cX0_guess 37 = .ok (.iconst 0, 1) := by decide +kernel
theorem dX0_guess_38 : decode cX0_guess 38 = .ok (.iconst 0, 1) := by decide +kernel
theorem dX0_guess_39 : decode cX0_guess 39 = .ok (.invokevirtual 56, 3) := by decide +kernel
theorem dX0_guess_42 : decode cX0_guess 42 = .ok (.isub, 1) := by decide +kernel
theorem dX0_guess_43 : decode cX0_guess 43 = .ok (.istore 4, 2) := by decide +kernel
theorem dX0_guess_45 : decode cX0_guess 45 = .ok (.sipush 1000, 3) := by decide +kernel
theorem dX0_guess_48 : decode cX0_guess 48 = .ok (.istore 5, 2) := by decide +kernel
theorem dX0_guess_50 : decode cX0_guess 50 = .ok (.aload_n 1, 1) := by decide +kernel
theorem dX0_guess_51 : decode cX0_guess 51 = .ok (.getfield 47, 3) := by decide +kernel
theorem dX0_guess_54 : decode cX0_guess 54 = .ok (.iload_n 3, 1) := by decide +kernel
theorem dX0_guess_55 : decode cX0_guess 55 = .ok (.iaload, 1) := by decide +kernel
theorem dX0_guess_56 : decode cX0_guess 56 = .ok (.istore 6, 2) := by decide +kernel
theorem dX0_guess_58 : decode cX0_guess 58 = .ok (.iload 6, 2) := by decide +kernel
theorem dX0_guess_60 : decode cX0_guess 60 = .ok (.aload_n 1, 1) := by decide +kernel
theorem dX0_guess_61 : decode cX0_guess 61 = .ok (.getfield 60, 3) := by decide +kernel
theorem dX0_guess_64 : decode cX0_guess 64 = .ok (.if_icmp .ge 20, 3) := by decide +kernel
theorem dX0_guess_67 : decode cX0_guess 67 = .ok (.iload 5, 2) := by decide +kernel
theorem dX0_guess_69 : decode cX0_guess 69 = .ok (.iload 4, 2) := by decide +kernel
theorem dX0_guess_71 : decode cX0_guess 71 = .ok (.imul, 1) := by decide +kernel
theorem dX0_guess_72 : decode cX0_guess 72 = .ok (.sipush 1000, 3) := by decide +kernel
theorem dX0_guess_75 : decode cX0_guess 75 = .ok (.idiv, 1) := by decide +kernel
theorem dX0_guess_76 : decode cX0_guess 76 = .ok (.istore 5, 2) := by decide +kernel
theorem dX0_guess_78 : decode cX0_guess 78 = .ok (.iinc 6 1, 3) := by decide +kernel
theorem dX0_guess_81 : decode cX0_guess 81 = .ok (.goto (-23), 3) := by decide +kernel
theorem dX0_guess_84 : decode cX0_guess 84 = .ok (.sipush 1000, 3) := by decide +kernel
theorem dX0_guess_87 : decode cX0_guess 87 = .ok (.iload 5, 2) := by decide +kernel
theorem dX0_guess_89 : decode cX0_guess 89 = .ok (.isub, 1) := by decide +kernel
theorem dX0_guess_90 : decode cX0_guess 90 = .ok (.ireturn, 1) := by decide +kernel
theorem dX0_name_0 : decode cX0_name 0 = .ok (.aload_n 1, 1) := by decide +kernel
theorem dX0_name_1 : decode cX0_name 1 = .ok (.getfield 60, 3) := by decide +kernel
theorem dX0_name_4 : decode cX0_name 4 = .ok (.iload 4, 2) := by decide +kernel
theorem dX0_name_6 : decode cX0_name 6 = .ok (.iadd, 1) := by decide +kernel
theorem dX0_name_7 : decode cX0_name 7 = .ok (.istore 5, 2) := by decide +kernel
theorem dX0_name_9 : decode cX0_name 9 = .ok (.aload_n 0, 1) := by decide +kernel
theorem dX0_name_10 : decode cX0_name 10 = .ok (.getfield 11, 3) := by decide +kernel
theorem dX0_name_13 : decode cX0_name 13 = .ok (.iconst 0, 1) := by decide +kernel
theorem dX0_name_14 : decode cX0_name 14 = .ok (.aload_n 1, 1) := by decide +kernel
theorem dX0_name_15 : decode cX0_name 15 = .ok (.getfield 64, 3) := by decide +kernel
theorem dX0_name_18 : decode cX0_name 18 = .ok (.aload_n 1, 1) := by decide +kernel
theorem dX0_name_19 : decode cX0_name 19 = .ok (.getfield 67, 3) := by decide +kernel
theorem dX0_name_22 : decode cX0_name 22 = .ok (.iload_n 2, 1) := by decide +kernel
theorem dX0_name_23 : decode cX0_name 23 = .ok (.iaload, 1) := by decide +kernel
theorem dX0_name_24 : decode cX0_name 24 = .ok (.iaload, 1) := by decide +kernel
theorem dX0_name_25 : decode cX0_name 25 = .ok (.iastore, 1) := by decide +kernel
theorem dX0_name_26 : decode cX0_name 26 = .ok (.aload_n 0, 1) := by decide +kernel
theorem dX0_name_27 : decode cX0_name 27 = .ok (.getfield 11, 3) := by decide +kernel
theorem dX0_name_30 : decode cX0_name 30 = .ok (.iconst 1, 1) := by decide +kernel
theorem dX0_name_31 : decode cX0_name 31 = .ok (.aload_n 1, 1) := by decide +kernel
theorem dX0_name_32 : decode cX0_name 32 = .ok (.getfield 70, 3) := by decide +kernel
theorem dX0_name_35 : decode cX0_name 35 = .ok (.iload_n 2, 1) := by decide +kernel
theorem dX0_name_36 : decode cX0_name 36 = .ok (.iaload, 1) := by decide +kernel
theorem dX0_name_37 : decode cX0_name 37 = .ok (.iload 4, 2) := by decide +kernel
theorem dX0_name_39 : decode cX0_name 39 = .ok (.iadd, 1) := by decide +kernel
theorem dX0_name_40 : decode cX0_name 40 = .ok (.iastore, 1) := by decide +kernel
theorem dX0_name_41 : decode cX0_name 41 = .ok (.aload_n 0, 1) := by decide +kernel
theorem dX0_name_42 : decode cX0_name 42 = .ok (.getfield 11, 3) := by decide +kernel
theorem dX0_name_45 : decode cX0_name 45 = .ok (.iconst 2, 1) := by decide +kernel
theorem dX0_name_46 : decode cX0_name 46 = .ok (.aload_n 1, 1) := by decide +kernel
theorem dX0_name_47 : decode cX0_name 47 = .ok (.getfield 67, 3) := by decide +kernel
theorem dX0_name_50 : decode cX0_name 50 = .ok (.iload_n 2, 1) := by decide +kernel
theorem dX0_name_51 : decode cX0_name 51 = .ok (.iaload, 1) := by decide +kernel
theorem dX0_name_52 : decode cX0_name 52 = .ok (.iastore, 1) := by decide +kernel
theorem dX0_name_53 : decode cX0_name 53 = .ok (.aload_n 0, 1) := by decide +kernel
theorem dX0_name_54 : decode cX0_name 54 = .ok (.getfield 11, 3) := by decide +kernel
theorem dX0_name_57 : decode cX0_name 57 = .ok (.iconst 3, 1) := by decide +kernel
theorem dX0_name_58 : decode cX0_name 58 = .ok (.iload_n 3, 1) := by decide +kernel
theorem dX0_name_59 : decode cX0_name 59 = .ok (.iastore, 1) := by decide +kernel
theorem dX0_name_60 : decode cX0_name 60 = .ok (.aload_n 0, 1) := by decide +kernel
theorem dX0_name_61 : decode cX0_name 61 = .ok (.getfield 11, 3) := by decide +kernel
theorem dX0_name_64 : decode cX0_name 64 = .ok (.iconst 4, 1) := by decide +kernel
theorem dX0_name_65 : decode cX0_name 65 = .ok (.iload_n 2, 1) := by decide +kernel
theorem dX0_name_66 : decode cX0_name 66 = .ok (.iastore, 1) := by decide +kernel
theorem dX0_name_67 : decode cX0_name 67 = .ok (.aload_n 0, 1) := by decide +kernel
theorem dX0_name_68 : decode cX0_name 68 = .ok (.getfield 11, 3) := by decide +kernel
theorem dX0_name_71 : decode cX0_name 71 = .ok (.iconst 5, 1) := by decide +kernel
theorem dX0_name_72 : decode cX0_name 72 = .ok (.aload_n 1, 1) := by decide +kernel
theorem dX0_name_73 : decode cX0_name 73 = .ok (.getfield 73, 3) := by decide +kernel
theorem dX0_name_76 : decode cX0_name 76 = .ok (.iastore, 1) := by decide +kernel
theorem dX0_name_77 : decode cX0_name 77 = .ok (.aload_n 0, 1) := by decide +kernel
theorem dX0_name_78 : decode cX0_name 78 = .ok (.getfield 11, 3) := by decide +kernel
theorem dX0_name_81 : decode cX0_name 81 = .ok (.bipush 6, 2) := by decide +kernel
theorem dX0_name_83 : decode cX0_name 83 = .ok (.aload_n 1, 1) := by decide +kernel
theorem dX0_name_84 : decode cX0_name 84 = .ok (.getfield 76, 3) := by decide +kernel
theorem dX0_name_87 : decode cX0_name 87 = .ok (.iconst 0, 1) := by decide +kernel
theorem dX0_name_88 : decode cX0_name 88 = .ok (.iaload, 1) := by decide +kernel
theorem dX0_name_89 : decode cX0_name 89 = .ok (.iastore, 1) := by decide +kernel
theorem dX0_name_90 : decode cX0_name 90 = .ok (.aload_n 0, 1) := by decide +kernel
theorem dX0_name_91 : decode cX0_name 91 = .ok (.getfield 11, 3) := by decide +kernel
theorem dX0_name_94 : decode cX0_name 94 = .ok (.bipush 7, 2) := by decide +kernel
theorem dX0_name_96 : decode cX0_name 96 = .ok (.iload 5, 2) := by decide +kernel
theorem dX0_name_98 : decode cX0_name 98 = .ok (.iastore, 1) := by decide +kernel
theorem dX0_name_99 : decode cX0_name 99 = .ok (.aload_n 0, 1) := by decide +kernel
theorem dX0_name_100 : decode cX0_name 100 = .ok (.getfield 11, 3) := by decide +kernel
theorem dX0_name_103 : decode cX0_name 103 = .ok (.bipush 8, 2) := by decide +kernel
theorem dX0_name_105 : decode cX0_name 105 = .ok (.iconst 2, 1) := by decide +kernel
theorem dX0_name_106 : decode cX0_name 106 = .ok (.iload_n 2, 1) := by decide +kernel
theorem dX0_name_107 : decode cX0_name 107 = .ok (.imul, 1) := by decide +kernel
theorem dX0_name_108 : decode cX0_name 108 = .ok (.iconst 1, 1) := by decide +kernel
theorem dX0_name_109 : decode cX0_name 109 = .ok (.iadd, 1) := by decide +kernel
theorem dX0_name_110 : decode cX0_name 110 = .ok (.aload_n 1, 1) := by decide +kernel
theorem dX0_name_111 : decode cX0_name 111 = .ok (.getfield 73, 3) := by decide +kernel
theorem dX0_name_114 : decode cX0_name 114 = .ok (.isub, 1) := by decide +kernel
theorem dX0_name_115 : decode cX0_name 115 = .ok (.invokestatic 79, 3) := by decide +kernel
theorem dX0_name_118 : decode cX0_name 118 = .ok (.iastore, 1) := by decide +kernel
theorem dX0_name_119 : decode cX0_name 119 = .ok (.aload_n 0, 1) := by decide +kernel
theorem dX0_name_120 : decode cX0_name 120 = .ok (.getfield 11, 3) := by decide +kernel
theorem dX0_name_123 : decode cX0_name 123 = .ok (.bipush 9, 2) := by decide +kernel
theorem dX0_name_125 : decode cX0_name 125 = .ok (.aload_n 1, 1) := by decide +kernel
theorem dX0_name_126 : decode cX0_name 126 = .ok (.getfield 37, 3) := by decide +kernel
theorem dX0_name_129 : decode cX0_name 129 = .ok (.iload_n 2, 1) := by decide +kernel
theorem dX0_name_130 : decode cX0_name 130 = .ok (.invokestatic 53, 3) := by decide +kernel
theorem dX0_name_133 : decode cX0_name 133 = .ok (.iastore, 1) := by decide +kernel
theorem dX0_name_134 : decode cX0_name 134 = .ok (.aload_n 0, 1) := by decide +kernel
theorem dX0_name_135 : decode cX0_name 135 = .ok (.getfield 11, 3) := by decide +kernel
theorem dX0_name_138 : decode cX0_name 138 = .ok (.bipush 10, 2) := by decide +kernel
theorem dX0_name_140 : decode cX0_name 140 = .ok (.aload_n 1, 1) := by decide +kernel
theorem dX0_name_141 : decode cX0_name 141 = .ok (.getfield 76, 3) := by decide +kernel
theorem dX0_name_144 : decode cX0_name 144 = .ok (.iconst 1, 1) := by decide +kernel
theorem dX0_name_145 : decode cX0_name 145 = .ok (.iaload, 1) := by decide +kernel
theorem dX0_name_146 : decode cX0_name 146 = .ok (.ifCond .le 17, 3) := by decide +kernel
theorem dX0_name_149 : decode cX0_name 149 = .ok (.iload_n 2, 1) := by decide +kernel
theorem dX0_name_150 : decode cX0_name 150 = .ok (.iload 5, 2) := by decide +kernel
theorem dX0_name_152 : decode cX0_name 152 = .ok (.iadd, 1) := by decide +kernel
theorem dX0_name_153 : decode cX0_name 153 = .ok (.aload_n 1, 1) := by decide +kernel
theorem dX0_name_154 : decode cX0_name 154 = .ok (.getfield 76, 3) := by decide +kernel
theorem dX0_name_157 : decode cX0_name 157 = .ok (.iconst 1, 1) := by decide +kernel
theorem dX0_name_158 : decode cX0_name 158 = .ok (.iaload, 1) := by decide +kernel
theorem dX0_name_159 : decode cX0_name 159 = .ok (.irem, 1) := by decide +kernel
theorem dX0_name_160 : decode cX0_name 160 = .ok (.goto 4, 3) := by decide +kernel
theorem dX0_name_163 : decode cX0_name 163 = .ok (.iconst 0, 1) := by decide +kernel
theorem dX0_name_164 : decode cX0_name 164 = .ok (.iastore, 1) := by decide +kernel
theorem dX0_name_165 : decode cX0_name 165 = .ok (.aload_n 0, 1) := by decide +kernel
theorem dX0_name_166 : decode cX0_name 166 = .ok (.getfield 11, 3) := by decide +kernel
theorem dX0_name_169 : decode cX0_name 169 = .ok (.bipush 11, 2) := by decide +kernel
theorem dX0_name_171 : decode cX0_name 171 = .ok (.aload_n 1, 1) := by decide +kernel
theorem dX0_name_172 : decode cX0_name 172 = .ok (.getfield 47, 3) := by decide +kernel
theorem dX0_name_175 : decode cX0_name 175 = .ok (.iload_n 2, 1) := by decide +kernel
theorem dX0_name_176 : decode cX0_name 176 = .ok (.iaload, 1) := by decide +kernel
theorem dX0_name_177 : decode cX0_name 177 = .ok (.iconst (-1), 1) := by decide +kernel
theorem dX0_name_178 : decode cX0_name 178 = .ok (.if_icmp .ne 10, 3) := by decide +kernel
theorem dX0_name_181 : decode cX0_name 181 = .ok (.iload 5, 2) := by decide +kernel
theorem dX0_name_183 : decode cX0_name 183 = .ok (.iconst 1, 1) := by decide +kernel
theorem dX0_name_184 : decode cX0_name 184 = .ok (.iadd, 1) := by decide +kernel
theorem dX0_name_185 : decode cX0_name 185 = .ok (.goto 12, 3) := by decide +kernel
theorem dX0_name_188 : decode cX0_name 188 = .ok (.iload 5, 2) := by decide +kernel
theorem dX0_name_190 : decode cX0_name 190 = .ok (.aload_n 1, 1) := by decide +kernel
theorem dX0_name_191 : decode cX0_name 191 = .ok (.getfield 47, 3) := by decide +kernel
theorem dX0_name_194 : decode cX0_name 194 = .ok (.iload_n 2, 1) := by decide +kernel
theorem dX0_name_195 : decode cX0_name 195 = .ok (.iaload, 1) := by decide +kernel
theorem dX0_name_196 : decode cX0_name 196 = .ok (.isub, 1) := by decide +kernel
theorem dX0_name_197 : decode cX0_name 197 = .ok (.iastore, 1) := by decide +kernel
theorem dX0_name_198 : decode cX0_name 198 = .ok (.return_, 1) := by decide +kernel
theorem dX0_firstOf_0 : decode cX0_firstOf 0 = .ok (.iconst 0, 1) := by decide +kernel
theorem dX0_firstOf_1 : decode cX0_firstOf 1 = .ok (.istore_n 2, 1) := by decide +kernel
theorem dX0_firstOf_2 : decode cX0_firstOf 2 = .ok (.iload_n 2, 1) := by decide +kernel
theorem dX0_firstOf_3 : decode cX0_firstOf 3 = .ok (.aload_n 1, 1) := by decide +kernel
theorem dX0_firstOf_4 : decode cX0_firstOf 4 = .ok (.getfield 83, 3) := by decide +kernel
theorem dX0_firstOf_7 : decode cX0_firstOf 7 = .ok (.if_icmp .ge 62, 3) := by decide +kernel
theorem dX0_firstOf_10 : decode cX0_firstOf 10 = .ok (.iload_n 2, 1) := by decide +kernel
theorem dX0_firstOf_11 : decode cX0_firstOf 11 = .ok (.bipush 16, 2) := by decide +kernel
theorem dX0_firstOf_13 : decode cX0_firstOf 13 = .ok (.if_icmp .ge 56, 3) := by decide +kernel
theorem dX0_firstOf_16 : decode cX0_firstOf 16 = .ok (.aload_n 1, 1) := by decide +kernel
theorem dX0_firstOf_17 : decode cX0_firstOf 17 = .ok (.getfield 88, 3) := by decide +kernel
theorem dX0_firstOf_20 : decode cX0_firstOf 20 = .ok (.iload_n 2, 1) := by decide +kernel
theorem dX0_firstOf_21 : decode cX0_firstOf 21 = .ok (.iaload, 1) := by decide +kernel
theorem dX0_firstOf_22 : decode cX0_firstOf 22 = .ok (.istore_n 3, 1) := by decide +kernel
theorem dX0_firstOf_23 : decode cX0_firstOf 23 = .ok (.aload_n 1, 1) := by decide +kernel
theorem dX0_firstOf_24 : decode cX0_firstOf 24 = .ok (.getfield 91, 3) := by decide +kernel
theorem dX0_firstOf_27 : decode cX0_firstOf 27 = .ok (.iload_n 2, 1) := by decide +kernel
theorem dX0_firstOf_28 : decode cX0_firstOf 28 = .ok (.iconst 1, 1) := by decide +kernel
theorem dX0_firstOf_29 : decode cX0_firstOf 29 = .ok (.iadd, 1) := by decide +kernel
theorem dX0_firstOf_30 : decode cX0_firstOf 30 = .ok (.iaload, 1) := by decide +kernel
theorem dX0_firstOf_31 : decode cX0_firstOf 31 = .ok (.istore 4, 2) := by decide +kernel
theorem dX0_firstOf_33 : decode cX0_firstOf 33 = .ok (.iload_n 3, 1) := by decide +kernel
theorem dX0_firstOf_34 : decode cX0_firstOf 34 = .ok (.iload 4, 2) := by decide +kernel
theorem dX0_firstOf_36 : decode cX0_firstOf 36 = .ok (.if_icmp .eq 14, 3) := by decide +kernel
theorem dX0_firstOf_39 : decode cX0_firstOf 39 = .ok (.aload_n 0, 1) := by decide +kernel
theorem dX0_firstOf_40 : decode cX0_firstOf 40 = .ok (.aload_n 1, 1) := by decide +kernel
theorem dX0_firstOf_41 : decode cX0_firstOf 41 = .ok (.iload_n 3, 1) := by decide +kernel
theorem dX0_firstOf_42 : decode cX0_firstOf 42 = .ok (.iload 4, 2) := by decide +kernel
theorem dX0_firstOf_44 : decode cX0_firstOf 44 = .ok (.invokevirtual 94, 3) := by decide +kernel
theorem dX0_firstOf_47 : decode cX0_firstOf 47 = .ok (.ifCond .eq 16, 3) := by decide +kernel
theorem dX0_firstOf_50 : decode cX0_firstOf 50 = .ok (.aload_n 0, 1) := by decide +kernel
theorem dX0_firstOf_51 : decode cX0_firstOf 51 = .ok (.aload_n 1, 1) := by decide +kernel
theorem dX0_firstOf_52 : decode cX0_firstOf 52 = .ok (.aload_n 1, 1) := by decide +kernel
theorem dX0_firstOf_53 : decode cX0_firstOf 53 = .ok (.getfield 91, 3) := by decide +kernel
theorem dX0_firstOf_56 : decode cX0_firstOf 56 = .ok (.iload_n 2, 1) := by decide +kernel
theorem dX0_firstOf_57 : decode cX0_firstOf 57 = .ok (.iaload, 1) := by decide +kernel
theorem dX0_firstOf_58 : decode cX0_firstOf 58 = .ok (.iload_n 3, 1) := by decide +kernel
theorem dX0_firstOf_59 : decode cX0_firstOf 59 = .ok (.invokevirtual 94, 3) := by decide +kernel
theorem dX0_firstOf_62 : decode cX0_firstOf 62 = .ok (.ireturn, 1) := by decide +kernel
theorem dX0_firstOf_63 : decode cX0_firstOf 63 = .ok (.iinc 2 1, 3) := by decide +kernel
theorem dX0_firstOf_66 : decode cX0_firstOf 66 = .ok (.goto (-64), 3) := by decide +kernel
theorem dX0_firstOf_69 : decode cX0_firstOf 69 = .ok (.iconst 0, 1) := by decide +kernel
theorem dX0_firstOf_70 : decode cX0_firstOf 70 = .ok (.ireturn, 1) := by decide +kernel
theorem dX0_valueOf_0 : decode cX0_valueOf 0 = .ok (.iconst 0, 1) := by decide +kernel
theorem dX0_valueOf_1 : decode cX0_valueOf 1 = .ok (.istore 4, 2) := by decide +kernel
theorem dX0_valueOf_3 : decode cX0_valueOf 3 = .ok (.aload_n 0, 1) := by decide +kernel
theorem dX0_valueOf_4 : decode cX0_valueOf 4 = .ok (.getfield 17, 3) := by decide +kernel
theorem dX0_valueOf_7 : decode cX0_valueOf 7 = .ok (.iconst 0, 1) := by decide +kernel
theorem dX0_valueOf_8 : decode cX0_valueOf 8 = .ok (.iconst 0, 1) := by decide +kernel
theorem dX0_valueOf_9 : decode cX0_valueOf 9 = .ok (.iastore, 1) := by decide +kernel
theorem dX0_valueOf_10 : decode cX0_valueOf 10 = .ok (.iload_n 2, 1) := by decide +kernel
theorem dX0_valueOf_11 : decode cX0_valueOf 11 = .ok (.istore 5, 2) := by decide +kernel
theorem dX0_valueOf_13 : decode cX0_valueOf 13 = .ok (.iload 5, 2) := by decide +kernel
theorem dX0_valueOf_15 : decode cX0_valueOf 15 = .ok (.iload_n 3, 1) := by decide +kernel
theorem dX0_valueOf_16 : decode cX0_valueOf 16 = .ok (.if_icmp .ge 426, 3) := by decide +kernel
theorem dX0_valueOf_19 : decode cX0_valueOf 19 = .ok (.iload 5, 2) := by decide +kernel
theorem dX0_valueOf_21 : decode cX0_valueOf 21 = .ok (.aload_n 1, 1) := by decide +kernel
theorem dX0_valueOf_22 : decode cX0_valueOf 22 = .ok (.getfield 98, 3) := by decide +kernel
theorem dX0_valueOf_25 : decode cX0_valueOf 25 = .ok (.arraylength, 1) := by decide +kernel
theorem dX0_valueOf_26 : decode cX0_valueOf 26 = .ok (.if_icmp .ge 416, 3) := by decide +kernel
theorem dX0_valueOf_29 : decode cX0_valueOf 29 = .ok (.aload_n 1, 1) := by decide +kernel
theorem dX0_valueOf_30 : decode cX0_valueOf 30 = .ok (.getfield 98, 3) := by decide +kernel
theorem dX0_valueOf_33 : decode cX0_valueOf 33 = .ok (.iload 5, 2) := by decide +kernel
theorem dX0_valueOf_35 : decode cX0_valueOf 35 = .ok (.iaload, 1) := by decide +kernel
theorem dX0_valueOf_36 : decode cX0_valueOf 36 = .ok (.istore 6, 2) := by decide +kernel
theorem dX0_valueOf_38 : decode cX0_valueOf 38 = .ok (.iload 6, 2) := by decide +kernel
theorem dX0_valueOf_40 : decode cX0_valueOf 40 = .ok (.ineg, 1) := by decide +kernel
theorem dX0_valueOf_41 : decode cX0_valueOf 41 = .ok (.sipush 262, 3) := by decide +kernel
theorem dX0_valueOf_44 : decode cX0_valueOf 44 = .ok (.isub, 1) := by decide +kernel
theorem dX0_valueOf_45 : decode cX0_valueOf 45 = .ok (.istore 7, 2) := by decide +kernel
theorem dX0_valueOf_47 : decode cX0_valueOf 47 = .ok (.iload 6, 2) := by decide +kernel
theorem dX0_valueOf_49 : decode cX0_valueOf 49 = .ok (.ifCond .ge 18, 3) := by decide +kernel
theorem dX0_valueOf_52 : decode cX0_valueOf 52 = .ok (.iload 7, 2) := by decide +kernel
theorem dX0_valueOf_54 : decode cX0_valueOf 54 = .ok (.ifCond .lt 50, 3) := by decide +kernel
theorem dX0_valueOf_57 : decode cX0_valueOf 57 = .ok (.iload 7, 2) := by decide +kernel
theorem dX0_valueOf_59 : decode cX0_valueOf 59 = .ok (.aload_n 0, 1) := by decide +kernel
theorem dX0_valueOf_60 : decode cX0_valueOf 60 = .ok (.getfield 11, 3) := by decide +kernel
theorem dX0_valueOf_63 : decode cX0_valueOf 63 = .ok (.arraylength, 1) := by decide +kernel
theorem dX0_valueOf_64 : decode cX0_valueOf 64 = .ok (.if_icmp .ge 40, 3) := by decide +kernel
theorem dX0_valueOf_67 : decode cX0_valueOf 67 = .ok (.iload 4, 2) := by decide +kernel
theorem dX0_valueOf_69 : decode cX0_valueOf 69 = .ok (.bipush 64, 2) := by decide +kernel
theorem dX0_valueOf_71 : decode cX0_valueOf 71 = .ok (.if_icmp .ge 365, 3) := by decide +kernel
theorem dX0_valueOf_74 : decode cX0_valueOf 74 = .ok (.aload_n 0, 1) := by decide +kernel
theorem dX0_valueOf_75 : decode cX0_valueOf 75 = .ok (.getfield 17, 3) := by decide +kernel
theorem dX0_valueOf_78 : decode cX0_valueOf 78 = .ok (.iload 4, 2) := by decide +kernel
theorem dX0_valueOf_80 : decode cX0_valueOf 80 = .ok (.iload 6, 2) := by decide +kernel
theorem dX0_valueOf_82 : decode cX0_valueOf 82 = .ok (.ifCond .lt 8, 3) := by decide +kernel
theorem dX0_valueOf_85 : decode cX0_valueOf 85 = .ok (.iload 6, 2) := by decide +kernel
theorem dX0_valueOf_87 : decode cX0_valueOf 87 = .ok (.goto 10, 3) := by decide +kernel
theorem dX0_valueOf_90 : decode cX0_valueOf 90 = .ok (.aload_n 0, 1) := by decide +kernel
theorem dX0_valueOf_91 : decode cX0_valueOf 91 = .ok (.getfield 11, 3) := by decide +kernel
theorem dX0_valueOf_94 : decode cX0_valueOf 94 = .ok (.iload 7, 2) := by decide +kernel
theorem dX0_valueOf_96 : decode cX0_valueOf 96 = .ok (.iaload, 1) := by decide +kernel
theorem dX0_valueOf_97 : decode cX0_valueOf 97 = .ok (.iastore, 1) := by decide +kernel
theorem dX0_valueOf_98 : decode cX0_valueOf 98 = .ok (.iinc 4 1, 3) := by decide +kernel
theorem dX0_valueOf_101 : decode cX0_valueOf 101 = .ok (.goto 335, 3) := by decide +kernel
theorem dX0_valueOf_104 : decode cX0_valueOf 104 = .ok (.iload 6, 2) := by decide +kernel
theorem dX0_valueOf_106 : decode cX0_valueOf 106 = .ok (.sipush (-261), 3) := by decide +kernel
theorem dX0_valueOf_109 : decode cX0_valueOf 109 = .ok (.if_icmp .ne 29, 3) := by decide +kernel
theorem dX0_valueOf_112 : decode cX0_valueOf 112 = .ok (.iload 4, 2) := by decide +kernel
theorem dX0_valueOf_114 : decode cX0_valueOf 114 = .ok (.iconst 1, 1) := by decide +kernel
theorem dX0_valueOf_115 : decode cX0_valueOf 115 = .ok (.if_icmp .lt 23, 3) := by decide +kernel
theorem dX0_valueOf_118 : decode cX0_valueOf 118 = .ok (.aload_n 0, 1) := by decide +kernel
theorem dX0_valueOf_119 : decode cX0_valueOf 119 = .ok (.getfield 17, 3) := by decide +kernel
theorem dX0_valueOf_122 : decode cX0_valueOf 122 = .ok (.iload 4, 2) := by decide +kernel
theorem dX0_valueOf_124 : decode cX0_valueOf 124 = .ok (.iconst 1, 1) := by decide +kernel
theorem dX0_valueOf_125 : decode cX0_valueOf 125 = .ok (.isub, 1) := by decide +kernel
theorem dX0_valueOf_126 : decode cX0_valueOf 126 = .ok (.iconst 1, 1) := by decide +kernel
theorem dX0_valueOf_127 : decode cX0_valueOf 127 = .ok (.aload_n 0, 1) := by decide +kernel
theorem dX0_valueOf_128 : decode cX0_valueOf 128 = .ok (.getfield 17, 3) := by decide +kernel
theorem dX0_valueOf_131 : decode cX0_valueOf 131 = .ok (.iload 4, 2) := by decide +kernel
theorem dX0_valueOf_133 : decode cX0_valueOf 133 = .ok (.iconst 1, 1) := by decide +kernel
theorem dX0_valueOf_134 : decode cX0_valueOf 134 = .ok (.isub, 1) := by decide +kernel
theorem dX0_valueOf_135 : decode cX0_valueOf 135 = .ok (.iaload, 1) := by decide +kernel
theorem dX0_valueOf_136 : decode cX0_valueOf 136 = .ok (.isub, 1) := by decide +kernel
theorem dX0_valueOf_137 : decode cX0_valueOf 137 = .ok (.iastore, 1) := by decide +kernel
theorem dX0_valueOf_138 : decode cX0_valueOf 138 = .ok (.iload 6, 2) := by decide +kernel
theorem dX0_valueOf_140 : decode cX0_valueOf 140 = .ok (.sipush (-261), 3) := by decide +kernel
theorem dX0_valueOf_143 : decode cX0_valueOf 143 = .ok (.if_icmp .eq 293, 3) := by decide +kernel
theorem dX0_valueOf_146 : decode cX0_valueOf 146 = .ok (.iload 4, 2) := by decide +kernel
theorem dX0_valueOf_148 : decode cX0_valueOf 148 = .ok (.iconst 2, 1) := by decide +kernel
theorem dX0_valueOf_149 : decode cX0_valueOf 149 = .ok (.if_icmp .ge 6, 3) := by decide +kernel
theorem dX0_valueOf_152 : decode cX0_valueOf 152 = .ok (.goto 284, 3) := by decide +kernel
theorem dX0_valueOf_155 : decode cX0_valueOf 155 = .ok (.iinc 4 (-1), 3) := by decide +kernel
theorem dX0_valueOf_158 : decode cX0_valueOf 158 = .ok (.aload_n 0, 1) := by decide +kernel
theorem dX0_valueOf_159 : decode cX0_valueOf 159 = .ok (.getfield 17, 3) := by decide +kernel
theorem dX0_valueOf_162 : decode cX0_valueOf 162 = .ok (.iload 4, 2) := by decide +kernel
theorem dX0_valueOf_164 : decode cX0_valueOf 164 = .ok (.iconst 1, 1) := by decide +kernel
theorem dX0_valueOf_165 : decode cX0_valueOf 165 = .ok (.isub, 1) := by decide +kernel
theorem dX0_valueOf_166 : decode cX0_valueOf 166 = .ok (.iaload, 1) := by decide +kernel
theorem dX0_valueOf_167 : decode cX0_valueOf 167 = .ok (.istore 8, 2) := by decide +kernel
theorem dX0_valueOf_169 : decode cX0_valueOf 169 = .ok (.aload_n 0, 1) := by decide +kernel
theorem dX0_valueOf_170 : decode cX0_valueOf 170 = .ok (.getfield 17, 3) := by decide +kernel
theorem dX0_valueOf_173 : decode cX0_valueOf 173 = .ok (.iload 4, 2) := by decide +kernel
theorem dX0_valueOf_175 : decode cX0_valueOf 175 = .ok (.iaload, 1) := by decide +kernel
theorem dX0_valueOf_176 : decode cX0_valueOf 176 = .ok (.istore 9, 2) := by decide +kernel
theorem dX0_valueOf_178 : decode cX0_valueOf 178 = .ok (.iload 6, 2) := by decide +kernel
theorem dX0_valueOf_180 : decode cX0_valueOf 180 = .ok (.ineg, 1) := by decide +kernel
theorem dX0_valueOf_181 : decode cX0_valueOf 181 = .ok (.lookupswitch 241 #[(42, 109), (43, 75), (45, 92), (47, 126), (60, 152), (61, 176), (62, 200), (259, 224)], 75) := by decide +kernel
theorem dX0_valueOf_256 : decode cX0_valueOf 256 = .ok (.aload_n 0, 1) := by decide +kernel
theorem dX0_valueOf_257 : decode cX0_valueOf 257 = .ok (.getfield 17, 3) := by decide +kernel
theorem dX0_valueOf_260 : decode cX0_valueOf 260 = .ok (.iload 4, 2) := by decide +kernel
theorem dX0_valueOf_262 : decode cX0_valueOf 262 = .ok (.iconst 1, 1) := by decide +kernel
theorem dX0_valueOf_263 : decode cX0_valueOf 263 = .ok (.isub, 1) := by decide +kernel
theorem dX0_valueOf_264 : decode cX0_valueOf 264 = .ok (.iload 8, 2) := by decide +kernel
theorem dX0_valueOf_266 : decode cX0_valueOf 266 = .ok (.iload 9, 2) := by decide +kernel
theorem dX0_valueOf_268 : decode cX0_valueOf 268 = .ok (.iadd, 1) := by decide +kernel
theorem dX0_valueOf_269 : decode cX0_valueOf 269 = .ok (.iastore, 1) := by decide +kernel
theorem dX0_valueOf_270 : decode cX0_valueOf 270 = .ok (.goto 166, 3) := by decide +kernel
theorem dX0_valueOf_273 : decode cX0_valueOf 273 = .ok (.aload_n 0, 1) := by decide +kernel
theorem dX0_valueOf_274 : decode cX0_valueOf 274 = .ok (.getfield 17, 3) := by decide +kernel
theorem dX0_valueOf_277 : decode cX0_valueOf 277 = .ok (.iload 4, 2) := by decide +kernel
theorem dX0_valueOf_279 : decode cX0_valueOf 279 = .ok (.iconst 1, 1) := by decide +kernel
theorem dX0_valueOf_280 : decode cX0_valueOf 280 = .ok (.isub, 1) := by decide +kernel
theorem dX0_valueOf_281 : decode cX0_valueOf 281 = .ok (.iload 8, 2) := by decide +kernel
theorem dX0_valueOf_283 : decode cX0_valueOf 283 = .ok (.iload 9, 2) := by decide +kernel
theorem dX0_valueOf_285 : decode cX0_valueOf 285 = .ok (.isub, 1) := by decide +kernel
theorem dX0_valueOf_286 : decode cX0_valueOf 286 = .ok (.iastore, 1) := by decide +kernel
theorem dX0_valueOf_287 : decode cX0_valueOf 287 = .ok (.goto 149, 3) := by decide +kernel
theorem dX0_valueOf_290 : decode cX0_valueOf 290 = .ok (.aload_n 0, 1) := by decide +kernel
theorem dX0_valueOf_291 : decode cX0_valueOf 291 = .ok (.getfield 17, 3) := by decide +kernel
theorem dX0_valueOf_294 : decode cX0_valueOf 294 = .ok (.iload 4, 2) := by decide +kernel
theorem dX0_valueOf_296 : decode cX0_valueOf 296 = .ok (.iconst 1, 1) := by decide +kernel
theorem dX0_valueOf_297 : decode cX0_valueOf 297 = .ok (.isub, 1) := by decide +kernel
theorem dX0_valueOf_298 : decode cX0_valueOf 298 = .ok (.iload 8, 2) := by decide +kernel
theorem dX0_valueOf_300 : decode cX0_valueOf 300 = .ok (.iload 9, 2) := by decide +kernel
theorem dX0_valueOf_302 : decode cX0_valueOf 302 = .ok (.imul, 1) := by decide +kernel
theorem dX0_valueOf_303 : decode cX0_valueOf 303 = .ok (.iastore, 1) := by decide +kernel
theorem dX0_valueOf_304 : decode cX0_valueOf 304 = .ok (.goto 132, 3) := by decide +kernel
theorem dX0_valueOf_307 : decode cX0_valueOf 307 = .ok (.aload_n 0, 1) := by decide +kernel
theorem dX0_valueOf_308 : decode cX0_valueOf 308 = .ok (.getfield 17, 3) := by decide +kernel
theorem dX0_valueOf_311 : decode cX0_valueOf 311 = .ok (.iload 4, 2) := by decide +kernel
theorem dX0_valueOf_313 : decode cX0_valueOf 313 = .ok (.iconst 1, 1) := by decide +kernel
theorem dX0_valueOf_314 : decode cX0_valueOf 314 = .ok (.isub, 1) := by decide +kernel
theorem dX0_valueOf_315 : decode cX0_valueOf 315 = .ok (.iload 9, 2) := by decide +kernel
theorem dX0_valueOf_317 : decode cX0_valueOf 317 = .ok (.ifCond .ne 7, 3) := by decide +kernel
theorem dX0_valueOf_320 : decode cX0_valueOf 320 = .ok (.iconst 0, 1) := by decide +kernel
theorem dX0_valueOf_321 : decode cX0_valueOf 321 = .ok (.goto 8, 3) := by decide +kernel
theorem dX0_valueOf_324 : decode cX0_valueOf 324 = .ok (.iload 8, 2) := by decide +kernel
theorem dX0_valueOf_326 : decode cX0_valueOf 326 = .ok (.iload 9, 2) := by decide +kernel
theorem dX0_valueOf_328 : decode cX0_valueOf 328 = .ok (.idiv, 1) := by decide +kernel
theorem dX0_valueOf_329 : decode cX0_valueOf 329 = .ok (.iastore, 1) := by decide +kernel
theorem dX0_valueOf_330 : decode cX0_valueOf 330 = .ok (.goto 106, 3) := by decide +kernel
theorem dX0_valueOf_333 : decode cX0_valueOf 333 = .ok (.aload_n 0, 1) := by decide +kernel
theorem dX0_valueOf_334 : decode cX0_valueOf 334 = .ok (.getfield 17, 3) := by decide +kernel
theorem dX0_valueOf_337 : decode cX0_valueOf 337 = .ok (.iload 4, 2) := by decide +kernel
theorem dX0_valueOf_339 : decode cX0_valueOf 339 = .ok (.iconst 1, 1) := by decide +kernel
theorem dX0_valueOf_340 : decode cX0_valueOf 340 = .ok (.isub, 1) := by decide +kernel
theorem dX0_valueOf_341 : decode cX0_valueOf 341 = .ok (.iload 8, 2) := by decide +kernel
theorem dX0_valueOf_343 : decode cX0_valueOf 343 = .ok (.iload 9, 2) := by decide +kernel
theorem dX0_valueOf_345 : decode cX0_valueOf 345 = .ok (.if_icmp .ge 7, 3) := by decide +kernel
theorem dX0_valueOf_348 : decode cX0_valueOf 348 = .ok (.iconst 1, 1) := by decide +kernel
theorem dX0_valueOf_349 : decode cX0_valueOf 349 = .ok (.goto 4, 3) := by decide +kernel
theorem dX0_valueOf_352 : decode cX0_valueOf 352 = .ok (.iconst 0, 1) := by decide +kernel
theorem dX0_valueOf_353 : decode cX0_valueOf 353 = .ok (.iastore, 1) := by decide +kernel
theorem dX0_valueOf_354 : decode cX0_valueOf 354 = .ok (.goto 82, 3) := by decide +kernel
theorem dX0_valueOf_357 : decode cX0_valueOf 357 = .ok (.aload_n 0, 1) := by decide +kernel
theorem dX0_valueOf_358 : decode cX0_valueOf 358 = .ok (.getfield 17, 3) := by decide +kernel
theorem dX0_valueOf_361 : decode cX0_valueOf 361 = .ok (.iload 4, 2) := by decide +kernel
theorem dX0_valueOf_363 : decode cX0_valueOf 363 = .ok (.iconst 1, 1) := by decide +kernel
theorem dX0_valueOf_364 : decode cX0_valueOf 364 = .ok (.isub, 1) := by decide +kernel
theorem dX0_valueOf_365 : decode cX0_valueOf 365 = .ok (.iload 8, 2) := by decide +kernel
theorem dX0_valueOf_367 : decode cX0_valueOf 367 = .ok (.iload 9, 2) := by decide +kernel
theorem dX0_valueOf_369 : decode cX0_valueOf 369 = .ok (.if_icmp .ne 7, 3) := by decide +kernel
theorem dX0_valueOf_372 : decode cX0_valueOf 372 = .ok (.iconst 1, 1) := by decide +kernel
theorem dX0_valueOf_373 : decode cX0_valueOf 373 = .ok (.goto 4, 3) := by decide +kernel
theorem dX0_valueOf_376 : decode cX0_valueOf 376 = .ok (.iconst 0, 1) := by decide +kernel
theorem dX0_valueOf_377 : decode cX0_valueOf 377 = .ok (.iastore, 1) := by decide +kernel
theorem dX0_valueOf_378 : decode cX0_valueOf 378 = .ok (.goto 58, 3) := by decide +kernel
theorem dX0_valueOf_381 : decode cX0_valueOf 381 = .ok (.aload_n 0, 1) := by decide +kernel
theorem dX0_valueOf_382 : decode cX0_valueOf 382 = .ok (.getfield 17, 3) := by decide +kernel
theorem dX0_valueOf_385 : decode cX0_valueOf 385 = .ok (.iload 4, 2) := by decide +kernel
theorem dX0_valueOf_387 : decode cX0_valueOf 387 = .ok (.iconst 1, 1) := by decide +kernel
theorem dX0_valueOf_388 : decode cX0_valueOf 388 = .ok (.isub, 1) := by decide +kernel
theorem dX0_valueOf_389 : decode cX0_valueOf 389 = .ok (.iload 8, 2) := by decide +kernel
theorem dX0_valueOf_391 : decode cX0_valueOf 391 = .ok (.iload 9, 2) := by decide +kernel
theorem dX0_valueOf_393 : decode cX0_valueOf 393 = .ok (.if_icmp .le 7, 3) := by decide +kernel
theorem dX0_valueOf_396 : decode cX0_valueOf 396 = .ok (.iconst 1, 1) := by decide +kernel
theorem dX0_valueOf_397 : decode cX0_valueOf 397 = .ok (.goto 4, 3) := by decide +kernel
theorem dX0_valueOf_400 : decode cX0_valueOf 400 = .ok (.iconst 0, 1) := by decide +kernel
theorem dX0_valueOf_401 : decode cX0_valueOf 401 = .ok (.iastore, 1) := by decide +kernel
theorem dX0_valueOf_402 : decode cX0_valueOf 402 = .ok (.goto 34, 3) := by decide +kernel
theorem dX0_valueOf_405 : decode cX0_valueOf 405 = .ok (.aload_n 0, 1) := by decide +kernel
theorem dX0_valueOf_406 : decode cX0_valueOf 406 = .ok (.getfield 17, 3) := by decide +kernel
theorem dX0_valueOf_409 : decode cX0_valueOf 409 = .ok (.iload 4, 2) := by decide +kernel
theorem dX0_valueOf_411 : decode cX0_valueOf 411 = .ok (.iconst 1, 1) := by decide +kernel
theorem dX0_valueOf_412 : decode cX0_valueOf 412 = .ok (.isub, 1) := by decide +kernel
theorem dX0_valueOf_413 : decode cX0_valueOf 413 = .ok (.iload 8, 2) := by decide +kernel
theorem dX0_valueOf_415 : decode cX0_valueOf 415 = .ok (.iload 9, 2) := by decide +kernel
theorem dX0_valueOf_417 : decode cX0_valueOf 417 = .ok (.iand, 1) := by decide +kernel
theorem dX0_valueOf_418 : decode cX0_valueOf 418 = .ok (.iastore, 1) := by decide +kernel
theorem dX0_valueOf_419 : decode cX0_valueOf 419 = .ok (.goto 17, 3) := by decide +kernel
theorem dX0_valueOf_422 : decode cX0_valueOf 422 = .ok (.aload_n 0, 1) := by decide +kernel
theorem dX0_valueOf_423 : decode cX0_valueOf 423 = .ok (.getfield 17, 3) := by decide +kernel
theorem dX0_valueOf_426 : decode cX0_valueOf 426 = .ok (.iload 4, 2) := by decide +kernel
theorem dX0_valueOf_428 : decode cX0_valueOf 428 = .ok (.iconst 1, 1) := by decide +kernel
theorem dX0_valueOf_429 : decode cX0_valueOf 429 = .ok (.isub, 1) := by decide +kernel
theorem dX0_valueOf_430 : decode cX0_valueOf 430 = .ok (.iload 8, 2) := by decide +kernel
theorem dX0_valueOf_432 : decode cX0_valueOf 432 = .ok (.iload 9, 2) := by decide +kernel
theorem dX0_valueOf_434 : decode cX0_valueOf 434 = .ok (.ior, 1) := by decide +kernel
theorem dX0_valueOf_435 : decode cX0_valueOf 435 = .ok (.iastore, 1) := by decide +kernel
theorem dX0_valueOf_436 : decode cX0_valueOf 436 = .ok (.iinc 5 1, 3) := by decide +kernel
theorem dX0_valueOf_439 : decode cX0_valueOf 439 = .ok (.goto (-426), 3) := by decide +kernel
theorem dX0_valueOf_442 : decode cX0_valueOf 442 = .ok (.aload_n 0, 1) := by decide +kernel
theorem dX0_valueOf_443 : decode cX0_valueOf 443 = .ok (.getfield 17, 3) := by decide +kernel
theorem dX0_valueOf_446 : decode cX0_valueOf 446 = .ok (.iconst 0, 1) := by decide +kernel
theorem dX0_valueOf_447 : decode cX0_valueOf 447 = .ok (.iaload, 1) := by decide +kernel
theorem dX0_valueOf_448 : decode cX0_valueOf 448 = .ok (.ireturn, 1) := by decide +kernel
theorem dX1_init_0 : decode cX1_init 0 = .ok (.aload_n 0, 1) := by decide +kernel
theorem dX1_init_1 : decode cX1_init 1 = .ok (.invokespecial 1, 3) := by decide +kernel
theorem dX1_init_4 : decode cX1_init 4 = .ok (.aload_n 0, 1) := by decide +kernel
theorem dX1_init_5 : decode cX1_init 5 = .ok (.sipush 256, 3) := by decide +kernel
theorem dX1_init_8 : decode cX1_init 8 = .ok (.newarray .int, 2) := by decide +kernel
theorem dX1_init_10 : decode cX1_init 10 = .ok (.putfield 9, 3) := by decide +kernel
theorem dX1_init_13 : decode cX1_init 13 = .ok (.aload_n 0, 1) := by decide +kernel
theorem dX1_init_14 : decode cX1_init 14 = .ok (.invokevirtual 13, 3) := by decide +kernel
theorem dX1_init_17 : decode cX1_init 17 = .ok (.return_, 1) := by decide +kernel
theorem dX1_clear_0 : decode cX1_clear 0 = .ok (.aload_n 0, 1) := by decide +kernel
theorem dX1_clear_1 : decode cX1_clear 1 = .ok (.getfield 9, 3) := by decide +kernel
theorem dX1_clear_4 : decode cX1_clear 4 = .ok (.bipush 9, 2) := by decide +kernel
theorem dX1_clear_6 : decode cX1_clear 6 = .ok (.invokestatic 16, 3) := by decide +kernel
theorem dX1_clear_9 : decode cX1_clear 9 = .ok (.return_, 1) := by decide +kernel
theorem dX1_addAny_0 : decode cX1_addAny 0 = .ok (.iconst 0, 1) := by decide +kernel
theorem dX1_addAny_1 : decode cX1_addAny 1 = .ok (.istore_n 3, 1) := by decide +kernel
theorem dX1_addAny_2 : decode cX1_addAny 2 = .ok (.iload_n 3, 1) := by decide +kernel
theorem dX1_addAny_3 : decode cX1_addAny 3 = .ok (.sipush 255, 3) := by decide +kernel
theorem dX1_addAny_6 : decode cX1_addAny 6 = .ok (.if_icmp .gt 58, 3) := by decide +kernel
theorem dX1_addAny_9 : decode cX1_addAny 9 = .ok (.iload_n 1, 1) := by decide +kernel
theorem dX1_addAny_10 : decode cX1_addAny 10 = .ok (.istore 4, 2) := by decide +kernel
theorem dX1_addAny_12 : decode cX1_addAny 12 = .ok (.iload 4, 2) := by decide +kernel
theorem dX1_addAny_14 : decode cX1_addAny 14 = .ok (.iload_n 2, 1) := by decide +kernel
theorem dX1_addAny_15 : decode cX1_addAny 15 = .ok (.if_icmp .gt 43, 3) := by decide +kernel
theorem dX1_addAny_18 : decode cX1_addAny 18 = .ok (.iload 4, 2) := by decide +kernel
theorem dX1_addAny_20 : decode cX1_addAny 20 = .ok (.aload_n 0, 1) := by decide +kernel
theorem dX1_addAny_21 : decode cX1_addAny 21 = .ok (.getfield 9, 3) := by decide +kernel
theorem dX1_addAny_24 : decode cX1_addAny 24 = .ok (.iload_n 3, 1) := by decide +kernel
theorem dX1_addAny_25 : decode cX1_addAny 25 = .ok (.iaload, 1) := by decide +kernel
theorem dX1_addAny_26 : decode cX1_addAny 26 = .ok (.if_icmp .ge 32, 3) := by decide +kernel
theorem dX1_addAny_29 : decode cX1_addAny 29 = .ok (.iload_n 3, 1) := by decide +kernel
theorem dX1_addAny_30 : decode cX1_addAny 30 = .ok (.iconst 1, 1) := by decide +kernel
theorem dX1_addAny_31 : decode cX1_addAny 31 = .ok (.iload 4, 2) := by decide +kernel
theorem dX1_addAny_33 : decode cX1_addAny 33 = .ok (.ishl, 1) := by decide +kernel
theorem dX1_addAny_34 : decode cX1_addAny 34 = .ok (.iconst 1, 1) := by decide +kernel
theorem dX1_addAny_35 : decode cX1_addAny 35 = .ok (.isub, 1) := by decide +kernel
theorem dX1_addAny_36 : decode cX1_addAny 36 = .ok (.iand, 1) := by decide +kernel
theorem dX1_addAny_37 : decode cX1_addAny 37 = .ok (.invokestatic 22, 3) := by decide +kernel
theorem dX1_addAny_40 : decode cX1_addAny 40 = .ok (.iload_n 1, 1) := by decide +kernel
theorem dX1_addAny_41 : decode cX1_addAny 41 = .ok (.if_icmp .lt 11, 3) := by decide +kernel
theorem dX1_addAny_44 : decode cX1_addAny 44 = .ok (.aload_n 0, 1) := by decide +kernel
theorem dX1_addAny_45 : decode cX1_addAny 45 = .ok (.getfield 9, 3) := by decide +kernel
theorem dX1_addAny_48 : decode cX1_addAny 48 = .ok (.iload_n 3, 1) := by decide +kernel
theorem dX1_addAny_49 : decode cX1_addAny 49 = .ok (.iload 4, 2) := by decide +kernel
theorem dX1_addAny_51 : decode cX1_addAny 51 = .ok (.iastore, 1) := by decide +kernel
theorem dX1_addAny_52 : decode cX1_addAny 52 = .ok (.iinc 4 1, 3) := by decide +kernel
theorem dX1_addAny_55 : decode cX1_addAny 55 = .ok (.goto (-43), 3) := by decide +kernel
theorem dX1_addAny_58 : decode cX1_addAny 58 = .ok (.iinc 3 1, 3) := by decide +kernel
theorem dX1_addAny_61 : decode cX1_addAny 61 = .ok (.goto (-59), 3) := by decide +kernel
theorem dX1_addAny_64 : decode cX1_addAny 64 = .ok (.return_, 1) := by decide +kernel
theorem dX1_addShape_0 : decode cX1_addShape 0 = .ok (.iconst 0, 1) := by decide +kernel
theorem dX1_addShape_1 : decode cX1_addShape 1 = .ok (.istore 4, 2) := by decide +kernel
theorem dX1_addShape_3 : decode cX1_addShape 3 = .ok (.iload 4, 2) := by decide +kernel
theorem dX1_addShape_5 : decode cX1_addShape 5 = .ok (.sipush 255, 3) := by decide +kernel
theorem dX1_addShape_8 : decode cX1_addShape 8 = .ok (.if_icmp .gt 36, 3) := by decide +kernel
theorem dX1_addShape_11 : decode cX1_addShape 11 = .ok (.iload 4, 2) := by decide +kernel
theorem dX1_addShape_13 : decode cX1_addShape 13 = .ok (.iload_n 2, 1) := by decide +kernel
theorem dX1_addShape_14 : decode cX1_addShape 14 = .ok (.iand, 1) := by decide +kernel
theorem dX1_addShape_15 : decode cX1_addShape 15 = .ok (.iload_n 3, 1) := by decide +kernel
theorem dX1_addShape_16 : decode cX1_addShape 16 = .ok (.if_icmp .ne 22, 3) := by decide +kernel
theorem dX1_addShape_19 : decode cX1_addShape 19 = .ok (.iload_n 1, 1) := by decide +kernel
theorem dX1_addShape_20 : decode cX1_addShape 20 = .ok (.aload_n 0, 1) := by decide +kernel
theorem dX1_addShape_21 : decode cX1_addShape 21 = .ok (.getfield 9, 3) := by decide +kernel
theorem dX1_addShape_24 : decode cX1_addShape 24 = .ok (.iload 4, 2) := by decide +kernel
theorem dX1_addShape_26 : decode cX1_addShape 26 = .ok (.iaload, 1) := by decide +kernel
theorem dX1_addShape_27 : decode cX1_addShape 27 = .ok (.if_icmp .ge 11, 3) := by decide +kernel
theorem dX1_addShape_30 : decode cX1_addShape 30 = .ok (.aload_n 0, 1) := by decide +kernel
theorem dX1_addShape_31 : decode cX1_addShape 31 = .ok (.getfield 9, 3) := by decide +kernel
theorem dX1_addShape_34 : decode cX1_addShape 34 = .ok (.iload 4, 2) := by decide +kernel
theorem dX1_addShape_36 : decode cX1_addShape 36 = .ok (.iload_n 1, 1) := by decide +kernel
theorem dX1_addShape_37 : decode cX1_addShape 37 = .ok (.iastore, 1) := by decide +kernel
theorem dX1_addShape_38 : decode cX1_addShape 38 = .ok (.iinc 4 1, 3) := by decide +kernel
theorem dX1_addShape_41 : decode cX1_addShape 41 = .ok (.goto (-38), 3) := by decide +kernel
theorem dX1_addShape_44 : decode cX1_addShape 44 = .ok (.return_, 1) := by decide +kernel
theorem dX1_isMet_0 : decode cX1_isMet 0 = .ok (.aload_n 0, 1) := by decide +kernel
theorem dX1_isMet_1 : decode cX1_isMet 1 = .ok (.getfield 9, 3) := by decide +kernel
theorem dX1_isMet_4 : decode cX1_isMet 4 = .ok (.iload_n 1, 1) := by decide +kernel
theorem dX1_isMet_5 : decode cX1_isMet 5 = .ok (.sipush 255, 3) := by decide +kernel
theorem dX1_isMet_8 : decode cX1_isMet 8 = .ok (.iand, 1) := by decide +kernel
theorem dX1_isMet_9 : decode cX1_isMet 9 = .ok (.iaload, 1) := by decide +kernel
theorem dX1_isMet_10 : decode cX1_isMet 10 = .ok (.iload_n 2, 1) := by decide +kernel
theorem dX1_isMet_11 : decode cX1_isMet 11 = .ok (.if_icmp .gt 7, 3) := by decide +kernel
theorem dX1_isMet_14 : decode cX1_isMet 14 = .ok (.iconst 1, 1) := by decide +kernel
theorem dX1_isMet_15 : decode cX1_isMet 15 = .ok (.goto 4, 3) := by decide +kernel
theorem dX1_isMet_18 : decode cX1_isMet 18 = .ok (.iconst 0, 1) := by decide +kernel
theorem dX1_isMet_19 : decode cX1_isMet 19 = .ok (.ireturn, 1) := by decide +kernel
theorem dX1_breaksRow_0 : decode cX1_breaksRow 0 = .ok (.iconst 0, 1) := by decide +kernel
theorem dX1_breaksRow_1 : decode cX1_breaksRow 1 = .ok (.istore 4, 2) := by decide +kernel
theorem dX1_breaksRow_3 : decode cX1_breaksRow 3 = .ok (.iconst 0, 1) := by decide +kernel
theorem dX1_breaksRow_4 : decode cX1_breaksRow 4 = .ok (.istore 5, 2) := by decide +kernel
theorem dX1_breaksRow_6 : decode cX1_breaksRow 6 = .ok (.iload 5, 2) := by decide +kernel
theorem dX1_breaksRow_8 : decode cX1_breaksRow 8 = .ok (.iload_n 3, 1) := by decide +kernel
theorem dX1_breaksRow_9 : decode cX1_breaksRow 9 = .ok (.if_icmp .ge 46, 3) := by decide +kernel
theorem dX1_breaksRow_12 : decode cX1_breaksRow 12 = .ok (.iload 4, 2) := by decide +kernel
theorem dX1_breaksRow_14 : decode cX1_breaksRow 14 = .ok (.iconst 1, 1) := by decide +kernel
theorem dX1_breaksRow_15 : decode cX1_breaksRow 15 = .ok (.ishl, 1) := by decide +kernel
theorem dX1_breaksRow_16 : decode cX1_breaksRow 16 = .ok (.lload_n 1, 1) := by decide +kernel
theorem dX1_breaksRow_17 : decode cX1_breaksRow 17 = .ok (.iload 5, 2) := by decide +kernel
theorem dX1_breaksRow_19 : decode cX1_breaksRow 19 = .ok (.invokestatic 28, 3) := by decide +kernel
theorem dX1_breaksRow_22 : decode cX1_breaksRow 22 = .ok (.ior, 1) := by decide +kernel
theorem dX1_breaksRow_23 : decode cX1_breaksRow 23 = .ok (.sipush 255, 3) := by decide +kernel
theorem dX1_breaksRow_26 : decode cX1_breaksRow 26 = .ok (.iand, 1) := by decide +kernel
theorem dX1_breaksRow_27 : decode cX1_breaksRow 27 = .ok (.istore 4, 2) := by decide +kernel
theorem dX1_breaksRow_29 : decode cX1_breaksRow 29 = .ok (.aload_n 0, 1) := by decide +kernel
theorem dX1_breaksRow_30 : decode cX1_breaksRow 30 = .ok (.iload 4, 2) := by decide +kernel
theorem dX1_breaksRow_32 : decode cX1_breaksRow 32 = .ok (.iload 5, 2) := by decide +kernel
theorem dX1_breaksRow_34 : decode cX1_breaksRow 34 = .ok (.iconst 1, 1) := by decide +kernel
theorem dX1_breaksRow_35 : decode cX1_breaksRow 35 = .ok (.iadd, 1) := by decide +kernel
theorem dX1_breaksRow_36 : decode cX1_breaksRow 36 = .ok (.bipush 8, 2) := by decide +kernel
theorem dX1_breaksRow_38 : decode cX1_breaksRow 38 = .ok (.invokestatic 34, 3) := by decide +kernel
theorem dX1_breaksRow_41 : decode cX1_breaksRow 41 = .ok (.invokevirtual 40, 3) := by decide +kernel
theorem dX1_breaksRow_44 : decode cX1_breaksRow 44 = .ok (.ifCond .eq 5, 3) := by decide +kernel
theorem dX1_breaksRow_47 : decode cX1_breaksRow 47 = .ok (.iconst 1, 1) := by decide +kernel
theorem dX1_breaksRow_48 : decode cX1_breaksRow 48 = .ok (.ireturn, 1) := by decide +kernel
theorem dX1_breaksRow_49 : decode cX1_breaksRow 49 = .ok (.iinc 5 1, 3) := by decide +kernel
theorem dX1_breaksRow_52 : decode cX1_breaksRow 52 = .ok (.goto (-46), 3) := by decide +kernel
theorem dX1_breaksRow_55 : decode cX1_breaksRow 55 = .ok (.iconst 0, 1) := by decide +kernel
theorem dX1_breaksRow_56 : decode cX1_breaksRow 56 = .ok (.ireturn, 1) := by decide +kernel
theorem dX1_copy_0 : decode cX1_copy 0 = .ok (.aload_n 1, 1) := by decide +kernel
theorem dX1_copy_1 : decode cX1_copy 1 = .ok (.getfield 9, 3) := by decide +kernel
theorem dX1_copy_4 : decode cX1_copy 4 = .ok (.iconst 0, 1) := by decide +kernel
theorem dX1_copy_5 : decode cX1_copy 5 = .ok (.aload_n 0, 1) := by decide +kernel
theorem dX1_copy_6 : decode cX1_copy 6 = .ok (.getfield 9, 3) := by decide +kernel
theorem dX1_copy_9 : decode cX1_copy 9 = .ok (.iconst 0, 1) := by decide +kernel
theorem dX1_copy_10 : decode cX1_copy 10 = .ok (.aload_n 0, 1) := by decide +kernel
theorem dX1_copy_11 : decode cX1_copy 11 = .ok (.getfield 9, 3) := by decide +kernel
theorem dX1_copy_14 : decode cX1_copy 14 = .ok (.arraylength, 1) := by decide +kernel
theorem dX1_copy_15 : decode cX1_copy 15 = .ok (.invokestatic 44, 3) := by decide +kernel
theorem dX1_copy_18 : decode cX1_copy 18 = .ok (.return_, 1) := by decide +kernel
theorem dX2_init_0 : decode cX2_init 0 = .ok (.aload_n 0, 1) := by decide +kernel
theorem dX2_init_1 : decode cX2_init 1 = .ok (.invokespecial 3, 3) := by decide +kernel
theorem dX2_init_4 : decode cX2_init 4 = .ok (.aload_n 0, 1) := by decide +kernel
theorem dX2_init_5 : decode cX2_init 5 = .ok (.bipush 60, 2) := by decide +kernel
theorem dX2_init_7 : decode cX2_init 7 = .ok (.newarray .int, 2) := by decide +kernel
theorem dX2_init_9 : decode cX2_init 9 = .ok (.putfield 11, 3) := by decide +kernel
theorem dX2_init_12 : decode cX2_init 12 = .ok (.aload_n 0, 1) := by decide +kernel
theorem dX2_init_13 : decode cX2_init 13 = .ok (.bipush 60, 2) := by decide +kernel
theorem dX2_init_15 : decode cX2_init 15 = .ok (.newarray .int, 2) := by decide +kernel
theorem dX2_init_17 : decode cX2_init 17 = .ok (.putfield 17, 3) := by decide +kernel
theorem dX2_init_20 : decode cX2_init 20 = .ok (.aload_n 0, 1) := by decide +kernel
theorem dX2_init_21 : decode cX2_init 21 = .ok (.aload_n 1, 1) := by decide +kernel
theorem dX2_init_22 : decode cX2_init 22 = .ok (.putfield 20, 3) := by decide +kernel
theorem dX2_init_25 : decode cX2_init 25 = .ok (.return_, 1) := by decide +kernel
theorem dX2_passDay_0 : decode cX2_passDay 0 = .ok (.iconst 0, 1) := by decide +kernel
theorem dX2_passDay_1 : decode cX2_passDay 1 = .ok (.istore 4, 2) := by decide +kernel
theorem dX2_passDay_3 : decode cX2_passDay 3 = .ok (.iload 4, 2) := by decide +kernel
theorem dX2_passDay_5 : decode cX2_passDay 5 = .ok (.aload_n 1, 1) := by decide +kernel
theorem dX2_passDay_6 : decode cX2_passDay 6 = .ok (.getfield 24, 3) := by decide +kernel
theorem dX2_passDay_9 : decode cX2_passDay 9 = .ok (.if_icmp .ge 40, 3) := by decide +kernel
theorem dX2_passDay_12 : decode cX2_passDay 12 = .ok (.aload_n 0, 1) := by decide +kernel
theorem dX2_passDay_13 : decode cX2_passDay 13 = .ok (.getfield 11, 3) := by decide +kernel
theorem dX2_passDay_16 : decode cX2_passDay 16 = .ok (.iload 4, 2) := by decide +kernel
theorem dX2_passDay_18 : decode cX2_passDay 18 = .ok (.aload_n 0, 1) := by decide +kernel
theorem dX2_passDay_19 : decode cX2_passDay 19 = .ok (.getfield 20, 3) := by decide +kernel
theorem dX2_passDay_22 : decode cX2_passDay 22 = .ok (.aload_n 1, 1) := by decide +kernel
theorem dX2_passDay_23 : decode cX2_passDay 23 = .ok (.aload_n 2, 1) := by decide +kernel
theorem dX2_passDay_24 : decode cX2_passDay 24 = .ok (.getfield 28, 3) := by decide +kernel
theorem dX2_passDay_27 : decode cX2_passDay 27 = .ok (.iload 4, 2) := by decide +kernel
theorem dX2_passDay_29 : decode cX2_passDay 29 = .ok (.aload_n 1, 1) := by decide +kernel
theorem dX2_passDay_30 : decode cX2_passDay 30 = .ok (.getfield 34, 3) := by decide +kernel
theorem dX2_passDay_33 : decode cX2_passDay 33 = .ok (.iload 4, 2) := by decide +kernel
theorem dX2_passDay_35 : decode cX2_passDay 35 = .ok (.invokestatic 38, 3) := by decide +kernel
theorem dX2_passDay_38 : decode cX2_passDay 38 = .ok (.iconst 0, 1) := by decide +kernel
theorem dX2_passDay_39 : decode cX2_passDay 39 = .ok (.invokevirtual 42, 3) := by decide +kernel
theorem dX2_passDay_42 : decode cX2_passDay 42 = .ok (.iastore, 1) := by decide +kernel
theorem dX2_passDay_43 : decode cX2_passDay 43 = .ok (.iinc 4 1, 3) := by decide +kernel
theorem dX2_passDay_46 : decode cX2_passDay 46 = .ok (.goto (-43), 3) := by decide +kernel
theorem dX2_passDay_49 : decode cX2_passDay 49 = .ok (.iconst 0, 1) := by decide +kernel
theorem dX2_passDay_50 : decode cX2_passDay 50 = .ok (.istore 4, 2) := by decide +kernel
theorem dX2_passDay_52 : decode cX2_passDay 52 = .ok (.iload 4, 2) := by decide +kernel
theorem dX2_passDay_54 : decode cX2_passDay 54 = .ok (.aload_n 1, 1) := by decide +kernel
theorem dX2_passDay_55 : decode cX2_passDay 55 = .ok (.getfield 24, 3) := by decide +kernel
theorem dX2_passDay_58 : decode cX2_passDay 58 = .ok (.if_icmp .ge 28, 3) := by decide +kernel
theorem dX2_passDay_61 : decode cX2_passDay 61 = .ok (.aload_n 1, 1) := by decide +kernel
theorem dX2_passDay_62 : decode cX2_passDay 62 = .ok (.getfield 34, 3) := by decide +kernel
theorem dX2_passDay_65 : decode cX2_passDay 65 = .ok (.iload 4, 2) := by decide +kernel
theorem dX2_passDay_67 : decode cX2_passDay 67 = .ok (.invokestatic 47, 3) := by decide +kernel
theorem dX2_passDay_70 : decode cX2_passDay 70 = .ok (.ifCond .ne 10, 3) := by decide +kernel
theorem dX2_passDay_73 : decode cX2_passDay 73 = .ok (.aload_n 0, 1) := by decide +kernel
theorem dX2_passDay_74 : decode cX2_passDay 74 = .ok (.aload_n 1, 1) := by decide +kernel
theorem dX2_passDay_75 : decode cX2_passDay 75 = .ok (.iload 4, 2) := by decide +kernel
theorem dX2_passDay_77 : decode cX2_passDay 77 = .ok (.invokevirtual 50, 3) := by decide +kernel
theorem dX2_passDay_80 : decode cX2_passDay 80 = .ok (.iinc 4 1, 3) := by decide +kernel
theorem dX2_passDay_83 : decode cX2_passDay 83 = .ok (.goto (-31), 3) := by decide +kernel
theorem dX2_passDay_86 : decode cX2_passDay 86 = .ok (.aload_n 1, 1) := by decide +kernel
theorem dX2_passDay_87 : decode cX2_passDay 87 = .ok (.dup, 1) := by decide +kernel
theorem dX2_passDay_88 : decode cX2_passDay 88 = .ok (.getfield 54, 3) := by decide +kernel
theorem dX2_passDay_91 : decode cX2_passDay 91 = .ok (.iconst 1, 1) := by decide +kernel
theorem dX2_passDay_92 : decode cX2_passDay 92 = .ok (.iadd, 1) := by decide +kernel
theorem dX2_passDay_93 : decode cX2_passDay 93 = .ok (.putfield 54, 3) := by decide +kernel
theorem dX2_passDay_96 : decode cX2_passDay 96 = .ok (.aload_n 2, 1) := by decide +kernel
theorem dX2_passDay_97 : decode cX2_passDay 97 = .ok (.getfield 57, 3) := by decide +kernel
theorem dX2_passDay_100 : decode cX2_passDay 100 = .ok (.aload_n 1, 1) := by decide +kernel
theorem dX2_passDay_101 : decode cX2_passDay 101 = .ok (.getfield 34, 3) := by decide +kernel
theorem dX2_passDay_104 : decode cX2_passDay 104 = .ok (.aload_n 1, 1) := by decide +kernel
theorem dX2_passDay_105 : decode cX2_passDay 105 = .ok (.getfield 24, 3) := by decide +kernel
theorem dX2_passDay_108 : decode cX2_passDay 108 = .ok (.invokevirtual 61, 3) := by decide +kernel
theorem dX2_passDay_111 : decode cX2_passDay 111 = .ok (.ifCond .eq 28, 3) := by decide +kernel
theorem dX2_passDay_114 : decode cX2_passDay 114 = .ok (.aload_n 1, 1) := by decide +kernel
theorem dX2_passDay_115 : decode cX2_passDay 115 = .ok (.dup, 1) := by decide +kernel
theorem dX2_passDay_116 : decode cX2_passDay 116 = .ok (.getfield 67, 3) := by decide +kernel
theorem dX2_passDay_119 : decode cX2_passDay 119 = .ok (.iconst 1, 1) := by decide +kernel
theorem dX2_passDay_120 : decode cX2_passDay 120 = .ok (.iadd, 1) := by decide +kernel
theorem dX2_passDay_121 : decode cX2_passDay 121 = .ok (.putfield 67, 3) := by decide +kernel
theorem dX2_passDay_124 : decode cX2_passDay 124 = .ok (.aload_n 1, 1) := by decide +kernel
theorem dX2_passDay_125 : decode cX2_passDay 125 = .ok (.dup, 1) := by decide +kernel
theorem dX2_passDay_126 : decode cX2_passDay 126 = .ok (.getfield 70, 3) := by decide +kernel
theorem dX2_passDay_129 : decode cX2_passDay 129 = .ok (.aload_n 1, 1) := by decide +kernel
theorem dX2_passDay_130 : decode cX2_passDay 130 = .ok (.getfield 73, 3) := by decide +kernel
theorem dX2_passDay_133 : decode cX2_passDay 133 = .ok (.iconst 5, 1) := by decide +kernel
theorem dX2_passDay_134 : decode cX2_passDay 134 = .ok (.iaload, 1) := by decide +kernel
theorem dX2_passDay_135 : decode cX2_passDay 135 = .ok (.iadd, 1) := by decide +kernel
theorem dX2_passDay_136 : decode cX2_passDay 136 = .ok (.putfield 70, 3) := by decide +kernel
theorem dX2_passDay_139 : decode cX2_passDay 139 = .ok (.aload_n 1, 1) := by decide +kernel
theorem dX2_passDay_140 : decode cX2_passDay 140 = .ok (.getfield 73, 3) := by decide +kernel
theorem dX2_passDay_143 : decode cX2_passDay 143 = .ok (.iconst 3, 1) := by decide +kernel
theorem dX2_passDay_144 : decode cX2_passDay 144 = .ok (.iaload, 1) := by decide +kernel
theorem dX2_passDay_145 : decode cX2_passDay 145 = .ok (.ifCond .le 23, 3) := by decide +kernel
theorem dX2_passDay_148 : decode cX2_passDay 148 = .ok (.aload_n 1, 1) := by decide +kernel
theorem dX2_passDay_149 : decode cX2_passDay 149 = .ok (.getfield 54, 3) := by decide +kernel
theorem dX2_passDay_152 : decode cX2_passDay 152 = .ok (.aload_n 1, 1) := by decide +kernel
theorem dX2_passDay_153 : decode cX2_passDay 153 = .ok (.getfield 73, 3) := by decide +kernel
theorem dX2_passDay_156 : decode cX2_passDay 156 = .ok (.iconst 3, 1) := by decide +kernel
theorem dX2_passDay_157 : decode cX2_passDay 157 = .ok (.iaload, 1) := by decide +kernel
theorem dX2_passDay_158 : decode cX2_passDay 158 = .ok (.irem, 1) := by decide +kernel
theorem dX2_passDay_159 : decode cX2_passDay 159 = .ok (.ifCond .ne 9, 3) := by decide +kernel
theorem dX2_passDay_162 : decode cX2_passDay 162 = .ok (.aload_n 0, 1) := by decide +kernel
theorem dX2_passDay_163 : decode cX2_passDay 163 = .ok (.aload_n 1, 1) := by decide +kernel
theorem dX2_passDay_164 : decode cX2_passDay 164 = .ok (.aload_n 3, 1) := by decide +kernel
theorem dX2_passDay_165 : decode cX2_passDay 165 = .ok (.invokevirtual 76, 3) := by decide +kernel
theorem dX2_passDay_168 : decode cX2_passDay 168 = .ok (.return_, 1) := by decide +kernel
theorem dX2_wear_0 : decode cX2_wear 0 = .ok (.aload_n 1, 1) := by decide +kernel
theorem dX2_wear_1 : decode cX2_wear 1 = .ok (.sipush 1000, 3) := by decide +kernel
theorem dX2_wear_4 : decode cX2_wear 4 = .ok (.invokevirtual 80, 3) := by decide +kernel
theorem dX2_wear_7 : decode cX2_wear 7 = .ok (.aload_n 0, 1) := by decide +kernel
theorem dX2_wear_8 : decode cX2_wear 8 = .ok (.getfield 11, 3) := by decide +kernel
theorem dX2_wear_11 : decode cX2_wear 11 = .ok (.iload_n 2, 1) := by decide +kernel
theorem dX2_wear_12 : decode cX2_wear 12 = .ok (.iaload, 1) := by decide +kernel
theorem dX2_wear_13 : decode cX2_wear 13 = .ok (.if_icmp .ge 16, 3) := by decide +kernel
theorem dX2_wear_16 : decode cX2_wear 16 = .ok (.aload_n 1, 1) := by decide +kernel
theorem dX2_wear_17 : decode cX2_wear 17 = .ok (.dup, 1) := by decide +kernel
theorem dX2_wear_18 : decode cX2_wear 18 = .ok (.getfield 34, 3) := by decide +kernel
theorem dX2_wear_21 : decode cX2_wear 21 = .ok (.lconst 1, 1) := by decide +kernel
theorem dX2_wear_22 : decode cX2_wear 22 = .ok (.iload_n 2, 1) := by decide +kernel
theorem dX2_wear_23 : decode cX2_wear 23 = .ok (.lshl, 1) := by decide +kernel
theorem dX2_wear_24 : decode cX2_wear 24 = .ok (.lor, 1) := by decide +kernel
theorem dX2_wear_25 : decode cX2_wear 25 = .ok (.putfield 34, 3) := by decide +kernel
theorem dX2_wear_28 : decode cX2_wear 28 = .ok (.return_, 1) := by decide +kernel
theorem dX2_wear_29 : decode cX2_wear 29 = .ok (.aload_n 1, 1) := by decide +kernel
theorem dX2_wear_30 : decode cX2_wear 30 = .ok (.getfield 84, 3) := by decide +kernel
theorem dX2_wear_33 : decode cX2_wear 33 = .ok (.iload_n 2, 1) := by decide +kernel
theorem dX2_wear_34 : decode cX2_wear 34 = .ok (.dup2, 1) := by decide +kernel
theorem dX2_wear_35 : decode cX2_wear 35 = .ok (.iaload, 1) := by decide +kernel
theorem dX2_wear_36 : decode cX2_wear 36 = .ok (.iconst 1, 1) := by decide +kernel
theorem dX2_wear_37 : decode cX2_wear 37 = .ok (.iadd, 1) := by decide +kernel
theorem dX2_wear_38 : decode cX2_wear 38 = .ok (.iastore, 1) := by decide +kernel
theorem dX2_wear_39 : decode cX2_wear 39 = .ok (.aload_n 1, 1) := by decide +kernel
theorem dX2_wear_40 : decode cX2_wear 40 = .ok (.getfield 84, 3) := by decide +kernel
theorem dX2_wear_43 : decode cX2_wear 43 = .ok (.iload_n 2, 1) := by decide +kernel
theorem dX2_wear_44 : decode cX2_wear 44 = .ok (.iaload, 1) := by decide +kernel
theorem dX2_wear_45 : decode cX2_wear 45 = .ok (.aload_n 1, 1) := by decide +kernel
theorem dX2_wear_46 : decode cX2_wear 46 = .ok (.getfield 87, 3) := by decide +kernel
theorem dX2_wear_49 : decode cX2_wear 49 = .ok (.if_icmp .le 18, 3) := by decide +kernel
theorem dX2_wear_52 : decode cX2_wear 52 = .ok (.aload_n 1, 1) := by decide +kernel
theorem dX2_wear_53 : decode cX2_wear 53 = .ok (.aload_n 1, 1) := by decide +kernel
theorem dX2_wear_54 : decode cX2_wear 54 = .ok (.getfield 84, 3) := by decide +kernel
theorem dX2_wear_57 : decode cX2_wear 57 = .ok (.iload_n 2, 1) := by decide +kernel
theorem dX2_wear_58 : decode cX2_wear 58 = .ok (.iaload, 1) := by decide +kernel
theorem dX2_wear_59 : decode cX2_wear 59 = .ok (.putfield 87, 3) := by decide +kernel
theorem dX2_wear_62 : decode cX2_wear 62 = .ok (.aload_n 1, 1) := by decide +kernel
theorem dX2_wear_63 : decode cX2_wear 63 = .ok (.iload_n 2, 1) := by decide +kernel
theorem dX2_wear_64 : decode cX2_wear 64 = .ok (.putfield 90, 3) := by decide +kernel
theorem dX2_wear_67 : decode cX2_wear 67 = .ok (.return_, 1) := by decide +kernel
theorem dX2_come_0 : decode cX2_come 0 = .ok (.iconst 0, 1) := by decide +kernel
theorem dX2_come_1 : decode cX2_come 1 = .ok (.istore_n 3, 1) := by decide +kernel
theorem dX2_come_2 : decode cX2_come 2 = .ok (.iload_n 3, 1) := by decide +kernel
theorem dX2_come_3 : decode cX2_come 3 = .ok (.aload_n 1, 1) := by decide +kernel
theorem dX2_come_4 : decode cX2_come 4 = .ok (.getfield 24, 3) := by decide +kernel
theorem dX2_come_7 : decode cX2_come 7 = .ok (.if_icmp .ge 25, 3) := by decide +kernel
theorem dX2_come_10 : decode cX2_come 10 = .ok (.aload_n 0, 1) := by decide +kernel
theorem dX2_come_11 : decode cX2_come 11 = .ok (.getfield 17, 3) := by decide +kernel
theorem dX2_come_14 : decode cX2_come 14 = .ok (.iload_n 3, 1) := by decide +kernel
theorem dX2_come_15 : decode cX2_come 15 = .ok (.aload_n 0, 1) := by decide +kernel
theorem dX2_come_16 : decode cX2_come 16 = .ok (.getfield 20, 3) := by decide +kernel
theorem dX2_come_19 : decode cX2_come 19 = .ok (.aload_n 1, 1) := by decide +kernel
theorem dX2_come_20 : decode cX2_come 20 = .ok (.aload_n 2, 1) := by decide +kernel
theorem dX2_come_21 : decode cX2_come 21 = .ok (.iload_n 3, 1) := by decide +kernel
theorem dX2_come_22 : decode cX2_come 22 = .ok (.invokevirtual 93, 3) := by decide +kernel
theorem dX2_come_25 : decode cX2_come 25 = .ok (.iastore, 1) := by decide +kernel
theorem dX2_come_26 : decode cX2_come 26 = .ok (.iinc 3 1, 3) := by decide +kernel
theorem dX2_come_29 : decode cX2_come 29 = .ok (.goto (-27), 3) := by decide +kernel
theorem dX2_come_32 : decode cX2_come 32 = .ok (.iconst 0, 1) := by decide +kernel
theorem dX2_come_33 : decode cX2_come 33 = .ok (.istore_n 3, 1) := by decide +kernel
theorem dX2_come_34 : decode cX2_come 34 = .ok (.iload_n 3, 1) := by decide +kernel
theorem dX2_come_35 : decode cX2_come 35 = .ok (.aload_n 1, 1) := by decide +kernel
theorem dX2_come_36 : decode cX2_come 36 = .ok (.getfield 24, 3) := by decide +kernel
theorem dX2_come_39 : decode cX2_come 39 = .ok (.if_icmp .ge 14, 3) := by decide +kernel
theorem dX2_come_42 : decode cX2_come 42 = .ok (.aload_n 1, 1) := by decide +kernel
theorem dX2_come_43 : decode cX2_come 43 = .ok (.iload_n 3, 1) := by decide +kernel
theorem dX2_come_44 : decode cX2_come 44 = .ok (.invokevirtual 97, 3) := by decide +kernel
theorem dX2_come_47 : decode cX2_come 47 = .ok (.iinc 3 1, 3) := by decide +kernel
theorem dX2_come_50 : decode cX2_come 50 = .ok (.goto (-16), 3) := by decide +kernel
theorem dX2_come_53 : decode cX2_come 53 = .ok (.iconst 0, 1) := by decide +kernel
theorem dX2_come_54 : decode cX2_come 54 = .ok (.istore_n 3, 1) := by decide +kernel
theorem dX2_come_55 : decode cX2_come 55 = .ok (.iload_n 3, 1) := by decide +kernel
theorem dX2_come_56 : decode cX2_come 56 = .ok (.aload_n 1, 1) := by decide +kernel
theorem dX2_come_57 : decode cX2_come 57 = .ok (.getfield 73, 3) := by decide +kernel
theorem dX2_come_60 : decode cX2_come 60 = .ok (.iconst 2, 1) := by decide +kernel
theorem dX2_come_61 : decode cX2_come 61 = .ok (.iaload, 1) := by decide +kernel
theorem dX2_come_62 : decode cX2_come 62 = .ok (.if_icmp .ge 58, 3) := by decide +kernel
theorem dX2_come_65 : decode cX2_come 65 = .ok (.aload_n 1, 1) := by decide +kernel
theorem dX2_come_66 : decode cX2_come 66 = .ok (.getfield 73, 3) := by decide +kernel
theorem dX2_come_69 : decode cX2_come 69 = .ok (.bipush 6, 2) := by decide +kernel
theorem dX2_come_71 : decode cX2_come 71 = .ok (.iaload, 1) := by decide +kernel
theorem dX2_come_72 : decode cX2_come 72 = .ok (.aload_n 1, 1) := by decide +kernel
theorem dX2_come_73 : decode cX2_come 73 = .ok (.getfield 73, 3) := by decide +kernel
theorem dX2_come_76 : decode cX2_come 76 = .ok (.bipush 7, 2) := by decide +kernel
theorem dX2_come_78 : decode cX2_come 78 = .ok (.iaload, 1) := by decide +kernel
theorem dX2_come_79 : decode cX2_come 79 = .ok (.iadd, 1) := by decide +kernel
theorem dX2_come_80 : decode cX2_come 80 = .ok (.ifCond .le 40, 3) := by decide +kernel
theorem dX2_come_83 : decode cX2_come 83 = .ok (.aload_n 0, 1) := by decide +kernel
theorem dX2_come_84 : decode cX2_come 84 = .ok (.aload_n 1, 1) := by decide +kernel
theorem dX2_come_85 : decode cX2_come 85 = .ok (.getfield 24, 3) := by decide +kernel
theorem dX2_come_88 : decode cX2_come 88 = .ok (.invokevirtual 101, 3) := by decide +kernel
theorem dX2_come_91 : decode cX2_come 91 = .ok (.istore 4, 2) := by decide +kernel
theorem dX2_come_93 : decode cX2_come 93 = .ok (.iload 4, 2) := by decide +kernel
theorem dX2_come_95 : decode cX2_come 95 = .ok (.iconst (-1), 1) := by decide +kernel
theorem dX2_come_96 : decode cX2_come 96 = .ok (.if_icmp .ne 4, 3) := by decide +kernel
theorem dX2_come_99 : decode cX2_come 99 = .ok (.return_, 1) := by decide +kernel
theorem dX2_come_100 : decode cX2_come 100 = .ok (.aload_n 0, 1) := by decide +kernel
theorem dX2_come_101 : decode cX2_come 101 = .ok (.getfield 17, 3) := by decide +kernel
theorem dX2_come_104 : decode cX2_come 104 = .ok (.iload 4, 2) := by decide +kernel
theorem dX2_come_106 : decode cX2_come 106 = .ok (.iconst 0, 1) := by decide +kernel
theorem dX2_come_107 : decode cX2_come 107 = .ok (.iastore, 1) := by decide +kernel
theorem dX2_come_108 : decode cX2_come 108 = .ok (.aload_n 1, 1) := by decide +kernel
theorem dX2_come_109 : decode cX2_come 109 = .ok (.iload 4, 2) := by decide +kernel
theorem dX2_come_111 : decode cX2_come 111 = .ok (.invokestatic 104, 3) := by decide +kernel
theorem dX2_come_114 : decode cX2_come 114 = .ok (.iinc 3 1, 3) := by decide +kernel
theorem dX2_come_117 : decode cX2_come 117 = .ok (.goto (-62), 3) := by decide +kernel
theorem dX2_come_120 : decode cX2_come 120 = .ok (.return_, 1) := by decide +kernel
theorem dX2_mostUrgent_0 : decode cX2_mostUrgent 0 = .ok (.iconst (-1), 1) := by decide +kernel
theorem dX2_mostUrgent_1 : decode cX2_mostUrgent 1 = .ok (.istore_n 2, 1) := by decide +kernel
theorem dX2_mostUrgent_2 : decode cX2_mostUrgent 2 = .ok (.iconst 0, 1) := by decide +kernel
theorem dX2_mostUrgent_3 : decode cX2_mostUrgent 3 = .ok (.istore_n 3, 1) := by decide +kernel
theorem dX2_mostUrgent_4 : decode cX2_mostUrgent 4 = .ok (.iconst 0, 1) := by decide +kernel
theorem dX2_mostUrgent_5 : decode cX2_mostUrgent 5 = .ok (.istore 4, 2) := by decide +kernel
theorem dX2_mostUrgent_7 : decode cX2_mostUrgent 7 = .ok (.iload 4, 2) := by decide +kernel
theorem dX2_mostUrgent_9 : decode cX2_mostUrgent 9 = .ok (.iload_n 1, 1) := by decide +kernel
theorem dX2_mostUrgent_10 : decode cX2_mostUrgent 10 = .ok (.if_icmp .ge 31, 3) := by decide +kernel
theorem dX2_mostUrgent_13 : decode cX2_mostUrgent 13 = .ok (.aload_n 0, 1) := by decide +kernel
theorem dX2_mostUrgent_14 : decode cX2_mostUrgent 14 = .ok (.getfield 17, 3) := by decide +kernel
theorem dX2_mostUrgent_17 : decode cX2_mostUrgent 17 = .ok (.iload 4, 2) := by decide +kernel
theorem dX2_mostUrgent_19 : decode cX2_mostUrgent 19 = .ok (.iaload, 1) := by decide +kernel
theorem dX2_mostUrgent_20 : decode cX2_mostUrgent 20 = .ok (.iload_n 3, 1) := by decide +kernel
theorem dX2_mostUrgent_21 : decode cX2_mostUrgent 21 = .ok (.if_icmp .le 14, 3) := by decide +kernel
theorem dX2_mostUrgent_24 : decode cX2_mostUrgent 24 = .ok (.iload 4, 2) := by decide +kernel
theorem dX2_mostUrgent_26 : decode cX2_mostUrgent 26 = .ok (.istore_n 2, 1) := by decide +kernel
theorem dX2_mostUrgent_27 : decode cX2_mostUrgent 27 = .ok (.aload_n 0, 1) := by decide +kernel
theorem dX2_mostUrgent_28 : decode cX2_mostUrgent 28 = .ok (.getfield 17, 3) := by decide +kernel
theorem dX2_mostUrgent_31 : decode cX2_mostUrgent 31 = .ok (.iload 4, 2) := by decide +kernel
theorem dX2_mostUrgent_33 : decode cX2_mostUrgent 33 = .ok (.iaload, 1) := by decide +kernel
theorem dX2_mostUrgent_34 : decode cX2_mostUrgent 34 = .ok (.istore_n 3, 1) := by decide +kernel
theorem dX2_mostUrgent_35 : decode cX2_mostUrgent 35 = .ok (.iinc 4 1, 3) := by decide +kernel
theorem dX2_mostUrgent_38 : decode cX2_mostUrgent 38 = .ok (.goto (-31), 3) := by decide +kernel
theorem dX2_mostUrgent_41 : decode cX2_mostUrgent 41 = .ok (.iload_n 2, 1) := by decide +kernel
theorem dX2_mostUrgent_42 : decode cX2_mostUrgent 42 = .ok (.ireturn, 1) := by decide +kernel
theorem dX2_change_0 : decode cX2_change 0 = .ok (.iload_n 1, 1) := by decide +kernel
theorem dX2_change_1 : decode cX2_change 1 = .ok (.iconst 1, 1) := by decide +kernel
theorem dX2_change_2 : decode cX2_change 2 = .ok (.iadd, 1) := by decide +kernel
theorem dX2_change_3 : decode cX2_change 3 = .ok (.istore_n 2, 1) := by decide +kernel
theorem dX2_change_4 : decode cX2_change 4 = .ok (.aload_n 0, 1) := by decide +kernel
theorem dX2_change_5 : decode cX2_change 5 = .ok (.getfield 24, 3) := by decide +kernel
theorem dX2_change_8 : decode cX2_change 8 = .ok (.iload_n 1, 1) := by decide +kernel
theorem dX2_change_9 : decode cX2_change 9 = .ok (.isub, 1) := by decide +kernel
theorem dX2_change_10 : decode cX2_change 10 = .ok (.istore_n 3, 1) := by decide +kernel
theorem dX2_change_11 : decode cX2_change 11 = .ok (.aload_n 0, 1) := by decide +kernel
theorem dX2_change_12 : decode cX2_change 12 = .ok (.getfield 73, 3) := by decide +kernel
theorem dX2_change_15 : decode cX2_change 15 = .ok (.bipush 6, 2) := by decide +kernel
theorem dX2_change_17 : decode cX2_change 17 = .ok (.iaload, 1) := by decide +kernel
theorem dX2_change_18 : decode cX2_change 18 = .ok (.ifCond .le 22, 3) := by decide +kernel
theorem dX2_change_21 : decode cX2_change 21 = .ok (.iload_n 2, 1) := by decide +kernel
theorem dX2_change_22 : decode cX2_change 22 = .ok (.iload_n 3, 1) := by decide +kernel
theorem dX2_change_23 : decode cX2_change 23 = .ok (.if_icmp .le 13, 3) := by decide +kernel
theorem dX2_change_26 : decode cX2_change 26 = .ok (.aload_n 0, 1) := by decide +kernel
theorem dX2_change_27 : decode cX2_change 27 = .ok (.getfield 73, 3) := by decide +kernel
theorem dX2_change_30 : decode cX2_change 30 = .ok (.bipush 7, 2) := by decide +kernel
theorem dX2_change_32 : decode cX2_change 32 = .ok (.iaload, 1) := by decide +kernel
theorem dX2_change_33 : decode cX2_change 33 = .ok (.ifCond .gt 7, 3) := by decide +kernel
theorem dX2_change_36 : decode cX2_change 36 = .ok (.iconst 1, 1) := by decide +kernel
theorem dX2_change_37 : decode cX2_change 37 = .ok (.goto 4, 3) := by decide +kernel
theorem dX2_change_40 : decode cX2_change 40 = .ok (.iconst 0, 1) := by decide +kernel
theorem dX2_change_41 : decode cX2_change 41 = .ok (.istore 4, 2) := by decide +kernel
theorem dX2_change_43 : decode cX2_change 43 = .ok (.aload_n 0, 1) := by decide +kernel
theorem dX2_change_44 : decode cX2_change 44 = .ok (.getfield 73, 3) := by decide +kernel
theorem dX2_change_47 : decode cX2_change 47 = .ok (.iload 4, 2) := by decide +kernel
theorem dX2_change_49 : decode cX2_change 49 = .ok (.ifCond .eq 8, 3) := by decide +kernel
theorem dX2_change_52 : decode cX2_change 52 = .ok (.bipush 6, 2) := by decide +kernel
theorem dX2_change_54 : decode cX2_change 54 = .ok (.goto 5, 3) := by decide +kernel
theorem dX2_change_57 : decode cX2_change 57 = .ok (.bipush 7, 2) := by decide +kernel
theorem dX2_change_59 : decode cX2_change 59 = .ok (.dup2, 1) := by decide +kernel
theorem dX2_change_60 : decode cX2_change 60 = .ok (.iaload, 1) := by decide +kernel
theorem dX2_change_61 : decode cX2_change 61 = .ok (.iconst 1, 1) := by decide +kernel
theorem dX2_change_62 : decode cX2_change 62 = .ok (.isub, 1) := by decide +kernel
theorem dX2_change_63 : decode cX2_change 63 = .ok (.iastore, 1) := by decide +kernel
theorem dX2_change_64 : decode cX2_change 64 = .ok (.aload_n 0, 1) := by decide +kernel
theorem dX2_change_65 : decode cX2_change 65 = .ok (.dup, 1) := by decide +kernel
theorem dX2_change_66 : decode cX2_change 66 = .ok (.getfield 70, 3) := by decide +kernel
theorem dX2_change_69 : decode cX2_change 69 = .ok (.aload_n 0, 1) := by decide +kernel
theorem dX2_change_70 : decode cX2_change 70 = .ok (.getfield 107, 3) := by decide +kernel
theorem dX2_change_73 : decode cX2_change 73 = .ok (.aload_n 0, 1) := by decide +kernel
theorem dX2_change_74 : decode cX2_change 74 = .ok (.getfield 110, 3) := by decide +kernel
theorem dX2_change_77 : decode cX2_change 77 = .ok (.iload_n 1, 1) := by decide +kernel
theorem dX2_change_78 : decode cX2_change 78 = .ok (.iaload, 1) := by decide +kernel
theorem dX2_change_79 : decode cX2_change 79 = .ok (.iaload, 1) := by decide +kernel
theorem dX2_change_80 : decode cX2_change 80 = .ok (.aload_n 0, 1) := by decide +kernel
theorem dX2_change_81 : decode cX2_change 81 = .ok (.getfield 73, 3) := by decide +kernel
theorem dX2_change_84 : decode cX2_change 84 = .ok (.iconst 4, 1) := by decide +kernel
theorem dX2_change_85 : decode cX2_change 85 = .ok (.iaload, 1) := by decide +kernel
theorem dX2_change_86 : decode cX2_change 86 = .ok (.iload 4, 2) := by decide +kernel
theorem dX2_change_88 : decode cX2_change 88 = .ok (.ifCond .eq 7, 3) := by decide +kernel
theorem dX2_change_91 : decode cX2_change 91 = .ok (.iload_n 2, 1) := by decide +kernel
theorem dX2_change_92 : decode cX2_change 92 = .ok (.goto 4, 3) := by decide +kernel
theorem dX2_change_95 : decode cX2_change 95 = .ok (.iload_n 3, 1) := by decide +kernel
theorem dX2_change_96 : decode cX2_change 96 = .ok (.imul, 1) := by decide +kernel
theorem dX2_change_97 : decode cX2_change 97 = .ok (.iadd, 1) := by decide +kernel
theorem dX2_change_98 : decode cX2_change 98 = .ok (.iadd, 1) := by decide +kernel
theorem dX2_change_99 : decode cX2_change 99 = .ok (.putfield 70, 3) := by decide +kernel
theorem dX2_change_102 : decode cX2_change 102 = .ok (.aload_n 0, 1) := by decide +kernel
theorem dX2_change_103 : decode cX2_change 103 = .ok (.dup, 1) := by decide +kernel
theorem dX2_change_104 : decode cX2_change 104 = .ok (.getfield 113, 3) := by decide +kernel
theorem dX2_change_107 : decode cX2_change 107 = .ok (.iconst 1, 1) := by decide +kernel
theorem dX2_change_108 : decode cX2_change 108 = .ok (.iadd, 1) := by decide +kernel
theorem dX2_change_109 : decode cX2_change 109 = .ok (.putfield 113, 3) := by decide +kernel
theorem dX2_change_112 : decode cX2_change 112 = .ok (.aload_n 0, 1) := by decide +kernel
theorem dX2_change_113 : decode cX2_change 113 = .ok (.getfield 116, 3) := by decide +kernel
theorem dX2_change_116 : decode cX2_change 116 = .ok (.iload_n 1, 1) := by decide +kernel
theorem dX2_change_117 : decode cX2_change 117 = .ok (.dup2, 1) := by decide +kernel
theorem dX2_change_118 : decode cX2_change 118 = .ok (.iaload, 1) := by decide +kernel
theorem dX2_change_119 : decode cX2_change 119 = .ok (.iconst 1, 1) := by decide +kernel
theorem dX2_change_120 : decode cX2_change 120 = .ok (.iadd, 1) := by decide +kernel
theorem dX2_change_121 : decode cX2_change 121 = .ok (.iastore, 1) := by decide +kernel
theorem dX2_change_122 : decode cX2_change 122 = .ok (.aload_n 0, 1) := by decide +kernel
theorem dX2_change_123 : decode cX2_change 123 = .ok (.getfield 84, 3) := by decide +kernel
theorem dX2_change_126 : decode cX2_change 126 = .ok (.iload_n 1, 1) := by decide +kernel
theorem dX2_change_127 : decode cX2_change 127 = .ok (.iconst 0, 1) := by decide +kernel
theorem dX2_change_128 : decode cX2_change 128 = .ok (.iastore, 1) := by decide +kernel
theorem dX2_change_129 : decode cX2_change 129 = .ok (.aload_n 0, 1) := by decide +kernel
theorem dX2_change_130 : decode cX2_change 130 = .ok (.dup, 1) := by decide +kernel
theorem dX2_change_131 : decode cX2_change 131 = .ok (.getfield 34, 3) := by decide +kernel
theorem dX2_change_134 : decode cX2_change 134 = .ok (.lconst 1, 1) := by decide +kernel
theorem dX2_change_135 : decode cX2_change 135 = .ok (.iload_n 1, 1) := by decide +kernel
theorem dX2_change_136 : decode cX2_change 136 = .ok (.lshl, 1) := by decide +kernel
theorem dX2_change_137 : decode cX2_change 137 = .ok (.ldc2_w 119, 3) := by decide +kernel
theorem dX2_change_140 : decode cX2_change 140 = .ok (.lxor, 1) := by decide +kernel
theorem dX2_change_141 : decode cX2_change 141 = .ok (.land, 1) := by decide +kernel
theorem dX2_change_142 : decode cX2_change 142 = .ok (.putfield 34, 3) := by decide +kernel
theorem dX2_change_145 : decode cX2_change 145 = .ok (.aload_n 0, 1) := by decide +kernel
theorem dX2_change_146 : decode cX2_change 146 = .ok (.iload_n 1, 1) := by decide +kernel
theorem dX2_change_147 : decode cX2_change 147 = .ok (.invokevirtual 97, 3) := by decide +kernel
theorem dX2_change_150 : decode cX2_change 150 = .ok (.return_, 1) := by decide +kernel
theorem dX3_init_0 : decode cX3_init 0 = .ok (.aload_n 0, 1) := by decide +kernel
theorem dX3_init_1 : decode cX3_init 1 = .ok (.invokespecial 5, 3) := by decide +kernel
theorem dX3_init_4 : decode cX3_init 4 = .ok (.aload_n 0, 1) := by decide +kernel
theorem dX3_init_5 : decode cX3_init 5 = .ok (.sipush 1024, 3) := by decide +kernel
theorem dX3_init_8 : decode cX3_init 8 = .ok (.newarray .long, 2) := by decide +kernel
theorem dX3_init_10 : decode cX3_init 10 = .ok (.putfield 11, 3) := by decide +kernel
theorem dX3_init_13 : decode cX3_init 13 = .ok (.aload_n 0, 1) := by decide +kernel
theorem dX3_init_14 : decode cX3_init 14 = .ok (.sipush 1024, 3) := by decide +kernel
theorem dX3_init_17 : decode cX3_init 17 = .ok (.newarray .long, 2) := by decide +kernel
theorem dX3_init_19 : decode cX3_init 19 = .ok (.putfield 15, 3) := by decide +kernel
theorem dX3_init_22 : decode cX3_init 22 = .ok (.aload_n 0, 1) := by decide +kernel
theorem dX3_init_23 : decode cX3_init 23 = .ok (.sipush 1024, 3) := by decide +kernel
theorem dX3_init_26 : decode cX3_init 26 = .ok (.newarray .boolean, 2) := by decide +kernel
theorem dX3_init_28 : decode cX3_init 28 = .ok (.putfield 18, 3) := by decide +kernel
theorem dX3_init_31 : decode cX3_init 31 = .ok (.aload_n 0, 1) := by decide +kernel
theorem dX3_init_32 : decode cX3_init 32 = .ok (.bipush 30, 2) := by decide +kernel
theorem dX3_init_34 : decode cX3_init 34 = .ok (.newarray .int, 2) := by decide +kernel
theorem dX3_init_36 : decode cX3_init 36 = .ok (.putfield 22, 3) := by decide +kernel
theorem dX3_init_39 : decode cX3_init 39 = .ok (.aload_n 0, 1) := by decide +kernel
theorem dX3_init_40 : decode cX3_init 40 = .ok (.sipush 1024, 3) := by decide +kernel
theorem dX3_init_43 : decode cX3_init 43 = .ok (.newarray .int, 2) := by decide +kernel
theorem dX3_init_45 : decode cX3_init 45 = .ok (.putfield 26, 3) := by decide +kernel
theorem dX3_init_48 : decode cX3_init 48 = .ok (.aload_n 0, 1) := by decide +kernel
theorem dX3_init_49 : decode cX3_init 49 = .ok (.sipush 1024, 3) := by decide +kernel
theorem dX3_init_52 : decode cX3_init 52 = .ok (.newarray .long, 2) := by decide +kernel
theorem dX3_init_54 : decode cX3_init 54 = .ok (.putfield 29, 3) := by decide +kernel
theorem dX3_init_57 : decode cX3_init 57 = .ok (.aload_n 0, 1) := by decide +kernel
theorem dX3_init_58 : decode cX3_init 58 = .ok (.aload_n 1, 1) := by decide +kernel
theorem dX3_init_59 : decode cX3_init 59 = .ok (.putfield 32, 3) := by decide +kernel
theorem dX3_init_62 : decode cX3_init 62 = .ok (.return_, 1) := by decide +kernel
theorem dX3_begin_0 : decode cX3_begin 0 = .ok (.aload_n 0, 1) := by decide +kernel
theorem dX3_begin_1 : decode cX3_begin 1 = .ok (.aload_n 1, 1) := by decide +kernel
theorem dX3_begin_2 : decode cX3_begin 2 = .ok (.getfield 36, 3) := by decide +kernel
theorem dX3_begin_5 : decode cX3_begin 5 = .ok (.bipush 10, 2) := by decide +kernel
theorem dX3_begin_7 : decode cX3_begin 7 = .ok (.invokestatic 42, 3) := by decide +kernel
theorem dX3_begin_10 : decode cX3_begin 10 = .ok (.putfield 48, 3) := by decide +kernel
theorem dX3_begin_13 : decode cX3_begin 13 = .ok (.aload_n 0, 1) := by decide +kernel
theorem dX3_begin_14 : decode cX3_begin 14 = .ok (.iconst 1, 1) := by decide +kernel
theorem dX3_begin_15 : decode cX3_begin 15 = .ok (.aload_n 0, 1) := by decide +kernel
theorem dX3_begin_16 : decode cX3_begin 16 = .ok (.getfield 48, 3) := by decide +kernel
theorem dX3_begin_19 : decode cX3_begin 19 = .ok (.ishl, 1) := by decide +kernel
theorem dX3_begin_20 : decode cX3_begin 20 = .ok (.putfield 49, 3) := by decide +kernel
theorem dX3_begin_23 : decode cX3_begin 23 = .ok (.aload_n 0, 1) := by decide +kernel
theorem dX3_begin_24 : decode cX3_begin 24 = .ok (.getfield 11, 3) := by decide +kernel
theorem dX3_begin_27 : decode cX3_begin 27 = .ok (.lconst 0, 1) := by decide +kernel
theorem dX3_begin_28 : decode cX3_begin 28 = .ok (.invokestatic 52, 3) := by decide +kernel
theorem dX3_begin_31 : decode cX3_begin 31 = .ok (.iconst 0, 1) := by decide +kernel
theorem dX3_begin_32 : decode cX3_begin 32 = .ok (.istore_n 3, 1) := by decide +kernel
theorem dX3_begin_33 : decode cX3_begin 33 = .ok (.iload_n 3, 1) := by decide +kernel
theorem dX3_begin_34 : decode cX3_begin 34 = .ok (.aload_n 0, 1) := by decide +kernel
theorem dX3_begin_35 : decode cX3_begin 35 = .ok (.getfield 49, 3) := by decide +kernel
theorem dX3_begin_38 : decode cX3_begin 38 = .ok (.if_icmp .ge 25, 3) := by decide +kernel
theorem dX3_begin_41 : decode cX3_begin 41 = .ok (.aload_n 0, 1) := by decide +kernel
theorem dX3_begin_42 : decode cX3_begin 42 = .ok (.getfield 18, 3) := by decide +kernel
theorem dX3_begin_45 : decode cX3_begin 45 = .ok (.iload_n 3, 1) := by decide +kernel
theorem dX3_begin_46 : decode cX3_begin 46 = .ok (.aload_n 2, 1) := by decide +kernel
theorem dX3_begin_47 : decode cX3_begin 47 = .ok (.iload_n 3, 1) := by decide +kernel
theorem dX3_begin_48 : decode cX3_begin 48 = .ok (.i2l, 1) := by decide +kernel
theorem dX3_begin_49 : decode cX3_begin 49 = .ok (.aload_n 0, 1) := by decide +kernel
theorem dX3_begin_50 : decode cX3_begin 50 = .ok (.getfield 48, 3) := by decide +kernel
theorem dX3_begin_53 : decode cX3_begin 53 = .ok (.invokevirtual 58, 3) := by decide +kernel
theorem dX3_begin_56 : decode cX3_begin 56 = .ok (.bastore, 1) := by decide +kernel
theorem dX3_begin_57 : decode cX3_begin 57 = .ok (.iinc 3 1, 3) := by decide +kernel
theorem dX3_begin_60 : decode cX3_begin 60 = .ok (.goto (-27), 3) := by decide +kernel
theorem dX3_begin_63 : decode cX3_begin 63 = .ok (.aload_n 1, 1) := by decide +kernel
theorem dX3_begin_64 : decode cX3_begin 64 = .ok (.getfield 64, 3) := by decide +kernel
theorem dX3_begin_67 : decode cX3_begin 67 = .ok (.l2i, 1) := by decide +kernel
theorem dX3_begin_68 : decode cX3_begin 68 = .ok (.aload_n 0, 1) := by decide +kernel
theorem dX3_begin_69 : decode cX3_begin 69 = .ok (.getfield 49, 3) := by decide +kernel
theorem dX3_begin_72 : decode cX3_begin 72 = .ok (.iconst 1, 1) := by decide +kernel
theorem dX3_begin_73 : decode cX3_begin 73 = .ok (.isub, 1) := by decide +kernel
theorem dX3_begin_74 : decode cX3_begin 74 = .ok (.iand, 1) := by decide +kernel
theorem dX3_begin_75 : decode cX3_begin 75 = .ok (.istore_n 3, 1) := by decide +kernel
theorem dX3_begin_76 : decode cX3_begin 76 = .ok (.aload_n 0, 1) := by decide +kernel
theorem dX3_begin_77 : decode cX3_begin 77 = .ok (.getfield 18, 3) := by decide +kernel
theorem dX3_begin_80 : decode cX3_begin 80 = .ok (.iload_n 3, 1) := by decide +kernel
theorem dX3_begin_81 : decode cX3_begin 81 = .ok (.baload, 1) := by decide +kernel
theorem dX3_begin_82 : decode cX3_begin 82 = .ok (.ifCond .ne 12, 3) := by decide +kernel
theorem dX3_begin_85 : decode cX3_begin 85 = .ok (.aload_n 0, 1) := by decide +kernel
theorem dX3_begin_86 : decode cX3_begin 86 = .ok (.getfield 11, 3) := by decide +kernel
theorem dX3_begin_89 : decode cX3_begin 89 = .ok (.iload_n 3, 1) := by decide +kernel
theorem dX3_begin_90 : decode cX3_begin 90 = .ok (.ldc2_w 68, 3) := by decide +kernel
theorem dX3_begin_93 : decode cX3_begin 93 = .ok (.lastore, 1) := by decide +kernel
theorem dX3_begin_94 : decode cX3_begin 94 = .ok (.return_, 1) := by decide +kernel
theorem dX3_passDay_0 : decode cX3_passDay 0 = .ok (.iconst 0, 1) := by decide +kernel
theorem dX3_passDay_1 : decode cX3_passDay 1 = .ok (.istore 4, 2) := by decide +kernel
theorem dX3_passDay_3 : decode cX3_passDay 3 = .ok (.iload 4, 2) := by decide +kernel
theorem dX3_passDay_5 : decode cX3_passDay 5 = .ok (.aload_n 0, 1) := by decide +kernel
theorem dX3_passDay_6 : decode cX3_passDay 6 = .ok (.getfield 48, 3) := by decide +kernel
theorem dX3_passDay_9 : decode cX3_passDay 9 = .ok (.if_icmp .ge 50, 3) := by decide +kernel
theorem dX3_passDay_12 : decode cX3_passDay 12 = .ok (.iconst 0, 1) := by decide +kernel
theorem dX3_passDay_13 : decode cX3_passDay 13 = .ok (.istore 5, 2) := by decide +kernel
theorem dX3_passDay_15 : decode cX3_passDay 15 = .ok (.iload 5, 2) := by decide +kernel
theorem dX3_passDay_17 : decode cX3_passDay 17 = .ok (.iconst 3, 1) := by decide +kernel
theorem dX3_passDay_18 : decode cX3_passDay 18 = .ok (.if_icmp .ge 35, 3) := by decide +kernel
theorem dX3_passDay_21 : decode cX3_passDay 21 = .ok (.aload_n 0, 1) := by decide +kernel
theorem dX3_passDay_22 : decode cX3_passDay 22 = .ok (.getfield 22, 3) := by decide +kernel
theorem dX3_passDay_25 : decode cX3_passDay 25 = .ok (.iconst 3, 1) := by decide +kernel
theorem dX3_passDay_26 : decode cX3_passDay 26 = .ok (.iload 4, 2) := by decide +kernel
theorem dX3_passDay_28 : decode cX3_passDay 28 = .ok (.imul, 1) := by decide +kernel
theorem dX3_passDay_29 : decode cX3_passDay 29 = .ok (.iload 5, 2) := by decide +kernel
theorem dX3_passDay_31 : decode cX3_passDay 31 = .ok (.iadd, 1) := by decide +kernel
theorem dX3_passDay_32 : decode cX3_passDay 32 = .ok (.aload_n 0, 1) := by decide +kernel
theorem dX3_passDay_33 : decode cX3_passDay 33 = .ok (.getfield 32, 3) := by decide +kernel
theorem dX3_passDay_36 : decode cX3_passDay 36 = .ok (.aload_n 1, 1) := by decide +kernel
theorem dX3_passDay_37 : decode cX3_passDay 37 = .ok (.aload_n 2, 1) := by decide +kernel
theorem dX3_passDay_38 : decode cX3_passDay 38 = .ok (.iload 4, 2) := by decide +kernel
theorem dX3_passDay_40 : decode cX3_passDay 40 = .ok (.iload 5, 2) := by decide +kernel
theorem dX3_passDay_42 : decode cX3_passDay 42 = .ok (.iload_n 3, 1) := by decide +kernel
theorem dX3_passDay_43 : decode cX3_passDay 43 = .ok (.invokevirtual 70, 3) := by decide +kernel
theorem dX3_passDay_46 : decode cX3_passDay 46 = .ok (.iastore, 1) := by decide +kernel
theorem dX3_passDay_47 : decode cX3_passDay 47 = .ok (.iinc 5 1, 3) := by decide +kernel
theorem dX3_passDay_50 : decode cX3_passDay 50 = .ok (.goto (-35), 3) := by decide +kernel
theorem dX3_passDay_53 : decode cX3_passDay 53 = .ok (.iinc 4 1, 3) := by decide +kernel
theorem dX3_passDay_56 : decode cX3_passDay 56 = .ok (.goto (-53), 3) := by decide +kernel
theorem dX3_passDay_59 : decode cX3_passDay 59 = .ok (.aload_n 0, 1) := by decide +kernel
theorem dX3_passDay_60 : decode cX3_passDay 60 = .ok (.getfield 15, 3) := by decide +kernel
theorem dX3_passDay_63 : decode cX3_passDay 63 = .ok (.lconst 0, 1) := by decide +kernel
theorem dX3_passDay_64 : decode cX3_passDay 64 = .ok (.invokestatic 52, 3) := by decide +kernel
theorem dX3_passDay_67 : decode cX3_passDay 67 = .ok (.iconst 0, 1) := by decide +kernel
theorem dX3_passDay_68 : decode cX3_passDay 68 = .ok (.istore 4, 2) := by decide +kernel
theorem dX3_passDay_70 : decode cX3_passDay 70 = .ok (.iload 4, 2) := by decide +kernel
theorem dX3_passDay_72 : decode cX3_passDay 72 = .ok (.aload_n 0, 1) := by decide +kernel
theorem dX3_passDay_73 : decode cX3_passDay 73 = .ok (.getfield 49, 3) := by decide +kernel
theorem dX3_passDay_76 : decode cX3_passDay 76 = .ok (.if_icmp .ge 27, 3) := by decide +kernel
theorem dX3_passDay_79 : decode cX3_passDay 79 = .ok (.aload_n 0, 1) := by decide +kernel
theorem dX3_passDay_80 : decode cX3_passDay 80 = .ok (.getfield 11, 3) := by decide +kernel
theorem dX3_passDay_83 : decode cX3_passDay 83 = .ok (.iload 4, 2) := by decide +kernel
theorem dX3_passDay_85 : decode cX3_passDay 85 = .ok (.laload, 1) := by decide +kernel
theorem dX3_passDay_86 : decode cX3_passDay 86 = .ok (.lconst 0, 1) := by decide +kernel
theorem dX3_passDay_87 : decode cX3_passDay 87 = .ok (.lcmp, 1) := by decide +kernel
theorem dX3_passDay_88 : decode cX3_passDay 88 = .ok (.ifCond .eq 9, 3) := by decide +kernel
theorem dX3_passDay_91 : decode cX3_passDay 91 = .ok (.aload_n 0, 1) := by decide +kernel
theorem dX3_passDay_92 : decode cX3_passDay 92 = .ok (.iload 4, 2) := by decide +kernel
theorem dX3_passDay_94 : decode cX3_passDay 94 = .ok (.invokevirtual 75, 3) := by decide +kernel
theorem dX3_passDay_97 : decode cX3_passDay 97 = .ok (.iinc 4 1, 3) := by decide +kernel
theorem dX3_passDay_100 : decode cX3_passDay 100 = .ok (.goto (-30), 3) := by decide +kernel
theorem dX3_passDay_103 : decode cX3_passDay 103 = .ok (.aload_n 0, 1) := by decide +kernel
theorem dX3_passDay_104 : decode cX3_passDay 104 = .ok (.getfield 11, 3) := by decide +kernel
theorem dX3_passDay_107 : decode cX3_passDay 107 = .ok (.astore 4, 2) := by decide +kernel
theorem dX3_passDay_109 : decode cX3_passDay 109 = .ok (.aload_n 0, 1) := by decide +kernel
theorem dX3_passDay_110 : decode cX3_passDay 110 = .ok (.aload_n 0, 1) := by decide +kernel
theorem dX3_passDay_111 : decode cX3_passDay 111 = .ok (.getfield 15, 3) := by decide +kernel
theorem dX3_passDay_114 : decode cX3_passDay 114 = .ok (.putfield 11, 3) := by decide +kernel
theorem dX3_passDay_117 : decode cX3_passDay 117 = .ok (.aload_n 0, 1) := by decide +kernel
theorem dX3_passDay_118 : decode cX3_passDay 118 = .ok (.aload 4, 2) := by decide +kernel
theorem dX3_passDay_120 : decode cX3_passDay 120 = .ok (.putfield 15, 3) := by decide +kernel
theorem dX3_passDay_123 : decode cX3_passDay 123 = .ok (.return_, 1) := by decide +kernel
theorem dX3_split_0 : decode cX3_split 0 = .ok (.iconst 1, 1) := by decide +kernel
theorem dX3_split_1 : decode cX3_split 1 = .ok (.istore_n 2, 1) := by decide +kernel
theorem dX3_split_2 : decode cX3_split 2 = .ok (.aload_n 0, 1) := by decide +kernel
theorem dX3_split_3 : decode cX3_split 3 = .ok (.getfield 26, 3) := by decide +kernel
theorem dX3_split_6 : decode cX3_split 6 = .ok (.iconst 0, 1) := by decide +kernel
theorem dX3_split_7 : decode cX3_split 7 = .ok (.iload_n 1, 1) := by decide +kernel
theorem dX3_split_8 : decode cX3_split 8 = .ok (.iastore, 1) := by decide +kernel
theorem dX3_split_9 : decode cX3_split 9 = .ok (.aload_n 0, 1) := by decide +kernel
theorem dX3_split_10 : decode cX3_split 10 = .ok (.getfield 29, 3) := by decide +kernel
theorem dX3_split_13 : decode cX3_split 13 = .ok (.iconst 0, 1) := by decide +kernel
theorem dX3_split_14 : decode cX3_split 14 = .ok (.aload_n 0, 1) := by decide +kernel
theorem dX3_split_15 : decode cX3_split 15 = .ok (.getfield 11, 3) := by decide +kernel
theorem dX3_split_18 : decode cX3_split 18 = .ok (.iload_n 1, 1) := by decide +kernel
theorem dX3_split_19 : decode cX3_split 19 = .ok (.laload, 1) := by decide +kernel
theorem dX3_split_20 : decode cX3_split 20 = .ok (.lastore, 1) := by decide +kernel
theorem dX3_split_21 : decode cX3_split 21 = .ok (.iconst 0, 1) := by decide +kernel
theorem dX3_split_22 : decode cX3_split 22 = .ok (.istore_n 3, 1) := by decide +kernel
theorem dX3_split_23 : decode cX3_split 23 = .ok (.iload_n 3, 1) := by decide +kernel
theorem dX3_split_24 : decode cX3_split 24 = .ok (.aload_n 0, 1) := by decide +kernel
theorem dX3_split_25 : decode cX3_split 25 = .ok (.getfield 48, 3) := by decide +kernel
theorem dX3_split_28 : decode cX3_split 28 = .ok (.if_icmp .ge 54, 3) := by decide +kernel
theorem dX3_split_31 : decode cX3_split 31 = .ok (.iload_n 1, 1) := by decide +kernel
theorem dX3_split_32 : decode cX3_split 32 = .ok (.i2l, 1) := by decide +kernel
theorem dX3_split_33 : decode cX3_split 33 = .ok (.iload_n 3, 1) := by decide +kernel
theorem dX3_split_34 : decode cX3_split 34 = .ok (.invokestatic 79, 3) := by decide +kernel
theorem dX3_split_37 : decode cX3_split 37 = .ok (.iconst 1, 1) := by decide +kernel
theorem dX3_split_38 : decode cX3_split 38 = .ok (.if_icmp .ne 7, 3) := by decide +kernel
theorem dX3_split_41 : decode cX3_split 41 = .ok (.iconst 0, 1) := by decide +kernel
theorem dX3_split_42 : decode cX3_split 42 = .ok (.goto 18, 3) := by decide +kernel
theorem dX3_split_45 : decode cX3_split 45 = .ok (.aload_n 0, 1) := by decide +kernel
theorem dX3_split_46 : decode cX3_split 46 = .ok (.getfield 22, 3) := by decide +kernel
theorem dX3_split_49 : decode cX3_split 49 = .ok (.iconst 3, 1) := by decide +kernel
theorem dX3_split_50 : decode cX3_split 50 = .ok (.iload_n 3, 1) := by decide +kernel
theorem dX3_split_51 : decode cX3_split 51 = .ok (.imul, 1) := by decide +kernel
theorem dX3_split_52 : decode cX3_split 52 = .ok (.iload_n 1, 1) := by decide +kernel
theorem dX3_split_53 : decode cX3_split 53 = .ok (.i2l, 1) := by decide +kernel
theorem dX3_split_54 : decode cX3_split 54 = .ok (.iload_n 3, 1) := by decide +kernel
theorem dX3_split_55 : decode cX3_split 55 = .ok (.invokestatic 83, 3) := by decide +kernel
theorem dX3_split_58 : decode cX3_split 58 = .ok (.iadd, 1) := by decide +kernel
theorem dX3_split_59 : decode cX3_split 59 = .ok (.iaload, 1) := by decide +kernel
theorem dX3_split_60 : decode cX3_split 60 = .ok (.istore 4, 2) := by decide +kernel
theorem dX3_split_62 : decode cX3_split 62 = .ok (.iload 4, 2) := by decide +kernel
theorem dX3_split_64 : decode cX3_split 64 = .ok (.ifCond .le 12, 3) := by decide +kernel
theorem dX3_split_67 : decode cX3_split 67 = .ok (.aload_n 0, 1) := by decide +kernel
theorem dX3_split_68 : decode cX3_split 68 = .ok (.iload_n 3, 1) := by decide +kernel
theorem dX3_split_69 : decode cX3_split 69 = .ok (.iload 4, 2) := by decide +kernel
theorem dX3_split_71 : decode cX3_split 71 = .ok (.iload_n 2, 1) := by decide +kernel
theorem dX3_split_72 : decode cX3_split 72 = .ok (.invokevirtual 86, 3) := by decide +kernel
theorem dX3_split_75 : decode cX3_split 75 = .ok (.istore_n 2, 1) := by decide +kernel
theorem dX3_split_76 : decode cX3_split 76 = .ok (.iinc 3 1, 3) := by decide +kernel
theorem dX3_split_79 : decode cX3_split 79 = .ok (.goto (-56), 3) := by decide +kernel
theorem dX3_split_82 : decode cX3_split 82 = .ok (.iconst 0, 1) := by decide +kernel
theorem dX3_split_83 : decode cX3_split 83 = .ok (.istore_n 3, 1) := by decide +kernel
theorem dX3_split_84 : decode cX3_split 84 = .ok (.iload_n 3, 1) := by decide +kernel
theorem dX3_split_85 : decode cX3_split 85 = .ok (.iload_n 2, 1) := by decide +kernel
theorem dX3_split_86 : decode cX3_split 86 = .ok (.if_icmp .ge 43, 3) := by decide +kernel
theorem dX3_split_89 : decode cX3_split 89 = .ok (.aload_n 0, 1) := by decide +kernel
theorem dX3_split_90 : decode cX3_split 90 = .ok (.getfield 18, 3) := by decide +kernel
theorem dX3_split_93 : decode cX3_split 93 = .ok (.aload_n 0, 1) := by decide +kernel
theorem dX3_split_94 : decode cX3_split 94 = .ok (.getfield 26, 3) := by decide +kernel
theorem dX3_split_97 : decode cX3_split 97 = .ok (.iload_n 3, 1) := by decide +kernel
theorem dX3_split_98 : decode cX3_split 98 = .ok (.iaload, 1) := by decide +kernel
theorem dX3_split_99 : decode cX3_split 99 = .ok (.baload, 1) := by decide +kernel
theorem dX3_split_100 : decode cX3_split 100 = .ok (.ifCond .ne 23, 3) := by decide +kernel
theorem dX3_split_103 : decode cX3_split 103 = .ok (.aload_n 0, 1) := by decide +kernel
theorem dX3_split_104 : decode cX3_split 104 = .ok (.getfield 15, 3) := by decide +kernel
theorem dX3_split_107 : decode cX3_split 107 = .ok (.aload_n 0, 1) := by decide +kernel
theorem dX3_split_108 : decode cX3_split 108 = .ok (.getfield 26, 3) := by decide +kernel
theorem dX3_split_111 : decode cX3_split 111 = .ok (.iload_n 3, 1) := by decide +kernel
theorem dX3_split_112 : decode cX3_split 112 = .ok (.iaload, 1) := by decide +kernel
theorem dX3_split_113 : decode cX3_split 113 = .ok (.dup2, 1) := by decide +kernel
theorem dX3_split_114 : decode cX3_split 114 = .ok (.laload, 1) := by decide +kernel
theorem dX3_split_115 : decode cX3_split 115 = .ok (.aload_n 0, 1) := by decide +kernel
theorem dX3_split_116 : decode cX3_split 116 = .ok (.getfield 29, 3) := by decide +kernel
theorem dX3_split_119 : decode cX3_split 119 = .ok (.iload_n 3, 1) := by decide +kernel
theorem dX3_split_120 : decode cX3_split 120 = .ok (.laload, 1) := by decide +kernel
theorem dX3_split_121 : decode cX3_split 121 = .ok (.ladd, 1) := by decide +kernel
theorem dX3_split_122 : decode cX3_split 122 = .ok (.lastore, 1) := by decide +kernel
theorem dX3_split_123 : decode cX3_split 123 = .ok (.iinc 3 1, 3) := by decide +kernel
theorem dX3_split_126 : decode cX3_split 126 = .ok (.goto (-42), 3) := by decide +kernel
theorem dX3_split_129 : decode cX3_split 129 = .ok (.return_, 1) := by decide +kernel
theorem dX3_splitBy_0 : decode cX3_splitBy 0 = .ok (.iload_n 3, 1) := by decide +kernel
theorem dX3_splitBy_1 : decode cX3_splitBy 1 = .ok (.istore 4, 2) := by decide +kernel
theorem dX3_splitBy_3 : decode cX3_splitBy 3 = .ok (.iconst 0, 1) := by decide +kernel
theorem dX3_splitBy_4 : decode cX3_splitBy 4 = .ok (.istore 5, 2) := by decide +kernel
theorem dX3_splitBy_6 : decode cX3_splitBy 6 = .ok (.iload 5, 2) := by decide +kernel
theorem dX3_splitBy_8 : decode cX3_splitBy 8 = .ok (.iload_n 3, 1) := by decide +kernel
theorem dX3_splitBy_9 : decode cX3_splitBy 9 = .ok (.if_icmp .ge 82, 3) := by decide +kernel
theorem dX3_splitBy_12 : decode cX3_splitBy 12 = .ok (.aload_n 0, 1) := by decide +kernel
theorem dX3_splitBy_13 : decode cX3_splitBy 13 = .ok (.getfield 29, 3) := by decide +kernel
theorem dX3_splitBy_16 : decode cX3_splitBy 16 = .ok (.iload 5, 2) := by decide +kernel
theorem dX3_splitBy_18 : decode cX3_splitBy 18 = .ok (.laload, 1) := by decide +kernel
theorem dX3_splitBy_19 : decode cX3_splitBy 19 = .ok (.iload_n 2, 1) := by decide +kernel
theorem dX3_splitBy_20 : decode cX3_splitBy 20 = .ok (.i2l, 1) := by decide +kernel
theorem dX3_splitBy_21 : decode cX3_splitBy 21 = .ok (.lmul, 1) := by decide +kernel
theorem dX3_splitBy_22 : decode cX3_splitBy 22 = .ok (.ldc2_w 90, 3) := by decide +kernel
theorem dX3_splitBy_25 : decode cX3_splitBy 25 = .ok (.ldiv, 1) := by decide +kernel
theorem dX3_splitBy_26 : decode cX3_splitBy 26 = .ok (.lstore 6, 2) := by decide +kernel
theorem dX3_splitBy_28 : decode cX3_splitBy 28 = .ok (.lload 6, 2) := by decide +kernel
theorem dX3_splitBy_30 : decode cX3_splitBy 30 = .ok (.lconst 0, 1) := by decide +kernel
theorem dX3_splitBy_31 : decode cX3_splitBy 31 = .ok (.lcmp, 1) := by decide +kernel
theorem dX3_splitBy_32 : decode cX3_splitBy 32 = .ok (.ifCond .eq 53, 3) := by decide +kernel
theorem dX3_splitBy_35 : decode cX3_splitBy 35 = .ok (.iload 4, 2) := by decide +kernel
theorem dX3_splitBy_37 : decode cX3_splitBy 37 = .ok (.sipush 1024, 3) := by decide +kernel
theorem dX3_splitBy_40 : decode cX3_splitBy 40 = .ok (.if_icmp .ge 45, 3) := by decide +kernel
theorem dX3_splitBy_43 : decode cX3_splitBy 43 = .ok (.aload_n 0, 1) := by decide +kernel
theorem dX3_splitBy_44 : decode cX3_splitBy 44 = .ok (.getfield 29, 3) := by decide +kernel
theorem dX3_splitBy_47 : decode cX3_splitBy 47 = .ok (.iload 5, 2) := by decide +kernel
theorem dX3_splitBy_49 : decode cX3_splitBy 49 = .ok (.dup2, 1) := by decide +kernel
theorem dX3_splitBy_50 : decode cX3_splitBy 50 = .ok (.laload, 1) := by decide +kernel
theorem dX3_splitBy_51 : decode cX3_splitBy 51 = .ok (.lload 6, 2) := by decide +kernel
theorem dX3_splitBy_53 : decode cX3_splitBy 53 = .ok (.lsub, 1) := by decide +kernel
theorem dX3_splitBy_54 : decode cX3_splitBy 54 = .ok (.lastore, 1) := by decide +kernel
theorem dX3_splitBy_55 : decode cX3_splitBy 55 = .ok (.aload_n 0, 1) := by decide +kernel
theorem dX3_splitBy_56 : decode cX3_splitBy 56 = .ok (.getfield 26, 3) := by decide +kernel
theorem dX3_splitBy_59 : decode cX3_splitBy 59 = .ok (.iload 4, 2) := by decide +kernel
theorem dX3_splitBy_61 : decode cX3_splitBy 61 = .ok (.aload_n 0, 1) := by decide +kernel
theorem dX3_splitBy_62 : decode cX3_splitBy 62 = .ok (.getfield 26, 3) := by decide +kernel
theorem dX3_splitBy_65 : decode cX3_splitBy 65 = .ok (.iload 5, 2) := by decide +kernel
theorem dX3_splitBy_67 : decode cX3_splitBy 67 = .ok (.iaload, 1) := by decide +kernel
theorem dX3_splitBy_68 : decode cX3_splitBy 68 = .ok (.iconst 1, 1) := by decide +kernel
theorem dX3_splitBy_69 : decode cX3_splitBy 69 = .ok (.iload_n 1, 1) := by decide +kernel
theorem dX3_splitBy_70 : decode cX3_splitBy 70 = .ok (.ishl, 1) := by decide +kernel
theorem dX3_splitBy_71 : decode cX3_splitBy 71 = .ok (.ior, 1) := by decide +kernel
theorem dX3_splitBy_72 : decode cX3_splitBy 72 = .ok (.iastore, 1) := by decide +kernel
theorem dX3_splitBy_73 : decode cX3_splitBy 73 = .ok (.aload_n 0, 1) := by decide +kernel
theorem dX3_splitBy_74 : decode cX3_splitBy 74 = .ok (.getfield 29, 3) := by decide +kernel
theorem dX3_splitBy_77 : decode cX3_splitBy 77 = .ok (.iload 4, 2) := by decide +kernel
theorem dX3_splitBy_79 : decode cX3_splitBy 79 = .ok (.lload 6, 2) := by decide +kernel
theorem dX3_splitBy_81 : decode cX3_splitBy 81 = .ok (.lastore, 1) := by decide +kernel
theorem dX3_splitBy_82 : decode cX3_splitBy 82 = .ok (.iinc 4 1, 3) := by decide +kernel
theorem dX3_splitBy_85 : decode cX3_splitBy 85 = .ok (.iinc 5 1, 3) := by decide +kernel
theorem dX3_splitBy_88 : decode cX3_splitBy 88 = .ok (.goto (-82), 3) := by decide +kernel
theorem dX3_splitBy_91 : decode cX3_splitBy 91 = .ok (.iload 4, 2) := by decide +kernel
theorem dX3_splitBy_93 : decode cX3_splitBy 93 = .ok (.ireturn, 1) := by decide +kernel
theorem dX3_remaining_0 : decode cX3_remaining 0 = .ok (.lconst 0, 1) := by decide +kernel
theorem dX3_remaining_1 : decode cX3_remaining 1 = .ok (.lstore_n 1, 1) := by decide +kernel
theorem dX3_remaining_2 : decode cX3_remaining 2 = .ok (.iconst 0, 1) := by decide +kernel
theorem dX3_remaining_3 : decode cX3_remaining 3 = .ok (.istore_n 3, 1) := by decide +kernel
theorem dX3_remaining_4 : decode cX3_remaining 4 = .ok (.iload_n 3, 1) := by decide +kernel
theorem dX3_remaining_5 : decode cX3_remaining 5 = .ok (.aload_n 0, 1) := by decide +kernel
theorem dX3_remaining_6 : decode cX3_remaining 6 = .ok (.getfield 49, 3) := by decide +kernel
theorem dX3_remaining_9 : decode cX3_remaining 9 = .ok (.if_icmp .ge 18, 3) := by decide +kernel
theorem dX3_remaining_12 : decode cX3_remaining 12 = .ok (.lload_n 1, 1) := by decide +kernel
theorem dX3_remaining_13 : decode cX3_remaining 13 = .ok (.aload_n 0, 1) := by decide +kernel
theorem dX3_remaining_14 : decode cX3_remaining 14 = .ok (.getfield 11, 3) := by decide +kernel
theorem dX3_remaining_17 : decode cX3_remaining 17 = .ok (.iload_n 3, 1) := by decide +kernel
theorem dX3_remaining_18 : decode cX3_remaining 18 = .ok (.laload, 1) := by decide +kernel
theorem dX3_remaining_19 : decode cX3_remaining 19 = .ok (.ladd, 1) := by decide +kernel
theorem dX3_remaining_20 : decode cX3_remaining 20 = .ok (.lstore_n 1, 1) := by decide +kernel
theorem dX3_remaining_21 : decode cX3_remaining 21 = .ok (.iinc 3 1, 3) := by decide +kernel
theorem dX3_remaining_24 : decode cX3_remaining 24 = .ok (.goto (-20), 3) := by decide +kernel
theorem dX3_remaining_27 : decode cX3_remaining 27 = .ok (.lload_n 1, 1) := by decide +kernel
theorem dX3_remaining_28 : decode cX3_remaining 28 = .ok (.lreturn, 1) := by decide +kernel
theorem dX3_mostLikely_0 : decode cX3_mostLikely 0 = .ok (.iconst (-1), 1) := by decide +kernel
theorem dX3_mostLikely_1 : decode cX3_mostLikely 1 = .ok (.istore_n 1, 1) := by decide +kernel
theorem dX3_mostLikely_2 : decode cX3_mostLikely 2 = .ok (.lconst 0, 1) := by decide +kernel
theorem dX3_mostLikely_3 : decode cX3_mostLikely 3 = .ok (.lstore_n 2, 1) := by decide +kernel
theorem dX3_mostLikely_4 : decode cX3_mostLikely 4 = .ok (.iconst 0, 1) := by decide +kernel
theorem dX3_mostLikely_5 : decode cX3_mostLikely 5 = .ok (.istore 4, 2) := by decide +kernel
theorem dX3_mostLikely_7 : decode cX3_mostLikely 7 = .ok (.iload 4, 2) := by decide +kernel
theorem dX3_mostLikely_9 : decode cX3_mostLikely 9 = .ok (.aload_n 0, 1) := by decide +kernel
theorem dX3_mostLikely_10 : decode cX3_mostLikely 10 = .ok (.getfield 49, 3) := by decide +kernel
theorem dX3_mostLikely_13 : decode cX3_mostLikely 13 = .ok (.if_icmp .ge 32, 3) := by decide +kernel
theorem dX3_mostLikely_16 : decode cX3_mostLikely 16 = .ok (.aload_n 0, 1) := by decide +kernel
theorem dX3_mostLikely_17 : decode cX3_mostLikely 17 = .ok (.getfield 11, 3) := by decide +kernel
theorem dX3_mostLikely_20 : decode cX3_mostLikely 20 = .ok (.iload 4, 2) := by decide +kernel
theorem dX3_mostLikely_22 : decode cX3_mostLikely 22 = .ok (.laload, 1) := by decide +kernel
theorem dX3_mostLikely_23 : decode cX3_mostLikely 23 = .ok (.lload_n 2, 1) := by decide +kernel
theorem dX3_mostLikely_24 : decode cX3_mostLikely 24 = .ok (.lcmp, 1) := by decide +kernel
theorem dX3_mostLikely_25 : decode cX3_mostLikely 25 = .ok (.ifCond .le 14, 3) := by decide +kernel
theorem dX3_mostLikely_28 : decode cX3_mostLikely 28 = .ok (.iload 4, 2) := by decide +kernel
theorem dX3_mostLikely_30 : decode cX3_mostLikely 30 = .ok (.istore_n 1, 1) := by decide +kernel
theorem dX3_mostLikely_31 : decode cX3_mostLikely 31 = .ok (.aload_n 0, 1) := by decide +kernel
theorem dX3_mostLikely_32 : decode cX3_mostLikely 32 = .ok (.getfield 11, 3) := by decide +kernel
theorem dX3_mostLikely_35 : decode cX3_mostLikely 35 = .ok (.iload 4, 2) := by decide +kernel
theorem dX3_mostLikely_37 : decode cX3_mostLikely 37 = .ok (.laload, 1) := by decide +kernel
theorem dX3_mostLikely_38 : decode cX3_mostLikely 38 = .ok (.lstore_n 2, 1) := by decide +kernel
theorem dX3_mostLikely_39 : decode cX3_mostLikely 39 = .ok (.iinc 4 1, 3) := by decide +kernel
theorem dX3_mostLikely_42 : decode cX3_mostLikely 42 = .ok (.goto (-35), 3) := by decide +kernel
theorem dX3_mostLikely_45 : decode cX3_mostLikely 45 = .ok (.iload_n 1, 1) := by decide +kernel
theorem dX3_mostLikely_46 : decode cX3_mostLikely 46 = .ok (.ireturn, 1) := by decide +kernel
theorem dX4_init_0 : decode cX4_init 0 = .ok (.aload_n 0, 1) := by decide +kernel
theorem dX4_init_1 : decode cX4_init 1 = .ok (.invokespecial 1, 3) := by decide +kernel
theorem dX4_init_4 : decode cX4_init 4 = .ok (.aload_n 0, 1) := by decide +kernel
theorem dX4_init_5 : decode cX4_init 5 = .ok (.sipush 500, 3) := by decide +kernel
theorem dX4_init_8 : decode cX4_init 8 = .ok (.newarray .int, 2) := by decide +kernel
theorem dX4_init_10 : decode cX4_init 10 = .ok (.putfield 9, 3) := by decide +kernel
theorem dX4_init_13 : decode cX4_init 13 = .ok (.aload_n 0, 1) := by decide +kernel
theorem dX4_init_14 : decode cX4_init 14 = .ok (.bipush 17, 2) := by decide +kernel
theorem dX4_init_16 : decode cX4_init 16 = .ok (.newarray .int, 2) := by decide +kernel
theorem dX4_init_18 : decode cX4_init 18 = .ok (.putfield 15, 3) := by decide +kernel
theorem dX4_init_21 : decode cX4_init 21 = .ok (.aload_n 0, 1) := by decide +kernel
theorem dX4_init_22 : decode cX4_init 22 = .ok (.bipush 16, 2) := by decide +kernel
theorem dX4_init_24 : decode cX4_init 24 = .ok (.newarray .int, 2) := by decide +kernel
theorem dX4_init_26 : decode cX4_init 26 = .ok (.putfield 18, 3) := by decide +kernel
theorem dX4_init_29 : decode cX4_init 29 = .ok (.return_, 1) := by decide +kernel
theorem dX4_clear_0 : decode cX4_clear 0 = .ok (.aload_n 0, 1) := by decide +kernel
theorem dX4_clear_1 : decode cX4_clear 1 = .ok (.iconst 0, 1) := by decide +kernel
theorem dX4_clear_2 : decode cX4_clear 2 = .ok (.putfield 21, 3) := by decide +kernel
theorem dX4_clear_5 : decode cX4_clear 5 = .ok (.aload_n 0, 1) := by decide +kernel
theorem dX4_clear_6 : decode cX4_clear 6 = .ok (.iconst 0, 1) := by decide +kernel
theorem dX4_clear_7 : decode cX4_clear 7 = .ok (.putfield 25, 3) := by decide +kernel
theorem dX4_clear_10 : decode cX4_clear 10 = .ok (.return_, 1) := by decide +kernel
theorem dX4_put_0 : decode cX4_put 0 = .ok (.aload_n 0, 1) := by decide +kernel
theorem dX4_put_1 : decode cX4_put 1 = .ok (.getfield 25, 3) := by decide +kernel
theorem dX4_put_4 : decode cX4_put 4 = .ok (.aload_n 0, 1) := by decide +kernel
theorem dX4_put_5 : decode cX4_put 5 = .ok (.getfield 9, 3) := by decide +kernel
theorem dX4_put_8 : decode cX4_put 8 = .ok (.arraylength, 1) := by decide +kernel
theorem dX4_put_9 : decode cX4_put 9 = .ok (.if_icmp .lt 5, 3) := by decide +kernel
theorem dX4_put_12 : decode cX4_put 12 = .ok (.iconst 0, 1) := by decide +kernel
theorem dX4_put_13 : decode cX4_put 13 = .ok (.ireturn, 1) := by decide +kernel
theorem dX4_put_14 : decode cX4_put 14 = .ok (.aload_n 0, 1) := by decide +kernel
theorem dX4_put_15 : decode cX4_put 15 = .ok (.getfield 9, 3) := by decide +kernel
theorem dX4_put_18 : decode cX4_put 18 = .ok (.aload_n 0, 1) := by decide +kernel
theorem dX4_put_19 : decode cX4_put 19 = .ok (.getfield 25, 3) := by decide +kernel
theorem dX4_put_22 : decode cX4_put 22 = .ok (.iload_n 1, 1) := by decide +kernel
theorem dX4_put_23 : decode cX4_put 23 = .ok (.iastore, 1) := by decide +kernel
theorem dX4_put_24 : decode cX4_put 24 = .ok (.aload_n 0, 1) := by decide +kernel
theorem dX4_put_25 : decode cX4_put 25 = .ok (.dup, 1) := by decide +kernel
theorem dX4_put_26 : decode cX4_put 26 = .ok (.getfield 25, 3) := by decide +kernel
theorem dX4_put_29 : decode cX4_put 29 = .ok (.iconst 1, 1) := by decide +kernel
theorem dX4_put_30 : decode cX4_put 30 = .ok (.iadd, 1) := by decide +kernel
theorem dX4_put_31 : decode cX4_put 31 = .ok (.putfield 25, 3) := by decide +kernel
theorem dX4_put_34 : decode cX4_put 34 = .ok (.iconst 1, 1) := by decide +kernel
theorem dX4_put_35 : decode cX4_put 35 = .ok (.ireturn, 1) := by decide +kernel
theorem dX4_beginWhen_0 : decode cX4_beginWhen 0 = .ok (.iload_n 1, 1) := by decide +kernel
theorem dX4_beginWhen_1 : decode cX4_beginWhen 1 = .ok (.ifCond .lt 19, 3) := by decide +kernel
theorem dX4_beginWhen_4 : decode cX4_beginWhen 4 = .ok (.iload_n 1, 1) := by decide +kernel
theorem dX4_beginWhen_5 : decode cX4_beginWhen 5 = .ok (.bipush 16, 2) := by decide +kernel
theorem dX4_beginWhen_7 : decode cX4_beginWhen 7 = .ok (.if_icmp .ge 13, 3) := by decide +kernel
theorem dX4_beginWhen_10 : decode cX4_beginWhen 10 = .ok (.aload_n 0, 1) := by decide +kernel
theorem dX4_beginWhen_11 : decode cX4_beginWhen 11 = .ok (.getfield 18, 3) := by decide +kernel
theorem dX4_beginWhen_14 : decode cX4_beginWhen 14 = .ok (.iload_n 1, 1) := by decide +kernel
theorem dX4_beginWhen_15 : decode cX4_beginWhen 15 = .ok (.aload_n 0, 1) := by decide +kernel
theorem dX4_beginWhen_16 : decode cX4_beginWhen 16 = .ok (.getfield 25, 3) := by decide +kernel
theorem dX4_beginWhen_19 : decode cX4_beginWhen 19 = .ok (.iastore, 1) := by decide +kernel
theorem dX4_beginWhen_20 : decode cX4_beginWhen 20 = .ok (.return_, 1) := by decide +kernel
theorem dX4_endLine_0 : decode cX4_endLine 0 = .ok (.iload_n 1, 1) := by decide +kernel
theorem dX4_endLine_1 : decode cX4_endLine 1 = .ok (.ifCond .lt 28, 3) := by decide +kernel
theorem dX4_endLine_4 : decode cX4_endLine 4 = .ok (.iload_n 1, 1) := by decide +kernel
theorem dX4_endLine_5 : decode cX4_endLine 5 = .ok (.bipush 16, 2) := by decide +kernel
theorem dX4_endLine_7 : decode cX4_endLine 7 = .ok (.if_icmp .ge 22, 3) := by decide +kernel
theorem dX4_endLine_10 : decode cX4_endLine 10 = .ok (.aload_n 0, 1) := by decide +kernel
theorem dX4_endLine_11 : decode cX4_endLine 11 = .ok (.getfield 15, 3) := by decide +kernel
theorem dX4_endLine_14 : decode cX4_endLine 14 = .ok (.iload_n 1, 1) := by decide +kernel
theorem dX4_endLine_15 : decode cX4_endLine 15 = .ok (.iconst 1, 1) := by decide +kernel
theorem dX4_endLine_16 : decode cX4_endLine 16 = .ok (.iadd, 1) := by decide +kernel
theorem dX4_endLine_17 : decode cX4_endLine 17 = .ok (.aload_n 0, 1) := by decide +kernel
theorem dX4_endLine_18 : decode cX4_endLine 18 = .ok (.getfield 25, 3) := by decide +kernel
theorem dX4_endLine_21 : decode cX4_endLine 21 = .ok (.iastore, 1) := by decide +kernel
theorem dX4_endLine_22 : decode cX4_endLine 22 = .ok (.aload_n 0, 1) := by decide +kernel
theorem dX4_endLine_23 : decode cX4_endLine 23 = .ok (.iload_n 1, 1) := by decide +kernel
theorem dX4_endLine_24 : decode cX4_endLine 24 = .ok (.iconst 1, 1) := by decide +kernel
theorem dX4_endLine_25 : decode cX4_endLine 25 = .ok (.iadd, 1) := by decide +kernel
theorem dX4_endLine_26 : decode cX4_endLine 26 = .ok (.putfield 21, 3) := by decide +kernel
theorem dX4_endLine_29 : decode cX4_endLine 29 = .ok (.return_, 1) := by decide +kernel
theorem dX4_copy_0 : decode cX4_copy 0 = .ok (.aload_n 1, 1) := by decide +kernel
theorem dX4_copy_1 : decode cX4_copy 1 = .ok (.getfield 9, 3) := by decide +kernel
theorem dX4_copy_4 : decode cX4_copy 4 = .ok (.iconst 0, 1) := by decide +kernel
theorem dX4_copy_5 : decode cX4_copy 5 = .ok (.aload_n 0, 1) := by decide +kernel
theorem dX4_copy_6 : decode cX4_copy 6 = .ok (.getfield 9, 3) := by decide +kernel
theorem dX4_copy_9 : decode cX4_copy 9 = .ok (.iconst 0, 1) := by decide +kernel
theorem dX4_copy_10 : decode cX4_copy 10 = .ok (.aload_n 1, 1) := by decide +kernel
theorem dX4_copy_11 : decode cX4_copy 11 = .ok (.getfield 25, 3) := by decide +kernel
theorem dX4_copy_14 : decode cX4_copy 14 = .ok (.invokestatic 28, 3) := by decide +kernel
theorem dX4_copy_17 : decode cX4_copy 17 = .ok (.aload_n 1, 1) := by decide +kernel
theorem dX4_copy_18 : decode cX4_copy 18 = .ok (.getfield 15, 3) := by decide +kernel
theorem dX4_copy_21 : decode cX4_copy 21 = .ok (.iconst 0, 1) := by decide +kernel
theorem dX4_copy_22 : decode cX4_copy 22 = .ok (.aload_n 0, 1) := by decide +kernel
theorem dX4_copy_23 : decode cX4_copy 23 = .ok (.getfield 15, 3) := by decide +kernel
theorem dX4_copy_26 : decode cX4_copy 26 = .ok (.iconst 0, 1) := by decide +kernel
theorem dX4_copy_27 : decode cX4_copy 27 = .ok (.aload_n 0, 1) := by decide +kernel
theorem dX4_copy_28 : decode cX4_copy 28 = .ok (.getfield 15, 3) := by decide +kernel
theorem dX4_copy_31 : decode cX4_copy 31 = .ok (.arraylength, 1) := by decide +kernel
theorem dX4_copy_32 : decode cX4_copy 32 = .ok (.invokestatic 28, 3) := by decide +kernel
theorem dX4_copy_35 : decode cX4_copy 35 = .ok (.aload_n 1, 1) := by decide +kernel
theorem dX4_copy_36 : decode cX4_copy 36 = .ok (.getfield 18, 3) := by decide +kernel
theorem dX4_copy_39 : decode cX4_copy 39 = .ok (.iconst 0, 1) := by decide +kernel
theorem dX4_copy_40 : decode cX4_copy 40 = .ok (.aload_n 0, 1) := by decide +kernel
theorem dX4_copy_41 : decode cX4_copy 41 = .ok (.getfield 18, 3) := by decide +kernel
theorem dX4_copy_44 : decode cX4_copy 44 = .ok (.iconst 0, 1) := by decide +kernel
theorem dX4_copy_45 : decode cX4_copy 45 = .ok (.aload_n 0, 1) := by decide +kernel
theorem dX4_copy_46 : decode cX4_copy 46 = .ok (.getfield 18, 3) := by decide +kernel
theorem dX4_copy_49 : decode cX4_copy 49 = .ok (.arraylength, 1) := by decide +kernel
theorem dX4_copy_50 : decode cX4_copy 50 = .ok (.invokestatic 28, 3) := by decide +kernel
theorem dX4_copy_53 : decode cX4_copy 53 = .ok (.aload_n 0, 1) := by decide +kernel
theorem dX4_copy_54 : decode cX4_copy 54 = .ok (.aload_n 1, 1) := by decide +kernel
theorem dX4_copy_55 : decode cX4_copy 55 = .ok (.getfield 21, 3) := by decide +kernel
theorem dX4_copy_58 : decode cX4_copy 58 = .ok (.putfield 21, 3) := by decide +kernel
theorem dX4_copy_61 : decode cX4_copy 61 = .ok (.aload_n 0, 1) := by decide +kernel
theorem dX4_copy_62 : decode cX4_copy 62 = .ok (.aload_n 1, 1) := by decide +kernel
theorem dX4_copy_63 : decode cX4_copy 63 = .ok (.getfield 25, 3) := by decide +kernel
theorem dX4_copy_66 : decode cX4_copy 66 = .ok (.putfield 25, 3) := by decide +kernel
theorem dX4_copy_69 : decode cX4_copy 69 = .ok (.return_, 1) := by decide +kernel
theorem dX5_init_0 : decode cX5_init 0 = .ok (.aload_n 0, 1) := by decide +kernel
theorem dX5_init_1 : decode cX5_init 1 = .ok (.invokespecial 3, 3) := by decide +kernel
theorem dX5_init_4 : decode cX5_init 4 = .ok (.aload_n 0, 1) := by decide +kernel
theorem dX5_init_5 : decode cX5_init 5 = .ok (.bipush 60, 2) := by decide +kernel
theorem dX5_init_7 : decode cX5_init 7 = .ok (.newarray .int, 2) := by decide +kernel
theorem dX5_init_9 : decode cX5_init 9 = .ok (.putfield 11, 3) := by decide +kernel
theorem dX5_init_12 : decode cX5_init 12 = .ok (.aload_n 0, 1) := by decide +kernel
theorem dX5_init_13 : decode cX5_init 13 = .ok (.sipush 128, 3) := by decide +kernel
theorem dX5_init_16 : decode cX5_init 16 = .ok (.newarray .long, 2) := by decide +kernel
theorem dX5_init_18 : decode cX5_init 18 = .ok (.putfield 17, 3) := by decide +kernel
theorem dX5_init_21 : decode cX5_init 21 = .ok (.aload_n 0, 1) := by decide +kernel
theorem dX5_init_22 : decode cX5_init 22 = .ok (.sipush 128, 3) := by decide +kernel
theorem dX5_init_25 : decode cX5_init 25 = .ok (.newarray .long, 2) := by decide +kernel
theorem dX5_init_27 : decode cX5_init 27 = .ok (.putfield 21, 3) := by decide +kernel
theorem dX5_init_30 : decode cX5_init 30 = .ok (.aload_n 0, 1) := by decide +kernel
theorem dX5_init_31 : decode cX5_init 31 = .ok (.sipush 7808, 3) := by decide +kernel
theorem dX5_init_34 : decode cX5_init 34 = .ok (.newarray .long, 2) := by decide +kernel
theorem dX5_init_36 : decode cX5_init 36 = .ok (.putfield 24, 3) := by decide +kernel
theorem dX5_init_39 : decode cX5_init 39 = .ok (.aload_n 0, 1) := by decide +kernel
theorem dX5_init_40 : decode cX5_init 40 = .ok (.sipush 7808, 3) := by decide +kernel
theorem dX5_init_43 : decode cX5_init 43 = .ok (.newarray .long, 2) := by decide +kernel
theorem dX5_init_45 : decode cX5_init 45 = .ok (.putfield 27, 3) := by decide +kernel
theorem dX5_init_48 : decode cX5_init 48 = .ok (.aload_n 0, 1) := by decide +kernel
theorem dX5_init_49 : decode cX5_init 49 = .ok (.aload_n 1, 1) := by decide +kernel
theorem dX5_init_50 : decode cX5_init 50 = .ok (.putfield 30, 3) := by decide +kernel
theorem dX5_init_53 : decode cX5_init 53 = .ok (.return_, 1) := by decide +kernel
theorem dX5_ofNow_0 : decode cX5_ofNow 0 = .ok (.iconst 0, 1) := by decide +kernel
theorem dX5_ofNow_1 : decode cX5_ofNow 1 = .ok (.istore_n 3, 1) := by decide +kernel
theorem dX5_ofNow_2 : decode cX5_ofNow 2 = .ok (.iload_n 3, 1) := by decide +kernel
theorem dX5_ofNow_3 : decode cX5_ofNow 3 = .ok (.aload_n 1, 1) := by decide +kernel
theorem dX5_ofNow_4 : decode cX5_ofNow 4 = .ok (.getfield 34, 3) := by decide +kernel
theorem dX5_ofNow_7 : decode cX5_ofNow 7 = .ok (.if_icmp .ge 55, 3) := by decide +kernel
theorem dX5_ofNow_10 : decode cX5_ofNow 10 = .ok (.aload_n 0, 1) := by decide +kernel
theorem dX5_ofNow_11 : decode cX5_ofNow 11 = .ok (.getfield 11, 3) := by decide +kernel
theorem dX5_ofNow_14 : decode cX5_ofNow 14 = .ok (.iload_n 3, 1) := by decide +kernel
theorem dX5_ofNow_15 : decode cX5_ofNow 15 = .ok (.aload_n 1, 1) := by decide +kernel
theorem dX5_ofNow_16 : decode cX5_ofNow 16 = .ok (.getfield 38, 3) := by decide +kernel
theorem dX5_ofNow_19 : decode cX5_ofNow 19 = .ok (.iload_n 3, 1) := by decide +kernel
theorem dX5_ofNow_20 : decode cX5_ofNow 20 = .ok (.invokestatic 42, 3) := by decide +kernel
theorem dX5_ofNow_23 : decode cX5_ofNow 23 = .ok (.iconst 1, 1) := by decide +kernel
theorem dX5_ofNow_24 : decode cX5_ofNow 24 = .ok (.if_icmp .ne 9, 3) := by decide +kernel
theorem dX5_ofNow_27 : decode cX5_ofNow 27 = .ok (.sipush 1000, 3) := by decide +kernel
theorem dX5_ofNow_30 : decode cX5_ofNow 30 = .ok (.goto 25, 3) := by decide +kernel
theorem dX5_ofNow_33 : decode cX5_ofNow 33 = .ok (.aload_n 0, 1) := by decide +kernel
theorem dX5_ofNow_34 : decode cX5_ofNow 34 = .ok (.getfield 30, 3) := by decide +kernel
theorem dX5_ofNow_37 : decode cX5_ofNow 37 = .ok (.aload_n 1, 1) := by decide +kernel
theorem dX5_ofNow_38 : decode cX5_ofNow 38 = .ok (.aload_n 2, 1) := by decide +kernel
theorem dX5_ofNow_39 : decode cX5_ofNow 39 = .ok (.getfield 46, 3) := by decide +kernel
theorem dX5_ofNow_42 : decode cX5_ofNow 42 = .ok (.iload_n 3, 1) := by decide +kernel
theorem dX5_ofNow_43 : decode cX5_ofNow 43 = .ok (.aload_n 1, 1) := by decide +kernel
theorem dX5_ofNow_44 : decode cX5_ofNow 44 = .ok (.getfield 38, 3) := by decide +kernel
theorem dX5_ofNow_47 : decode cX5_ofNow 47 = .ok (.iload_n 3, 1) := by decide +kernel
theorem dX5_ofNow_48 : decode cX5_ofNow 48 = .ok (.invokestatic 52, 3) := by decide +kernel
theorem dX5_ofNow_51 : decode cX5_ofNow 51 = .ok (.iconst 0, 1) := by decide +kernel
theorem dX5_ofNow_52 : decode cX5_ofNow 52 = .ok (.invokevirtual 55, 3) := by decide +kernel
theorem dX5_ofNow_55 : decode cX5_ofNow 55 = .ok (.iastore, 1) := by decide +kernel
theorem dX5_ofNow_56 : decode cX5_ofNow 56 = .ok (.iinc 3 1, 3) := by decide +kernel
theorem dX5_ofNow_59 : decode cX5_ofNow 59 = .ok (.goto (-57), 3) := by decide +kernel
theorem dX5_ofNow_62 : decode cX5_ofNow 62 = .ok (.aload_n 0, 1) := by decide +kernel
theorem dX5_ofNow_63 : decode cX5_ofNow 63 = .ok (.aload_n 1, 1) := by decide +kernel
theorem dX5_ofNow_64 : decode cX5_ofNow 64 = .ok (.getfield 34, 3) := by decide +kernel
theorem dX5_ofNow_67 : decode cX5_ofNow 67 = .ok (.aload_n 2, 1) := by decide +kernel
theorem dX5_ofNow_68 : decode cX5_ofNow 68 = .ok (.getfield 61, 3) := by decide +kernel
theorem dX5_ofNow_71 : decode cX5_ofNow 71 = .ok (.invokevirtual 65, 3) := by decide +kernel
theorem dX5_ofNow_74 : decode cX5_ofNow 74 = .ok (.lreturn, 1) := by decide +kernel
theorem dX5_ofThought_0 : decode cX5_ofThought 0 = .ok (.iconst 0, 1) := by decide +kernel
theorem dX5_ofThought_1 : decode cX5_ofThought 1 = .ok (.istore_n 3, 1) := by decide +kernel
theorem dX5_ofThought_2 : decode cX5_ofThought 2 = .ok (.iload_n 3, 1) := by decide +kernel
theorem dX5_ofThought_3 : decode cX5_ofThought 3 = .ok (.aload_n 1, 1) := by decide +kernel
theorem dX5_ofThought_4 : decode cX5_ofThought 4 = .ok (.getfield 34, 3) := by decide +kernel
theorem dX5_ofThought_7 : decode cX5_ofThought 7 = .ok (.if_icmp .ge 28, 3) := by decide +kernel
theorem dX5_ofThought_10 : decode cX5_ofThought 10 = .ok (.aload_n 0, 1) := by decide +kernel
theorem dX5_ofThought_11 : decode cX5_ofThought 11 = .ok (.getfield 11, 3) := by decide +kernel
theorem dX5_ofThought_14 : decode cX5_ofThought 14 = .ok (.iload_n 3, 1) := by decide +kernel
theorem dX5_ofThought_15 : decode cX5_ofThought 15 = .ok (.aload_n 0, 1) := by decide +kernel
theorem dX5_ofThought_16 : decode cX5_ofThought 16 = .ok (.getfield 30, 3) := by decide +kernel
theorem dX5_ofThought_19 : decode cX5_ofThought 19 = .ok (.aload_n 1, 1) := by decide +kernel
theorem dX5_ofThought_20 : decode cX5_ofThought 20 = .ok (.aload_n 2, 1) := by decide +kernel
theorem dX5_ofThought_21 : decode cX5_ofThought 21 = .ok (.getfield 46, 3) := by decide +kernel
theorem dX5_ofThought_24 : decode cX5_ofThought 24 = .ok (.iload_n 3, 1) := by decide +kernel
theorem dX5_ofThought_25 : decode cX5_ofThought 25 = .ok (.invokevirtual 69, 3) := by decide +kernel
theorem dX5_ofThought_28 : decode cX5_ofThought 28 = .ok (.iastore, 1) := by decide +kernel
theorem dX5_ofThought_29 : decode cX5_ofThought 29 = .ok (.iinc 3 1, 3) := by decide +kernel
theorem dX5_ofThought_32 : decode cX5_ofThought 32 = .ok (.goto (-30), 3) := by decide +kernel
theorem dX5_ofThought_35 : decode cX5_ofThought 35 = .ok (.aload_n 0, 1) := by decide +kernel
theorem dX5_ofThought_36 : decode cX5_ofThought 36 = .ok (.aload_n 1, 1) := by decide +kernel
theorem dX5_ofThought_37 : decode cX5_ofThought 37 = .ok (.getfield 34, 3) := by decide +kernel
theorem dX5_ofThought_40 : decode cX5_ofThought 40 = .ok (.aload_n 2, 1) := by decide +kernel
theorem dX5_ofThought_41 : decode cX5_ofThought 41 = .ok (.getfield 61, 3) := by decide +kernel
theorem dX5_ofThought_44 : decode cX5_ofThought 44 = .ok (.invokevirtual 65, 3) := by decide +kernel
theorem dX5_ofThought_47 : decode cX5_ofThought 47 = .ok (.lreturn, 1) := by decide +kernel
theorem dX5_out_0 : decode cX5_out 0 = .ok (.lconst 0, 1) := by decide +kernel
theorem dX5_out_1 : decode cX5_out 1 = .ok (.lstore_n 3, 1) := by decide +kernel
theorem dX5_out_2 : decode cX5_out 2 = .ok (.aload_n 0, 1) := by decide +kernel
theorem dX5_out_3 : decode cX5_out 3 = .ok (.getfield 17, 3) := by decide +kernel
theorem dX5_out_6 : decode cX5_out 6 = .ok (.iconst 0, 1) := by decide +kernel
theorem dX5_out_7 : decode cX5_out 7 = .ok (.ldc2_w 73, 3) := by decide +kernel
theorem dX5_out_10 : decode cX5_out 10 = .ok (.lastore, 1) := by decide +kernel
theorem dX5_out_11 : decode cX5_out 11 = .ok (.iconst 0, 1) := by decide +kernel
theorem dX5_out_12 : decode cX5_out 12 = .ok (.istore 5, 2) := by decide +kernel
theorem dX5_out_14 : decode cX5_out 14 = .ok (.iload 5, 2) := by decide +kernel
theorem dX5_out_16 : decode cX5_out 16 = .ok (.iload_n 1, 1) := by decide +kernel
theorem dX5_out_17 : decode cX5_out 17 = .ok (.if_icmp .ge 39, 3) := by decide +kernel
theorem dX5_out_20 : decode cX5_out 20 = .ok (.lload_n 3, 1) := by decide +kernel
theorem dX5_out_21 : decode cX5_out 21 = .ok (.aload_n 0, 1) := by decide +kernel
theorem dX5_out_22 : decode cX5_out 22 = .ok (.iload 5, 2) := by decide +kernel
theorem dX5_out_24 : decode cX5_out 24 = .ok (.aload_n 2, 1) := by decide +kernel
theorem dX5_out_25 : decode cX5_out 25 = .ok (.invokevirtual 75, 3) := by decide +kernel
theorem dX5_out_28 : decode cX5_out 28 = .ok (.ladd, 1) := by decide +kernel
theorem dX5_out_29 : decode cX5_out 29 = .ok (.lstore_n 3, 1) := by decide +kernel
theorem dX5_out_30 : decode cX5_out 30 = .ok (.aload_n 0, 1) := by decide +kernel
theorem dX5_out_31 : decode cX5_out 31 = .ok (.getfield 17, 3) := by decide +kernel
theorem dX5_out_34 : decode cX5_out 34 = .ok (.astore 6, 2) := by decide +kernel
theorem dX5_out_36 : decode cX5_out 36 = .ok (.aload_n 0, 1) := by decide +kernel
theorem dX5_out_37 : decode cX5_out 37 = .ok (.aload_n 0, 1) := by decide +kernel
theorem dX5_out_38 : decode cX5_out 38 = .ok (.getfield 21, 3) := by decide +kernel
theorem dX5_out_41 : decode cX5_out 41 = .ok (.putfield 17, 3) := by decide +kernel
theorem dX5_out_44 : decode cX5_out 44 = .ok (.aload_n 0, 1) := by decide +kernel
theorem dX5_out_45 : decode cX5_out 45 = .ok (.aload 6, 2) := by decide +kernel
theorem dX5_out_47 : decode cX5_out 47 = .ok (.putfield 21, 3) := by decide +kernel
theorem dX5_out_50 : decode cX5_out 50 = .ok (.iinc 5 1, 3) := by decide +kernel
theorem dX5_out_53 : decode cX5_out 53 = .ok (.goto (-39), 3) := by decide +kernel
theorem dX5_out_56 : decode cX5_out 56 = .ok (.lload_n 3, 1) := by decide +kernel
theorem dX5_out_57 : decode cX5_out 57 = .ok (.lreturn, 1) := by decide +kernel
theorem dX5_setsAhead_0 : decode cX5_setsAhead 0 = .ok (.iconst 1, 1) := by decide +kernel
theorem dX5_setsAhead_1 : decode cX5_setsAhead 1 = .ok (.iload_n 0, 1) := by decide +kernel
theorem dX5_setsAhead_2 : decode cX5_setsAhead 2 = .ok (.bipush 7, 2) := by decide +kernel
theorem dX5_setsAhead_4 : decode cX5_setsAhead 4 = .ok (.invokestatic 78, 3) := by decide +kernel
theorem dX5_setsAhead_7 : decode cX5_setsAhead 7 = .ok (.ishl, 1) := by decide +kernel
theorem dX5_setsAhead_8 : decode cX5_setsAhead 8 = .ok (.ireturn, 1) := by decide +kernel
theorem dX5_pass_0 : decode cX5_pass 0 = .ok (.lconst 0, 1) := by decide +kernel
theorem dX5_pass_1 : decode cX5_pass 1 = .ok (.lstore_n 3, 1) := by decide +kernel
theorem dX5_pass_2 : decode cX5_pass 2 = .ok (.iload_n 1, 1) := by decide +kernel
theorem dX5_pass_3 : decode cX5_pass 3 = .ok (.iconst 1, 1) := by decide +kernel
theorem dX5_pass_4 : decode cX5_pass 4 = .ok (.iadd, 1) := by decide +kernel
theorem dX5_pass_5 : decode cX5_pass 5 = .ok (.bipush 8, 2) := by decide +kernel
theorem dX5_pass_7 : decode cX5_pass 7 = .ok (.invokestatic 78, 3) := by decide +kernel
theorem dX5_pass_10 : decode cX5_pass 10 = .ok (.istore 5, 2) := by decide +kernel
theorem dX5_pass_12 : decode cX5_pass 12 = .ok (.iload_n 1, 1) := by decide +kernel
theorem dX5_pass_13 : decode cX5_pass 13 = .ok (.invokestatic 86, 3) := by decide +kernel
theorem dX5_pass_16 : decode cX5_pass 16 = .ok (.istore 6, 2) := by decide +kernel
theorem dX5_pass_18 : decode cX5_pass 18 = .ok (.aload_n 0, 1) := by decide +kernel
theorem dX5_pass_19 : decode cX5_pass 19 = .ok (.getfield 21, 3) := by decide +kernel
theorem dX5_pass_22 : decode cX5_pass 22 = .ok (.lconst 0, 1) := by decide +kernel
theorem dX5_pass_23 : decode cX5_pass 23 = .ok (.invokestatic 90, 3) := by decide +kernel
theorem dX5_pass_26 : decode cX5_pass 26 = .ok (.iconst 0, 1) := by decide +kernel
theorem dX5_pass_27 : decode cX5_pass 27 = .ok (.istore 7, 2) := by decide +kernel
theorem dX5_pass_29 : decode cX5_pass 29 = .ok (.iload 7, 2) := by decide +kernel
theorem dX5_pass_31 : decode cX5_pass 31 = .ok (.iload 6, 2) := by decide +kernel
theorem dX5_pass_33 : decode cX5_pass 33 = .ok (.if_icmp .ge 128, 3) := by decide +kernel
theorem dX5_pass_36 : decode cX5_pass 36 = .ok (.aload_n 0, 1) := by decide +kernel
theorem dX5_pass_37 : decode cX5_pass 37 = .ok (.getfield 17, 3) := by decide +kernel
theorem dX5_pass_40 : decode cX5_pass 40 = .ok (.iload 7, 2) := by decide +kernel
theorem dX5_pass_42 : decode cX5_pass 42 = .ok (.laload, 1) := by decide +kernel
theorem dX5_pass_43 : decode cX5_pass 43 = .ok (.lstore 8, 2) := by decide +kernel
theorem dX5_pass_45 : decode cX5_pass 45 = .ok (.lload 8, 2) := by decide +kernel
theorem dX5_pass_47 : decode cX5_pass 47 = .ok (.lconst 0, 1) := by decide +kernel
theorem dX5_pass_48 : decode cX5_pass 48 = .ok (.lcmp, 1) := by decide +kernel
theorem dX5_pass_49 : decode cX5_pass 49 = .ok (.ifCond .ne 6, 3) := by decide +kernel
theorem dX5_pass_52 : decode cX5_pass 52 = .ok (.goto 103, 3) := by decide +kernel
theorem dX5_pass_55 : decode cX5_pass 55 = .ok (.lload 8, 2) := by decide +kernel
theorem dX5_pass_57 : decode cX5_pass 57 = .ok (.aload_n 0, 1) := by decide +kernel
theorem dX5_pass_58 : decode cX5_pass 58 = .ok (.getfield 11, 3) := by decide +kernel
theorem dX5_pass_61 : decode cX5_pass 61 = .ok (.iload_n 1, 1) := by decide +kernel
theorem dX5_pass_62 : decode cX5_pass 62 = .ok (.iaload, 1) := by decide +kernel
theorem dX5_pass_63 : decode cX5_pass 63 = .ok (.i2l, 1) := by decide +kernel
theorem dX5_pass_64 : decode cX5_pass 64 = .ok (.lmul, 1) := by decide +kernel
theorem dX5_pass_65 : decode cX5_pass 65 = .ok (.ldc2_w 96, 3) := by decide +kernel
theorem dX5_pass_68 : decode cX5_pass 68 = .ok (.ldiv, 1) := by decide +kernel
theorem dX5_pass_69 : decode cX5_pass 69 = .ok (.lstore 10, 2) := by decide +kernel
theorem dX5_pass_71 : decode cX5_pass 71 = .ok (.iload 7, 2) := by decide +kernel
theorem dX5_pass_73 : decode cX5_pass 73 = .ok (.iconst 1, 1) := by decide +kernel
theorem dX5_pass_74 : decode cX5_pass 74 = .ok (.ishl, 1) := by decide +kernel
theorem dX5_pass_75 : decode cX5_pass 75 = .ok (.istore 12, 2) := by decide +kernel
theorem dX5_pass_77 : decode cX5_pass 77 = .ok (.aload_n 2, 1) := by decide +kernel
theorem dX5_pass_78 : decode cX5_pass 78 = .ok (.iload 12, 2) := by decide +kernel
theorem dX5_pass_80 : decode cX5_pass 80 = .ok (.iconst 1, 1) := by decide +kernel
theorem dX5_pass_81 : decode cX5_pass 81 = .ok (.ior, 1) := by decide +kernel
theorem dX5_pass_82 : decode cX5_pass 82 = .ok (.iload 5, 2) := by decide +kernel
theorem dX5_pass_84 : decode cX5_pass 84 = .ok (.invokevirtual 98, 3) := by decide +kernel
theorem dX5_pass_87 : decode cX5_pass 87 = .ok (.ifCond .eq 11, 3) := by decide +kernel
theorem dX5_pass_90 : decode cX5_pass 90 = .ok (.lload_n 3, 1) := by decide +kernel
theorem dX5_pass_91 : decode cX5_pass 91 = .ok (.lload 10, 2) := by decide +kernel
theorem dX5_pass_93 : decode cX5_pass 93 = .ok (.ladd, 1) := by decide +kernel
theorem dX5_pass_94 : decode cX5_pass 94 = .ok (.lstore_n 3, 1) := by decide +kernel
theorem dX5_pass_95 : decode cX5_pass 95 = .ok (.goto 20, 3) := by decide +kernel
theorem dX5_pass_98 : decode cX5_pass 98 = .ok (.aload_n 0, 1) := by decide +kernel
theorem dX5_pass_99 : decode cX5_pass 99 = .ok (.getfield 21, 3) := by decide +kernel
theorem dX5_pass_102 : decode cX5_pass 102 = .ok (.iload 12, 2) := by decide +kernel
theorem dX5_pass_104 : decode cX5_pass 104 = .ok (.iconst 1, 1) := by decide +kernel
theorem dX5_pass_105 : decode cX5_pass 105 = .ok (.ior, 1) := by decide +kernel
theorem dX5_pass_106 : decode cX5_pass 106 = .ok (.bipush 127, 2) := by decide +kernel
theorem dX5_pass_108 : decode cX5_pass 108 = .ok (.iand, 1) := by decide +kernel
theorem dX5_pass_109 : decode cX5_pass 109 = .ok (.dup2, 1) := by decide +kernel
theorem dX5_pass_110 : decode cX5_pass 110 = .ok (.laload, 1) := by decide +kernel
theorem dX5_pass_111 : decode cX5_pass 111 = .ok (.lload 10, 2) := by decide +kernel
theorem dX5_pass_113 : decode cX5_pass 113 = .ok (.ladd, 1) := by decide +kernel
theorem dX5_pass_114 : decode cX5_pass 114 = .ok (.lastore, 1) := by decide +kernel
theorem dX5_pass_115 : decode cX5_pass 115 = .ok (.aload_n 2, 1) := by decide +kernel
theorem dX5_pass_116 : decode cX5_pass 116 = .ok (.iload 12, 2) := by decide +kernel
theorem dX5_pass_118 : decode cX5_pass 118 = .ok (.iload 5, 2) := by decide +kernel
theorem dX5_pass_120 : decode cX5_pass 120 = .ok (.invokevirtual 98, 3) := by decide +kernel
theorem dX5_pass_123 : decode cX5_pass 123 = .ok (.ifCond .eq 14, 3) := by decide +kernel
theorem dX5_pass_126 : decode cX5_pass 126 = .ok (.lload_n 3, 1) := by decide +kernel
theorem dX5_pass_127 : decode cX5_pass 127 = .ok (.lload 8, 2) := by decide +kernel
theorem dX5_pass_129 : decode cX5_pass 129 = .ok (.lload 10, 2) := by decide +kernel
theorem dX5_pass_131 : decode cX5_pass 131 = .ok (.lsub, 1) := by decide +kernel
theorem dX5_pass_132 : decode cX5_pass 132 = .ok (.ladd, 1) := by decide +kernel
theorem dX5_pass_133 : decode cX5_pass 133 = .ok (.lstore_n 3, 1) := by decide +kernel
theorem dX5_pass_134 : decode cX5_pass 134 = .ok (.goto 21, 3) := by decide +kernel
theorem dX5_pass_137 : decode cX5_pass 137 = .ok (.aload_n 0, 1) := by decide +kernel
theorem dX5_pass_138 : decode cX5_pass 138 = .ok (.getfield 21, 3) := by decide +kernel
theorem dX5_pass_141 : decode cX5_pass 141 = .ok (.iload 12, 2) := by decide +kernel
theorem dX5_pass_143 : decode cX5_pass 143 = .ok (.bipush 127, 2) := by decide +kernel
theorem dX5_pass_145 : decode cX5_pass 145 = .ok (.iand, 1) := by decide +kernel
theorem dX5_pass_146 : decode cX5_pass 146 = .ok (.dup2, 1) := by decide +kernel
theorem dX5_pass_147 : decode cX5_pass 147 = .ok (.laload, 1) := by decide +kernel
theorem dX5_pass_148 : decode cX5_pass 148 = .ok (.lload 8, 2) := by decide +kernel
theorem dX5_pass_150 : decode cX5_pass 150 = .ok (.lload 10, 2) := by decide +kernel
theorem dX5_pass_152 : decode cX5_pass 152 = .ok (.lsub, 1) := by decide +kernel
theorem dX5_pass_153 : decode cX5_pass 153 = .ok (.ladd, 1) := by decide +kernel
theorem dX5_pass_154 : decode cX5_pass 154 = .ok (.lastore, 1) := by decide +kernel
theorem dX5_pass_155 : decode cX5_pass 155 = .ok (.iinc 7 1, 3) := by decide +kernel
theorem dX5_pass_158 : decode cX5_pass 158 = .ok (.goto (-129), 3) := by decide +kernel
theorem dX5_pass_161 : decode cX5_pass 161 = .ok (.lload_n 3, 1) := by decide +kernel
theorem dX5_pass_162 : decode cX5_pass 162 = .ok (.lreturn, 1) := by decide +kernel
theorem dX5_holding_0 : decode cX5_holding 0 = .ok (.aload_n 0, 1) := by decide +kernel
theorem dX5_holding_1 : decode cX5_holding 1 = .ok (.getfield 24, 3) := by decide +kernel
theorem dX5_holding_4 : decode cX5_holding 4 = .ok (.iconst 0, 1) := by decide +kernel
theorem dX5_holding_5 : decode cX5_holding 5 = .ok (.lconst 1, 1) := by decide +kernel
theorem dX5_holding_6 : decode cX5_holding 6 = .ok (.lastore, 1) := by decide +kernel
theorem dX5_holding_7 : decode cX5_holding 7 = .ok (.iconst 0, 1) := by decide +kernel
theorem dX5_holding_8 : decode cX5_holding 8 = .ok (.istore 4, 2) := by decide +kernel
theorem dX5_holding_10 : decode cX5_holding 10 = .ok (.iload 4, 2) := by decide +kernel
theorem dX5_holding_12 : decode cX5_holding 12 = .ok (.iload_n 1, 1) := by decide +kernel
theorem dX5_holding_13 : decode cX5_holding 13 = .ok (.if_icmp .ge 70, 3) := by decide +kernel
theorem dX5_holding_16 : decode cX5_holding 16 = .ok (.iload 4, 2) := by decide +kernel
theorem dX5_holding_18 : decode cX5_holding 18 = .ok (.iload_n 2, 1) := by decide +kernel
theorem dX5_holding_19 : decode cX5_holding 19 = .ok (.invokestatic 78, 3) := by decide +kernel
theorem dX5_holding_22 : decode cX5_holding 22 = .ok (.istore 5, 2) := by decide +kernel
theorem dX5_holding_24 : decode cX5_holding 24 = .ok (.aload_n 0, 1) := by decide +kernel
theorem dX5_holding_25 : decode cX5_holding 25 = .ok (.iload 5, 2) := by decide +kernel
theorem dX5_holding_27 : decode cX5_holding 27 = .ok (.iconst 1, 1) := by decide +kernel
theorem dX5_holding_28 : decode cX5_holding 28 = .ok (.iadd, 1) := by decide +kernel
theorem dX5_holding_29 : decode cX5_holding 29 = .ok (.invokevirtual 102, 3) := by decide +kernel
theorem dX5_holding_32 : decode cX5_holding 32 = .ok (.iconst 0, 1) := by decide +kernel
theorem dX5_holding_33 : decode cX5_holding 33 = .ok (.istore 6, 2) := by decide +kernel
theorem dX5_holding_35 : decode cX5_holding 35 = .ok (.iload 6, 2) := by decide +kernel
theorem dX5_holding_37 : decode cX5_holding 37 = .ok (.iload 5, 2) := by decide +kernel
theorem dX5_holding_39 : decode cX5_holding 39 = .ok (.if_icmp .gt 18, 3) := by decide +kernel
theorem dX5_holding_42 : decode cX5_holding 42 = .ok (.aload_n 0, 1) := by decide +kernel
theorem dX5_holding_43 : decode cX5_holding 43 = .ok (.iload 4, 2) := by decide +kernel
theorem dX5_holding_45 : decode cX5_holding 45 = .ok (.iload 6, 2) := by decide +kernel
theorem dX5_holding_47 : decode cX5_holding 47 = .ok (.aload_n 3, 1) := by decide +kernel
theorem dX5_holding_48 : decode cX5_holding 48 = .ok (.invokevirtual 106, 3) := by decide +kernel
theorem dX5_holding_51 : decode cX5_holding 51 = .ok (.iinc 6 1, 3) := by decide +kernel
theorem dX5_holding_54 : decode cX5_holding 54 = .ok (.goto (-19), 3) := by decide +kernel
theorem dX5_holding_57 : decode cX5_holding 57 = .ok (.aload_n 0, 1) := by decide +kernel
theorem dX5_holding_58 : decode cX5_holding 58 = .ok (.getfield 24, 3) := by decide +kernel
theorem dX5_holding_61 : decode cX5_holding 61 = .ok (.astore 6, 2) := by decide +kernel
theorem dX5_holding_63 : decode cX5_holding 63 = .ok (.aload_n 0, 1) := by decide +kernel
theorem dX5_holding_64 : decode cX5_holding 64 = .ok (.aload_n 0, 1) := by decide +kernel
theorem dX5_holding_65 : decode cX5_holding 65 = .ok (.getfield 27, 3) := by decide +kernel
theorem dX5_holding_68 : decode cX5_holding 68 = .ok (.putfield 24, 3) := by decide +kernel
theorem dX5_holding_71 : decode cX5_holding 71 = .ok (.aload_n 0, 1) := by decide +kernel
theorem dX5_holding_72 : decode cX5_holding 72 = .ok (.aload 6, 2) := by decide +kernel
theorem dX5_holding_74 : decode cX5_holding 74 = .ok (.putfield 27, 3) := by decide +kernel
theorem dX5_holding_77 : decode cX5_holding 77 = .ok (.iinc 4 1, 3) := by decide +kernel
theorem dX5_holding_80 : decode cX5_holding 80 = .ok (.goto (-70), 3) := by decide +kernel
theorem dX5_holding_83 : decode cX5_holding 83 = .ok (.lconst 0, 1) := by decide +kernel
theorem dX5_holding_84 : decode cX5_holding 84 = .ok (.lstore 4, 2) := by decide +kernel
theorem dX5_holding_86 : decode cX5_holding 86 = .ok (.iconst 0, 1) := by decide +kernel
theorem dX5_holding_87 : decode cX5_holding 87 = .ok (.istore 6, 2) := by decide +kernel
theorem dX5_holding_89 : decode cX5_holding 89 = .ok (.iload 6, 2) := by decide +kernel
theorem dX5_holding_91 : decode cX5_holding 91 = .ok (.bipush 127, 2) := by decide +kernel
theorem dX5_holding_93 : decode cX5_holding 93 = .ok (.if_icmp .gt 26, 3) := by decide +kernel
theorem dX5_holding_96 : decode cX5_holding 96 = .ok (.lload 4, 2) := by decide +kernel
theorem dX5_holding_98 : decode cX5_holding 98 = .ok (.aload_n 0, 1) := by decide +kernel
theorem dX5_holding_99 : decode cX5_holding 99 = .ok (.getfield 24, 3) := by decide +kernel
theorem dX5_holding_102 : decode cX5_holding 102 = .ok (.iload_n 2, 1) := by decide +kernel
theorem dX5_holding_103 : decode cX5_holding 103 = .ok (.bipush 7, 2) := by decide +kernel
theorem dX5_holding_105 : decode cX5_holding 105 = .ok (.ishl, 1) := by decide +kernel
theorem dX5_holding_106 : decode cX5_holding 106 = .ok (.iload 6, 2) := by decide +kernel
theorem dX5_holding_108 : decode cX5_holding 108 = .ok (.ior, 1) := by decide +kernel
theorem dX5_holding_109 : decode cX5_holding 109 = .ok (.laload, 1) := by decide +kernel
theorem dX5_holding_110 : decode cX5_holding 110 = .ok (.ladd, 1) := by decide +kernel
theorem dX5_holding_111 : decode cX5_holding 111 = .ok (.lstore 4, 2) := by decide +kernel
theorem dX5_holding_113 : decode cX5_holding 113 = .ok (.iinc 6 1, 3) := by decide +kernel
theorem dX5_holding_116 : decode cX5_holding 116 = .ok (.goto (-27), 3) := by decide +kernel
theorem dX5_holding_119 : decode cX5_holding 119 = .ok (.lload 4, 2) := by decide +kernel
theorem dX5_holding_121 : decode cX5_holding 121 = .ok (.lreturn, 1) := by decide +kernel
theorem dX5_clearRows_0 : decode cX5_clearRows 0 = .ok (.iconst 0, 1) := by decide +kernel
theorem dX5_clearRows_1 : decode cX5_clearRows 1 = .ok (.istore_n 2, 1) := by decide +kernel
theorem dX5_clearRows_2 : decode cX5_clearRows 2 = .ok (.iload_n 2, 1) := by decide +kernel
theorem dX5_clearRows_3 : decode cX5_clearRows 3 = .ok (.iload_n 1, 1) := by decide +kernel
theorem dX5_clearRows_4 : decode cX5_clearRows 4 = .ok (.bipush 7, 2) := by decide +kernel
theorem dX5_clearRows_6 : decode cX5_clearRows 6 = .ok (.ishl, 1) := by decide +kernel
theorem dX5_clearRows_7 : decode cX5_clearRows 7 = .ok (.bipush 127, 2) := by decide +kernel
theorem dX5_clearRows_9 : decode cX5_clearRows 9 = .ok (.ior, 1) := by decide +kernel
theorem dX5_clearRows_10 : decode cX5_clearRows 10 = .ok (.if_icmp .gt 25, 3) := by decide +kernel
theorem dX5_clearRows_13 : decode cX5_clearRows 13 = .ok (.iload_n 2, 1) := by decide +kernel
theorem dX5_clearRows_14 : decode cX5_clearRows 14 = .ok (.aload_n 0, 1) := by decide +kernel
theorem dX5_clearRows_15 : decode cX5_clearRows 15 = .ok (.getfield 27, 3) := by decide +kernel
theorem dX5_clearRows_18 : decode cX5_clearRows 18 = .ok (.arraylength, 1) := by decide +kernel
theorem dX5_clearRows_19 : decode cX5_clearRows 19 = .ok (.if_icmp .ge 16, 3) := by decide +kernel
theorem dX5_clearRows_22 : decode cX5_clearRows 22 = .ok (.aload_n 0, 1) := by decide +kernel
theorem dX5_clearRows_23 : decode cX5_clearRows 23 = .ok (.getfield 27, 3) := by decide +kernel
theorem dX5_clearRows_26 : decode cX5_clearRows 26 = .ok (.iload_n 2, 1) := by decide +kernel
theorem dX5_clearRows_27 : decode cX5_clearRows 27 = .ok (.lconst 0, 1) := by decide +kernel
theorem dX5_clearRows_28 : decode cX5_clearRows 28 = .ok (.lastore, 1) := by decide +kernel
theorem dX5_clearRows_29 : decode cX5_clearRows 29 = .ok (.iinc 2 1, 3) := by decide +kernel
theorem dX5_clearRows_32 : decode cX5_clearRows 32 = .ok (.goto (-30), 3) := by decide +kernel
theorem dX5_clearRows_35 : decode cX5_clearRows 35 = .ok (.return_, 1) := by decide +kernel
theorem dX5_addRows_0 : decode cX5_addRows 0 = .ok (.iload_n 1, 1) := by decide +kernel
theorem dX5_addRows_1 : decode cX5_addRows 1 = .ok (.iconst 1, 1) := by decide +kernel
theorem dX5_addRows_2 : decode cX5_addRows 2 = .ok (.iadd, 1) := by decide +kernel
theorem dX5_addRows_3 : decode cX5_addRows 3 = .ok (.bipush 8, 2) := by decide +kernel
theorem dX5_addRows_5 : decode cX5_addRows 5 = .ok (.invokestatic 78, 3) := by decide +kernel
theorem dX5_addRows_8 : decode cX5_addRows 8 = .ok (.istore 4, 2) := by decide +kernel
theorem dX5_addRows_10 : decode cX5_addRows 10 = .ok (.iload_n 1, 1) := by decide +kernel
theorem dX5_addRows_11 : decode cX5_addRows 11 = .ok (.invokestatic 86, 3) := by decide +kernel
theorem dX5_addRows_14 : decode cX5_addRows 14 = .ok (.istore 5, 2) := by decide +kernel
theorem dX5_addRows_16 : decode cX5_addRows 16 = .ok (.iconst 0, 1) := by decide +kernel
theorem dX5_addRows_17 : decode cX5_addRows 17 = .ok (.istore 6, 2) := by decide +kernel
theorem dX5_addRows_19 : decode cX5_addRows 19 = .ok (.iload 6, 2) := by decide +kernel
theorem dX5_addRows_21 : decode cX5_addRows 21 = .ok (.iload 5, 2) := by decide +kernel
theorem dX5_addRows_23 : decode cX5_addRows 23 = .ok (.if_icmp .ge 113, 3) := by decide +kernel
theorem dX5_addRows_26 : decode cX5_addRows 26 = .ok (.aload_n 0, 1) := by decide +kernel
theorem dX5_addRows_27 : decode cX5_addRows 27 = .ok (.getfield 24, 3) := by decide +kernel
theorem dX5_addRows_30 : decode cX5_addRows 30 = .ok (.iload_n 2, 1) := by decide +kernel
theorem dX5_addRows_31 : decode cX5_addRows 31 = .ok (.bipush 7, 2) := by decide +kernel
theorem dX5_addRows_33 : decode cX5_addRows 33 = .ok (.ishl, 1) := by decide +kernel
theorem dX5_addRows_34 : decode cX5_addRows 34 = .ok (.iload 6, 2) := by decide +kernel
theorem dX5_addRows_36 : decode cX5_addRows 36 = .ok (.ior, 1) := by decide +kernel
theorem dX5_addRows_37 : decode cX5_addRows 37 = .ok (.laload, 1) := by decide +kernel
theorem dX5_addRows_38 : decode cX5_addRows 38 = .ok (.lstore 7, 2) := by decide +kernel
theorem dX5_addRows_40 : decode cX5_addRows 40 = .ok (.lload 7, 2) := by decide +kernel
theorem dX5_addRows_42 : decode cX5_addRows 42 = .ok (.lconst 0, 1) := by decide +kernel
theorem dX5_addRows_43 : decode cX5_addRows 43 = .ok (.lcmp, 1) := by decide +kernel
theorem dX5_addRows_44 : decode cX5_addRows 44 = .ok (.ifCond .ne 6, 3) := by decide +kernel
theorem dX5_addRows_47 : decode cX5_addRows 47 = .ok (.goto 83, 3) := by decide +kernel
theorem dX5_addRows_50 : decode cX5_addRows 50 = .ok (.iload 6, 2) := by decide +kernel
theorem dX5_addRows_52 : decode cX5_addRows 52 = .ok (.iconst 1, 1) := by decide +kernel
theorem dX5_addRows_53 : decode cX5_addRows 53 = .ok (.ishl, 1) := by decide +kernel
theorem dX5_addRows_54 : decode cX5_addRows 54 = .ok (.istore 9, 2) := by decide +kernel
theorem dX5_addRows_56 : decode cX5_addRows 56 = .ok (.aload_n 3, 1) := by decide +kernel
theorem dX5_addRows_57 : decode cX5_addRows 57 = .ok (.iload 9, 2) := by decide +kernel
theorem dX5_addRows_59 : decode cX5_addRows 59 = .ok (.iload 4, 2) := by decide +kernel
theorem dX5_addRows_61 : decode cX5_addRows 61 = .ok (.invokevirtual 98, 3) := by decide +kernel
theorem dX5_addRows_64 : decode cX5_addRows 64 = .ok (.ifCond .ne 23, 3) := by decide +kernel
theorem dX5_addRows_67 : decode cX5_addRows 67 = .ok (.aload_n 0, 1) := by decide +kernel
theorem dX5_addRows_68 : decode cX5_addRows 68 = .ok (.getfield 27, 3) := by decide +kernel
theorem dX5_addRows_71 : decode cX5_addRows 71 = .ok (.iload_n 2, 1) := by decide +kernel
theorem dX5_addRows_72 : decode cX5_addRows 72 = .ok (.bipush 7, 2) := by decide +kernel
theorem dX5_addRows_74 : decode cX5_addRows 74 = .ok (.ishl, 1) := by decide +kernel
theorem dX5_addRows_75 : decode cX5_addRows 75 = .ok (.iload 9, 2) := by decide +kernel
theorem dX5_addRows_77 : decode cX5_addRows 77 = .ok (.bipush 127, 2) := by decide +kernel
theorem dX5_addRows_79 : decode cX5_addRows 79 = .ok (.iand, 1) := by decide +kernel
theorem dX5_addRows_80 : decode cX5_addRows 80 = .ok (.ior, 1) := by decide +kernel
theorem dX5_addRows_81 : decode cX5_addRows 81 = .ok (.dup2, 1) := by decide +kernel
theorem dX5_addRows_82 : decode cX5_addRows 82 = .ok (.laload, 1) := by decide +kernel
theorem dX5_addRows_83 : decode cX5_addRows 83 = .ok (.lload 7, 2) := by decide +kernel
theorem dX5_addRows_85 : decode cX5_addRows 85 = .ok (.ladd, 1) := by decide +kernel
theorem dX5_addRows_86 : decode cX5_addRows 86 = .ok (.lastore, 1) := by decide +kernel
theorem dX5_addRows_87 : decode cX5_addRows 87 = .ok (.aload_n 3, 1) := by decide +kernel
theorem dX5_addRows_88 : decode cX5_addRows 88 = .ok (.iload 9, 2) := by decide +kernel
theorem dX5_addRows_90 : decode cX5_addRows 90 = .ok (.iconst 1, 1) := by decide +kernel
theorem dX5_addRows_91 : decode cX5_addRows 91 = .ok (.ior, 1) := by decide +kernel
theorem dX5_addRows_92 : decode cX5_addRows 92 = .ok (.iload 4, 2) := by decide +kernel
theorem dX5_addRows_94 : decode cX5_addRows 94 = .ok (.invokevirtual 98, 3) := by decide +kernel
theorem dX5_addRows_97 : decode cX5_addRows 97 = .ok (.ifCond .ne 33, 3) := by decide +kernel
theorem dX5_addRows_100 : decode cX5_addRows 100 = .ok (.iload_n 2, 1) := by decide +kernel
theorem dX5_addRows_101 : decode cX5_addRows 101 = .ok (.bipush 60, 2) := by decide +kernel
theorem dX5_addRows_103 : decode cX5_addRows 103 = .ok (.if_icmp .ge 27, 3) := by decide +kernel
theorem dX5_addRows_106 : decode cX5_addRows 106 = .ok (.aload_n 0, 1) := by decide +kernel
theorem dX5_addRows_107 : decode cX5_addRows 107 = .ok (.getfield 27, 3) := by decide +kernel
theorem dX5_addRows_110 : decode cX5_addRows 110 = .ok (.iload_n 2, 1) := by decide +kernel
theorem dX5_addRows_111 : decode cX5_addRows 111 = .ok (.iconst 1, 1) := by decide +kernel
theorem dX5_addRows_112 : decode cX5_addRows 112 = .ok (.iadd, 1) := by decide +kernel
theorem dX5_addRows_113 : decode cX5_addRows 113 = .ok (.bipush 7, 2) := by decide +kernel
theorem dX5_addRows_115 : decode cX5_addRows 115 = .ok (.ishl, 1) := by decide +kernel
theorem dX5_addRows_116 : decode cX5_addRows 116 = .ok (.iload 9, 2) := by decide +kernel
theorem dX5_addRows_118 : decode cX5_addRows 118 = .ok (.iconst 1, 1) := by decide +kernel
theorem dX5_addRows_119 : decode cX5_addRows 119 = .ok (.ior, 1) := by decide +kernel
theorem dX5_addRows_120 : decode cX5_addRows 120 = .ok (.bipush 127, 2) := by decide +kernel
theorem dX5_addRows_122 : decode cX5_addRows 122 = .ok (.iand, 1) := by decide +kernel
theorem dX5_addRows_123 : decode cX5_addRows 123 = .ok (.ior, 1) := by decide +kernel
theorem dX5_addRows_124 : decode cX5_addRows 124 = .ok (.dup2, 1) := by decide +kernel
theorem dX5_addRows_125 : decode cX5_addRows 125 = .ok (.laload, 1) := by decide +kernel
theorem dX5_addRows_126 : decode cX5_addRows 126 = .ok (.lload 7, 2) := by decide +kernel
theorem dX5_addRows_128 : decode cX5_addRows 128 = .ok (.ladd, 1) := by decide +kernel
theorem dX5_addRows_129 : decode cX5_addRows 129 = .ok (.lastore, 1) := by decide +kernel
theorem dX5_addRows_130 : decode cX5_addRows 130 = .ok (.iinc 6 1, 3) := by decide +kernel
theorem dX5_addRows_133 : decode cX5_addRows 133 = .ok (.goto (-114), 3) := by decide +kernel
theorem dX5_addRows_136 : decode cX5_addRows 136 = .ok (.return_, 1) := by decide +kernel
theorem dX6_init_0 : decode cX6_init 0 = .ok (.aload_n 0, 1) := by decide +kernel
theorem dX6_init_1 : decode cX6_init 1 = .ok (.invokespecial 3, 3) := by decide +kernel
theorem dX6_init_4 : decode cX6_init 4 = .ok (.aload_n 0, 1) := by decide +kernel
theorem dX6_init_5 : decode cX6_init 5 = .ok (.new 9, 3) := by decide +kernel
theorem dX6_init_8 : decode cX6_init 8 = .ok (.dup, 1) := by decide +kernel
theorem dX6_init_9 : decode cX6_init 9 = .ok (.invokespecial 11, 3) := by decide +kernel
theorem dX6_init_12 : decode cX6_init 12 = .ok (.putfield 12, 3) := by decide +kernel
theorem dX6_init_15 : decode cX6_init 15 = .ok (.aload_n 0, 1) := by decide +kernel
theorem dX6_init_16 : decode cX6_init 16 = .ok (.new 18, 3) := by decide +kernel
theorem dX6_init_19 : decode cX6_init 19 = .ok (.dup, 1) := by decide +kernel
theorem dX6_init_20 : decode cX6_init 20 = .ok (.invokespecial 20, 3) := by decide +kernel
theorem dX6_init_23 : decode cX6_init 23 = .ok (.putfield 21, 3) := by decide +kernel
theorem dX6_init_26 : decode cX6_init 26 = .ok (.aload_n 0, 1) := by decide +kernel
theorem dX6_init_27 : decode cX6_init 27 = .ok (.aload_n 1, 1) := by decide +kernel
theorem dX6_init_28 : decode cX6_init 28 = .ok (.putfield 25, 3) := by decide +kernel
theorem dX6_init_31 : decode cX6_init 31 = .ok (.return_, 1) := by decide +kernel
theorem dX6_readLines_0 : decode cX6_readLines 0 = .ok (.aload_n 0, 1) := by decide +kernel
theorem dX6_readLines_1 : decode cX6_readLines 1 = .ok (.invokevirtual 29, 3) := by decide +kernel
theorem dX6_readLines_4 : decode cX6_readLines 4 = .ok (.aload_n 0, 1) := by decide +kernel
theorem dX6_readLines_5 : decode cX6_readLines 5 = .ok (.iload_n 1, 1) := by decide +kernel
theorem dX6_readLines_6 : decode cX6_readLines 6 = .ok (.putfield 32, 3) := by decide +kernel
theorem dX6_readLines_9 : decode cX6_readLines 9 = .ok (.aload_n 0, 1) := by decide +kernel
theorem dX6_readLines_10 : decode cX6_readLines 10 = .ok (.getfield 12, 3) := by decide +kernel
theorem dX6_readLines_13 : decode cX6_readLines 13 = .ok (.invokevirtual 36, 3) := by decide +kernel
theorem dX6_readLines_16 : decode cX6_readLines 16 = .ok (.iconst 0, 1) := by decide +kernel
theorem dX6_readLines_17 : decode cX6_readLines 17 = .ok (.istore_n 2, 1) := by decide +kernel
theorem dX6_readLines_18 : decode cX6_readLines 18 = .ok (.iload_n 2, 1) := by decide +kernel
theorem dX6_readLines_19 : decode cX6_readLines 19 = .ok (.bipush 16, 2) := by decide +kernel
theorem dX6_readLines_21 : decode cX6_readLines 21 = .ok (.if_icmp .gt 29, 3) := by decide +kernel
theorem dX6_readLines_24 : decode cX6_readLines 24 = .ok (.aload_n 0, 1) := by decide +kernel
theorem dX6_readLines_25 : decode cX6_readLines 25 = .ok (.getfield 25, 3) := by decide +kernel
theorem dX6_readLines_28 : decode cX6_readLines 28 = .ok (.invokevirtual 39, 3) := by decide +kernel
theorem dX6_readLines_31 : decode cX6_readLines 31 = .ok (.ifCond .eq 19, 3) := by decide +kernel
theorem dX6_readLines_34 : decode cX6_readLines 34 = .ok (.aload_n 0, 1) := by decide +kernel
theorem dX6_readLines_35 : decode cX6_readLines 35 = .ok (.iload_n 2, 1) := by decide +kernel
theorem dX6_readLines_36 : decode cX6_readLines 36 = .ok (.invokevirtual 45, 3) := by decide +kernel
theorem dX6_readLines_39 : decode cX6_readLines 39 = .ok (.ifCond .ne 5, 3) := by decide +kernel
theorem dX6_readLines_42 : decode cX6_readLines 42 = .ok (.iconst (-1), 1) := by decide +kernel
theorem dX6_readLines_43 : decode cX6_readLines 43 = .ok (.ireturn, 1) := by decide +kernel
theorem dX6_readLines_44 : decode cX6_readLines 44 = .ok (.iinc 2 1, 3) := by decide +kernel
theorem dX6_readLines_47 : decode cX6_readLines 47 = .ok (.goto (-29), 3) := by decide +kernel
theorem dX6_readLines_50 : decode cX6_readLines 50 = .ok (.iload_n 2, 1) := by decide +kernel
theorem dX6_readLines_51 : decode cX6_readLines 51 = .ok (.ireturn, 1) := by decide +kernel
theorem dX6_readBreaks_0 : decode cX6_readBreaks 0 = .ok (.aload_n 0, 1) := by decide +kernel
theorem dX6_readBreaks_1 : decode cX6_readBreaks 1 = .ok (.invokevirtual 29, 3) := by decide +kernel
theorem dX6_readBreaks_4 : decode cX6_readBreaks 4 = .ok (.aload_n 0, 1) := by decide +kernel
theorem dX6_readBreaks_5 : decode cX6_readBreaks 5 = .ok (.getfield 21, 3) := by decide +kernel
theorem dX6_readBreaks_8 : decode cX6_readBreaks 8 = .ok (.invokevirtual 49, 3) := by decide +kernel
theorem dX6_readBreaks_11 : decode cX6_readBreaks 11 = .ok (.iconst 0, 1) := by decide +kernel
theorem dX6_readBreaks_12 : decode cX6_readBreaks 12 = .ok (.istore_n 1, 1) := by decide +kernel
theorem dX6_readBreaks_13 : decode cX6_readBreaks 13 = .ok (.iload_n 1, 1) := by decide +kernel
theorem dX6_readBreaks_14 : decode cX6_readBreaks 14 = .ok (.bipush 8, 2) := by decide +kernel
theorem dX6_readBreaks_16 : decode cX6_readBreaks 16 = .ok (.if_icmp .gt 29, 3) := by decide +kernel
theorem dX6_readBreaks_19 : decode cX6_readBreaks 19 = .ok (.aload_n 0, 1) := by decide +kernel
theorem dX6_readBreaks_20 : decode cX6_readBreaks 20 = .ok (.getfield 25, 3) := by decide +kernel
theorem dX6_readBreaks_23 : decode cX6_readBreaks 23 = .ok (.invokevirtual 39, 3) := by decide +kernel
theorem dX6_readBreaks_26 : decode cX6_readBreaks 26 = .ok (.ifCond .eq 19, 3) := by decide +kernel
theorem dX6_readBreaks_29 : decode cX6_readBreaks 29 = .ok (.aload_n 0, 1) := by decide +kernel
theorem dX6_readBreaks_30 : decode cX6_readBreaks 30 = .ok (.iload_n 1, 1) := by decide +kernel
theorem dX6_readBreaks_31 : decode cX6_readBreaks 31 = .ok (.invokevirtual 50, 3) := by decide +kernel
theorem dX6_readBreaks_34 : decode cX6_readBreaks 34 = .ok (.ifCond .ne 5, 3) := by decide +kernel
theorem dX6_readBreaks_37 : decode cX6_readBreaks 37 = .ok (.iconst (-1), 1) := by decide +kernel
theorem dX6_readBreaks_38 : decode cX6_readBreaks 38 = .ok (.ireturn, 1) := by decide +kernel
theorem dX6_readBreaks_39 : decode cX6_readBreaks 39 = .ok (.iinc 1 1, 3) := by decide +kernel
theorem dX6_readBreaks_42 : decode cX6_readBreaks 42 = .ok (.goto (-29), 3) := by decide +kernel
theorem dX6_readBreaks_45 : decode cX6_readBreaks 45 = .ok (.iload_n 1, 1) := by decide +kernel
theorem dX6_readBreaks_46 : decode cX6_readBreaks 46 = .ok (.ireturn, 1) := by decide +kernel
theorem dX6_begin_0 : decode cX6_begin 0 = .ok (.aload_n 0, 1) := by decide +kernel
theorem dX6_begin_1 : decode cX6_begin 1 = .ok (.getfield 25, 3) := by decide +kernel
theorem dX6_begin_4 : decode cX6_begin 4 = .ok (.invokevirtual 53, 3) := by decide +kernel
theorem dX6_begin_7 : decode cX6_begin 7 = .ok (.aload_n 0, 1) := by decide +kernel
theorem dX6_begin_8 : decode cX6_begin 8 = .ok (.iconst 0, 1) := by decide +kernel
theorem dX6_begin_9 : decode cX6_begin 9 = .ok (.putfield 56, 3) := by decide +kernel
theorem dX6_begin_12 : decode cX6_begin 12 = .ok (.aload_n 0, 1) := by decide +kernel
theorem dX6_begin_13 : decode cX6_begin 13 = .ok (.iconst (-1), 1) := by decide +kernel
theorem dX6_begin_14 : decode cX6_begin 14 = .ok (.putfield 60, 3) := by decide +kernel
theorem dX6_begin_17 : decode cX6_begin 17 = .ok (.return_, 1) := by decide +kernel
theorem dX6_stop_0 : decode cX6_stop 0 = .ok (.aload_n 0, 1) := by decide +kernel
theorem dX6_stop_1 : decode cX6_stop 1 = .ok (.iload_n 1, 1) := by decide +kernel
theorem dX6_stop_2 : decode cX6_stop 2 = .ok (.putfield 56, 3) := by decide +kernel
theorem dX6_stop_5 : decode cX6_stop 5 = .ok (.aload_n 0, 1) := by decide +kernel
theorem dX6_stop_6 : decode cX6_stop 6 = .ok (.aload_n 0, 1) := by decide +kernel
theorem dX6_stop_7 : decode cX6_stop 7 = .ok (.getfield 25, 3) := by decide +kernel
theorem dX6_stop_10 : decode cX6_stop 10 = .ok (.getfield 63, 3) := by decide +kernel
theorem dX6_stop_13 : decode cX6_stop 13 = .ok (.aload_n 0, 1) := by decide +kernel
theorem dX6_stop_14 : decode cX6_stop 14 = .ok (.getfield 25, 3) := by decide +kernel
theorem dX6_stop_17 : decode cX6_stop 17 = .ok (.getfield 67, 3) := by decide +kernel
theorem dX6_stop_20 : decode cX6_stop 20 = .ok (.iaload, 1) := by decide +kernel
theorem dX6_stop_21 : decode cX6_stop 21 = .ok (.putfield 60, 3) := by decide +kernel
theorem dX6_stop_24 : decode cX6_stop 24 = .ok (.iconst 0, 1) := by decide +kernel
theorem dX6_stop_25 : decode cX6_stop 25 = .ok (.ireturn, 1) := by decide +kernel
theorem dX6_pass_0 : decode cX6_pass 0 = .ok (.aload_n 0, 1) := by decide +kernel
theorem dX6_pass_1 : decode cX6_pass 1 = .ok (.getfield 25, 3) := by decide +kernel
theorem dX6_pass_4 : decode cX6_pass 4 = .ok (.invokevirtual 39, 3) := by decide +kernel
theorem dX6_pass_7 : decode cX6_pass 7 = .ok (.iload_n 1, 1) := by decide +kernel
theorem dX6_pass_8 : decode cX6_pass 8 = .ok (.if_icmp .eq 9, 3) := by decide +kernel
theorem dX6_pass_11 : decode cX6_pass 11 = .ok (.aload_n 0, 1) := by decide +kernel
theorem dX6_pass_12 : decode cX6_pass 12 = .ok (.iconst 1, 1) := by decide +kernel
theorem dX6_pass_13 : decode cX6_pass 13 = .ok (.invokevirtual 70, 3) := by decide +kernel
theorem dX6_pass_16 : decode cX6_pass 16 = .ok (.ireturn, 1) := by decide +kernel
theorem dX6_pass_17 : decode cX6_pass 17 = .ok (.aload_n 0, 1) := by decide +kernel
theorem dX6_pass_18 : decode cX6_pass 18 = .ok (.getfield 25, 3) := by decide +kernel
theorem dX6_pass_21 : decode cX6_pass 21 = .ok (.invokevirtual 73, 3) := by decide +kernel
theorem dX6_pass_24 : decode cX6_pass 24 = .ok (.iconst 1, 1) := by decide +kernel
theorem dX6_pass_25 : decode cX6_pass 25 = .ok (.ireturn, 1) := by decide +kernel
theorem dX6_readLine_0 : decode cX6_readLine 0 = .ok (.aload_n 0, 1) := by decide +kernel
theorem dX6_readLine_1 : decode cX6_readLine 1 = .ok (.getfield 25, 3) := by decide +kernel
theorem dX6_readLine_4 : decode cX6_readLine 4 = .ok (.invokevirtual 39, 3) := by decide +kernel
theorem dX6_readLine_7 : decode cX6_readLine 7 = .ok (.aload_n 0, 1) := by decide +kernel
theorem dX6_readLine_8 : decode cX6_readLine 8 = .ok (.getfield 32, 3) := by decide +kernel
theorem dX6_readLine_11 : decode cX6_readLine 11 = .ok (.ifCond .eq 9, 3) := by decide +kernel
theorem dX6_readLine_14 : decode cX6_readLine 14 = .ok (.sipush 256, 3) := by decide +kernel
theorem dX6_readLine_17 : decode cX6_readLine 17 = .ok (.goto 6, 3) := by decide +kernel
theorem dX6_readLine_20 : decode cX6_readLine 20 = .ok (.sipush 257, 3) := by decide +kernel
theorem dX6_readLine_23 : decode cX6_readLine 23 = .ok (.if_icmp .eq 9, 3) := by decide +kernel
theorem dX6_readLine_26 : decode cX6_readLine 26 = .ok (.aload_n 0, 1) := by decide +kernel
theorem dX6_readLine_27 : decode cX6_readLine 27 = .ok (.iconst 1, 1) := by decide +kernel
theorem dX6_readLine_28 : decode cX6_readLine 28 = .ok (.invokevirtual 70, 3) := by decide +kernel
theorem dX6_readLine_31 : decode cX6_readLine 31 = .ok (.ireturn, 1) := by decide +kernel
theorem dX6_readLine_32 : decode cX6_readLine 32 = .ok (.iload_n 1, 1) := by decide +kernel
theorem dX6_readLine_33 : decode cX6_readLine 33 = .ok (.bipush 16, 2) := by decide +kernel
theorem dX6_readLine_35 : decode cX6_readLine 35 = .ok (.if_icmp .lt 9, 3) := by decide +kernel
theorem dX6_readLine_38 : decode cX6_readLine 38 = .ok (.aload_n 0, 1) := by decide +kernel
theorem dX6_readLine_39 : decode cX6_readLine 39 = .ok (.iconst 3, 1) := by decide +kernel
theorem dX6_readLine_40 : decode cX6_readLine 40 = .ok (.invokevirtual 70, 3) := by decide +kernel
theorem dX6_readLine_43 : decode cX6_readLine 43 = .ok (.ireturn, 1) := by decide +kernel
theorem dX6_readLine_44 : decode cX6_readLine 44 = .ok (.aload_n 0, 1) := by decide +kernel
theorem dX6_readLine_45 : decode cX6_readLine 45 = .ok (.getfield 25, 3) := by decide +kernel
theorem dX6_readLine_48 : decode cX6_readLine 48 = .ok (.invokevirtual 73, 3) := by decide +kernel
theorem dX6_readLine_51 : decode cX6_readLine 51 = .ok (.aload_n 0, 1) := by decide +kernel
theorem dX6_readLine_52 : decode cX6_readLine 52 = .ok (.invokevirtual 76, 3) := by decide +kernel
theorem dX6_readLine_55 : decode cX6_readLine 55 = .ok (.ifCond .ne 5, 3) := by decide +kernel
theorem dX6_readLine_58 : decode cX6_readLine 58 = .ok (.iconst 0, 1) := by decide +kernel
theorem dX6_readLine_59 : decode cX6_readLine 59 = .ok (.ireturn, 1) := by decide +kernel
theorem dX6_readLine_60 : decode cX6_readLine 60 = .ok (.aload_n 0, 1) := by decide +kernel
theorem dX6_readLine_61 : decode cX6_readLine 61 = .ok (.getfield 12, 3) := by decide +kernel
theorem dX6_readLine_64 : decode cX6_readLine 64 = .ok (.iload_n 1, 1) := by decide +kernel
theorem dX6_readLine_65 : decode cX6_readLine 65 = .ok (.invokevirtual 80, 3) := by decide +kernel
theorem dX6_readLine_68 : decode cX6_readLine 68 = .ok (.aload_n 0, 1) := by decide +kernel
theorem dX6_readLine_69 : decode cX6_readLine 69 = .ok (.getfield 25, 3) := by decide +kernel
theorem dX6_readLine_72 : decode cX6_readLine 72 = .ok (.invokevirtual 39, 3) := by decide +kernel
theorem dX6_readLine_75 : decode cX6_readLine 75 = .ok (.sipush 258, 3) := by decide +kernel
theorem dX6_readLine_78 : decode cX6_readLine 78 = .ok (.if_icmp .ne 20, 3) := by decide +kernel
theorem dX6_readLine_81 : decode cX6_readLine 81 = .ok (.aload_n 0, 1) := by decide +kernel
theorem dX6_readLine_82 : decode cX6_readLine 82 = .ok (.getfield 25, 3) := by decide +kernel
theorem dX6_readLine_85 : decode cX6_readLine 85 = .ok (.invokevirtual 73, 3) := by decide +kernel
theorem dX6_readLine_88 : decode cX6_readLine 88 = .ok (.aload_n 0, 1) := by decide +kernel
theorem dX6_readLine_89 : decode cX6_readLine 89 = .ok (.iconst 0, 1) := by decide +kernel
theorem dX6_readLine_90 : decode cX6_readLine 90 = .ok (.invokevirtual 84, 3) := by decide +kernel
theorem dX6_readLine_93 : decode cX6_readLine 93 = .ok (.ifCond .ne 5, 3) := by decide +kernel
theorem dX6_readLine_96 : decode cX6_readLine 96 = .ok (.iconst 0, 1) := by decide +kernel
theorem dX6_readLine_97 : decode cX6_readLine 97 = .ok (.ireturn, 1) := by decide +kernel
theorem dX6_readLine_98 : decode cX6_readLine 98 = .ok (.aload_n 0, 1) := by decide +kernel
theorem dX6_readLine_99 : decode cX6_readLine 99 = .ok (.getfield 12, 3) := by decide +kernel
theorem dX6_readLine_102 : decode cX6_readLine 102 = .ok (.iload_n 1, 1) := by decide +kernel
theorem dX6_readLine_103 : decode cX6_readLine 103 = .ok (.invokevirtual 87, 3) := by decide +kernel
theorem dX6_readLine_106 : decode cX6_readLine 106 = .ok (.aload_n 0, 1) := by decide +kernel
theorem dX6_readLine_107 : decode cX6_readLine 107 = .ok (.bipush 59, 2) := by decide +kernel
theorem dX6_readLine_109 : decode cX6_readLine 109 = .ok (.invokevirtual 90, 3) := by decide +kernel
theorem dX6_readLine_112 : decode cX6_readLine 112 = .ok (.ireturn, 1) := by decide +kernel
theorem dX6_readSum_0 : decode cX6_readSum 0 = .ok (.aload_n 0, 1) := by decide +kernel
theorem dX6_readSum_1 : decode cX6_readSum 1 = .ok (.invokevirtual 93, 3) := by decide +kernel
theorem dX6_readSum_4 : decode cX6_readSum 4 = .ok (.istore_n 1, 1) := by decide +kernel
theorem dX6_readSum_5 : decode cX6_readSum 5 = .ok (.iconst 0, 1) := by decide +kernel
theorem dX6_readSum_6 : decode cX6_readSum 6 = .ok (.istore_n 2, 1) := by decide +kernel
theorem dX6_readSum_7 : decode cX6_readSum 7 = .ok (.iload_n 2, 1) := by decide +kernel
theorem dX6_readSum_8 : decode cX6_readSum 8 = .ok (.sipush 500, 3) := by decide +kernel
theorem dX6_readSum_11 : decode cX6_readSum 11 = .ok (.if_icmp .ge 77, 3) := by decide +kernel
theorem dX6_readSum_14 : decode cX6_readSum 14 = .ok (.iload_n 1, 1) := by decide +kernel
theorem dX6_readSum_15 : decode cX6_readSum 15 = .ok (.ifCond .eq 73, 3) := by decide +kernel
theorem dX6_readSum_18 : decode cX6_readSum 18 = .ok (.aload_n 0, 1) := by decide +kernel
theorem dX6_readSum_19 : decode cX6_readSum 19 = .ok (.getfield 25, 3) := by decide +kernel
theorem dX6_readSum_22 : decode cX6_readSum 22 = .ok (.invokevirtual 39, 3) := by decide +kernel
theorem dX6_readSum_25 : decode cX6_readSum 25 = .ok (.bipush 43, 2) := by decide +kernel
theorem dX6_readSum_27 : decode cX6_readSum 27 = .ok (.if_icmp .eq 15, 3) := by decide +kernel
theorem dX6_readSum_30 : decode cX6_readSum 30 = .ok (.aload_n 0, 1) := by decide +kernel
theorem dX6_readSum_31 : decode cX6_readSum 31 = .ok (.getfield 25, 3) := by decide +kernel
theorem dX6_readSum_34 : decode cX6_readSum 34 = .ok (.invokevirtual 39, 3) := by decide +kernel
theorem dX6_readSum_37 : decode cX6_readSum 37 = .ok (.bipush 45, 2) := by decide +kernel
theorem dX6_readSum_39 : decode cX6_readSum 39 = .ok (.if_icmp .ne 49, 3) := by decide +kernel
theorem dX6_readSum_42 : decode cX6_readSum 42 = .ok (.aload_n 0, 1) := by decide +kernel
theorem dX6_readSum_43 : decode cX6_readSum 43 = .ok (.getfield 25, 3) := by decide +kernel
theorem dX6_readSum_46 : decode cX6_readSum 46 = .ok (.invokevirtual 39, 3) := by decide +kernel
theorem dX6_readSum_49 : decode cX6_readSum 49 = .ok (.istore_n 3, 1) := by decide +kernel
theorem dX6_readSum_50 : decode cX6_readSum 50 = .ok (.aload_n 0, 1) := by decide +kernel
theorem dX6_readSum_51 : decode cX6_readSum 51 = .ok (.getfield 25, 3) := by decide +kernel
theorem dX6_readSum_54 : decode cX6_readSum 54 = .ok (.invokevirtual 73, 3) := by decide +kernel
theorem dX6_readSum_57 : decode cX6_readSum 57 = .ok (.aload_n 0, 1) := by decide +kernel
theorem dX6_readSum_58 : decode cX6_readSum 58 = .ok (.invokevirtual 93, 3) := by decide +kernel
theorem dX6_readSum_61 : decode cX6_readSum 61 = .ok (.ifCond .eq 19, 3) := by decide +kernel
theorem dX6_readSum_64 : decode cX6_readSum 64 = .ok (.aload_n 0, 1) := by decide +kernel
theorem dX6_readSum_65 : decode cX6_readSum 65 = .ok (.getfield 12, 3) := by decide +kernel
theorem dX6_readSum_68 : decode cX6_readSum 68 = .ok (.iload_n 3, 1) := by decide +kernel
theorem dX6_readSum_69 : decode cX6_readSum 69 = .ok (.ineg, 1) := by decide +kernel
theorem dX6_readSum_70 : decode cX6_readSum 70 = .ok (.invokevirtual 96, 3) := by decide +kernel
theorem dX6_readSum_73 : decode cX6_readSum 73 = .ok (.ifCond .eq 7, 3) := by decide +kernel
theorem dX6_readSum_76 : decode cX6_readSum 76 = .ok (.iconst 1, 1) := by decide +kernel
theorem dX6_readSum_77 : decode cX6_readSum 77 = .ok (.goto 4, 3) := by decide +kernel
theorem dX6_readSum_80 : decode cX6_readSum 80 = .ok (.iconst 0, 1) := by decide +kernel
theorem dX6_readSum_81 : decode cX6_readSum 81 = .ok (.istore_n 1, 1) := by decide +kernel
theorem dX6_readSum_82 : decode cX6_readSum 82 = .ok (.iinc 2 1, 3) := by decide +kernel
theorem dX6_readSum_85 : decode cX6_readSum 85 = .ok (.goto (-78), 3) := by decide +kernel
theorem dX6_readSum_88 : decode cX6_readSum 88 = .ok (.iload_n 1, 1) := by decide +kernel
theorem dX6_readSum_89 : decode cX6_readSum 89 = .ok (.ireturn, 1) := by decide +kernel
theorem dX6_readProduct_0 : decode cX6_readProduct 0 = .ok (.aload_n 0, 1) := by decide +kernel
theorem dX6_readProduct_1 : decode cX6_readProduct 1 = .ok (.invokevirtual 99, 3) := by decide +kernel
theorem dX6_readProduct_4 : decode cX6_readProduct 4 = .ok (.istore_n 1, 1) := by decide +kernel
theorem dX6_readProduct_5 : decode cX6_readProduct 5 = .ok (.iconst 0, 1) := by decide +kernel
theorem dX6_readProduct_6 : decode cX6_readProduct 6 = .ok (.istore_n 2, 1) := by decide +kernel
theorem dX6_readProduct_7 : decode cX6_readProduct 7 = .ok (.iload_n 2, 1) := by decide +kernel
theorem dX6_readProduct_8 : decode cX6_readProduct 8 = .ok (.sipush 500, 3) := by decide +kernel
theorem dX6_readProduct_11 : decode cX6_readProduct 11 = .ok (.if_icmp .ge 90, 3) := by decide +kernel
theorem dX6_readProduct_14 : decode cX6_readProduct 14 = .ok (.iload_n 1, 1) := by decide +kernel
theorem dX6_readProduct_15 : decode cX6_readProduct 15 = .ok (.ifCond .eq 86, 3) := by decide +kernel
theorem dX6_readProduct_18 : decode cX6_readProduct 18 = .ok (.aload_n 0, 1) := by decide +kernel
theorem dX6_readProduct_19 : decode cX6_readProduct 19 = .ok (.getfield 25, 3) := by decide +kernel
theorem dX6_readProduct_22 : decode cX6_readProduct 22 = .ok (.invokevirtual 39, 3) := by decide +kernel
theorem dX6_readProduct_25 : decode cX6_readProduct 25 = .ok (.bipush 42, 2) := by decide +kernel
theorem dX6_readProduct_27 : decode cX6_readProduct 27 = .ok (.if_icmp .eq 15, 3) := by decide +kernel
theorem dX6_readProduct_30 : decode cX6_readProduct 30 = .ok (.aload_n 0, 1) := by decide +kernel
theorem dX6_readProduct_31 : decode cX6_readProduct 31 = .ok (.getfield 25, 3) := by decide +kernel
theorem dX6_readProduct_34 : decode cX6_readProduct 34 = .ok (.invokevirtual 39, 3) := by decide +kernel
theorem dX6_readProduct_37 : decode cX6_readProduct 37 = .ok (.bipush 47, 2) := by decide +kernel
theorem dX6_readProduct_39 : decode cX6_readProduct 39 = .ok (.if_icmp .ne 62, 3) := by decide +kernel
theorem dX6_readProduct_42 : decode cX6_readProduct 42 = .ok (.aload_n 0, 1) := by decide +kernel
theorem dX6_readProduct_43 : decode cX6_readProduct 43 = .ok (.getfield 25, 3) := by decide +kernel
theorem dX6_readProduct_46 : decode cX6_readProduct 46 = .ok (.invokevirtual 39, 3) := by decide +kernel
theorem dX6_readProduct_49 : decode cX6_readProduct 49 = .ok (.istore_n 3, 1) := by decide +kernel
theorem dX6_readProduct_50 : decode cX6_readProduct 50 = .ok (.aload_n 0, 1) := by decide +kernel
theorem dX6_readProduct_51 : decode cX6_readProduct 51 = .ok (.getfield 25, 3) := by decide +kernel
theorem dX6_readProduct_54 : decode cX6_readProduct 54 = .ok (.invokevirtual 73, 3) := by decide +kernel
theorem dX6_readProduct_57 : decode cX6_readProduct 57 = .ok (.iload_n 3, 1) := by decide +kernel
theorem dX6_readProduct_58 : decode cX6_readProduct 58 = .ok (.bipush 42, 2) := by decide +kernel
theorem dX6_readProduct_60 : decode cX6_readProduct 60 = .ok (.if_icmp .eq 10, 3) := by decide +kernel
theorem dX6_readProduct_63 : decode cX6_readProduct 63 = .ok (.aload_n 0, 1) := by decide +kernel
theorem dX6_readProduct_64 : decode cX6_readProduct 64 = .ok (.invokevirtual 102, 3) := by decide +kernel
theorem dX6_readProduct_67 : decode cX6_readProduct 67 = .ok (.ifCond .eq 26, 3) := by decide +kernel
theorem dX6_readProduct_70 : decode cX6_readProduct 70 = .ok (.aload_n 0, 1) := by decide +kernel
theorem dX6_readProduct_71 : decode cX6_readProduct 71 = .ok (.invokevirtual 99, 3) := by decide +kernel
theorem dX6_readProduct_74 : decode cX6_readProduct 74 = .ok (.ifCond .eq 19, 3) := by decide +kernel
theorem dX6_readProduct_77 : decode cX6_readProduct 77 = .ok (.aload_n 0, 1) := by decide +kernel
theorem dX6_readProduct_78 : decode cX6_readProduct 78 = .ok (.getfield 12, 3) := by decide +kernel
theorem dX6_readProduct_81 : decode cX6_readProduct 81 = .ok (.iload_n 3, 1) := by decide +kernel
theorem dX6_readProduct_82 : decode cX6_readProduct 82 = .ok (.ineg, 1) := by decide +kernel
theorem dX6_readProduct_83 : decode cX6_readProduct 83 = .ok (.invokevirtual 96, 3) := by decide +kernel
theorem dX6_readProduct_86 : decode cX6_readProduct 86 = .ok (.ifCond .eq 7, 3) := by decide +kernel
theorem dX6_readProduct_89 : decode cX6_readProduct 89 = .ok (.iconst 1, 1) := by decide +kernel
theorem dX6_readProduct_90 : decode cX6_readProduct 90 = .ok (.goto 4, 3) := by decide +kernel
theorem dX6_readProduct_93 : decode cX6_readProduct 93 = .ok (.iconst 0, 1) := by decide +kernel
theorem dX6_readProduct_94 : decode cX6_readProduct 94 = .ok (.istore_n 1, 1) := by decide +kernel
theorem dX6_readProduct_95 : decode cX6_readProduct 95 = .ok (.iinc 2 1, 3) := by decide +kernel
theorem dX6_readProduct_98 : decode cX6_readProduct 98 = .ok (.goto (-91), 3) := by decide +kernel
theorem dX6_readProduct_101 : decode cX6_readProduct 101 = .ok (.iload_n 1, 1) := by decide +kernel
theorem dX6_readProduct_102 : decode cX6_readProduct 102 = .ok (.ireturn, 1) := by decide +kernel
theorem dX6_isDivisor_0 : decode cX6_isDivisor 0 = .ok (.aload_n 0, 1) := by decide +kernel
theorem dX6_isDivisor_1 : decode cX6_isDivisor 1 = .ok (.getfield 25, 3) := by decide +kernel
theorem dX6_isDivisor_4 : decode cX6_isDivisor 4 = .ok (.invokevirtual 39, 3) := by decide +kernel
theorem dX6_isDivisor_7 : decode cX6_isDivisor 7 = .ok (.iconst 1, 1) := by decide +kernel
theorem dX6_isDivisor_8 : decode cX6_isDivisor 8 = .ok (.if_icmp .eq 9, 3) := by decide +kernel
theorem dX6_isDivisor_11 : decode cX6_isDivisor 11 = .ok (.aload_n 0, 1) := by decide +kernel
theorem dX6_isDivisor_12 : decode cX6_isDivisor 12 = .ok (.iconst 1, 1) := by decide +kernel
theorem dX6_isDivisor_13 : decode cX6_isDivisor 13 = .ok (.invokevirtual 70, 3) := by decide +kernel
theorem dX6_isDivisor_16 : decode cX6_isDivisor 16 = .ok (.ireturn, 1) := by decide +kernel
theorem dX6_isDivisor_17 : decode cX6_isDivisor 17 = .ok (.aload_n 0, 1) := by decide +kernel
theorem dX6_isDivisor_18 : decode cX6_isDivisor 18 = .ok (.getfield 25, 3) := by decide +kernel
theorem dX6_isDivisor_21 : decode cX6_isDivisor 21 = .ok (.invokevirtual 105, 3) := by decide +kernel
theorem dX6_isDivisor_24 : decode cX6_isDivisor 24 = .ok (.ifCond .ne 11, 3) := by decide +kernel
theorem dX6_isDivisor_27 : decode cX6_isDivisor 27 = .ok (.aload_n 0, 1) := by decide +kernel
theorem dX6_isDivisor_28 : decode cX6_isDivisor 28 = .ok (.iconst 2, 1) := by decide +kernel
theorem dX6_isDivisor_29 : decode cX6_isDivisor 29 = .ok (.invokevirtual 70, 3) := by decide +kernel
theorem dX6_isDivisor_32 : decode cX6_isDivisor 32 = .ok (.ifCond .eq 7, 3) := by decide +kernel
theorem dX6_isDivisor_35 : decode cX6_isDivisor 35 = .ok (.iconst 1, 1) := by decide +kernel
theorem dX6_isDivisor_36 : decode cX6_isDivisor 36 = .ok (.goto 4, 3) := by decide +kernel
theorem dX6_isDivisor_39 : decode cX6_isDivisor 39 = .ok (.iconst 0, 1) := by decide +kernel
theorem dX6_isDivisor_40 : decode cX6_isDivisor 40 = .ok (.ireturn, 1) := by decide +kernel
theorem dX6_readUnit_0 : decode cX6_readUnit 0 = .ok (.aload_n 0, 1) := by decide +kernel
theorem dX6_readUnit_1 : decode cX6_readUnit 1 = .ok (.getfield 25, 3) := by decide +kernel
theorem dX6_readUnit_4 : decode cX6_readUnit 4 = .ok (.invokevirtual 39, 3) := by decide +kernel
theorem dX6_readUnit_7 : decode cX6_readUnit 7 = .ok (.iconst 1, 1) := by decide +kernel
theorem dX6_readUnit_8 : decode cX6_readUnit 8 = .ok (.if_icmp .ne 21, 3) := by decide +kernel
theorem dX6_readUnit_11 : decode cX6_readUnit 11 = .ok (.aload_n 0, 1) := by decide +kernel
theorem dX6_readUnit_12 : decode cX6_readUnit 12 = .ok (.getfield 12, 3) := by decide +kernel
theorem dX6_readUnit_15 : decode cX6_readUnit 15 = .ok (.aload_n 0, 1) := by decide +kernel
theorem dX6_readUnit_16 : decode cX6_readUnit 16 = .ok (.getfield 25, 3) := by decide +kernel
theorem dX6_readUnit_19 : decode cX6_readUnit 19 = .ok (.invokevirtual 105, 3) := by decide +kernel
theorem dX6_readUnit_22 : decode cX6_readUnit 22 = .ok (.invokevirtual 96, 3) := by decide +kernel
theorem dX6_readUnit_25 : decode cX6_readUnit 25 = .ok (.pop, 1) := by decide +kernel
theorem dX6_readUnit_26 : decode cX6_readUnit 26 = .ok (.goto 42, 3) := by decide +kernel
theorem dX6_readUnit_29 : decode cX6_readUnit 29 = .ok (.aload_n 0, 1) := by decide +kernel
theorem dX6_readUnit_30 : decode cX6_readUnit 30 = .ok (.aload_n 0, 1) := by decide +kernel
theorem dX6_readUnit_31 : decode cX6_readUnit 31 = .ok (.getfield 25, 3) := by decide +kernel
theorem dX6_readUnit_34 : decode cX6_readUnit 34 = .ok (.invokevirtual 39, 3) := by decide +kernel
theorem dX6_readUnit_37 : decode cX6_readUnit 37 = .ok (.invokevirtual 108, 3) := by decide +kernel
theorem dX6_readUnit_40 : decode cX6_readUnit 40 = .ok (.ifCond .eq 22, 3) := by decide +kernel
theorem dX6_readUnit_43 : decode cX6_readUnit 43 = .ok (.aload_n 0, 1) := by decide +kernel
theorem dX6_readUnit_44 : decode cX6_readUnit 44 = .ok (.getfield 12, 3) := by decide +kernel
theorem dX6_readUnit_47 : decode cX6_readUnit 47 = .ok (.aload_n 0, 1) := by decide +kernel
theorem dX6_readUnit_48 : decode cX6_readUnit 48 = .ok (.getfield 25, 3) := by decide +kernel
theorem dX6_readUnit_51 : decode cX6_readUnit 51 = .ok (.invokevirtual 39, 3) := by decide +kernel
theorem dX6_readUnit_54 : decode cX6_readUnit 54 = .ok (.ineg, 1) := by decide +kernel
theorem dX6_readUnit_55 : decode cX6_readUnit 55 = .ok (.invokevirtual 96, 3) := by decide +kernel
theorem dX6_readUnit_58 : decode cX6_readUnit 58 = .ok (.pop, 1) := by decide +kernel
theorem dX6_readUnit_59 : decode cX6_readUnit 59 = .ok (.goto 9, 3) := by decide +kernel
theorem dX6_readUnit_62 : decode cX6_readUnit 62 = .ok (.aload_n 0, 1) := by decide +kernel
theorem dX6_readUnit_63 : decode cX6_readUnit 63 = .ok (.iconst 1, 1) := by decide +kernel
theorem dX6_readUnit_64 : decode cX6_readUnit 64 = .ok (.invokevirtual 70, 3) := by decide +kernel
theorem dX6_readUnit_67 : decode cX6_readUnit 67 = .ok (.ireturn, 1) := by decide +kernel
theorem dX6_readUnit_68 : decode cX6_readUnit 68 = .ok (.aload_n 0, 1) := by decide +kernel
theorem dX6_readUnit_69 : decode cX6_readUnit 69 = .ok (.getfield 25, 3) := by decide +kernel
theorem dX6_readUnit_72 : decode cX6_readUnit 72 = .ok (.invokevirtual 73, 3) := by decide +kernel
theorem dX6_readUnit_75 : decode cX6_readUnit 75 = .ok (.iconst 1, 1) := by decide +kernel
theorem dX6_readUnit_76 : decode cX6_readUnit 76 = .ok (.ireturn, 1) := by decide +kernel
theorem dX6_isName_0 : decode cX6_isName 0 = .ok (.aload_n 0, 1) := by decide +kernel
theorem dX6_isName_1 : decode cX6_isName 1 = .ok (.getfield 32, 3) := by decide +kernel
theorem dX6_isName_4 : decode cX6_isName 4 = .ok (.ifCond .eq 23, 3) := by decide +kernel
theorem dX6_isName_7 : decode cX6_isName 7 = .ok (.iload_n 1, 1) := by decide +kernel
theorem dX6_isName_8 : decode cX6_isName 8 = .ok (.sipush 262, 3) := by decide +kernel
theorem dX6_isName_11 : decode cX6_isName 11 = .ok (.if_icmp .lt 14, 3) := by decide +kernel
theorem dX6_isName_14 : decode cX6_isName 14 = .ok (.iload_n 1, 1) := by decide +kernel
theorem dX6_isName_15 : decode cX6_isName 15 = .ok (.sipush 270, 3) := by decide +kernel
theorem dX6_isName_18 : decode cX6_isName 18 = .ok (.if_icmp .gt 7, 3) := by decide +kernel
theorem dX6_isName_21 : decode cX6_isName 21 = .ok (.iconst 1, 1) := by decide +kernel
theorem dX6_isName_22 : decode cX6_isName 22 = .ok (.goto 4, 3) := by decide +kernel
theorem dX6_isName_25 : decode cX6_isName 25 = .ok (.iconst 0, 1) := by decide +kernel
theorem dX6_isName_26 : decode cX6_isName 26 = .ok (.ireturn, 1) := by decide +kernel
theorem dX6_isName_27 : decode cX6_isName 27 = .ok (.iload_n 1, 1) := by decide +kernel
theorem dX6_isName_28 : decode cX6_isName 28 = .ok (.sipush 262, 3) := by decide +kernel
theorem dX6_isName_31 : decode cX6_isName 31 = .ok (.if_icmp .le 28, 3) := by decide +kernel
theorem dX6_isName_34 : decode cX6_isName 34 = .ok (.iload_n 1, 1) := by decide +kernel
theorem dX6_isName_35 : decode cX6_isName 35 = .ok (.sipush 273, 3) := by decide +kernel
theorem dX6_isName_38 : decode cX6_isName 38 = .ok (.if_icmp .gt 21, 3) := by decide +kernel
theorem dX6_isName_41 : decode cX6_isName 41 = .ok (.iload_n 1, 1) := by decide +kernel
theorem dX6_isName_42 : decode cX6_isName 42 = .ok (.sipush 268, 3) := by decide +kernel
theorem dX6_isName_45 : decode cX6_isName 45 = .ok (.if_icmp .eq 14, 3) := by decide +kernel
theorem dX6_isName_48 : decode cX6_isName 48 = .ok (.iload_n 1, 1) := by decide +kernel
theorem dX6_isName_49 : decode cX6_isName 49 = .ok (.sipush 270, 3) := by decide +kernel
theorem dX6_isName_52 : decode cX6_isName 52 = .ok (.if_icmp .eq 7, 3) := by decide +kernel
theorem dX6_isName_55 : decode cX6_isName 55 = .ok (.iconst 1, 1) := by decide +kernel
theorem dX6_isName_56 : decode cX6_isName 56 = .ok (.goto 4, 3) := by decide +kernel
theorem dX6_isName_59 : decode cX6_isName 59 = .ok (.iconst 0, 1) := by decide +kernel
theorem dX6_isName_60 : decode cX6_isName 60 = .ok (.ireturn, 1) := by decide +kernel
theorem dX6_readOr_0 : decode cX6_readOr 0 = .ok (.aload_n 0, 1) := by decide +kernel
theorem dX6_readOr_1 : decode cX6_readOr 1 = .ok (.iload_n 1, 1) := by decide +kernel
theorem dX6_readOr_2 : decode cX6_readOr 2 = .ok (.invokevirtual 111, 3) := by decide +kernel
theorem dX6_readOr_5 : decode cX6_readOr 5 = .ok (.istore_n 2, 1) := by decide +kernel
theorem dX6_readOr_6 : decode cX6_readOr 6 = .ok (.iconst 0, 1) := by decide +kernel
theorem dX6_readOr_7 : decode cX6_readOr 7 = .ok (.istore_n 3, 1) := by decide +kernel
theorem dX6_readOr_8 : decode cX6_readOr 8 = .ok (.iload_n 3, 1) := by decide +kernel
theorem dX6_readOr_9 : decode cX6_readOr 9 = .ok (.sipush 500, 3) := by decide +kernel
theorem dX6_readOr_12 : decode cX6_readOr 12 = .ok (.if_icmp .ge 60, 3) := by decide +kernel
theorem dX6_readOr_15 : decode cX6_readOr 15 = .ok (.iload_n 2, 1) := by decide +kernel
theorem dX6_readOr_16 : decode cX6_readOr 16 = .ok (.ifCond .eq 56, 3) := by decide +kernel
theorem dX6_readOr_19 : decode cX6_readOr 19 = .ok (.aload_n 0, 1) := by decide +kernel
theorem dX6_readOr_20 : decode cX6_readOr 20 = .ok (.getfield 25, 3) := by decide +kernel
theorem dX6_readOr_23 : decode cX6_readOr 23 = .ok (.invokevirtual 39, 3) := by decide +kernel
theorem dX6_readOr_26 : decode cX6_readOr 26 = .ok (.sipush 260, 3) := by decide +kernel
theorem dX6_readOr_29 : decode cX6_readOr 29 = .ok (.if_icmp .ne 43, 3) := by decide +kernel
theorem dX6_readOr_32 : decode cX6_readOr 32 = .ok (.aload_n 0, 1) := by decide +kernel
theorem dX6_readOr_33 : decode cX6_readOr 33 = .ok (.getfield 25, 3) := by decide +kernel
theorem dX6_readOr_36 : decode cX6_readOr 36 = .ok (.invokevirtual 73, 3) := by decide +kernel
theorem dX6_readOr_39 : decode cX6_readOr 39 = .ok (.aload_n 0, 1) := by decide +kernel
theorem dX6_readOr_40 : decode cX6_readOr 40 = .ok (.iload_n 1, 1) := by decide +kernel
theorem dX6_readOr_41 : decode cX6_readOr 41 = .ok (.invokevirtual 111, 3) := by decide +kernel
theorem dX6_readOr_44 : decode cX6_readOr 44 = .ok (.ifCond .eq 20, 3) := by decide +kernel
theorem dX6_readOr_47 : decode cX6_readOr 47 = .ok (.aload_n 0, 1) := by decide +kernel
theorem dX6_readOr_48 : decode cX6_readOr 48 = .ok (.getfield 12, 3) := by decide +kernel
theorem dX6_readOr_51 : decode cX6_readOr 51 = .ok (.sipush (-260), 3) := by decide +kernel
theorem dX6_readOr_54 : decode cX6_readOr 54 = .ok (.invokevirtual 96, 3) := by decide +kernel
theorem dX6_readOr_57 : decode cX6_readOr 57 = .ok (.ifCond .eq 7, 3) := by decide +kernel
theorem dX6_readOr_60 : decode cX6_readOr 60 = .ok (.iconst 1, 1) := by decide +kernel
theorem dX6_readOr_61 : decode cX6_readOr 61 = .ok (.goto 4, 3) := by decide +kernel
theorem dX6_readOr_64 : decode cX6_readOr 64 = .ok (.iconst 0, 1) := by decide +kernel
theorem dX6_readOr_65 : decode cX6_readOr 65 = .ok (.istore_n 2, 1) := by decide +kernel
theorem dX6_readOr_66 : decode cX6_readOr 66 = .ok (.iinc 3 1, 3) := by decide +kernel
theorem dX6_readOr_69 : decode cX6_readOr 69 = .ok (.goto (-61), 3) := by decide +kernel
theorem dX6_readOr_72 : decode cX6_readOr 72 = .ok (.iload_n 2, 1) := by decide +kernel
theorem dX6_readOr_73 : decode cX6_readOr 73 = .ok (.ireturn, 1) := by decide +kernel
theorem dX6_readAnd_0 : decode cX6_readAnd 0 = .ok (.aload_n 0, 1) := by decide +kernel
theorem dX6_readAnd_1 : decode cX6_readAnd 1 = .ok (.iload_n 1, 1) := by decide +kernel
theorem dX6_readAnd_2 : decode cX6_readAnd 2 = .ok (.invokevirtual 114, 3) := by decide +kernel
theorem dX6_readAnd_5 : decode cX6_readAnd 5 = .ok (.istore_n 2, 1) := by decide +kernel
theorem dX6_readAnd_6 : decode cX6_readAnd 6 = .ok (.iconst 0, 1) := by decide +kernel
theorem dX6_readAnd_7 : decode cX6_readAnd 7 = .ok (.istore_n 3, 1) := by decide +kernel
theorem dX6_readAnd_8 : decode cX6_readAnd 8 = .ok (.iload_n 3, 1) := by decide +kernel
theorem dX6_readAnd_9 : decode cX6_readAnd 9 = .ok (.sipush 500, 3) := by decide +kernel
theorem dX6_readAnd_12 : decode cX6_readAnd 12 = .ok (.if_icmp .ge 60, 3) := by decide +kernel
theorem dX6_readAnd_15 : decode cX6_readAnd 15 = .ok (.iload_n 2, 1) := by decide +kernel
theorem dX6_readAnd_16 : decode cX6_readAnd 16 = .ok (.ifCond .eq 56, 3) := by decide +kernel
theorem dX6_readAnd_19 : decode cX6_readAnd 19 = .ok (.aload_n 0, 1) := by decide +kernel
theorem dX6_readAnd_20 : decode cX6_readAnd 20 = .ok (.getfield 25, 3) := by decide +kernel
theorem dX6_readAnd_23 : decode cX6_readAnd 23 = .ok (.invokevirtual 39, 3) := by decide +kernel
theorem dX6_readAnd_26 : decode cX6_readAnd 26 = .ok (.sipush 259, 3) := by decide +kernel
theorem dX6_readAnd_29 : decode cX6_readAnd 29 = .ok (.if_icmp .ne 43, 3) := by decide +kernel
theorem dX6_readAnd_32 : decode cX6_readAnd 32 = .ok (.aload_n 0, 1) := by decide +kernel
theorem dX6_readAnd_33 : decode cX6_readAnd 33 = .ok (.getfield 25, 3) := by decide +kernel
theorem dX6_readAnd_36 : decode cX6_readAnd 36 = .ok (.invokevirtual 73, 3) := by decide +kernel
theorem dX6_readAnd_39 : decode cX6_readAnd 39 = .ok (.aload_n 0, 1) := by decide +kernel
theorem dX6_readAnd_40 : decode cX6_readAnd 40 = .ok (.iload_n 1, 1) := by decide +kernel
theorem dX6_readAnd_41 : decode cX6_readAnd 41 = .ok (.invokevirtual 114, 3) := by decide +kernel
theorem dX6_readAnd_44 : decode cX6_readAnd 44 = .ok (.ifCond .eq 20, 3) := by decide +kernel
theorem dX6_readAnd_47 : decode cX6_readAnd 47 = .ok (.aload_n 0, 1) := by decide +kernel
theorem dX6_readAnd_48 : decode cX6_readAnd 48 = .ok (.getfield 12, 3) := by decide +kernel
theorem dX6_readAnd_51 : decode cX6_readAnd 51 = .ok (.sipush (-259), 3) := by decide +kernel
theorem dX6_readAnd_54 : decode cX6_readAnd 54 = .ok (.invokevirtual 96, 3) := by decide +kernel
theorem dX6_readAnd_57 : decode cX6_readAnd 57 = .ok (.ifCond .eq 7, 3) := by decide +kernel
theorem dX6_readAnd_60 : decode cX6_readAnd 60 = .ok (.iconst 1, 1) := by decide +kernel
theorem dX6_readAnd_61 : decode cX6_readAnd 61 = .ok (.goto 4, 3) := by decide +kernel
theorem dX6_readAnd_64 : decode cX6_readAnd 64 = .ok (.iconst 0, 1) := by decide +kernel
theorem dX6_readAnd_65 : decode cX6_readAnd 65 = .ok (.istore_n 2, 1) := by decide +kernel
theorem dX6_readAnd_66 : decode cX6_readAnd 66 = .ok (.iinc 3 1, 3) := by decide +kernel
theorem dX6_readAnd_69 : decode cX6_readAnd 69 = .ok (.goto (-61), 3) := by decide +kernel
theorem dX6_readAnd_72 : decode cX6_readAnd 72 = .ok (.iload_n 2, 1) := by decide +kernel
theorem dX6_readAnd_73 : decode cX6_readAnd 73 = .ok (.ireturn, 1) := by decide +kernel
theorem dX6_readClause_0 : decode cX6_readClause 0 = .ok (.aload_n 0, 1) := by decide +kernel
theorem dX6_readClause_1 : decode cX6_readClause 1 = .ok (.getfield 25, 3) := by decide +kernel
theorem dX6_readClause_4 : decode cX6_readClause 4 = .ok (.invokevirtual 39, 3) := by decide +kernel
theorem dX6_readClause_7 : decode cX6_readClause 7 = .ok (.istore_n 2, 1) := by decide +kernel
theorem dX6_readClause_8 : decode cX6_readClause 8 = .ok (.iload_n 2, 1) := by decide +kernel
theorem dX6_readClause_9 : decode cX6_readClause 9 = .ok (.sipush 261, 3) := by decide +kernel
theorem dX6_readClause_12 : decode cX6_readClause 12 = .ok (.if_icmp .eq 9, 3) := by decide +kernel
theorem dX6_readClause_15 : decode cX6_readClause 15 = .ok (.iload_n 2, 1) := by decide +kernel
theorem dX6_readClause_16 : decode cX6_readClause 16 = .ok (.bipush 40, 2) := by decide +kernel
theorem dX6_readClause_18 : decode cX6_readClause 18 = .ok (.if_icmp .ne 7, 3) := by decide +kernel
theorem dX6_readClause_21 : decode cX6_readClause 21 = .ok (.iconst 1, 1) := by decide +kernel
theorem dX6_readClause_22 : decode cX6_readClause 22 = .ok (.goto 4, 3) := by decide +kernel
theorem dX6_readClause_25 : decode cX6_readClause 25 = .ok (.iconst 0, 1) := by decide +kernel
theorem dX6_readClause_26 : decode cX6_readClause 26 = .ok (.istore_n 3, 1) := by decide +kernel
theorem dX6_readClause_27 : decode cX6_readClause 27 = .ok (.iload_n 3, 1) := by decide +kernel
theorem dX6_readClause_28 : decode cX6_readClause 28 = .ok (.ifCond .eq 15, 3) := by decide +kernel
theorem dX6_readClause_31 : decode cX6_readClause 31 = .ok (.iload_n 1, 1) := by decide +kernel
theorem dX6_readClause_32 : decode cX6_readClause 32 = .ok (.bipush 8, 2) := by decide +kernel
theorem dX6_readClause_34 : decode cX6_readClause 34 = .ok (.if_icmp .lt 9, 3) := by decide +kernel
theorem dX6_readClause_37 : decode cX6_readClause 37 = .ok (.aload_n 0, 1) := by decide +kernel
theorem dX6_readClause_38 : decode cX6_readClause 38 = .ok (.iconst 3, 1) := by decide +kernel
theorem dX6_readClause_39 : decode cX6_readClause 39 = .ok (.invokevirtual 70, 3) := by decide +kernel
theorem dX6_readClause_42 : decode cX6_readClause 42 = .ok (.ireturn, 1) := by decide +kernel
theorem dX6_readClause_43 : decode cX6_readClause 43 = .ok (.iload_n 3, 1) := by decide +kernel
theorem dX6_readClause_44 : decode cX6_readClause 44 = .ok (.ifCond .eq 72, 3) := by decide +kernel
theorem dX6_readClause_47 : decode cX6_readClause 47 = .ok (.aload_n 0, 1) := by decide +kernel
theorem dX6_readClause_48 : decode cX6_readClause 48 = .ok (.getfield 25, 3) := by decide +kernel
theorem dX6_readClause_51 : decode cX6_readClause 51 = .ok (.invokevirtual 73, 3) := by decide +kernel
theorem dX6_readClause_54 : decode cX6_readClause 54 = .ok (.iload_n 2, 1) := by decide +kernel
theorem dX6_readClause_55 : decode cX6_readClause 55 = .ok (.bipush 40, 2) := by decide +kernel
theorem dX6_readClause_57 : decode cX6_readClause 57 = .ok (.if_icmp .ne 30, 3) := by decide +kernel
theorem dX6_readClause_60 : decode cX6_readClause 60 = .ok (.aload_n 0, 1) := by decide +kernel
theorem dX6_readClause_61 : decode cX6_readClause 61 = .ok (.iload_n 1, 1) := by decide +kernel
theorem dX6_readClause_62 : decode cX6_readClause 62 = .ok (.iconst 1, 1) := by decide +kernel
theorem dX6_readClause_63 : decode cX6_readClause 63 = .ok (.iadd, 1) := by decide +kernel
theorem dX6_readClause_64 : decode cX6_readClause 64 = .ok (.invokevirtual 84, 3) := by decide +kernel
theorem dX6_readClause_67 : decode cX6_readClause 67 = .ok (.ifCond .eq 16, 3) := by decide +kernel
theorem dX6_readClause_70 : decode cX6_readClause 70 = .ok (.aload_n 0, 1) := by decide +kernel
theorem dX6_readClause_71 : decode cX6_readClause 71 = .ok (.bipush 41, 2) := by decide +kernel
theorem dX6_readClause_73 : decode cX6_readClause 73 = .ok (.invokevirtual 90, 3) := by decide +kernel
theorem dX6_readClause_76 : decode cX6_readClause 76 = .ok (.ifCond .eq 7, 3) := by decide +kernel
theorem dX6_readClause_79 : decode cX6_readClause 79 = .ok (.iconst 1, 1) := by decide +kernel
theorem dX6_readClause_80 : decode cX6_readClause 80 = .ok (.goto 35, 3) := by decide +kernel
theorem dX6_readClause_83 : decode cX6_readClause 83 = .ok (.iconst 0, 1) := by decide +kernel
theorem dX6_readClause_84 : decode cX6_readClause 84 = .ok (.goto 31, 3) := by decide +kernel
theorem dX6_readClause_87 : decode cX6_readClause 87 = .ok (.aload_n 0, 1) := by decide +kernel
theorem dX6_readClause_88 : decode cX6_readClause 88 = .ok (.iload_n 1, 1) := by decide +kernel
theorem dX6_readClause_89 : decode cX6_readClause 89 = .ok (.iconst 1, 1) := by decide +kernel
theorem dX6_readClause_90 : decode cX6_readClause 90 = .ok (.iadd, 1) := by decide +kernel
theorem dX6_readClause_91 : decode cX6_readClause 91 = .ok (.invokevirtual 114, 3) := by decide +kernel
theorem dX6_readClause_94 : decode cX6_readClause 94 = .ok (.ifCond .eq 20, 3) := by decide +kernel
theorem dX6_readClause_97 : decode cX6_readClause 97 = .ok (.aload_n 0, 1) := by decide +kernel
theorem dX6_readClause_98 : decode cX6_readClause 98 = .ok (.getfield 12, 3) := by decide +kernel
theorem dX6_readClause_101 : decode cX6_readClause 101 = .ok (.sipush (-261), 3) := by decide +kernel
theorem dX6_readClause_104 : decode cX6_readClause 104 = .ok (.invokevirtual 96, 3) := by decide +kernel
theorem dX6_readClause_107 : decode cX6_readClause 107 = .ok (.ifCond .eq 7, 3) := by decide +kernel
theorem dX6_readClause_110 : decode cX6_readClause 110 = .ok (.iconst 1, 1) := by decide +kernel
theorem dX6_readClause_111 : decode cX6_readClause 111 = .ok (.goto 4, 3) := by decide +kernel
theorem dX6_readClause_114 : decode cX6_readClause 114 = .ok (.iconst 0, 1) := by decide +kernel
theorem dX6_readClause_115 : decode cX6_readClause 115 = .ok (.ireturn, 1) := by decide +kernel
theorem dX6_readClause_116 : decode cX6_readClause 116 = .ok (.aload_n 0, 1) := by decide +kernel
theorem dX6_readClause_117 : decode cX6_readClause 117 = .ok (.invokevirtual 76, 3) := by decide +kernel
theorem dX6_readClause_120 : decode cX6_readClause 120 = .ok (.ifCond .ne 5, 3) := by decide +kernel
theorem dX6_readClause_123 : decode cX6_readClause 123 = .ok (.iconst 0, 1) := by decide +kernel
theorem dX6_readClause_124 : decode cX6_readClause 124 = .ok (.ireturn, 1) := by decide +kernel
theorem dX6_readClause_125 : decode cX6_readClause 125 = .ok (.aload_n 0, 1) := by decide +kernel
theorem dX6_readClause_126 : decode cX6_readClause 126 = .ok (.getfield 25, 3) := by decide +kernel
theorem dX6_readClause_129 : decode cX6_readClause 129 = .ok (.invokevirtual 39, 3) := by decide +kernel
theorem dX6_readClause_132 : decode cX6_readClause 132 = .ok (.istore 4, 2) := by decide +kernel
theorem dX6_readClause_134 : decode cX6_readClause 134 = .ok (.iload 4, 2) := by decide +kernel
theorem dX6_readClause_136 : decode cX6_readClause 136 = .ok (.bipush 60, 2) := by decide +kernel
theorem dX6_readClause_138 : decode cX6_readClause 138 = .ok (.if_icmp .eq 23, 3) := by decide +kernel
theorem dX6_readClause_141 : decode cX6_readClause 141 = .ok (.iload 4, 2) := by decide +kernel
theorem dX6_readClause_143 : decode cX6_readClause 143 = .ok (.bipush 61, 2) := by decide +kernel
theorem dX6_readClause_145 : decode cX6_readClause 145 = .ok (.if_icmp .eq 16, 3) := by decide +kernel
theorem dX6_readClause_148 : decode cX6_readClause 148 = .ok (.iload 4, 2) := by decide +kernel
theorem dX6_readClause_150 : decode cX6_readClause 150 = .ok (.bipush 62, 2) := by decide +kernel
theorem dX6_readClause_152 : decode cX6_readClause 152 = .ok (.if_icmp .eq 9, 3) := by decide +kernel
theorem dX6_readClause_155 : decode cX6_readClause 155 = .ok (.aload_n 0, 1) := by decide +kernel
theorem dX6_readClause_156 : decode cX6_readClause 156 = .ok (.iconst 1, 1) := by decide +kernel
theorem dX6_readClause_157 : decode cX6_readClause 157 = .ok (.invokevirtual 70, 3) := by decide +kernel
theorem dX6_readClause_160 : decode cX6_readClause 160 = .ok (.ireturn, 1) := by decide +kernel
theorem dX6_readClause_161 : decode cX6_readClause 161 = .ok (.aload_n 0, 1) := by decide +kernel
theorem dX6_readClause_162 : decode cX6_readClause 162 = .ok (.getfield 25, 3) := by decide +kernel
theorem dX6_readClause_165 : decode cX6_readClause 165 = .ok (.invokevirtual 73, 3) := by decide +kernel
theorem dX6_readClause_168 : decode cX6_readClause 168 = .ok (.aload_n 0, 1) := by decide +kernel
theorem dX6_readClause_169 : decode cX6_readClause 169 = .ok (.invokevirtual 76, 3) := by decide +kernel
theorem dX6_readClause_172 : decode cX6_readClause 172 = .ok (.ifCond .eq 20, 3) := by decide +kernel
theorem dX6_readClause_175 : decode cX6_readClause 175 = .ok (.aload_n 0, 1) := by decide +kernel
theorem dX6_readClause_176 : decode cX6_readClause 176 = .ok (.getfield 12, 3) := by decide +kernel
theorem dX6_readClause_179 : decode cX6_readClause 179 = .ok (.iload 4, 2) := by decide +kernel
theorem dX6_readClause_181 : decode cX6_readClause 181 = .ok (.ineg, 1) := by decide +kernel
theorem dX6_readClause_182 : decode cX6_readClause 182 = .ok (.invokevirtual 96, 3) := by decide +kernel
theorem dX6_readClause_185 : decode cX6_readClause 185 = .ok (.ifCond .eq 7, 3) := by decide +kernel
theorem dX6_readClause_188 : decode cX6_readClause 188 = .ok (.iconst 1, 1) := by decide +kernel
theorem dX6_readClause_189 : decode cX6_readClause 189 = .ok (.goto 4, 3) := by decide +kernel
theorem dX6_readClause_192 : decode cX6_readClause 192 = .ok (.iconst 0, 1) := by decide +kernel
theorem dX6_readClause_193 : decode cX6_readClause 193 = .ok (.ireturn, 1) := by decide +kernel
theorem dX6_readBreak_0 : decode cX6_readBreak 0 = .ok (.aload_n 0, 1) := by decide +kernel
theorem dX6_readBreak_1 : decode cX6_readBreak 1 = .ok (.getfield 25, 3) := by decide +kernel
theorem dX6_readBreak_4 : decode cX6_readBreak 4 = .ok (.invokevirtual 39, 3) := by decide +kernel
theorem dX6_readBreak_7 : decode cX6_readBreak 7 = .ok (.istore_n 2, 1) := by decide +kernel
theorem dX6_readBreak_8 : decode cX6_readBreak 8 = .ok (.iload_n 2, 1) := by decide +kernel
theorem dX6_readBreak_9 : decode cX6_readBreak 9 = .ok (.sipush 274, 3) := by decide +kernel
theorem dX6_readBreak_12 : decode cX6_readBreak 12 = .ok (.if_icmp .eq 23, 3) := by decide +kernel
theorem dX6_readBreak_15 : decode cX6_readBreak 15 = .ok (.iload_n 2, 1) := by decide +kernel
theorem dX6_readBreak_16 : decode cX6_readBreak 16 = .ok (.sipush 275, 3) := by decide +kernel
theorem dX6_readBreak_19 : decode cX6_readBreak 19 = .ok (.if_icmp .eq 16, 3) := by decide +kernel
theorem dX6_readBreak_22 : decode cX6_readBreak 22 = .ok (.iload_n 2, 1) := by decide +kernel
theorem dX6_readBreak_23 : decode cX6_readBreak 23 = .ok (.sipush 277, 3) := by decide +kernel
theorem dX6_readBreak_26 : decode cX6_readBreak 26 = .ok (.if_icmp .eq 9, 3) := by decide +kernel
theorem dX6_readBreak_29 : decode cX6_readBreak 29 = .ok (.aload_n 0, 1) := by decide +kernel
theorem dX6_readBreak_30 : decode cX6_readBreak 30 = .ok (.iconst 1, 1) := by decide +kernel
theorem dX6_readBreak_31 : decode cX6_readBreak 31 = .ok (.invokevirtual 70, 3) := by decide +kernel
theorem dX6_readBreak_34 : decode cX6_readBreak 34 = .ok (.ireturn, 1) := by decide +kernel
theorem dX6_readBreak_35 : decode cX6_readBreak 35 = .ok (.iload_n 1, 1) := by decide +kernel
theorem dX6_readBreak_36 : decode cX6_readBreak 36 = .ok (.bipush 8, 2) := by decide +kernel
theorem dX6_readBreak_38 : decode cX6_readBreak 38 = .ok (.if_icmp .lt 9, 3) := by decide +kernel
theorem dX6_readBreak_41 : decode cX6_readBreak 41 = .ok (.aload_n 0, 1) := by decide +kernel
theorem dX6_readBreak_42 : decode cX6_readBreak 42 = .ok (.iconst 3, 1) := by decide +kernel
theorem dX6_readBreak_43 : decode cX6_readBreak 43 = .ok (.invokevirtual 70, 3) := by decide +kernel
theorem dX6_readBreak_46 : decode cX6_readBreak 46 = .ok (.ireturn, 1) := by decide +kernel
theorem dX6_readBreak_47 : decode cX6_readBreak 47 = .ok (.aload_n 0, 1) := by decide +kernel
theorem dX6_readBreak_48 : decode cX6_readBreak 48 = .ok (.getfield 25, 3) := by decide +kernel
theorem dX6_readBreak_51 : decode cX6_readBreak 51 = .ok (.invokevirtual 73, 3) := by decide +kernel
theorem dX6_readBreak_54 : decode cX6_readBreak 54 = .ok (.iload_n 2, 1) := by decide +kernel
theorem dX6_readBreak_55 : decode cX6_readBreak 55 = .ok (.sipush 277, 3) := by decide +kernel
theorem dX6_readBreak_58 : decode cX6_readBreak 58 = .ok (.if_icmp .ne 25, 3) := by decide +kernel
theorem dX6_readBreak_61 : decode cX6_readBreak 61 = .ok (.aload_n 0, 1) := by decide +kernel
theorem dX6_readBreak_62 : decode cX6_readBreak 62 = .ok (.invokevirtual 117, 3) := by decide +kernel
theorem dX6_readBreak_65 : decode cX6_readBreak 65 = .ok (.ifCond .eq 16, 3) := by decide +kernel
theorem dX6_readBreak_68 : decode cX6_readBreak 68 = .ok (.aload_n 0, 1) := by decide +kernel
theorem dX6_readBreak_69 : decode cX6_readBreak 69 = .ok (.bipush 59, 2) := by decide +kernel
theorem dX6_readBreak_71 : decode cX6_readBreak 71 = .ok (.invokevirtual 90, 3) := by decide +kernel
theorem dX6_readBreak_74 : decode cX6_readBreak 74 = .ok (.ifCond .eq 7, 3) := by decide +kernel
theorem dX6_readBreak_77 : decode cX6_readBreak 77 = .ok (.iconst 1, 1) := by decide +kernel
theorem dX6_readBreak_78 : decode cX6_readBreak 78 = .ok (.goto 4, 3) := by decide +kernel
theorem dX6_readBreak_81 : decode cX6_readBreak 81 = .ok (.iconst 0, 1) := by decide +kernel
theorem dX6_readBreak_82 : decode cX6_readBreak 82 = .ok (.ireturn, 1) := by decide +kernel
theorem dX6_readBreak_83 : decode cX6_readBreak 83 = .ok (.iload_n 2, 1) := by decide +kernel
theorem dX6_readBreak_84 : decode cX6_readBreak 84 = .ok (.sipush 274, 3) := by decide +kernel
theorem dX6_readBreak_87 : decode cX6_readBreak 87 = .ok (.if_icmp .ne 13, 3) := by decide +kernel
theorem dX6_readBreak_90 : decode cX6_readBreak 90 = .ok (.aload_n 0, 1) := by decide +kernel
theorem dX6_readBreak_91 : decode cX6_readBreak 91 = .ok (.invokevirtual 120, 3) := by decide +kernel
theorem dX6_readBreak_94 : decode cX6_readBreak 94 = .ok (.ifCond .eq 26, 3) := by decide +kernel
theorem dX6_readBreak_97 : decode cX6_readBreak 97 = .ok (.goto 10, 3) := by decide +kernel
theorem dX6_readBreak_100 : decode cX6_readBreak 100 = .ok (.aload_n 0, 1) := by decide +kernel
theorem dX6_readBreak_101 : decode cX6_readBreak 101 = .ok (.invokevirtual 123, 3) := by decide +kernel
theorem dX6_readBreak_104 : decode cX6_readBreak 104 = .ok (.ifCond .eq 16, 3) := by decide +kernel
theorem dX6_readBreak_107 : decode cX6_readBreak 107 = .ok (.aload_n 0, 1) := by decide +kernel
theorem dX6_readBreak_108 : decode cX6_readBreak 108 = .ok (.bipush 59, 2) := by decide +kernel
theorem dX6_readBreak_110 : decode cX6_readBreak 110 = .ok (.invokevirtual 90, 3) := by decide +kernel
theorem dX6_readBreak_113 : decode cX6_readBreak 113 = .ok (.ifCond .eq 7, 3) := by decide +kernel
theorem dX6_readBreak_116 : decode cX6_readBreak 116 = .ok (.iconst 1, 1) := by decide +kernel
theorem dX6_readBreak_117 : decode cX6_readBreak 117 = .ok (.goto 4, 3) := by decide +kernel
theorem dX6_readBreak_120 : decode cX6_readBreak 120 = .ok (.iconst 0, 1) := by decide +kernel
theorem dX6_readBreak_121 : decode cX6_readBreak 121 = .ok (.ireturn, 1) := by decide +kernel
theorem dX6_readSide_0 : decode cX6_readSide 0 = .ok (.aload_n 0, 1) := by decide +kernel
theorem dX6_readSide_1 : decode cX6_readSide 1 = .ok (.getfield 25, 3) := by decide +kernel
theorem dX6_readSide_4 : decode cX6_readSide 4 = .ok (.invokevirtual 105, 3) := by decide +kernel
theorem dX6_readSide_7 : decode cX6_readSide 7 = .ok (.istore_n 1, 1) := by decide +kernel
theorem dX6_readSide_8 : decode cX6_readSide 8 = .ok (.aload_n 0, 1) := by decide +kernel
theorem dX6_readSide_9 : decode cX6_readSide 9 = .ok (.iconst 1, 1) := by decide +kernel
theorem dX6_readSide_10 : decode cX6_readSide 10 = .ok (.invokevirtual 126, 3) := by decide +kernel
theorem dX6_readSide_13 : decode cX6_readSide 13 = .ok (.ifCond .ne 5, 3) := by decide +kernel
theorem dX6_readSide_16 : decode cX6_readSide 16 = .ok (.iconst 0, 1) := by decide +kernel
theorem dX6_readSide_17 : decode cX6_readSide 17 = .ok (.ireturn, 1) := by decide +kernel
theorem dX6_readSide_18 : decode cX6_readSide 18 = .ok (.aload_n 0, 1) := by decide +kernel
theorem dX6_readSide_19 : decode cX6_readSide 19 = .ok (.getfield 21, 3) := by decide +kernel
theorem dX6_readSide_22 : decode cX6_readSide 22 = .ok (.iload_n 1, 1) := by decide +kernel
theorem dX6_readSide_23 : decode cX6_readSide 23 = .ok (.iload_n 1, 1) := by decide +kernel
theorem dX6_readSide_24 : decode cX6_readSide 24 = .ok (.invokevirtual 129, 3) := by decide +kernel
theorem dX6_readSide_27 : decode cX6_readSide 27 = .ok (.iconst 1, 1) := by decide +kernel
theorem dX6_readSide_28 : decode cX6_readSide 28 = .ok (.ireturn, 1) := by decide +kernel
theorem dX6_readAny_0 : decode cX6_readAny 0 = .ok (.aload_n 0, 1) := by decide +kernel
theorem dX6_readAny_1 : decode cX6_readAny 1 = .ok (.getfield 25, 3) := by decide +kernel
theorem dX6_readAny_4 : decode cX6_readAny 4 = .ok (.invokevirtual 105, 3) := by decide +kernel
theorem dX6_readAny_7 : decode cX6_readAny 7 = .ok (.istore_n 1, 1) := by decide +kernel
theorem dX6_readAny_8 : decode cX6_readAny 8 = .ok (.aload_n 0, 1) := by decide +kernel
theorem dX6_readAny_9 : decode cX6_readAny 9 = .ok (.iconst 1, 1) := by decide +kernel
theorem dX6_readAny_10 : decode cX6_readAny 10 = .ok (.invokevirtual 126, 3) := by decide +kernel
theorem dX6_readAny_13 : decode cX6_readAny 13 = .ok (.ifCond .eq 13, 3) := by decide +kernel
theorem dX6_readAny_16 : decode cX6_readAny 16 = .ok (.aload_n 0, 1) := by decide +kernel
theorem dX6_readAny_17 : decode cX6_readAny 17 = .ok (.sipush 276, 3) := by decide +kernel
theorem dX6_readAny_20 : decode cX6_readAny 20 = .ok (.invokevirtual 90, 3) := by decide +kernel
theorem dX6_readAny_23 : decode cX6_readAny 23 = .ok (.ifCond .ne 5, 3) := by decide +kernel
theorem dX6_readAny_26 : decode cX6_readAny 26 = .ok (.iconst 0, 1) := by decide +kernel
theorem dX6_readAny_27 : decode cX6_readAny 27 = .ok (.ireturn, 1) := by decide +kernel
theorem dX6_readAny_28 : decode cX6_readAny 28 = .ok (.aload_n 0, 1) := by decide +kernel
theorem dX6_readAny_29 : decode cX6_readAny 29 = .ok (.getfield 25, 3) := by decide +kernel
theorem dX6_readAny_32 : decode cX6_readAny 32 = .ok (.invokevirtual 105, 3) := by decide +kernel
theorem dX6_readAny_35 : decode cX6_readAny 35 = .ok (.istore_n 2, 1) := by decide +kernel
theorem dX6_readAny_36 : decode cX6_readAny 36 = .ok (.aload_n 0, 1) := by decide +kernel
theorem dX6_readAny_37 : decode cX6_readAny 37 = .ok (.iload_n 1, 1) := by decide +kernel
theorem dX6_readAny_38 : decode cX6_readAny 38 = .ok (.invokevirtual 126, 3) := by decide +kernel
theorem dX6_readAny_41 : decode cX6_readAny 41 = .ok (.ifCond .ne 5, 3) := by decide +kernel
theorem dX6_readAny_44 : decode cX6_readAny 44 = .ok (.iconst 0, 1) := by decide +kernel
theorem dX6_readAny_45 : decode cX6_readAny 45 = .ok (.ireturn, 1) := by decide +kernel
theorem dX6_readAny_46 : decode cX6_readAny 46 = .ok (.aload_n 0, 1) := by decide +kernel
theorem dX6_readAny_47 : decode cX6_readAny 47 = .ok (.getfield 21, 3) := by decide +kernel
theorem dX6_readAny_50 : decode cX6_readAny 50 = .ok (.iload_n 1, 1) := by decide +kernel
theorem dX6_readAny_51 : decode cX6_readAny 51 = .ok (.iload_n 2, 1) := by decide +kernel
theorem dX6_readAny_52 : decode cX6_readAny 52 = .ok (.invokevirtual 129, 3) := by decide +kernel
theorem dX6_readAny_55 : decode cX6_readAny 55 = .ok (.iconst 1, 1) := by decide +kernel
theorem dX6_readAny_56 : decode cX6_readAny 56 = .ok (.ireturn, 1) := by decide +kernel
theorem dX6_passNumber_0 : decode cX6_passNumber 0 = .ok (.aload_n 0, 1) := by decide +kernel
theorem dX6_passNumber_1 : decode cX6_passNumber 1 = .ok (.getfield 25, 3) := by decide +kernel
theorem dX6_passNumber_4 : decode cX6_passNumber 4 = .ok (.invokevirtual 39, 3) := by decide +kernel
theorem dX6_passNumber_7 : decode cX6_passNumber 7 = .ok (.iconst 1, 1) := by decide +kernel
theorem dX6_passNumber_8 : decode cX6_passNumber 8 = .ok (.if_icmp .eq 9, 3) := by decide +kernel
theorem dX6_passNumber_11 : decode cX6_passNumber 11 = .ok (.aload_n 0, 1) := by decide +kernel
theorem dX6_passNumber_12 : decode cX6_passNumber 12 = .ok (.iconst 1, 1) := by decide +kernel
theorem dX6_passNumber_13 : decode cX6_passNumber 13 = .ok (.invokevirtual 70, 3) := by decide +kernel
theorem dX6_passNumber_16 : decode cX6_passNumber 16 = .ok (.ireturn, 1) := by decide +kernel
theorem dX6_passNumber_17 : decode cX6_passNumber 17 = .ok (.aload_n 0, 1) := by decide +kernel
theorem dX6_passNumber_18 : decode cX6_passNumber 18 = .ok (.getfield 25, 3) := by decide +kernel
theorem dX6_passNumber_21 : decode cX6_passNumber 21 = .ok (.invokevirtual 105, 3) := by decide +kernel
theorem dX6_passNumber_24 : decode cX6_passNumber 24 = .ok (.iload_n 1, 1) := by decide +kernel
theorem dX6_passNumber_25 : decode cX6_passNumber 25 = .ok (.if_icmp .lt 15, 3) := by decide +kernel
theorem dX6_passNumber_28 : decode cX6_passNumber 28 = .ok (.aload_n 0, 1) := by decide +kernel
theorem dX6_passNumber_29 : decode cX6_passNumber 29 = .ok (.getfield 25, 3) := by decide +kernel
theorem dX6_passNumber_32 : decode cX6_passNumber 32 = .ok (.invokevirtual 105, 3) := by decide +kernel
theorem dX6_passNumber_35 : decode cX6_passNumber 35 = .ok (.bipush 8, 2) := by decide +kernel
theorem dX6_passNumber_37 : decode cX6_passNumber 37 = .ok (.if_icmp .le 9, 3) := by decide +kernel
theorem dX6_passNumber_40 : decode cX6_passNumber 40 = .ok (.aload_n 0, 1) := by decide +kernel
theorem dX6_passNumber_41 : decode cX6_passNumber 41 = .ok (.iconst 2, 1) := by decide +kernel
theorem dX6_passNumber_42 : decode cX6_passNumber 42 = .ok (.invokevirtual 70, 3) := by decide +kernel
theorem dX6_passNumber_45 : decode cX6_passNumber 45 = .ok (.ireturn, 1) := by decide +kernel
theorem dX6_passNumber_46 : decode cX6_passNumber 46 = .ok (.aload_n 0, 1) := by decide +kernel
theorem dX6_passNumber_47 : decode cX6_passNumber 47 = .ok (.getfield 25, 3) := by decide +kernel
theorem dX6_passNumber_50 : decode cX6_passNumber 50 = .ok (.invokevirtual 73, 3) := by decide +kernel
theorem dX6_passNumber_53 : decode cX6_passNumber 53 = .ok (.iconst 1, 1) := by decide +kernel
theorem dX6_passNumber_54 : decode cX6_passNumber 54 = .ok (.ireturn, 1) := by decide +kernel
theorem dX6_readShape_0 : decode cX6_readShape 0 = .ok (.iconst 0, 1) := by decide +kernel
theorem dX6_readShape_1 : decode cX6_readShape 1 = .ok (.istore_n 1, 1) := by decide +kernel
theorem dX6_readShape_2 : decode cX6_readShape 2 = .ok (.iconst 0, 1) := by decide +kernel
theorem dX6_readShape_3 : decode cX6_readShape 3 = .ok (.istore_n 2, 1) := by decide +kernel
theorem dX6_readShape_4 : decode cX6_readShape 4 = .ok (.iconst 0, 1) := by decide +kernel
theorem dX6_readShape_5 : decode cX6_readShape 5 = .ok (.istore_n 3, 1) := by decide +kernel
theorem dX6_readShape_6 : decode cX6_readShape 6 = .ok (.iload_n 1, 1) := by decide +kernel
theorem dX6_readShape_7 : decode cX6_readShape 7 = .ok (.bipush 8, 2) := by decide +kernel
theorem dX6_readShape_9 : decode cX6_readShape 9 = .ok (.if_icmp .gt 87, 3) := by decide +kernel
theorem dX6_readShape_12 : decode cX6_readShape 12 = .ok (.aload_n 0, 1) := by decide +kernel
theorem dX6_readShape_13 : decode cX6_readShape 13 = .ok (.getfield 25, 3) := by decide +kernel
theorem dX6_readShape_16 : decode cX6_readShape 16 = .ok (.invokevirtual 39, 3) := by decide +kernel
theorem dX6_readShape_19 : decode cX6_readShape 19 = .ok (.invokestatic 133, 3) := by decide +kernel
theorem dX6_readShape_22 : decode cX6_readShape 22 = .ok (.ifCond .eq 74, 3) := by decide +kernel
theorem dX6_readShape_25 : decode cX6_readShape 25 = .ok (.iload_n 1, 1) := by decide +kernel
theorem dX6_readShape_26 : decode cX6_readShape 26 = .ok (.bipush 8, 2) := by decide +kernel
theorem dX6_readShape_28 : decode cX6_readShape 28 = .ok (.if_icmp .lt 9, 3) := by decide +kernel
theorem dX6_readShape_31 : decode cX6_readShape 31 = .ok (.aload_n 0, 1) := by decide +kernel
theorem dX6_readShape_32 : decode cX6_readShape 32 = .ok (.iconst 3, 1) := by decide +kernel
theorem dX6_readShape_33 : decode cX6_readShape 33 = .ok (.invokevirtual 70, 3) := by decide +kernel
theorem dX6_readShape_36 : decode cX6_readShape 36 = .ok (.ireturn, 1) := by decide +kernel
theorem dX6_readShape_37 : decode cX6_readShape 37 = .ok (.iload_n 2, 1) := by decide +kernel
theorem dX6_readShape_38 : decode cX6_readShape 38 = .ok (.iconst 1, 1) := by decide +kernel
theorem dX6_readShape_39 : decode cX6_readShape 39 = .ok (.ishl, 1) := by decide +kernel
theorem dX6_readShape_40 : decode cX6_readShape 40 = .ok (.aload_n 0, 1) := by decide +kernel
theorem dX6_readShape_41 : decode cX6_readShape 41 = .ok (.getfield 25, 3) := by decide +kernel
theorem dX6_readShape_44 : decode cX6_readShape 44 = .ok (.invokevirtual 39, 3) := by decide +kernel
theorem dX6_readShape_47 : decode cX6_readShape 47 = .ok (.sipush 279, 3) := by decide +kernel
theorem dX6_readShape_50 : decode cX6_readShape 50 = .ok (.if_icmp .ne 7, 3) := by decide +kernel
theorem dX6_readShape_53 : decode cX6_readShape 53 = .ok (.iconst 0, 1) := by decide +kernel
theorem dX6_readShape_54 : decode cX6_readShape 54 = .ok (.goto 4, 3) := by decide +kernel
theorem dX6_readShape_57 : decode cX6_readShape 57 = .ok (.iconst 1, 1) := by decide +kernel
theorem dX6_readShape_58 : decode cX6_readShape 58 = .ok (.ior, 1) := by decide +kernel
theorem dX6_readShape_59 : decode cX6_readShape 59 = .ok (.istore_n 2, 1) := by decide +kernel
theorem dX6_readShape_60 : decode cX6_readShape 60 = .ok (.iload_n 3, 1) := by decide +kernel
theorem dX6_readShape_61 : decode cX6_readShape 61 = .ok (.iconst 1, 1) := by decide +kernel
theorem dX6_readShape_62 : decode cX6_readShape 62 = .ok (.ishl, 1) := by decide +kernel
theorem dX6_readShape_63 : decode cX6_readShape 63 = .ok (.aload_n 0, 1) := by decide +kernel
theorem dX6_readShape_64 : decode cX6_readShape 64 = .ok (.getfield 25, 3) := by decide +kernel
theorem dX6_readShape_67 : decode cX6_readShape 67 = .ok (.invokevirtual 39, 3) := by decide +kernel
theorem dX6_readShape_70 : decode cX6_readShape 70 = .ok (.sipush 271, 3) := by decide +kernel
theorem dX6_readShape_73 : decode cX6_readShape 73 = .ok (.if_icmp .ne 7, 3) := by decide +kernel
theorem dX6_readShape_76 : decode cX6_readShape 76 = .ok (.iconst 1, 1) := by decide +kernel
theorem dX6_readShape_77 : decode cX6_readShape 77 = .ok (.goto 4, 3) := by decide +kernel
theorem dX6_readShape_80 : decode cX6_readShape 80 = .ok (.iconst 0, 1) := by decide +kernel
theorem dX6_readShape_81 : decode cX6_readShape 81 = .ok (.ior, 1) := by decide +kernel
theorem dX6_readShape_82 : decode cX6_readShape 82 = .ok (.istore_n 3, 1) := by decide +kernel
theorem dX6_readShape_83 : decode cX6_readShape 83 = .ok (.iinc 1 1, 3) := by decide +kernel
theorem dX6_readShape_86 : decode cX6_readShape 86 = .ok (.aload_n 0, 1) := by decide +kernel
theorem dX6_readShape_87 : decode cX6_readShape 87 = .ok (.getfield 25, 3) := by decide +kernel
theorem dX6_readShape_90 : decode cX6_readShape 90 = .ok (.invokevirtual 73, 3) := by decide +kernel
theorem dX6_readShape_93 : decode cX6_readShape 93 = .ok (.goto (-87), 3) := by decide +kernel
theorem dX6_readShape_96 : decode cX6_readShape 96 = .ok (.iload_n 1, 1) := by decide +kernel
theorem dX6_readShape_97 : decode cX6_readShape 97 = .ok (.ifCond .ne 9, 3) := by decide +kernel
theorem dX6_readShape_100 : decode cX6_readShape 100 = .ok (.aload_n 0, 1) := by decide +kernel
theorem dX6_readShape_101 : decode cX6_readShape 101 = .ok (.iconst 1, 1) := by decide +kernel
theorem dX6_readShape_102 : decode cX6_readShape 102 = .ok (.invokevirtual 70, 3) := by decide +kernel
theorem dX6_readShape_105 : decode cX6_readShape 105 = .ok (.ireturn, 1) := by decide +kernel
theorem dX6_readShape_106 : decode cX6_readShape 106 = .ok (.aload_n 0, 1) := by decide +kernel
theorem dX6_readShape_107 : decode cX6_readShape 107 = .ok (.getfield 21, 3) := by decide +kernel
theorem dX6_readShape_110 : decode cX6_readShape 110 = .ok (.iload_n 1, 1) := by decide +kernel
theorem dX6_readShape_111 : decode cX6_readShape 111 = .ok (.iload_n 2, 1) := by decide +kernel
theorem dX6_readShape_112 : decode cX6_readShape 112 = .ok (.iload_n 3, 1) := by decide +kernel
theorem dX6_readShape_113 : decode cX6_readShape 113 = .ok (.invokevirtual 136, 3) := by decide +kernel
theorem dX6_readShape_116 : decode cX6_readShape 116 = .ok (.iconst 1, 1) := by decide +kernel
theorem dX6_readShape_117 : decode cX6_readShape 117 = .ok (.ireturn, 1) := by decide +kernel
theorem dX6_isShapePart_0 : decode cX6_isShapePart 0 = .ok (.iload_n 0, 1) := by decide +kernel
theorem dX6_isShapePart_1 : decode cX6_isShapePart 1 = .ok (.sipush 271, 3) := by decide +kernel
theorem dX6_isShapePart_4 : decode cX6_isShapePart 4 = .ok (.if_icmp .eq 17, 3) := by decide +kernel
theorem dX6_isShapePart_7 : decode cX6_isShapePart 7 = .ok (.iload_n 0, 1) := by decide +kernel
theorem dX6_isShapePart_8 : decode cX6_isShapePart 8 = .ok (.sipush 278, 3) := by decide +kernel
theorem dX6_isShapePart_11 : decode cX6_isShapePart 11 = .ok (.if_icmp .eq 10, 3) := by decide +kernel
theorem dX6_isShapePart_14 : decode cX6_isShapePart 14 = .ok (.iload_n 0, 1) := by decide +kernel
theorem dX6_isShapePart_15 : decode cX6_isShapePart 15 = .ok (.sipush 279, 3) := by decide +kernel
theorem dX6_isShapePart_18 : decode cX6_isShapePart 18 = .ok (.if_icmp .ne 7, 3) := by decide +kernel
theorem dX6_isShapePart_21 : decode cX6_isShapePart 21 = .ok (.iconst 1, 1) := by decide +kernel
theorem dX6_isShapePart_22 : decode cX6_isShapePart 22 = .ok (.goto 4, 3) := by decide +kernel
theorem dX6_isShapePart_25 : decode cX6_isShapePart 25 = .ok (.iconst 0, 1) := by decide +kernel
theorem dX6_isShapePart_26 : decode cX6_isShapePart 26 = .ok (.ireturn, 1) := by decide +kernel
theorem dX7_init_0 : decode cX7_init 0 = .ok (.aload_n 0, 1) := by decide +kernel
theorem dX7_init_1 : decode cX7_init 1 = .ok (.invokespecial 3, 3) := by decide +kernel
theorem dX7_init_4 : decode cX7_init 4 = .ok (.aload_n 0, 1) := by decide +kernel
theorem dX7_init_5 : decode cX7_init 5 = .ok (.bipush 60, 2) := by decide +kernel
theorem dX7_init_7 : decode cX7_init 7 = .ok (.newarray .int, 2) := by decide +kernel
theorem dX7_init_9 : decode cX7_init 9 = .ok (.putfield 11, 3) := by decide +kernel
theorem dX7_init_12 : decode cX7_init 12 = .ok (.aload_n 0, 1) := by decide +kernel
theorem dX7_init_13 : decode cX7_init 13 = .ok (.bipush 60, 2) := by decide +kernel
theorem dX7_init_15 : decode cX7_init 15 = .ok (.newarray .int, 2) := by decide +kernel
theorem dX7_init_17 : decode cX7_init 17 = .ok (.putfield 15, 3) := by decide +kernel
theorem dX7_init_20 : decode cX7_init 20 = .ok (.aload_n 0, 1) := by decide +kernel
theorem dX7_init_21 : decode cX7_init 21 = .ok (.bipush 60, 2) := by decide +kernel
theorem dX7_init_23 : decode cX7_init 23 = .ok (.newarray .int, 2) := by decide +kernel
theorem dX7_init_25 : decode cX7_init 25 = .ok (.putfield 18, 3) := by decide +kernel
theorem dX7_init_28 : decode cX7_init 28 = .ok (.aload_n 0, 1) := by decide +kernel
theorem dX7_init_29 : decode cX7_init 29 = .ok (.bipush 60, 2) := by decide +kernel
theorem dX7_init_31 : decode cX7_init 31 = .ok (.newarray .int, 2) := by decide +kernel
theorem dX7_init_33 : decode cX7_init 33 = .ok (.putfield 21, 3) := by decide +kernel
theorem dX7_init_36 : decode cX7_init 36 = .ok (.aload_n 0, 1) := by decide +kernel
theorem dX7_init_37 : decode cX7_init 37 = .ok (.bipush 6, 2) := by decide +kernel
theorem dX7_init_39 : decode cX7_init 39 = .ok (.newarray .int, 2) := by decide +kernel
theorem dX7_init_41 : decode cX7_init 41 = .ok (.dup, 1) := by decide +kernel
theorem dX7_init_42 : decode cX7_init 42 = .ok (.iconst 0, 1) := by decide +kernel
theorem dX7_init_43 : decode cX7_init 43 = .ok (.bipush 10, 2) := by decide +kernel
theorem dX7_init_45 : decode cX7_init 45 = .ok (.iastore, 1) := by decide +kernel
theorem dX7_init_46 : decode cX7_init 46 = .ok (.dup, 1) := by decide +kernel
theorem dX7_init_47 : decode cX7_init 47 = .ok (.iconst 1, 1) := by decide +kernel
theorem dX7_init_48 : decode cX7_init 48 = .ok (.bipush 10, 2) := by decide +kernel
theorem dX7_init_50 : decode cX7_init 50 = .ok (.iastore, 1) := by decide +kernel
theorem dX7_init_51 : decode cX7_init 51 = .ok (.dup, 1) := by decide +kernel
theorem dX7_init_52 : decode cX7_init 52 = .ok (.iconst 2, 1) := by decide +kernel
theorem dX7_init_53 : decode cX7_init 53 = .ok (.bipush 10, 2) := by decide +kernel
theorem dX7_init_55 : decode cX7_init 55 = .ok (.iastore, 1) := by decide +kernel
theorem dX7_init_56 : decode cX7_init 56 = .ok (.dup, 1) := by decide +kernel
theorem dX7_init_57 : decode cX7_init 57 = .ok (.iconst 3, 1) := by decide +kernel
theorem dX7_init_58 : decode cX7_init 58 = .ok (.bipush 10, 2) := by decide +kernel
theorem dX7_init_60 : decode cX7_init 60 = .ok (.iastore, 1) := by decide +kernel
theorem dX7_init_61 : decode cX7_init 61 = .ok (.dup, 1) := by decide +kernel
theorem dX7_init_62 : decode cX7_init 62 = .ok (.iconst 4, 1) := by decide +kernel
theorem dX7_init_63 : decode cX7_init 63 = .ok (.bipush 10, 2) := by decide +kernel
theorem dX7_init_65 : decode cX7_init 65 = .ok (.iastore, 1) := by decide +kernel
theorem dX7_init_66 : decode cX7_init 66 = .ok (.dup, 1) := by decide +kernel
theorem dX7_init_67 : decode cX7_init 67 = .ok (.iconst 5, 1) := by decide +kernel
theorem dX7_init_68 : decode cX7_init 68 = .ok (.bipush 10, 2) := by decide +kernel
theorem dX7_init_70 : decode cX7_init 70 = .ok (.iastore, 1) := by decide +kernel
theorem dX7_init_71 : decode cX7_init 71 = .ok (.putfield 24, 3) := by decide +kernel
theorem dX7_init_74 : decode cX7_init 74 = .ok (.aload_n 0, 1) := by decide +kernel
theorem dX7_init_75 : decode cX7_init 75 = .ok (.bipush 6, 2) := by decide +kernel
theorem dX7_init_77 : decode cX7_init 77 = .ok (.newarray .int, 2) := by decide +kernel
theorem dX7_init_79 : decode cX7_init 79 = .ok (.dup, 1) := by decide +kernel
theorem dX7_init_80 : decode cX7_init 80 = .ok (.iconst 0, 1) := by decide +kernel
theorem dX7_init_81 : decode cX7_init 81 = .ok (.iconst 1, 1) := by decide +kernel
theorem dX7_init_82 : decode cX7_init 82 = .ok (.iastore, 1) := by decide +kernel
theorem dX7_init_83 : decode cX7_init 83 = .ok (.dup, 1) := by decide +kernel
theorem dX7_init_84 : decode cX7_init 84 = .ok (.iconst 1, 1) := by decide +kernel
theorem dX7_init_85 : decode cX7_init 85 = .ok (.iconst 1, 1) := by decide +kernel
theorem dX7_init_86 : decode cX7_init 86 = .ok (.iastore, 1) := by decide +kernel
theorem dX7_init_87 : decode cX7_init 87 = .ok (.dup, 1) := by decide +kernel
theorem dX7_init_88 : decode cX7_init 88 = .ok (.iconst 2, 1) := by decide +kernel
theorem dX7_init_89 : decode cX7_init 89 = .ok (.iconst 1, 1) := by decide +kernel
theorem dX7_init_90 : decode cX7_init 90 = .ok (.iastore, 1) := by decide +kernel
theorem dX7_init_91 : decode cX7_init 91 = .ok (.dup, 1) := by decide +kernel
theorem dX7_init_92 : decode cX7_init 92 = .ok (.iconst 3, 1) := by decide +kernel
theorem dX7_init_93 : decode cX7_init 93 = .ok (.iconst 1, 1) := by decide +kernel
theorem dX7_init_94 : decode cX7_init 94 = .ok (.iastore, 1) := by decide +kernel
theorem dX7_init_95 : decode cX7_init 95 = .ok (.dup, 1) := by decide +kernel
theorem dX7_init_96 : decode cX7_init 96 = .ok (.iconst 4, 1) := by decide +kernel
theorem dX7_init_97 : decode cX7_init 97 = .ok (.iconst 1, 1) := by decide +kernel
theorem dX7_init_98 : decode cX7_init 98 = .ok (.iastore, 1) := by decide +kernel
theorem dX7_init_99 : decode cX7_init 99 = .ok (.dup, 1) := by decide +kernel
theorem dX7_init_100 : decode cX7_init 100 = .ok (.iconst 5, 1) := by decide +kernel
theorem dX7_init_101 : decode cX7_init 101 = .ok (.iconst 1, 1) := by decide +kernel
theorem dX7_init_102 : decode cX7_init 102 = .ok (.iastore, 1) := by decide +kernel
theorem dX7_init_103 : decode cX7_init 103 = .ok (.putfield 27, 3) := by decide +kernel
theorem dX7_init_106 : decode cX7_init 106 = .ok (.aload_n 0, 1) := by decide +kernel
theorem dX7_init_107 : decode cX7_init 107 = .ok (.bipush 8, 2) := by decide +kernel
theorem dX7_init_109 : decode cX7_init 109 = .ok (.newarray .int, 2) := by decide +kernel
theorem dX7_init_111 : decode cX7_init 111 = .ok (.dup, 1) := by decide +kernel
theorem dX7_init_112 : decode cX7_init 112 = .ok (.iconst 0, 1) := by decide +kernel
theorem dX7_init_113 : decode cX7_init 113 = .ok (.iconst 0, 1) := by decide +kernel
theorem dX7_init_114 : decode cX7_init 114 = .ok (.iastore, 1) := by decide +kernel
theorem dX7_init_115 : decode cX7_init 115 = .ok (.dup, 1) := by decide +kernel
theorem dX7_init_116 : decode cX7_init 116 = .ok (.iconst 1, 1) := by decide +kernel
theorem dX7_init_117 : decode cX7_init 117 = .ok (.iconst 5, 1) := by decide +kernel
theorem dX7_init_118 : decode cX7_init 118 = .ok (.iastore, 1) := by decide +kernel
theorem dX7_init_119 : decode cX7_init 119 = .ok (.dup, 1) := by decide +kernel
theorem dX7_init_120 : decode cX7_init 120 = .ok (.iconst 2, 1) := by decide +kernel
theorem dX7_init_121 : decode cX7_init 121 = .ok (.bipush 11, 2) := by decide +kernel
theorem dX7_init_123 : decode cX7_init 123 = .ok (.iastore, 1) := by decide +kernel
theorem dX7_init_124 : decode cX7_init 124 = .ok (.dup, 1) := by decide +kernel
theorem dX7_init_125 : decode cX7_init 125 = .ok (.iconst 3, 1) := by decide +kernel
theorem dX7_init_126 : decode cX7_init 126 = .ok (.iconst 1, 1) := by decide +kernel
theorem dX7_init_127 : decode cX7_init 127 = .ok (.iastore, 1) := by decide +kernel
theorem dX7_init_128 : decode cX7_init 128 = .ok (.dup, 1) := by decide +kernel
theorem dX7_init_129 : decode cX7_init 129 = .ok (.iconst 4, 1) := by decide +kernel
theorem dX7_init_130 : decode cX7_init 130 = .ok (.iconst 1, 1) := by decide +kernel
theorem dX7_init_131 : decode cX7_init 131 = .ok (.iastore, 1) := by decide +kernel
theorem dX7_init_132 : decode cX7_init 132 = .ok (.dup, 1) := by decide +kernel
theorem dX7_init_133 : decode cX7_init 133 = .ok (.iconst 5, 1) := by decide +kernel
theorem dX7_init_134 : decode cX7_init 134 = .ok (.bipush 100, 2) := by decide +kernel
theorem dX7_init_136 : decode cX7_init 136 = .ok (.iastore, 1) := by decide +kernel
theorem dX7_init_137 : decode cX7_init 137 = .ok (.dup, 1) := by decide +kernel
theorem dX7_init_138 : decode cX7_init 138 = .ok (.bipush 6, 2) := by decide +kernel
theorem dX7_init_140 : decode cX7_init 140 = .ok (.bipush 99, 2) := by decide +kernel
theorem dX7_init_142 : decode cX7_init 142 = .ok (.iastore, 1) := by decide +kernel
theorem dX7_init_143 : decode cX7_init 143 = .ok (.dup, 1) := by decide +kernel
theorem dX7_init_144 : decode cX7_init 144 = .ok (.bipush 7, 2) := by decide +kernel
theorem dX7_init_146 : decode cX7_init 146 = .ok (.bipush 99, 2) := by decide +kernel
theorem dX7_init_148 : decode cX7_init 148 = .ok (.iastore, 1) := by decide +kernel
theorem dX7_init_149 : decode cX7_init 149 = .ok (.putfield 30, 3) := by decide +kernel
theorem dX7_init_152 : decode cX7_init 152 = .ok (.return_, 1) := by decide +kernel
theorem dX7_begin_0 : decode cX7_begin 0 = .ok (.aload_n 0, 1) := by decide +kernel
theorem dX7_begin_1 : decode cX7_begin 1 = .ok (.iload_n 1, 1) := by decide +kernel
theorem dX7_begin_2 : decode cX7_begin 2 = .ok (.putfield 33, 3) := by decide +kernel
theorem dX7_begin_5 : decode cX7_begin 5 = .ok (.aload_n 0, 1) := by decide +kernel
theorem dX7_begin_6 : decode cX7_begin 6 = .ok (.lconst 0, 1) := by decide +kernel
theorem dX7_begin_7 : decode cX7_begin 7 = .ok (.putfield 37, 3) := by decide +kernel
theorem dX7_begin_10 : decode cX7_begin 10 = .ok (.aload_n 0, 1) := by decide +kernel
theorem dX7_begin_11 : decode cX7_begin 11 = .ok (.lconst 0, 1) := by decide +kernel
theorem dX7_begin_12 : decode cX7_begin 12 = .ok (.putfield 41, 3) := by decide +kernel
theorem dX7_begin_15 : decode cX7_begin 15 = .ok (.aload_n 0, 1) := by decide +kernel
theorem dX7_begin_16 : decode cX7_begin 16 = .ok (.iconst 0, 1) := by decide +kernel
theorem dX7_begin_17 : decode cX7_begin 17 = .ok (.putfield 44, 3) := by decide +kernel
theorem dX7_begin_20 : decode cX7_begin 20 = .ok (.aload_n 0, 1) := by decide +kernel
theorem dX7_begin_21 : decode cX7_begin 21 = .ok (.iconst (-1), 1) := by decide +kernel
theorem dX7_begin_22 : decode cX7_begin 22 = .ok (.putfield 47, 3) := by decide +kernel
theorem dX7_begin_25 : decode cX7_begin 25 = .ok (.aload_n 0, 1) := by decide +kernel
theorem dX7_begin_26 : decode cX7_begin 26 = .ok (.getfield 11, 3) := by decide +kernel
theorem dX7_begin_29 : decode cX7_begin 29 = .ok (.iconst 0, 1) := by decide +kernel
theorem dX7_begin_30 : decode cX7_begin 30 = .ok (.invokestatic 50, 3) := by decide +kernel
theorem dX7_begin_33 : decode cX7_begin 33 = .ok (.aload_n 0, 1) := by decide +kernel
theorem dX7_begin_34 : decode cX7_begin 34 = .ok (.getfield 15, 3) := by decide +kernel
theorem dX7_begin_37 : decode cX7_begin 37 = .ok (.iconst 0, 1) := by decide +kernel
theorem dX7_begin_38 : decode cX7_begin 38 = .ok (.invokestatic 50, 3) := by decide +kernel
theorem dX7_begin_41 : decode cX7_begin 41 = .ok (.aload_n 0, 1) := by decide +kernel
theorem dX7_begin_42 : decode cX7_begin 42 = .ok (.getfield 18, 3) := by decide +kernel
theorem dX7_begin_45 : decode cX7_begin 45 = .ok (.iconst (-1), 1) := by decide +kernel
theorem dX7_begin_46 : decode cX7_begin 46 = .ok (.invokestatic 50, 3) := by decide +kernel
theorem dX7_begin_49 : decode cX7_begin 49 = .ok (.aload_n 0, 1) := by decide +kernel
theorem dX7_begin_50 : decode cX7_begin 50 = .ok (.getfield 21, 3) := by decide +kernel
theorem dX7_begin_53 : decode cX7_begin 53 = .ok (.iconst 0, 1) := by decide +kernel
theorem dX7_begin_54 : decode cX7_begin 54 = .ok (.invokestatic 50, 3) := by decide +kernel
theorem dX7_begin_57 : decode cX7_begin 57 = .ok (.return_, 1) := by decide +kernel
theorem dX7_has_0 : decode cX7_has 0 = .ok (.iload_n 1, 1) := by decide +kernel
theorem dX7_has_1 : decode cX7_has 1 = .ok (.ifCond .lt 15, 3) := by decide +kernel
theorem dX7_has_4 : decode cX7_has 4 = .ok (.iload_n 1, 1) := by decide +kernel
theorem dX7_has_5 : decode cX7_has 5 = .ok (.aload_n 0, 1) := by decide +kernel
theorem dX7_has_6 : decode cX7_has 6 = .ok (.getfield 33, 3) := by decide +kernel
theorem dX7_has_9 : decode cX7_has 9 = .ok (.if_icmp .ge 7, 3) := by decide +kernel
theorem dX7_has_12 : decode cX7_has 12 = .ok (.iconst 1, 1) := by decide +kernel
theorem dX7_has_13 : decode cX7_has 13 = .ok (.goto 4, 3) := by decide +kernel
theorem dX7_has_16 : decode cX7_has 16 = .ok (.iconst 0, 1) := by decide +kernel
theorem dX7_has_17 : decode cX7_has 17 = .ok (.ireturn, 1) := by decide +kernel
theorem dX7_lookAt_0 : decode cX7_lookAt 0 = .ok (.aload_n 0, 1) := by decide +kernel
theorem dX7_lookAt_1 : decode cX7_lookAt 1 = .ok (.getfield 18, 3) := by decide +kernel
theorem dX7_lookAt_4 : decode cX7_lookAt 4 = .ok (.iload_n 1, 1) := by decide +kernel
theorem dX7_lookAt_5 : decode cX7_lookAt 5 = .ok (.aload_n 0, 1) := by decide +kernel
theorem dX7_lookAt_6 : decode cX7_lookAt 6 = .ok (.getfield 56, 3) := by decide +kernel
theorem dX7_lookAt_9 : decode cX7_lookAt 9 = .ok (.iastore, 1) := by decide +kernel
theorem dX7_lookAt_10 : decode cX7_lookAt 10 = .ok (.aload_n 0, 1) := by decide +kernel
theorem dX7_lookAt_11 : decode cX7_lookAt 11 = .ok (.aload_n 0, 1) := by decide +kernel
theorem dX7_lookAt_12 : decode cX7_lookAt 12 = .ok (.getfield 41, 3) := by decide +kernel
theorem dX7_lookAt_15 : decode cX7_lookAt 15 = .ok (.lconst 1, 1) := by decide +kernel
theorem dX7_lookAt_16 : decode cX7_lookAt 16 = .ok (.iload_n 1, 1) := by decide +kernel
theorem dX7_lookAt_17 : decode cX7_lookAt 17 = .ok (.lshl, 1) := by decide +kernel
theorem dX7_lookAt_18 : decode cX7_lookAt 18 = .ok (.ldc2_w 59, 3) := by decide +kernel
theorem dX7_lookAt_21 : decode cX7_lookAt 21 = .ok (.lxor, 1) := by decide +kernel
theorem dX7_lookAt_22 : decode cX7_lookAt 22 = .ok (.land, 1) := by decide +kernel
theorem dX7_lookAt_23 : decode cX7_lookAt 23 = .ok (.aload_n 0, 1) := by decide +kernel
theorem dX7_lookAt_24 : decode cX7_lookAt 24 = .ok (.getfield 37, 3) := by decide +kernel
theorem dX7_lookAt_27 : decode cX7_lookAt 27 = .ok (.lconst 1, 1) := by decide +kernel
theorem dX7_lookAt_28 : decode cX7_lookAt 28 = .ok (.iload_n 1, 1) := by decide +kernel
theorem dX7_lookAt_29 : decode cX7_lookAt 29 = .ok (.lshl, 1) := by decide +kernel
theorem dX7_lookAt_30 : decode cX7_lookAt 30 = .ok (.land, 1) := by decide +kernel
theorem dX7_lookAt_31 : decode cX7_lookAt 31 = .ok (.lor, 1) := by decide +kernel
theorem dX7_lookAt_32 : decode cX7_lookAt 32 = .ok (.putfield 41, 3) := by decide +kernel
theorem dX7_lookAt_35 : decode cX7_lookAt 35 = .ok (.return_, 1) := by decide +kernel
theorem dX7_draw_0 : decode cX7_draw 0 = .ok (.aload_n 0, 1) := by decide +kernel
theorem dX7_draw_1 : decode cX7_draw 1 = .ok (.ldc 61, 2) := by decide +kernel
theorem dX7_draw_3 : decode cX7_draw 3 = .ok (.aload_n 0, 1) := by decide +kernel
theorem dX7_draw_4 : decode cX7_draw 4 = .ok (.getfield 62, 3) := by decide +kernel
theorem dX7_draw_7 : decode cX7_draw 7 = .ok (.imul, 1) := by decide +kernel
theorem dX7_draw_8 : decode cX7_draw 8 = .ok (.ldc 65, 2) := by decide +kernel
theorem dX7_draw_10 : decode cX7_draw 10 = .ok (.iadd, 1) := by decide +kernel
theorem dX7_draw_11 : decode cX7_draw 11 = .ok (.putfield 62, 3) := by decide +kernel
theorem dX7_draw_14 : decode cX7_draw 14 = .ok (.iload_n 1, 1) := by decide +kernel
theorem dX7_draw_15 : decode cX7_draw 15 = .ok (.ifCond .le 15, 3) := by decide +kernel
theorem dX7_draw_18 : decode cX7_draw 18 = .ok (.aload_n 0, 1) := by decide +kernel
theorem dX7_draw_19 : decode cX7_draw 19 = .ok (.getfield 62, 3) := by decide +kernel
theorem dX7_draw_22 : decode cX7_draw 22 = .ok (.bipush 8, 2) := by decide +kernel
theorem dX7_draw_24 : decode cX7_draw 24 = .ok (.iushr, 1) := by decide +kernel
theorem dX7_draw_25 : decode cX7_draw 25 = .ok (.iload_n 1, 1) := by decide +kernel
theorem dX7_draw_26 : decode cX7_draw 26 = .ok (.irem, 1) := by decide +kernel
theorem dX7_draw_27 : decode cX7_draw 27 = .ok (.goto 4, 3) := by decide +kernel
theorem dX7_draw_30 : decode cX7_draw 30 = .ok (.iconst 0, 1) := by decide +kernel
theorem dX7_draw_31 : decode cX7_draw 31 = .ok (.ireturn, 1) := by decide +kernel
theorem dX7_copy_0 : decode cX7_copy 0 = .ok (.aload_n 0, 1) := by decide +kernel
theorem dX7_copy_1 : decode cX7_copy 1 = .ok (.aload_n 1, 1) := by decide +kernel
theorem dX7_copy_2 : decode cX7_copy 2 = .ok (.getfield 33, 3) := by decide +kernel
theorem dX7_copy_5 : decode cX7_copy 5 = .ok (.putfield 33, 3) := by decide +kernel
theorem dX7_copy_8 : decode cX7_copy 8 = .ok (.aload_n 1, 1) := by decide +kernel
theorem dX7_copy_9 : decode cX7_copy 9 = .ok (.getfield 11, 3) := by decide +kernel
theorem dX7_copy_12 : decode cX7_copy 12 = .ok (.iconst 0, 1) := by decide +kernel
theorem dX7_copy_13 : decode cX7_copy 13 = .ok (.aload_n 0, 1) := by decide +kernel
theorem dX7_copy_14 : decode cX7_copy 14 = .ok (.getfield 11, 3) := by decide +kernel
theorem dX7_copy_17 : decode cX7_copy 17 = .ok (.iconst 0, 1) := by decide +kernel
theorem dX7_copy_18 : decode cX7_copy 18 = .ok (.bipush 60, 2) := by decide +kernel
theorem dX7_copy_20 : decode cX7_copy 20 = .ok (.invokestatic 66, 3) := by decide +kernel
theorem dX7_copy_23 : decode cX7_copy 23 = .ok (.aload_n 1, 1) := by decide +kernel
theorem dX7_copy_24 : decode cX7_copy 24 = .ok (.getfield 15, 3) := by decide +kernel
theorem dX7_copy_27 : decode cX7_copy 27 = .ok (.iconst 0, 1) := by decide +kernel
theorem dX7_copy_28 : decode cX7_copy 28 = .ok (.aload_n 0, 1) := by decide +kernel
theorem dX7_copy_29 : decode cX7_copy 29 = .ok (.getfield 15, 3) := by decide +kernel
theorem dX7_copy_32 : decode cX7_copy 32 = .ok (.iconst 0, 1) := by decide +kernel
theorem dX7_copy_33 : decode cX7_copy 33 = .ok (.bipush 60, 2) := by decide +kernel
theorem dX7_copy_35 : decode cX7_copy 35 = .ok (.invokestatic 66, 3) := by decide +kernel
theorem dX7_copy_38 : decode cX7_copy 38 = .ok (.aload_n 1, 1) := by decide +kernel
theorem dX7_copy_39 : decode cX7_copy 39 = .ok (.getfield 18, 3) := by decide +kernel
theorem dX7_copy_42 : decode cX7_copy 42 = .ok (.iconst 0, 1) := by decide +kernel
theorem dX7_copy_43 : decode cX7_copy 43 = .ok (.aload_n 0, 1) := by decide +kernel
theorem dX7_copy_44 : decode cX7_copy 44 = .ok (.getfield 18, 3) := by decide +kernel
theorem dX7_copy_47 : decode cX7_copy 47 = .ok (.iconst 0, 1) := by decide +kernel
theorem dX7_copy_48 : decode cX7_copy 48 = .ok (.bipush 60, 2) := by decide +kernel
theorem dX7_copy_50 : decode cX7_copy 50 = .ok (.invokestatic 66, 3) := by decide +kernel
theorem dX7_copy_53 : decode cX7_copy 53 = .ok (.aload_n 1, 1) := by decide +kernel
theorem dX7_copy_54 : decode cX7_copy 54 = .ok (.getfield 21, 3) := by decide +kernel
theorem dX7_copy_57 : decode cX7_copy 57 = .ok (.iconst 0, 1) := by decide +kernel
theorem dX7_copy_58 : decode cX7_copy 58 = .ok (.aload_n 0, 1) := by decide +kernel
theorem dX7_copy_59 : decode cX7_copy 59 = .ok (.getfield 21, 3) := by decide +kernel
theorem dX7_copy_62 : decode cX7_copy 62 = .ok (.iconst 0, 1) := by decide +kernel
theorem dX7_copy_63 : decode cX7_copy 63 = .ok (.bipush 60, 2) := by decide +kernel
theorem dX7_copy_65 : decode cX7_copy 65 = .ok (.invokestatic 66, 3) := by decide +kernel
theorem dX7_copy_68 : decode cX7_copy 68 = .ok (.aload_n 0, 1) := by decide +kernel
theorem dX7_copy_69 : decode cX7_copy 69 = .ok (.aload_n 1, 1) := by decide +kernel
theorem dX7_copy_70 : decode cX7_copy 70 = .ok (.getfield 37, 3) := by decide +kernel
theorem dX7_copy_73 : decode cX7_copy 73 = .ok (.putfield 37, 3) := by decide +kernel
theorem dX7_copy_76 : decode cX7_copy 76 = .ok (.aload_n 0, 1) := by decide +kernel
theorem dX7_copy_77 : decode cX7_copy 77 = .ok (.aload_n 1, 1) := by decide +kernel
theorem dX7_copy_78 : decode cX7_copy 78 = .ok (.getfield 41, 3) := by decide +kernel
theorem dX7_copy_81 : decode cX7_copy 81 = .ok (.putfield 41, 3) := by decide +kernel
theorem dX7_copy_84 : decode cX7_copy 84 = .ok (.aload_n 1, 1) := by decide +kernel
theorem dX7_copy_85 : decode cX7_copy 85 = .ok (.getfield 24, 3) := by decide +kernel
theorem dX7_copy_88 : decode cX7_copy 88 = .ok (.iconst 0, 1) := by decide +kernel
theorem dX7_copy_89 : decode cX7_copy 89 = .ok (.aload_n 0, 1) := by decide +kernel
theorem dX7_copy_90 : decode cX7_copy 90 = .ok (.getfield 24, 3) := by decide +kernel
theorem dX7_copy_93 : decode cX7_copy 93 = .ok (.iconst 0, 1) := by decide +kernel
theorem dX7_copy_94 : decode cX7_copy 94 = .ok (.bipush 6, 2) := by decide +kernel
theorem dX7_copy_96 : decode cX7_copy 96 = .ok (.invokestatic 66, 3) := by decide +kernel
theorem dX7_copy_99 : decode cX7_copy 99 = .ok (.aload_n 1, 1) := by decide +kernel
theorem dX7_copy_100 : decode cX7_copy 100 = .ok (.getfield 27, 3) := by decide +kernel
theorem dX7_copy_103 : decode cX7_copy 103 = .ok (.iconst 0, 1) := by decide +kernel
theorem dX7_copy_104 : decode cX7_copy 104 = .ok (.aload_n 0, 1) := by decide +kernel
theorem dX7_copy_105 : decode cX7_copy 105 = .ok (.getfield 27, 3) := by decide +kernel
theorem dX7_copy_108 : decode cX7_copy 108 = .ok (.iconst 0, 1) := by decide +kernel
theorem dX7_copy_109 : decode cX7_copy 109 = .ok (.bipush 6, 2) := by decide +kernel
theorem dX7_copy_111 : decode cX7_copy 111 = .ok (.invokestatic 66, 3) := by decide +kernel
theorem dX7_copy_114 : decode cX7_copy 114 = .ok (.aload_n 1, 1) := by decide +kernel
theorem dX7_copy_115 : decode cX7_copy 115 = .ok (.getfield 30, 3) := by decide +kernel
theorem dX7_copy_118 : decode cX7_copy 118 = .ok (.iconst 0, 1) := by decide +kernel
theorem dX7_copy_119 : decode cX7_copy 119 = .ok (.aload_n 0, 1) := by decide +kernel
theorem dX7_copy_120 : decode cX7_copy 120 = .ok (.getfield 30, 3) := by decide +kernel
theorem dX7_copy_123 : decode cX7_copy 123 = .ok (.iconst 0, 1) := by decide +kernel
theorem dX7_copy_124 : decode cX7_copy 124 = .ok (.aload_n 0, 1) := by decide +kernel
theorem dX7_copy_125 : decode cX7_copy 125 = .ok (.getfield 30, 3) := by decide +kernel
theorem dX7_copy_128 : decode cX7_copy 128 = .ok (.arraylength, 1) := by decide +kernel
theorem dX7_copy_129 : decode cX7_copy 129 = .ok (.invokestatic 66, 3) := by decide +kernel
theorem dX7_copy_132 : decode cX7_copy 132 = .ok (.aload_n 0, 1) := by decide +kernel
theorem dX7_copy_133 : decode cX7_copy 133 = .ok (.aload_n 1, 1) := by decide +kernel
theorem dX7_copy_134 : decode cX7_copy 134 = .ok (.getfield 62, 3) := by decide +kernel
theorem dX7_copy_137 : decode cX7_copy 137 = .ok (.putfield 62, 3) := by decide +kernel
theorem dX7_copy_140 : decode cX7_copy 140 = .ok (.aload_n 0, 1) := by decide +kernel
theorem dX7_copy_141 : decode cX7_copy 141 = .ok (.aload_n 1, 1) := by decide +kernel
theorem dX7_copy_142 : decode cX7_copy 142 = .ok (.getfield 56, 3) := by decide +kernel
theorem dX7_copy_145 : decode cX7_copy 145 = .ok (.putfield 56, 3) := by decide +kernel
theorem dX7_copy_148 : decode cX7_copy 148 = .ok (.aload_n 0, 1) := by decide +kernel
theorem dX7_copy_149 : decode cX7_copy 149 = .ok (.aload_n 1, 1) := by decide +kernel
theorem dX7_copy_150 : decode cX7_copy 150 = .ok (.getfield 72, 3) := by decide +kernel
theorem dX7_copy_153 : decode cX7_copy 153 = .ok (.putfield 72, 3) := by decide +kernel
theorem dX7_copy_156 : decode cX7_copy 156 = .ok (.aload_n 0, 1) := by decide +kernel
theorem dX7_copy_157 : decode cX7_copy 157 = .ok (.aload_n 1, 1) := by decide +kernel
theorem dX7_copy_158 : decode cX7_copy 158 = .ok (.getfield 75, 3) := by decide +kernel
theorem dX7_copy_161 : decode cX7_copy 161 = .ok (.putfield 75, 3) := by decide +kernel
theorem dX7_copy_164 : decode cX7_copy 164 = .ok (.aload_n 0, 1) := by decide +kernel
theorem dX7_copy_165 : decode cX7_copy 165 = .ok (.aload_n 1, 1) := by decide +kernel
theorem dX7_copy_166 : decode cX7_copy 166 = .ok (.getfield 78, 3) := by decide +kernel
theorem dX7_copy_169 : decode cX7_copy 169 = .ok (.putfield 78, 3) := by decide +kernel
theorem dX7_copy_172 : decode cX7_copy 172 = .ok (.aload_n 0, 1) := by decide +kernel
theorem dX7_copy_173 : decode cX7_copy 173 = .ok (.aload_n 1, 1) := by decide +kernel
theorem dX7_copy_174 : decode cX7_copy 174 = .ok (.getfield 44, 3) := by decide +kernel
theorem dX7_copy_177 : decode cX7_copy 177 = .ok (.putfield 44, 3) := by decide +kernel
theorem dX7_copy_180 : decode cX7_copy 180 = .ok (.aload_n 0, 1) := by decide +kernel
theorem dX7_copy_181 : decode cX7_copy 181 = .ok (.aload_n 1, 1) := by decide +kernel
theorem dX7_copy_182 : decode cX7_copy 182 = .ok (.getfield 47, 3) := by decide +kernel
theorem dX7_copy_185 : decode cX7_copy 185 = .ok (.putfield 47, 3) := by decide +kernel
theorem dX7_copy_188 : decode cX7_copy 188 = .ok (.return_, 1) := by decide +kernel
theorem dX8_init_0 : decode cX8_init 0 = .ok (.aload_n 0, 1) := by decide +kernel
theorem dX8_init_1 : decode cX8_init 1 = .ok (.invokespecial 1, 3) := by decide +kernel
theorem dX8_init_4 : decode cX8_init 4 = .ok (.aload_n 0, 1) := by decide +kernel
theorem dX8_init_5 : decode cX8_init 5 = .ok (.sipush 500, 3) := by decide +kernel
theorem dX8_init_8 : decode cX8_init 8 = .ok (.newarray .byte, 2) := by decide +kernel
theorem dX8_init_10 : decode cX8_init 10 = .ok (.putfield 9, 3) := by decide +kernel
theorem dX8_init_13 : decode cX8_init 13 = .ok (.aload_n 0, 1) := by decide +kernel
theorem dX8_init_14 : decode cX8_init 14 = .ok (.sipush 501, 3) := by decide +kernel
theorem dX8_init_17 : decode cX8_init 17 = .ok (.newarray .int, 2) := by decide +kernel
theorem dX8_init_19 : decode cX8_init 19 = .ok (.putfield 13, 3) := by decide +kernel
theorem dX8_init_22 : decode cX8_init 22 = .ok (.aload_n 0, 1) := by decide +kernel
theorem dX8_init_23 : decode cX8_init 23 = .ok (.sipush 501, 3) := by decide +kernel
theorem dX8_init_26 : decode cX8_init 26 = .ok (.newarray .int, 2) := by decide +kernel
theorem dX8_init_28 : decode cX8_init 28 = .ok (.putfield 17, 3) := by decide +kernel
theorem dX8_init_31 : decode cX8_init 31 = .ok (.aload_n 0, 1) := by decide +kernel
theorem dX8_init_32 : decode cX8_init 32 = .ok (.sipush 501, 3) := by decide +kernel
theorem dX8_init_35 : decode cX8_init 35 = .ok (.newarray .int, 2) := by decide +kernel
theorem dX8_init_37 : decode cX8_init 37 = .ok (.putfield 20, 3) := by decide +kernel
theorem dX8_init_40 : decode cX8_init 40 = .ok (.return_, 1) := by decide +kernel
theorem dX8_add_0 : decode cX8_add 0 = .ok (.bipush 24, 2) := by decide +kernel
theorem dX8_add_2 : decode cX8_add 2 = .ok (.istore_n 2, 1) := by decide +kernel
theorem dX8_add_3 : decode cX8_add 3 = .ok (.iload_n 2, 1) := by decide +kernel
theorem dX8_add_4 : decode cX8_add 4 = .ok (.ifCond .lt 42, 3) := by decide +kernel
theorem dX8_add_7 : decode cX8_add 7 = .ok (.aload_n 0, 1) := by decide +kernel
theorem dX8_add_8 : decode cX8_add 8 = .ok (.getfield 23, 3) := by decide +kernel
theorem dX8_add_11 : decode cX8_add 11 = .ok (.sipush 500, 3) := by decide +kernel
theorem dX8_add_14 : decode cX8_add 14 = .ok (.if_icmp .ge 32, 3) := by decide +kernel
theorem dX8_add_17 : decode cX8_add 17 = .ok (.aload_n 0, 1) := by decide +kernel
theorem dX8_add_18 : decode cX8_add 18 = .ok (.getfield 9, 3) := by decide +kernel
theorem dX8_add_21 : decode cX8_add 21 = .ok (.aload_n 0, 1) := by decide +kernel
theorem dX8_add_22 : decode cX8_add 22 = .ok (.getfield 23, 3) := by decide +kernel
theorem dX8_add_25 : decode cX8_add 25 = .ok (.iload_n 1, 1) := by decide +kernel
theorem dX8_add_26 : decode cX8_add 26 = .ok (.iload_n 2, 1) := by decide +kernel
theorem dX8_add_27 : decode cX8_add 27 = .ok (.iushr, 1) := by decide +kernel
theorem dX8_add_28 : decode cX8_add 28 = .ok (.i2b, 1) := by decide +kernel
theorem dX8_add_29 : decode cX8_add 29 = .ok (.bastore, 1) := by decide +kernel
theorem dX8_add_30 : decode cX8_add 30 = .ok (.aload_n 0, 1) := by decide +kernel
theorem dX8_add_31 : decode cX8_add 31 = .ok (.dup, 1) := by decide +kernel
theorem dX8_add_32 : decode cX8_add 32 = .ok (.getfield 23, 3) := by decide +kernel
theorem dX8_add_35 : decode cX8_add 35 = .ok (.iconst 1, 1) := by decide +kernel
theorem dX8_add_36 : decode cX8_add 36 = .ok (.iadd, 1) := by decide +kernel
theorem dX8_add_37 : decode cX8_add 37 = .ok (.putfield 23, 3) := by decide +kernel
theorem dX8_add_40 : decode cX8_add 40 = .ok (.iinc 2 (-8), 3) := by decide +kernel
theorem dX8_add_43 : decode cX8_add 43 = .ok (.goto (-40), 3) := by decide +kernel
theorem dX8_add_46 : decode cX8_add 46 = .ok (.return_, 1) := by decide +kernel
theorem dX8_kind_0 : decode cX8_kind 0 = .ok (.aload_n 0, 1) := by decide +kernel
theorem dX8_kind_1 : decode cX8_kind 1 = .ok (.getfield 13, 3) := by decide +kernel
theorem dX8_kind_4 : decode cX8_kind 4 = .ok (.aload_n 0, 1) := by decide +kernel
theorem dX8_kind_5 : decode cX8_kind 5 = .ok (.getfield 27, 3) := by decide +kernel
theorem dX8_kind_8 : decode cX8_kind 8 = .ok (.iaload, 1) := by decide +kernel
theorem dX8_kind_9 : decode cX8_kind 9 = .ok (.ireturn, 1) := by decide +kernel
theorem dX8_number_0 : decode cX8_number 0 = .ok (.aload_n 0, 1) := by decide +kernel
theorem dX8_number_1 : decode cX8_number 1 = .ok (.getfield 20, 3) := by decide +kernel
theorem dX8_number_4 : decode cX8_number 4 = .ok (.aload_n 0, 1) := by decide +kernel
theorem dX8_number_5 : decode cX8_number 5 = .ok (.getfield 27, 3) := by decide +kernel
theorem dX8_number_8 : decode cX8_number 8 = .ok (.iaload, 1) := by decide +kernel
theorem dX8_number_9 : decode cX8_number 9 = .ok (.ireturn, 1) := by decide +kernel
theorem dX8_next_0 : decode cX8_next 0 = .ok (.aload_n 0, 1) := by decide +kernel
theorem dX8_next_1 : decode cX8_next 1 = .ok (.getfield 27, 3) := by decide +kernel
theorem dX8_next_4 : decode cX8_next 4 = .ok (.sipush 500, 3) := by decide +kernel
theorem dX8_next_7 : decode cX8_next 7 = .ok (.if_icmp .ge 25, 3) := by decide +kernel
theorem dX8_next_10 : decode cX8_next 10 = .ok (.aload_n 0, 1) := by decide +kernel
theorem dX8_next_11 : decode cX8_next 11 = .ok (.getfield 13, 3) := by decide +kernel
theorem dX8_next_14 : decode cX8_next 14 = .ok (.aload_n 0, 1) := by decide +kernel
theorem dX8_next_15 : decode cX8_next 15 = .ok (.getfield 27, 3) := by decide +kernel
theorem dX8_next_18 : decode cX8_next 18 = .ok (.iaload, 1) := by decide +kernel
theorem dX8_next_19 : decode cX8_next 19 = .ok (.ifCond .eq 13, 3) := by decide +kernel
theorem dX8_next_22 : decode cX8_next 22 = .ok (.aload_n 0, 1) := by decide +kernel
theorem dX8_next_23 : decode cX8_next 23 = .ok (.dup, 1) := by decide +kernel
theorem dX8_next_24 : decode cX8_next 24 = .ok (.getfield 27, 3) := by decide +kernel
theorem dX8_next_27 : decode cX8_next 27 = .ok (.iconst 1, 1) := by decide +kernel
theorem dX8_next_28 : decode cX8_next 28 = .ok (.iadd, 1) := by decide +kernel
theorem dX8_next_29 : decode cX8_next 29 = .ok (.putfield 27, 3) := by decide +kernel
theorem dX8_next_32 : decode cX8_next 32 = .ok (.return_, 1) := by decide +kernel
theorem dX8_cutTokens_0 : decode cX8_cutTokens 0 = .ok (.iconst 0, 1) := by decide +kernel
theorem dX8_cutTokens_1 : decode cX8_cutTokens 1 = .ok (.istore_n 1, 1) := by decide +kernel
theorem dX8_cutTokens_2 : decode cX8_cutTokens 2 = .ok (.iconst 0, 1) := by decide +kernel
theorem dX8_cutTokens_3 : decode cX8_cutTokens 3 = .ok (.istore_n 2, 1) := by decide +kernel
theorem dX8_cutTokens_4 : decode cX8_cutTokens 4 = .ok (.iload_n 2, 1) := by decide +kernel
theorem dX8_cutTokens_5 : decode cX8_cutTokens 5 = .ok (.aload_n 0, 1) := by decide +kernel
theorem dX8_cutTokens_6 : decode cX8_cutTokens 6 = .ok (.getfield 23, 3) := by decide +kernel
theorem dX8_cutTokens_9 : decode cX8_cutTokens 9 = .ok (.if_icmp .ge 85, 3) := by decide +kernel
theorem dX8_cutTokens_12 : decode cX8_cutTokens 12 = .ok (.iload_n 1, 1) := by decide +kernel
theorem dX8_cutTokens_13 : decode cX8_cutTokens 13 = .ok (.sipush 500, 3) := by decide +kernel
theorem dX8_cutTokens_16 : decode cX8_cutTokens 16 = .ok (.if_icmp .ge 78, 3) := by decide +kernel
theorem dX8_cutTokens_19 : decode cX8_cutTokens 19 = .ok (.iload_n 2, 1) := by decide +kernel
theorem dX8_cutTokens_20 : decode cX8_cutTokens 20 = .ok (.iconst 1, 1) := by decide +kernel
theorem dX8_cutTokens_21 : decode cX8_cutTokens 21 = .ok (.iadd, 1) := by decide +kernel
theorem dX8_cutTokens_22 : decode cX8_cutTokens 22 = .ok (.istore_n 3, 1) := by decide +kernel
theorem dX8_cutTokens_23 : decode cX8_cutTokens 23 = .ok (.aload_n 0, 1) := by decide +kernel
theorem dX8_cutTokens_24 : decode cX8_cutTokens 24 = .ok (.getfield 9, 3) := by decide +kernel
theorem dX8_cutTokens_27 : decode cX8_cutTokens 27 = .ok (.iload_n 2, 1) := by decide +kernel
theorem dX8_cutTokens_28 : decode cX8_cutTokens 28 = .ok (.baload, 1) := by decide +kernel
theorem dX8_cutTokens_29 : decode cX8_cutTokens 29 = .ok (.invokestatic 30, 3) := by decide +kernel
theorem dX8_cutTokens_32 : decode cX8_cutTokens 32 = .ok (.ifCond .ne 57, 3) := by decide +kernel
theorem dX8_cutTokens_35 : decode cX8_cutTokens 35 = .ok (.aload_n 0, 1) := by decide +kernel
theorem dX8_cutTokens_36 : decode cX8_cutTokens 36 = .ok (.iload_n 2, 1) := by decide +kernel
theorem dX8_cutTokens_37 : decode cX8_cutTokens 37 = .ok (.invokevirtual 34, 3) := by decide +kernel
theorem dX8_cutTokens_40 : decode cX8_cutTokens 40 = .ok (.istore_n 3, 1) := by decide +kernel
theorem dX8_cutTokens_41 : decode cX8_cutTokens 41 = .ok (.aload_n 0, 1) := by decide +kernel
theorem dX8_cutTokens_42 : decode cX8_cutTokens 42 = .ok (.getfield 13, 3) := by decide +kernel
theorem dX8_cutTokens_45 : decode cX8_cutTokens 45 = .ok (.iload_n 1, 1) := by decide +kernel
theorem dX8_cutTokens_46 : decode cX8_cutTokens 46 = .ok (.aload_n 0, 1) := by decide +kernel
theorem dX8_cutTokens_47 : decode cX8_cutTokens 47 = .ok (.iload_n 2, 1) := by decide +kernel
theorem dX8_cutTokens_48 : decode cX8_cutTokens 48 = .ok (.iload_n 3, 1) := by decide +kernel
theorem dX8_cutTokens_49 : decode cX8_cutTokens 49 = .ok (.invokevirtual 38, 3) := by decide +kernel
theorem dX8_cutTokens_52 : decode cX8_cutTokens 52 = .ok (.iastore, 1) := by decide +kernel
theorem dX8_cutTokens_53 : decode cX8_cutTokens 53 = .ok (.aload_n 0, 1) := by decide +kernel
theorem dX8_cutTokens_54 : decode cX8_cutTokens 54 = .ok (.getfield 20, 3) := by decide +kernel
theorem dX8_cutTokens_57 : decode cX8_cutTokens 57 = .ok (.iload_n 1, 1) := by decide +kernel
theorem dX8_cutTokens_58 : decode cX8_cutTokens 58 = .ok (.aload_n 0, 1) := by decide +kernel
theorem dX8_cutTokens_59 : decode cX8_cutTokens 59 = .ok (.getfield 13, 3) := by decide +kernel
theorem dX8_cutTokens_62 : decode cX8_cutTokens 62 = .ok (.iload_n 1, 1) := by decide +kernel
theorem dX8_cutTokens_63 : decode cX8_cutTokens 63 = .ok (.iaload, 1) := by decide +kernel
theorem dX8_cutTokens_64 : decode cX8_cutTokens 64 = .ok (.iconst 1, 1) := by decide +kernel
theorem dX8_cutTokens_65 : decode cX8_cutTokens 65 = .ok (.if_icmp .ne 12, 3) := by decide +kernel
theorem dX8_cutTokens_68 : decode cX8_cutTokens 68 = .ok (.aload_n 0, 1) := by decide +kernel
theorem dX8_cutTokens_69 : decode cX8_cutTokens 69 = .ok (.iload_n 2, 1) := by decide +kernel
theorem dX8_cutTokens_70 : decode cX8_cutTokens 70 = .ok (.iload_n 3, 1) := by decide +kernel
theorem dX8_cutTokens_71 : decode cX8_cutTokens 71 = .ok (.invokevirtual 42, 3) := by decide +kernel
theorem dX8_cutTokens_74 : decode cX8_cutTokens 74 = .ok (.goto 4, 3) := by decide +kernel
theorem dX8_cutTokens_77 : decode cX8_cutTokens 77 = .ok (.iconst 0, 1) := by decide +kernel
theorem dX8_cutTokens_78 : decode cX8_cutTokens 78 = .ok (.iastore, 1) := by decide +kernel
theorem dX8_cutTokens_79 : decode cX8_cutTokens 79 = .ok (.aload_n 0, 1) := by decide +kernel
theorem dX8_cutTokens_80 : decode cX8_cutTokens 80 = .ok (.getfield 17, 3) := by decide +kernel
theorem dX8_cutTokens_83 : decode cX8_cutTokens 83 = .ok (.iload_n 1, 1) := by decide +kernel
theorem dX8_cutTokens_84 : decode cX8_cutTokens 84 = .ok (.iload_n 2, 1) := by decide +kernel
theorem dX8_cutTokens_85 : decode cX8_cutTokens 85 = .ok (.iastore, 1) := by decide +kernel
theorem dX8_cutTokens_86 : decode cX8_cutTokens 86 = .ok (.iinc 1 1, 3) := by decide +kernel
theorem dX8_cutTokens_89 : decode cX8_cutTokens 89 = .ok (.iload_n 3, 1) := by decide +kernel
theorem dX8_cutTokens_90 : decode cX8_cutTokens 90 = .ok (.istore_n 2, 1) := by decide +kernel
theorem dX8_cutTokens_91 : decode cX8_cutTokens 91 = .ok (.goto (-87), 3) := by decide +kernel
theorem dX8_cutTokens_94 : decode cX8_cutTokens 94 = .ok (.aload_n 0, 1) := by decide +kernel
theorem dX8_cutTokens_95 : decode cX8_cutTokens 95 = .ok (.getfield 13, 3) := by decide +kernel
theorem dX8_cutTokens_98 : decode cX8_cutTokens 98 = .ok (.iload_n 1, 1) := by decide +kernel
theorem dX8_cutTokens_99 : decode cX8_cutTokens 99 = .ok (.iconst 0, 1) := by decide +kernel
theorem dX8_cutTokens_100 : decode cX8_cutTokens 100 = .ok (.iastore, 1) := by decide +kernel
theorem dX8_cutTokens_101 : decode cX8_cutTokens 101 = .ok (.aload_n 0, 1) := by decide +kernel
theorem dX8_cutTokens_102 : decode cX8_cutTokens 102 = .ok (.getfield 17, 3) := by decide +kernel
theorem dX8_cutTokens_105 : decode cX8_cutTokens 105 = .ok (.iload_n 1, 1) := by decide +kernel
theorem dX8_cutTokens_106 : decode cX8_cutTokens 106 = .ok (.aload_n 0, 1) := by decide +kernel
theorem dX8_cutTokens_107 : decode cX8_cutTokens 107 = .ok (.getfield 23, 3) := by decide +kernel
theorem dX8_cutTokens_110 : decode cX8_cutTokens 110 = .ok (.iastore, 1) := by decide +kernel
theorem dX8_cutTokens_111 : decode cX8_cutTokens 111 = .ok (.aload_n 0, 1) := by decide +kernel
theorem dX8_cutTokens_112 : decode cX8_cutTokens 112 = .ok (.getfield 20, 3) := by decide +kernel
theorem dX8_cutTokens_115 : decode cX8_cutTokens 115 = .ok (.iload_n 1, 1) := by decide +kernel
theorem dX8_cutTokens_116 : decode cX8_cutTokens 116 = .ok (.iconst 0, 1) := by decide +kernel
theorem dX8_cutTokens_117 : decode cX8_cutTokens 117 = .ok (.iastore, 1) := by decide +kernel
theorem dX8_cutTokens_118 : decode cX8_cutTokens 118 = .ok (.aload_n 0, 1) := by decide +kernel
theorem dX8_cutTokens_119 : decode cX8_cutTokens 119 = .ok (.iconst 0, 1) := by decide +kernel
theorem dX8_cutTokens_120 : decode cX8_cutTokens 120 = .ok (.putfield 27, 3) := by decide +kernel
theorem dX8_cutTokens_123 : decode cX8_cutTokens 123 = .ok (.return_, 1) := by decide +kernel
theorem dX8_tokenEnd_0 : decode cX8_tokenEnd 0 = .ok (.iload_n 1, 1) := by decide +kernel
theorem dX8_tokenEnd_1 : decode cX8_tokenEnd 1 = .ok (.iconst 1, 1) := by decide +kernel
theorem dX8_tokenEnd_2 : decode cX8_tokenEnd 2 = .ok (.iadd, 1) := by decide +kernel
theorem dX8_tokenEnd_3 : decode cX8_tokenEnd 3 = .ok (.istore_n 2, 1) := by decide +kernel
theorem dX8_tokenEnd_4 : decode cX8_tokenEnd 4 = .ok (.aload_n 0, 1) := by decide +kernel
theorem dX8_tokenEnd_5 : decode cX8_tokenEnd 5 = .ok (.getfield 9, 3) := by decide +kernel
theorem dX8_tokenEnd_8 : decode cX8_tokenEnd 8 = .ok (.iload_n 1, 1) := by decide +kernel
theorem dX8_tokenEnd_9 : decode cX8_tokenEnd 9 = .ok (.baload, 1) := by decide +kernel
theorem dX8_tokenEnd_10 : decode cX8_tokenEnd 10 = .ok (.invokestatic 45, 3) := by decide +kernel
theorem dX8_tokenEnd_13 : decode cX8_tokenEnd 13 = .ok (.ifCond .eq 29, 3) := by decide +kernel
theorem dX8_tokenEnd_16 : decode cX8_tokenEnd 16 = .ok (.iload_n 2, 1) := by decide +kernel
theorem dX8_tokenEnd_17 : decode cX8_tokenEnd 17 = .ok (.aload_n 0, 1) := by decide +kernel
theorem dX8_tokenEnd_18 : decode cX8_tokenEnd 18 = .ok (.getfield 23, 3) := by decide +kernel
theorem dX8_tokenEnd_21 : decode cX8_tokenEnd 21 = .ok (.if_icmp .ge 59, 3) := by decide +kernel
theorem dX8_tokenEnd_24 : decode cX8_tokenEnd 24 = .ok (.aload_n 0, 1) := by decide +kernel
theorem dX8_tokenEnd_25 : decode cX8_tokenEnd 25 = .ok (.getfield 9, 3) := by decide +kernel
theorem dX8_tokenEnd_28 : decode cX8_tokenEnd 28 = .ok (.iload_n 2, 1) := by decide +kernel
theorem dX8_tokenEnd_29 : decode cX8_tokenEnd 29 = .ok (.baload, 1) := by decide +kernel
theorem dX8_tokenEnd_30 : decode cX8_tokenEnd 30 = .ok (.invokestatic 45, 3) := by decide +kernel
theorem dX8_tokenEnd_33 : decode cX8_tokenEnd 33 = .ok (.ifCond .eq 47, 3) := by decide +kernel
theorem dX8_tokenEnd_36 : decode cX8_tokenEnd 36 = .ok (.iinc 2 1, 3) := by decide +kernel
theorem dX8_tokenEnd_39 : decode cX8_tokenEnd 39 = .ok (.goto (-23), 3) := by decide +kernel
theorem dX8_tokenEnd_42 : decode cX8_tokenEnd 42 = .ok (.aload_n 0, 1) := by decide +kernel
theorem dX8_tokenEnd_43 : decode cX8_tokenEnd 43 = .ok (.getfield 9, 3) := by decide +kernel
theorem dX8_tokenEnd_46 : decode cX8_tokenEnd 46 = .ok (.iload_n 1, 1) := by decide +kernel
theorem dX8_tokenEnd_47 : decode cX8_tokenEnd 47 = .ok (.baload, 1) := by decide +kernel
theorem dX8_tokenEnd_48 : decode cX8_tokenEnd 48 = .ok (.invokestatic 48, 3) := by decide +kernel
theorem dX8_tokenEnd_51 : decode cX8_tokenEnd 51 = .ok (.ifCond .eq 29, 3) := by decide +kernel
theorem dX8_tokenEnd_54 : decode cX8_tokenEnd 54 = .ok (.iload_n 2, 1) := by decide +kernel
theorem dX8_tokenEnd_55 : decode cX8_tokenEnd 55 = .ok (.aload_n 0, 1) := by decide +kernel
theorem dX8_tokenEnd_56 : decode cX8_tokenEnd 56 = .ok (.getfield 23, 3) := by decide +kernel
theorem dX8_tokenEnd_59 : decode cX8_tokenEnd 59 = .ok (.if_icmp .ge 21, 3) := by decide +kernel
theorem dX8_tokenEnd_62 : decode cX8_tokenEnd 62 = .ok (.aload_n 0, 1) := by decide +kernel
theorem dX8_tokenEnd_63 : decode cX8_tokenEnd 63 = .ok (.getfield 9, 3) := by decide +kernel
theorem dX8_tokenEnd_66 : decode cX8_tokenEnd 66 = .ok (.iload_n 2, 1) := by decide +kernel
theorem dX8_tokenEnd_67 : decode cX8_tokenEnd 67 = .ok (.baload, 1) := by decide +kernel
theorem dX8_tokenEnd_68 : decode cX8_tokenEnd 68 = .ok (.invokestatic 48, 3) := by decide +kernel
theorem dX8_tokenEnd_71 : decode cX8_tokenEnd 71 = .ok (.ifCond .eq 9, 3) := by decide +kernel
theorem dX8_tokenEnd_74 : decode cX8_tokenEnd 74 = .ok (.iinc 2 1, 3) := by decide +kernel
theorem dX8_tokenEnd_77 : decode cX8_tokenEnd 77 = .ok (.goto (-23), 3) := by decide +kernel
theorem dX8_tokenEnd_80 : decode cX8_tokenEnd 80 = .ok (.iload_n 2, 1) := by decide +kernel
theorem dX8_tokenEnd_81 : decode cX8_tokenEnd 81 = .ok (.ireturn, 1) := by decide +kernel
theorem dX8_kindOf_0 : decode cX8_kindOf 0 = .ok (.aload_n 0, 1) := by decide +kernel
theorem dX8_kindOf_1 : decode cX8_kindOf 1 = .ok (.getfield 9, 3) := by decide +kernel
theorem dX8_kindOf_4 : decode cX8_kindOf 4 = .ok (.iload_n 1, 1) := by decide +kernel
theorem dX8_kindOf_5 : decode cX8_kindOf 5 = .ok (.baload, 1) := by decide +kernel
theorem dX8_kindOf_6 : decode cX8_kindOf 6 = .ok (.istore_n 3, 1) := by decide +kernel
theorem dX8_kindOf_7 : decode cX8_kindOf 7 = .ok (.iload_n 3, 1) := by decide +kernel
theorem dX8_kindOf_8 : decode cX8_kindOf 8 = .ok (.invokestatic 45, 3) := by decide +kernel
theorem dX8_kindOf_11 : decode cX8_kindOf 11 = .ok (.ifCond .eq 10, 3) := by decide +kernel
theorem dX8_kindOf_14 : decode cX8_kindOf 14 = .ok (.aload_n 0, 1) := by decide +kernel
theorem dX8_kindOf_15 : decode cX8_kindOf 15 = .ok (.iload_n 1, 1) := by decide +kernel
theorem dX8_kindOf_16 : decode cX8_kindOf 16 = .ok (.iload_n 2, 1) := by decide +kernel
theorem dX8_kindOf_17 : decode cX8_kindOf 17 = .ok (.invokevirtual 51, 3) := by decide +kernel
theorem dX8_kindOf_20 : decode cX8_kindOf 20 = .ok (.ireturn, 1) := by decide +kernel
theorem dX8_kindOf_21 : decode cX8_kindOf 21 = .ok (.iload_n 3, 1) := by decide +kernel
theorem dX8_kindOf_22 : decode cX8_kindOf 22 = .ok (.invokestatic 48, 3) := by decide +kernel
theorem dX8_kindOf_25 : decode cX8_kindOf 25 = .ok (.ifCond .eq 16, 3) := by decide +kernel
theorem dX8_kindOf_28 : decode cX8_kindOf 28 = .ok (.iload_n 2, 1) := by decide +kernel
theorem dX8_kindOf_29 : decode cX8_kindOf 29 = .ok (.iload_n 1, 1) := by decide +kernel
theorem dX8_kindOf_30 : decode cX8_kindOf 30 = .ok (.isub, 1) := by decide +kernel
theorem dX8_kindOf_31 : decode cX8_kindOf 31 = .ok (.iconst 4, 1) := by decide +kernel
theorem dX8_kindOf_32 : decode cX8_kindOf 32 = .ok (.if_icmp .gt 7, 3) := by decide +kernel
theorem dX8_kindOf_35 : decode cX8_kindOf 35 = .ok (.iconst 1, 1) := by decide +kernel
theorem dX8_kindOf_36 : decode cX8_kindOf 36 = .ok (.goto 4, 3) := by decide +kernel
theorem dX8_kindOf_39 : decode cX8_kindOf 39 = .ok (.iconst 2, 1) := by decide +kernel
theorem dX8_kindOf_40 : decode cX8_kindOf 40 = .ok (.ireturn, 1) := by decide +kernel
theorem dX8_kindOf_41 : decode cX8_kindOf 41 = .ok (.iload_n 3, 1) := by decide +kernel
theorem dX8_kindOf_42 : decode cX8_kindOf 42 = .ok (.invokestatic 54, 3) := by decide +kernel
theorem dX8_kindOf_45 : decode cX8_kindOf 45 = .ok (.ifCond .eq 7, 3) := by decide +kernel
theorem dX8_kindOf_48 : decode cX8_kindOf 48 = .ok (.iload_n 3, 1) := by decide +kernel
theorem dX8_kindOf_49 : decode cX8_kindOf 49 = .ok (.goto 4, 3) := by decide +kernel
theorem dX8_kindOf_52 : decode cX8_kindOf 52 = .ok (.iconst 2, 1) := by decide +kernel
theorem dX8_kindOf_53 : decode cX8_kindOf 53 = .ok (.ireturn, 1) := by decide +kernel
theorem dX8_wordKind_0 : decode cX8_wordKind 0 = .ok (.sipush 256, 3) := by decide +kernel
theorem dX8_wordKind_3 : decode cX8_wordKind 3 = .ok (.istore_n 3, 1) := by decide +kernel
theorem dX8_wordKind_4 : decode cX8_wordKind 4 = .ok (.iload_n 1, 1) := by decide +kernel
theorem dX8_wordKind_5 : decode cX8_wordKind 5 = .ok (.istore 4, 2) := by decide +kernel
theorem dX8_wordKind_7 : decode cX8_wordKind 7 = .ok (.iconst 1, 1) := by decide +kernel
theorem dX8_wordKind_8 : decode cX8_wordKind 8 = .ok (.istore 5, 2) := by decide +kernel
theorem dX8_wordKind_10 : decode cX8_wordKind 10 = .ok (.iconst 0, 1) := by decide +kernel
theorem dX8_wordKind_11 : decode cX8_wordKind 11 = .ok (.istore 6, 2) := by decide +kernel
theorem dX8_wordKind_13 : decode cX8_wordKind 13 = .ok (.iload 6, 2) := by decide +kernel
theorem dX8_wordKind_15 : decode cX8_wordKind 15 = .ok (.ldc 57, 2) := by decide +kernel
theorem dX8_wordKind_17 : decode cX8_wordKind 17 = .ok (.invokevirtual 59, 3) := by decide +kernel
theorem dX8_wordKind_20 : decode cX8_wordKind 20 = .ok (.if_icmp .ge 83, 3) := by decide +kernel
theorem dX8_wordKind_23 : decode cX8_wordKind 23 = .ok (.ldc 57, 2) := by decide +kernel
theorem dX8_wordKind_25 : decode cX8_wordKind 25 = .ok (.iload 6, 2) := by decide +kernel
theorem dX8_wordKind_27 : decode cX8_wordKind 27 = .ok (.invokevirtual 64, 3) := by decide +kernel
theorem dX8_wordKind_30 : decode cX8_wordKind 30 = .ok (.istore 7, 2) := by decide +kernel
theorem dX8_wordKind_32 : decode cX8_wordKind 32 = .ok (.iload 7, 2) := by decide +kernel
theorem dX8_wordKind_34 : decode cX8_wordKind 34 = .ok (.bipush 32, 2) := by decide +kernel
theorem dX8_wordKind_36 : decode cX8_wordKind 36 = .ok (.if_icmp .eq 39, 3) := by decide +kernel
theorem dX8_wordKind_39 : decode cX8_wordKind 39 = .ok (.iload 5, 2) := by decide +kernel
theorem dX8_wordKind_41 : decode cX8_wordKind 41 = .ok (.ifCond .eq 25, 3) := by decide +kernel
theorem dX8_wordKind_44 : decode cX8_wordKind 44 = .ok (.iload 4, 2) := by decide +kernel
theorem dX8_wordKind_46 : decode cX8_wordKind 46 = .ok (.iload_n 2, 1) := by decide +kernel
theorem dX8_wordKind_47 : decode cX8_wordKind 47 = .ok (.if_icmp .ge 19, 3) := by decide +kernel
theorem dX8_wordKind_50 : decode cX8_wordKind 50 = .ok (.aload_n 0, 1) := by decide +kernel
theorem dX8_wordKind_51 : decode cX8_wordKind 51 = .ok (.getfield 9, 3) := by decide +kernel
theorem dX8_wordKind_54 : decode cX8_wordKind 54 = .ok (.iload 4, 2) := by decide +kernel
theorem dX8_wordKind_56 : decode cX8_wordKind 56 = .ok (.baload, 1) := by decide +kernel
theorem dX8_wordKind_57 : decode cX8_wordKind 57 = .ok (.iload 7, 2) := by decide +kernel
theorem dX8_wordKind_59 : decode cX8_wordKind 59 = .ok (.if_icmp .ne 7, 3) := by decide +kernel
theorem dX8_wordKind_62 : decode cX8_wordKind 62 = .ok (.iconst 1, 1) := by decide +kernel
theorem dX8_wordKind_63 : decode cX8_wordKind 63 = .ok (.goto 4, 3) := by decide +kernel
theorem dX8_wordKind_66 : decode cX8_wordKind 66 = .ok (.iconst 0, 1) := by decide +kernel
theorem dX8_wordKind_67 : decode cX8_wordKind 67 = .ok (.istore 5, 2) := by decide +kernel
theorem dX8_wordKind_69 : decode cX8_wordKind 69 = .ok (.iinc 4 1, 3) := by decide +kernel
theorem dX8_wordKind_72 : decode cX8_wordKind 72 = .ok (.goto 25, 3) := by decide +kernel
theorem dX8_wordKind_75 : decode cX8_wordKind 75 = .ok (.iload 5, 2) := by decide +kernel
theorem dX8_wordKind_77 : decode cX8_wordKind 77 = .ok (.ifCond .eq 11, 3) := by decide +kernel
theorem dX8_wordKind_80 : decode cX8_wordKind 80 = .ok (.iload 4, 2) := by decide +kernel
theorem dX8_wordKind_82 : decode cX8_wordKind 82 = .ok (.iload_n 2, 1) := by decide +kernel
theorem dX8_wordKind_83 : decode cX8_wordKind 83 = .ok (.if_icmp .ne 5, 3) := by decide +kernel
theorem dX8_wordKind_86 : decode cX8_wordKind 86 = .ok (.iload_n 3, 1) := by decide +kernel
theorem dX8_wordKind_87 : decode cX8_wordKind 87 = .ok (.ireturn, 1) := by decide +kernel
theorem dX8_wordKind_88 : decode cX8_wordKind 88 = .ok (.iinc 3 1, 3) := by decide +kernel
theorem dX8_wordKind_91 : decode cX8_wordKind 91 = .ok (.iload_n 1, 1) := by decide +kernel
theorem dX8_wordKind_92 : decode cX8_wordKind 92 = .ok (.istore 4, 2) := by decide +kernel
theorem dX8_wordKind_94 : decode cX8_wordKind 94 = .ok (.iconst 1, 1) := by decide +kernel
theorem dX8_wordKind_95 : decode cX8_wordKind 95 = .ok (.istore 5, 2) := by decide +kernel
theorem dX8_wordKind_97 : decode cX8_wordKind 97 = .ok (.iinc 6 1, 3) := by decide +kernel
theorem dX8_wordKind_100 : decode cX8_wordKind 100 = .ok (.goto (-87), 3) := by decide +kernel
theorem dX8_wordKind_103 : decode cX8_wordKind 103 = .ok (.iconst 2, 1) := by decide +kernel
theorem dX8_wordKind_104 : decode cX8_wordKind 104 = .ok (.ireturn, 1) := by decide +kernel
theorem dX8_valueOf_0 : decode cX8_valueOf 0 = .ok (.iconst 0, 1) := by decide +kernel
theorem dX8_valueOf_1 : decode cX8_valueOf 1 = .ok (.istore_n 3, 1) := by decide +kernel
theorem dX8_valueOf_2 : decode cX8_valueOf 2 = .ok (.iload_n 1, 1) := by decide +kernel
theorem dX8_valueOf_3 : decode cX8_valueOf 3 = .ok (.istore 4, 2) := by decide +kernel
theorem dX8_valueOf_5 : decode cX8_valueOf 5 = .ok (.iload 4, 2) := by decide +kernel
theorem dX8_valueOf_7 : decode cX8_valueOf 7 = .ok (.iload_n 2, 1) := by decide +kernel
theorem dX8_valueOf_8 : decode cX8_valueOf 8 = .ok (.if_icmp .ge 25, 3) := by decide +kernel
theorem dX8_valueOf_11 : decode cX8_valueOf 11 = .ok (.bipush 10, 2) := by decide +kernel
theorem dX8_valueOf_13 : decode cX8_valueOf 13 = .ok (.iload_n 3, 1) := by decide +kernel
theorem dX8_valueOf_14 : decode cX8_valueOf 14 = .ok (.imul, 1) := by decide +kernel
theorem dX8_valueOf_15 : decode cX8_valueOf 15 = .ok (.aload_n 0, 1) := by decide +kernel
theorem dX8_valueOf_16 : decode cX8_valueOf 16 = .ok (.getfield 9, 3) := by decide +kernel
theorem dX8_valueOf_19 : decode cX8_valueOf 19 = .ok (.iload 4, 2) := by decide +kernel
theorem dX8_valueOf_21 : decode cX8_valueOf 21 = .ok (.baload, 1) := by decide +kernel
theorem dX8_valueOf_22 : decode cX8_valueOf 22 = .ok (.iadd, 1) := by decide +kernel
theorem dX8_valueOf_23 : decode cX8_valueOf 23 = .ok (.bipush 48, 2) := by decide +kernel
theorem dX8_valueOf_25 : decode cX8_valueOf 25 = .ok (.isub, 1) := by decide +kernel
theorem dX8_valueOf_26 : decode cX8_valueOf 26 = .ok (.istore_n 3, 1) := by decide +kernel
theorem dX8_valueOf_27 : decode cX8_valueOf 27 = .ok (.iinc 4 1, 3) := by decide +kernel
theorem dX8_valueOf_30 : decode cX8_valueOf 30 = .ok (.goto (-25), 3) := by decide +kernel
theorem dX8_valueOf_33 : decode cX8_valueOf 33 = .ok (.iload_n 3, 1) := by decide +kernel
theorem dX8_valueOf_34 : decode cX8_valueOf 34 = .ok (.ireturn, 1) := by decide +kernel
theorem dX8_isBlank_0 : decode cX8_isBlank 0 = .ok (.iload_n 0, 1) := by decide +kernel
theorem dX8_isBlank_1 : decode cX8_isBlank 1 = .ok (.bipush 32, 2) := by decide +kernel
theorem dX8_isBlank_3 : decode cX8_isBlank 3 = .ok (.if_icmp .eq 9, 3) := by decide +kernel
theorem dX8_isBlank_6 : decode cX8_isBlank 6 = .ok (.iload_n 0, 1) := by decide +kernel
theorem dX8_isBlank_7 : decode cX8_isBlank 7 = .ok (.bipush 10, 2) := by decide +kernel
theorem dX8_isBlank_9 : decode cX8_isBlank 9 = .ok (.if_icmp .ne 7, 3) := by decide +kernel
theorem dX8_isBlank_12 : decode cX8_isBlank 12 = .ok (.iconst 1, 1) := by decide +kernel
theorem dX8_isBlank_13 : decode cX8_isBlank 13 = .ok (.goto 4, 3) := by decide +kernel
theorem dX8_isBlank_16 : decode cX8_isBlank 16 = .ok (.iconst 0, 1) := by decide +kernel
theorem dX8_isBlank_17 : decode cX8_isBlank 17 = .ok (.ireturn, 1) := by decide +kernel
theorem dX8_isLetter_0 : decode cX8_isLetter 0 = .ok (.iload_n 0, 1) := by decide +kernel
theorem dX8_isLetter_1 : decode cX8_isLetter 1 = .ok (.bipush 97, 2) := by decide +kernel
theorem dX8_isLetter_3 : decode cX8_isLetter 3 = .ok (.if_icmp .lt 9, 3) := by decide +kernel
theorem dX8_isLetter_6 : decode cX8_isLetter 6 = .ok (.iload_n 0, 1) := by decide +kernel
theorem dX8_isLetter_7 : decode cX8_isLetter 7 = .ok (.bipush 122, 2) := by decide +kernel
theorem dX8_isLetter_9 : decode cX8_isLetter 9 = .ok (.if_icmp .le 15, 3) := by decide +kernel
theorem dX8_isLetter_12 : decode cX8_isLetter 12 = .ok (.iload_n 0, 1) := by decide +kernel
theorem dX8_isLetter_13 : decode cX8_isLetter 13 = .ok (.bipush 65, 2) := by decide +kernel
theorem dX8_isLetter_15 : decode cX8_isLetter 15 = .ok (.if_icmp .lt 13, 3) := by decide +kernel
theorem dX8_isLetter_18 : decode cX8_isLetter 18 = .ok (.iload_n 0, 1) := by decide +kernel
theorem dX8_isLetter_19 : decode cX8_isLetter 19 = .ok (.bipush 90, 2) := by decide +kernel
theorem dX8_isLetter_21 : decode cX8_isLetter 21 = .ok (.if_icmp .gt 7, 3) := by decide +kernel
theorem dX8_isLetter_24 : decode cX8_isLetter 24 = .ok (.iconst 1, 1) := by decide +kernel
theorem dX8_isLetter_25 : decode cX8_isLetter 25 = .ok (.goto 4, 3) := by decide +kernel
theorem dX8_isLetter_28 : decode cX8_isLetter 28 = .ok (.iconst 0, 1) := by decide +kernel
theorem dX8_isLetter_29 : decode cX8_isLetter 29 = .ok (.ireturn, 1) := by decide +kernel
theorem dX8_isDigit_0 : decode cX8_isDigit 0 = .ok (.iload_n 0, 1) := by decide +kernel
theorem dX8_isDigit_1 : decode cX8_isDigit 1 = .ok (.bipush 48, 2) := by decide +kernel
theorem dX8_isDigit_3 : decode cX8_isDigit 3 = .ok (.if_icmp .lt 13, 3) := by decide +kernel
theorem dX8_isDigit_6 : decode cX8_isDigit 6 = .ok (.iload_n 0, 1) := by decide +kernel
theorem dX8_isDigit_7 : decode cX8_isDigit 7 = .ok (.bipush 57, 2) := by decide +kernel
theorem dX8_isDigit_9 : decode cX8_isDigit 9 = .ok (.if_icmp .gt 7, 3) := by decide +kernel
theorem dX8_isDigit_12 : decode cX8_isDigit 12 = .ok (.iconst 1, 1) := by decide +kernel
theorem dX8_isDigit_13 : decode cX8_isDigit 13 = .ok (.goto 4, 3) := by decide +kernel
theorem dX8_isDigit_16 : decode cX8_isDigit 16 = .ok (.iconst 0, 1) := by decide +kernel
theorem dX8_isDigit_17 : decode cX8_isDigit 17 = .ok (.ireturn, 1) := by decide +kernel
theorem dX8_isSymbol_0 : decode cX8_isSymbol 0 = .ok (.iload_n 0, 1) := by decide +kernel
theorem dX8_isSymbol_1 : decode cX8_isSymbol 1 = .ok (.bipush 59, 2) := by decide +kernel
theorem dX8_isSymbol_3 : decode cX8_isSymbol 3 = .ok (.if_icmp .eq 57, 3) := by decide +kernel
theorem dX8_isSymbol_6 : decode cX8_isSymbol 6 = .ok (.iload_n 0, 1) := by decide +kernel
theorem dX8_isSymbol_7 : decode cX8_isSymbol 7 = .ok (.bipush 43, 2) := by decide +kernel
theorem dX8_isSymbol_9 : decode cX8_isSymbol 9 = .ok (.if_icmp .eq 51, 3) := by decide +kernel
theorem dX8_isSymbol_12 : decode cX8_isSymbol 12 = .ok (.iload_n 0, 1) := by decide +kernel
theorem dX8_isSymbol_13 : decode cX8_isSymbol 13 = .ok (.bipush 45, 2) := by decide +kernel
theorem dX8_isSymbol_15 : decode cX8_isSymbol 15 = .ok (.if_icmp .eq 45, 3) := by decide +kernel
theorem dX8_isSymbol_18 : decode cX8_isSymbol 18 = .ok (.iload_n 0, 1) := by decide +kernel
theorem dX8_isSymbol_19 : decode cX8_isSymbol 19 = .ok (.bipush 42, 2) := by decide +kernel
theorem dX8_isSymbol_21 : decode cX8_isSymbol 21 = .ok (.if_icmp .eq 39, 3) := by decide +kernel
theorem dX8_isSymbol_24 : decode cX8_isSymbol 24 = .ok (.iload_n 0, 1) := by decide +kernel
theorem dX8_isSymbol_25 : decode cX8_isSymbol 25 = .ok (.bipush 47, 2) := by decide +kernel
theorem dX8_isSymbol_27 : decode cX8_isSymbol 27 = .ok (.if_icmp .eq 33, 3) := by decide +kernel
theorem dX8_isSymbol_30 : decode cX8_isSymbol 30 = .ok (.iload_n 0, 1) := by decide +kernel
theorem dX8_isSymbol_31 : decode cX8_isSymbol 31 = .ok (.bipush 40, 2) := by decide +kernel
theorem dX8_isSymbol_33 : decode cX8_isSymbol 33 = .ok (.if_icmp .eq 27, 3) := by decide +kernel
theorem dX8_isSymbol_36 : decode cX8_isSymbol 36 = .ok (.iload_n 0, 1) := by decide +kernel
theorem dX8_isSymbol_37 : decode cX8_isSymbol 37 = .ok (.bipush 41, 2) := by decide +kernel
theorem dX8_isSymbol_39 : decode cX8_isSymbol 39 = .ok (.if_icmp .eq 21, 3) := by decide +kernel
theorem dX8_isSymbol_42 : decode cX8_isSymbol 42 = .ok (.iload_n 0, 1) := by decide +kernel
theorem dX8_isSymbol_43 : decode cX8_isSymbol 43 = .ok (.bipush 60, 2) := by decide +kernel
theorem dX8_isSymbol_45 : decode cX8_isSymbol 45 = .ok (.if_icmp .eq 15, 3) := by decide +kernel
theorem dX8_isSymbol_48 : decode cX8_isSymbol 48 = .ok (.iload_n 0, 1) := by decide +kernel
theorem dX8_isSymbol_49 : decode cX8_isSymbol 49 = .ok (.bipush 61, 2) := by decide +kernel
theorem dX8_isSymbol_51 : decode cX8_isSymbol 51 = .ok (.if_icmp .eq 9, 3) := by decide +kernel
theorem dX8_isSymbol_54 : decode cX8_isSymbol 54 = .ok (.iload_n 0, 1) := by decide +kernel
theorem dX8_isSymbol_55 : decode cX8_isSymbol 55 = .ok (.bipush 62, 2) := by decide +kernel
theorem dX8_isSymbol_57 : decode cX8_isSymbol 57 = .ok (.if_icmp .ne 7, 3) := by decide +kernel
theorem dX8_isSymbol_60 : decode cX8_isSymbol 60 = .ok (.iconst 1, 1) := by decide +kernel
theorem dX8_isSymbol_61 : decode cX8_isSymbol 61 = .ok (.goto 4, 3) := by decide +kernel
theorem dX8_isSymbol_64 : decode cX8_isSymbol 64 = .ok (.iconst 0, 1) := by decide +kernel
theorem dX8_isSymbol_65 : decode cX8_isSymbol 65 = .ok (.ireturn, 1) := by decide +kernel
theorem dX9_init_0 : decode cX9_init 0 = .ok (.aload_n 0, 1) := by decide +kernel
theorem dX9_init_1 : decode cX9_init 1 = .ok (.invokespecial 1, 3) := by decide +kernel
theorem dX9_init_4 : decode cX9_init 4 = .ok (.aload_n 0, 1) := by decide +kernel
theorem dX9_init_5 : decode cX9_init 5 = .ok (.new 7, 3) := by decide +kernel
theorem dX9_init_8 : decode cX9_init 8 = .ok (.dup, 1) := by decide +kernel
theorem dX9_init_9 : decode cX9_init 9 = .ok (.invokespecial 9, 3) := by decide +kernel
theorem dX9_init_12 : decode cX9_init 12 = .ok (.putfield 10, 3) := by decide +kernel
theorem dX9_init_15 : decode cX9_init 15 = .ok (.aload_n 0, 1) := by decide +kernel
theorem dX9_init_16 : decode cX9_init 16 = .ok (.new 7, 3) := by decide +kernel
theorem dX9_init_19 : decode cX9_init 19 = .ok (.dup, 1) := by decide +kernel
theorem dX9_init_20 : decode cX9_init 20 = .ok (.invokespecial 9, 3) := by decide +kernel
theorem dX9_init_23 : decode cX9_init 23 = .ok (.putfield 16, 3) := by decide +kernel
theorem dX9_init_26 : decode cX9_init 26 = .ok (.aload_n 0, 1) := by decide +kernel
theorem dX9_init_27 : decode cX9_init 27 = .ok (.new 7, 3) := by decide +kernel
theorem dX9_init_30 : decode cX9_init 30 = .ok (.dup, 1) := by decide +kernel
theorem dX9_init_31 : decode cX9_init 31 = .ok (.invokespecial 9, 3) := by decide +kernel
theorem dX9_init_34 : decode cX9_init 34 = .ok (.putfield 19, 3) := by decide +kernel
theorem dX9_init_37 : decode cX9_init 37 = .ok (.aload_n 0, 1) := by decide +kernel
theorem dX9_init_38 : decode cX9_init 38 = .ok (.new 22, 3) := by decide +kernel
theorem dX9_init_41 : decode cX9_init 41 = .ok (.dup, 1) := by decide +kernel
theorem dX9_init_42 : decode cX9_init 42 = .ok (.invokespecial 24, 3) := by decide +kernel
theorem dX9_init_45 : decode cX9_init 45 = .ok (.putfield 25, 3) := by decide +kernel
theorem dX9_init_48 : decode cX9_init 48 = .ok (.return_, 1) := by decide +kernel
theorem dX9_lines_0 : decode cX9_lines 0 = .ok (.iload_n 1, 1) := by decide +kernel
theorem dX9_lines_1 : decode cX9_lines 1 = .ok (.ifCond .ne 8, 3) := by decide +kernel
theorem dX9_lines_4 : decode cX9_lines 4 = .ok (.aload_n 0, 1) := by decide +kernel
theorem dX9_lines_5 : decode cX9_lines 5 = .ok (.getfield 10, 3) := by decide +kernel
theorem dX9_lines_8 : decode cX9_lines 8 = .ok (.areturn, 1) := by decide +kernel
theorem dX9_lines_9 : decode cX9_lines 9 = .ok (.iload_n 1, 1) := by decide +kernel
theorem dX9_lines_10 : decode cX9_lines 10 = .ok (.iconst 1, 1) := by decide +kernel
theorem dX9_lines_11 : decode cX9_lines 11 = .ok (.if_icmp .ne 10, 3) := by decide +kernel
theorem dX9_lines_14 : decode cX9_lines 14 = .ok (.aload_n 0, 1) := by decide +kernel
theorem dX9_lines_15 : decode cX9_lines 15 = .ok (.getfield 16, 3) := by decide +kernel
theorem dX9_lines_18 : decode cX9_lines 18 = .ok (.goto 7, 3) := by decide +kernel
theorem dX9_lines_21 : decode cX9_lines 21 = .ok (.aload_n 0, 1) := by decide +kernel
theorem dX9_lines_22 : decode cX9_lines 22 = .ok (.getfield 19, 3) := by decide +kernel
theorem dX9_lines_25 : decode cX9_lines 25 = .ok (.areturn, 1) := by decide +kernel
theorem dX9_copy_0 : decode cX9_copy 0 = .ok (.aload_n 0, 1) := by decide +kernel
theorem dX9_copy_1 : decode cX9_copy 1 = .ok (.getfield 10, 3) := by decide +kernel
theorem dX9_copy_4 : decode cX9_copy 4 = .ok (.aload_n 1, 1) := by decide +kernel
theorem dX9_copy_5 : decode cX9_copy 5 = .ok (.getfield 10, 3) := by decide +kernel
theorem dX9_copy_8 : decode cX9_copy 8 = .ok (.invokevirtual 29, 3) := by decide +kernel
theorem dX9_copy_11 : decode cX9_copy 11 = .ok (.aload_n 0, 1) := by decide +kernel
theorem dX9_copy_12 : decode cX9_copy 12 = .ok (.getfield 16, 3) := by decide +kernel
theorem dX9_copy_15 : decode cX9_copy 15 = .ok (.aload_n 1, 1) := by decide +kernel
theorem dX9_copy_16 : decode cX9_copy 16 = .ok (.getfield 16, 3) := by decide +kernel
theorem dX9_copy_19 : decode cX9_copy 19 = .ok (.invokevirtual 29, 3) := by decide +kernel
theorem dX9_copy_22 : decode cX9_copy 22 = .ok (.aload_n 0, 1) := by decide +kernel
theorem dX9_copy_23 : decode cX9_copy 23 = .ok (.getfield 19, 3) := by decide +kernel
theorem dX9_copy_26 : decode cX9_copy 26 = .ok (.aload_n 1, 1) := by decide +kernel
theorem dX9_copy_27 : decode cX9_copy 27 = .ok (.getfield 19, 3) := by decide +kernel
theorem dX9_copy_30 : decode cX9_copy 30 = .ok (.invokevirtual 29, 3) := by decide +kernel
theorem dX9_copy_33 : decode cX9_copy 33 = .ok (.aload_n 0, 1) := by decide +kernel
theorem dX9_copy_34 : decode cX9_copy 34 = .ok (.getfield 25, 3) := by decide +kernel
theorem dX9_copy_37 : decode cX9_copy 37 = .ok (.aload_n 1, 1) := by decide +kernel
theorem dX9_copy_38 : decode cX9_copy 38 = .ok (.getfield 25, 3) := by decide +kernel
theorem dX9_copy_41 : decode cX9_copy 41 = .ok (.invokevirtual 33, 3) := by decide +kernel
theorem dX9_copy_44 : decode cX9_copy 44 = .ok (.return_, 1) := by decide +kernel
theorem dX10_init_0 : decode cX10_init 0 = .ok (.aload_n 0, 1) := by decide +kernel
theorem dX10_init_1 : decode cX10_init 1 = .ok (.invokespecial 3, 3) := by decide +kernel
theorem dX10_init_4 : decode cX10_init 4 = .ok (.aload_n 0, 1) := by decide +kernel
theorem dX10_init_5 : decode cX10_init 5 = .ok (.bipush 7, 2) := by decide +kernel
theorem dX10_init_7 : decode cX10_init 7 = .ok (.newarray .int, 2) := by decide +kernel
theorem dX10_init_9 : decode cX10_init 9 = .ok (.putfield 11, 3) := by decide +kernel
theorem dX10_init_12 : decode cX10_init 12 = .ok (.aload_n 0, 1) := by decide +kernel
theorem dX10_init_13 : decode cX10_init 13 = .ok (.aload_n 1, 1) := by decide +kernel
theorem dX10_init_14 : decode cX10_init 14 = .ok (.putfield 15, 3) := by decide +kernel
theorem dX10_init_17 : decode cX10_init 17 = .ok (.return_, 1) := by decide +kernel
theorem dX10_bestChange_0 : decode cX10_bestChange 0 = .ok (.aload_n 3, 1) := by decide +kernel
theorem dX10_bestChange_1 : decode cX10_bestChange 1 = .ok (.aload_n 2, 1) := by decide +kernel
theorem dX10_bestChange_2 : decode cX10_bestChange 2 = .ok (.invokevirtual 19, 3) := by decide +kernel
theorem dX10_bestChange_5 : decode cX10_bestChange 5 = .ok (.iconst 0, 1) := by decide +kernel
theorem dX10_bestChange_6 : decode cX10_bestChange 6 = .ok (.istore 5, 2) := by decide +kernel
theorem dX10_bestChange_8 : decode cX10_bestChange 8 = .ok (.aload_n 0, 1) := by decide +kernel
theorem dX10_bestChange_9 : decode cX10_bestChange 9 = .ok (.getfield 15, 3) := by decide +kernel
theorem dX10_bestChange_12 : decode cX10_bestChange 12 = .ok (.aload_n 2, 1) := by decide +kernel
theorem dX10_bestChange_13 : decode cX10_bestChange 13 = .ok (.aload 4, 2) := by decide +kernel
theorem dX10_bestChange_15 : decode cX10_bestChange 15 = .ok (.invokevirtual 25, 3) := by decide +kernel
theorem dX10_bestChange_18 : decode cX10_bestChange 18 = .ok (.lstore 6, 2) := by decide +kernel
theorem dX10_bestChange_20 : decode cX10_bestChange 20 = .ok (.iconst 1, 1) := by decide +kernel
theorem dX10_bestChange_21 : decode cX10_bestChange 21 = .ok (.istore 8, 2) := by decide +kernel
theorem dX10_bestChange_23 : decode cX10_bestChange 23 = .ok (.iload 8, 2) := by decide +kernel
theorem dX10_bestChange_25 : decode cX10_bestChange 25 = .ok (.iconst 1, 1) := by decide +kernel
theorem dX10_bestChange_26 : decode cX10_bestChange 26 = .ok (.aload_n 2, 1) := by decide +kernel
theorem dX10_bestChange_27 : decode cX10_bestChange 27 = .ok (.getfield 31, 3) := by decide +kernel
theorem dX10_bestChange_30 : decode cX10_bestChange 30 = .ok (.ishl, 1) := by decide +kernel
theorem dX10_bestChange_31 : decode cX10_bestChange 31 = .ok (.if_icmp .ge 78, 3) := by decide +kernel
theorem dX10_bestChange_34 : decode cX10_bestChange 34 = .ok (.iload 8, 2) := by decide +kernel
theorem dX10_bestChange_36 : decode cX10_bestChange 36 = .ok (.invokestatic 35, 3) := by decide +kernel
theorem dX10_bestChange_39 : decode cX10_bestChange 39 = .ok (.istore 9, 2) := by decide +kernel
theorem dX10_bestChange_41 : decode cX10_bestChange 41 = .ok (.iload 9, 2) := by decide +kernel
theorem dX10_bestChange_43 : decode cX10_bestChange 43 = .ok (.iload_n 1, 1) := by decide +kernel
theorem dX10_bestChange_44 : decode cX10_bestChange 44 = .ok (.if_icmp .le 6, 3) := by decide +kernel
theorem dX10_bestChange_47 : decode cX10_bestChange 47 = .ok (.goto 56, 3) := by decide +kernel
theorem dX10_bestChange_50 : decode cX10_bestChange 50 = .ok (.aload_n 3, 1) := by decide +kernel
theorem dX10_bestChange_51 : decode cX10_bestChange 51 = .ok (.aload_n 2, 1) := by decide +kernel
theorem dX10_bestChange_52 : decode cX10_bestChange 52 = .ok (.iload 8, 2) := by decide +kernel
theorem dX10_bestChange_54 : decode cX10_bestChange 54 = .ok (.invokestatic 41, 3) := by decide +kernel
theorem dX10_bestChange_57 : decode cX10_bestChange 57 = .ok (.aload_n 0, 1) := by decide +kernel
theorem dX10_bestChange_58 : decode cX10_bestChange 58 = .ok (.getfield 15, 3) := by decide +kernel
theorem dX10_bestChange_61 : decode cX10_bestChange 61 = .ok (.aload_n 3, 1) := by decide +kernel
theorem dX10_bestChange_62 : decode cX10_bestChange 62 = .ok (.aload 4, 2) := by decide +kernel
theorem dX10_bestChange_64 : decode cX10_bestChange 64 = .ok (.invokevirtual 25, 3) := by decide +kernel
theorem dX10_bestChange_67 : decode cX10_bestChange 67 = .ok (.lstore 10, 2) := by decide +kernel
theorem dX10_bestChange_69 : decode cX10_bestChange 69 = .ok (.lload 10, 2) := by decide +kernel
theorem dX10_bestChange_71 : decode cX10_bestChange 71 = .ok (.lload 6, 2) := by decide +kernel
theorem dX10_bestChange_73 : decode cX10_bestChange 73 = .ok (.lcmp, 1) := by decide +kernel
theorem dX10_bestChange_74 : decode cX10_bestChange 74 = .ok (.ifCond .lt 21, 3) := by decide +kernel
theorem dX10_bestChange_77 : decode cX10_bestChange 77 = .ok (.lload 10, 2) := by decide +kernel
theorem dX10_bestChange_79 : decode cX10_bestChange 79 = .ok (.lload 6, 2) := by decide +kernel
theorem dX10_bestChange_81 : decode cX10_bestChange 81 = .ok (.lcmp, 1) := by decide +kernel
theorem dX10_bestChange_82 : decode cX10_bestChange 82 = .ok (.ifCond .ne 21, 3) := by decide +kernel
theorem dX10_bestChange_85 : decode cX10_bestChange 85 = .ok (.iload 9, 2) := by decide +kernel
theorem dX10_bestChange_87 : decode cX10_bestChange 87 = .ok (.iload 5, 2) := by decide +kernel
theorem dX10_bestChange_89 : decode cX10_bestChange 89 = .ok (.invokestatic 35, 3) := by decide +kernel
theorem dX10_bestChange_92 : decode cX10_bestChange 92 = .ok (.if_icmp .ge 11, 3) := by decide +kernel
theorem dX10_bestChange_95 : decode cX10_bestChange 95 = .ok (.iload 8, 2) := by decide +kernel
theorem dX10_bestChange_97 : decode cX10_bestChange 97 = .ok (.istore 5, 2) := by decide +kernel
theorem dX10_bestChange_99 : decode cX10_bestChange 99 = .ok (.lload 10, 2) := by decide +kernel
theorem dX10_bestChange_101 : decode cX10_bestChange 101 = .ok (.lstore 6, 2) := by decide +kernel
theorem dX10_bestChange_103 : decode cX10_bestChange 103 = .ok (.iinc 8 1, 3) := by decide +kernel
theorem dX10_bestChange_106 : decode cX10_bestChange 106 = .ok (.goto (-83), 3) := by decide +kernel
theorem dX10_bestChange_109 : decode cX10_bestChange 109 = .ok (.iload 5, 2) := by decide +kernel
theorem dX10_bestChange_111 : decode cX10_bestChange 111 = .ok (.ireturn, 1) := by decide +kernel
theorem dX10_renew_0 : decode cX10_renew 0 = .ok (.aload_n 0, 1) := by decide +kernel
theorem dX10_renew_1 : decode cX10_renew 1 = .ok (.aload_n 1, 1) := by decide +kernel
theorem dX10_renew_2 : decode cX10_renew 2 = .ok (.getfield 45, 3) := by decide +kernel
theorem dX10_renew_5 : decode cX10_renew 5 = .ok (.iload_n 2, 1) := by decide +kernel
theorem dX10_renew_6 : decode cX10_renew 6 = .ok (.i2l, 1) := by decide +kernel
theorem dX10_renew_7 : decode cX10_renew 7 = .ok (.ldc2_w 49, 3) := by decide +kernel
theorem dX10_renew_10 : decode cX10_renew 10 = .ok (.lxor, 1) := by decide +kernel
theorem dX10_renew_11 : decode cX10_renew 11 = .ok (.land, 1) := by decide +kernel
theorem dX10_renew_12 : decode cX10_renew 12 = .ok (.putfield 45, 3) := by decide +kernel
theorem dX10_renew_15 : decode cX10_renew 15 = .ok (.iconst 0, 1) := by decide +kernel
theorem dX10_renew_16 : decode cX10_renew 16 = .ok (.istore_n 3, 1) := by decide +kernel
theorem dX10_renew_17 : decode cX10_renew 17 = .ok (.iload_n 3, 1) := by decide +kernel
theorem dX10_renew_18 : decode cX10_renew 18 = .ok (.aload_n 1, 1) := by decide +kernel
theorem dX10_renew_19 : decode cX10_renew 19 = .ok (.getfield 31, 3) := by decide +kernel
theorem dX10_renew_22 : decode cX10_renew 22 = .ok (.if_icmp .ge 35, 3) := by decide +kernel
theorem dX10_renew_25 : decode cX10_renew 25 = .ok (.aload_n 0, 1) := by decide +kernel
theorem dX10_renew_26 : decode cX10_renew 26 = .ok (.getfield 51, 3) := by decide +kernel
theorem dX10_renew_29 : decode cX10_renew 29 = .ok (.iload_n 3, 1) := by decide +kernel
theorem dX10_renew_30 : decode cX10_renew 30 = .ok (.iload_n 2, 1) := by decide +kernel
theorem dX10_renew_31 : decode cX10_renew 31 = .ok (.i2l, 1) := by decide +kernel
theorem dX10_renew_32 : decode cX10_renew 32 = .ok (.iload_n 3, 1) := by decide +kernel
theorem dX10_renew_33 : decode cX10_renew 33 = .ok (.invokestatic 54, 3) := by decide +kernel
theorem dX10_renew_36 : decode cX10_renew 36 = .ok (.iconst 1, 1) := by decide +kernel
theorem dX10_renew_37 : decode cX10_renew 37 = .ok (.if_icmp .ne 7, 3) := by decide +kernel
theorem dX10_renew_40 : decode cX10_renew 40 = .ok (.iconst 0, 1) := by decide +kernel
theorem dX10_renew_41 : decode cX10_renew 41 = .ok (.goto 9, 3) := by decide +kernel
theorem dX10_renew_44 : decode cX10_renew 44 = .ok (.aload_n 1, 1) := by decide +kernel
theorem dX10_renew_45 : decode cX10_renew 45 = .ok (.getfield 51, 3) := by decide +kernel
theorem dX10_renew_48 : decode cX10_renew 48 = .ok (.iload_n 3, 1) := by decide +kernel
theorem dX10_renew_49 : decode cX10_renew 49 = .ok (.iaload, 1) := by decide +kernel
theorem dX10_renew_50 : decode cX10_renew 50 = .ok (.iastore, 1) := by decide +kernel
theorem dX10_renew_51 : decode cX10_renew 51 = .ok (.iinc 3 1, 3) := by decide +kernel
theorem dX10_renew_54 : decode cX10_renew 54 = .ok (.goto (-37), 3) := by decide +kernel
theorem dX10_renew_57 : decode cX10_renew 57 = .ok (.return_, 1) := by decide +kernel
theorem dX10_bestOrder_0 : decode cX10_bestOrder 0 = .ok (.aload_n 3, 1) := by decide +kernel
theorem dX10_bestOrder_1 : decode cX10_bestOrder 1 = .ok (.aload_n 2, 1) := by decide +kernel
theorem dX10_bestOrder_2 : decode cX10_bestOrder 2 = .ok (.invokevirtual 19, 3) := by decide +kernel
theorem dX10_bestOrder_5 : decode cX10_bestOrder 5 = .ok (.aload_n 3, 1) := by decide +kernel
theorem dX10_bestOrder_6 : decode cX10_bestOrder 6 = .ok (.lconst 0, 1) := by decide +kernel
theorem dX10_bestOrder_7 : decode cX10_bestOrder 7 = .ok (.putfield 45, 3) := by decide +kernel
theorem dX10_bestOrder_10 : decode cX10_bestOrder 10 = .ok (.aload_n 3, 1) := by decide +kernel
theorem dX10_bestOrder_11 : decode cX10_bestOrder 11 = .ok (.getfield 51, 3) := by decide +kernel
theorem dX10_bestOrder_14 : decode cX10_bestOrder 14 = .ok (.iconst 0, 1) := by decide +kernel
theorem dX10_bestOrder_15 : decode cX10_bestOrder 15 = .ok (.invokestatic 58, 3) := by decide +kernel
theorem dX10_bestOrder_18 : decode cX10_bestOrder 18 = .ok (.aload_n 3, 1) := by decide +kernel
theorem dX10_bestOrder_19 : decode cX10_bestOrder 19 = .ok (.getfield 64, 3) := by decide +kernel
theorem dX10_bestOrder_22 : decode cX10_bestOrder 22 = .ok (.aload_n 2, 1) := by decide +kernel
theorem dX10_bestOrder_23 : decode cX10_bestOrder 23 = .ok (.getfield 31, 3) := by decide +kernel
theorem dX10_bestOrder_26 : decode cX10_bestOrder 26 = .ok (.invokestatic 67, 3) := by decide +kernel
theorem dX10_bestOrder_29 : decode cX10_bestOrder 29 = .ok (.ldc2_w 70, 3) := by decide +kernel
theorem dX10_bestOrder_32 : decode cX10_bestOrder 32 = .ok (.lstore 5, 2) := by decide +kernel
theorem dX10_bestOrder_34 : decode cX10_bestOrder 34 = .ok (.iconst 0, 1) := by decide +kernel
theorem dX10_bestOrder_35 : decode cX10_bestOrder 35 = .ok (.istore 7, 2) := by decide +kernel
theorem dX10_bestOrder_37 : decode cX10_bestOrder 37 = .ok (.iload 7, 2) := by decide +kernel
theorem dX10_bestOrder_39 : decode cX10_bestOrder 39 = .ok (.sipush 5040, 3) := by decide +kernel
theorem dX10_bestOrder_42 : decode cX10_bestOrder 42 = .ok (.if_icmp .ge 72, 3) := by decide +kernel
theorem dX10_bestOrder_45 : decode cX10_bestOrder 45 = .ok (.aload_n 0, 1) := by decide +kernel
theorem dX10_bestOrder_46 : decode cX10_bestOrder 46 = .ok (.getfield 15, 3) := by decide +kernel
theorem dX10_bestOrder_49 : decode cX10_bestOrder 49 = .ok (.aload_n 3, 1) := by decide +kernel
theorem dX10_bestOrder_50 : decode cX10_bestOrder 50 = .ok (.aload 4, 2) := by decide +kernel
theorem dX10_bestOrder_52 : decode cX10_bestOrder 52 = .ok (.invokevirtual 25, 3) := by decide +kernel
theorem dX10_bestOrder_55 : decode cX10_bestOrder 55 = .ok (.lstore 8, 2) := by decide +kernel
theorem dX10_bestOrder_57 : decode cX10_bestOrder 57 = .ok (.lload 8, 2) := by decide +kernel
theorem dX10_bestOrder_59 : decode cX10_bestOrder 59 = .ok (.lload 5, 2) := by decide +kernel
theorem dX10_bestOrder_61 : decode cX10_bestOrder 61 = .ok (.lcmp, 1) := by decide +kernel
theorem dX10_bestOrder_62 : decode cX10_bestOrder 62 = .ok (.ifCond .ge 29, 3) := by decide +kernel
theorem dX10_bestOrder_65 : decode cX10_bestOrder 65 = .ok (.lload 8, 2) := by decide +kernel
theorem dX10_bestOrder_67 : decode cX10_bestOrder 67 = .ok (.lstore 5, 2) := by decide +kernel
theorem dX10_bestOrder_69 : decode cX10_bestOrder 69 = .ok (.aload_n 3, 1) := by decide +kernel
theorem dX10_bestOrder_70 : decode cX10_bestOrder 70 = .ok (.getfield 64, 3) := by decide +kernel
theorem dX10_bestOrder_73 : decode cX10_bestOrder 73 = .ok (.iconst 0, 1) := by decide +kernel
theorem dX10_bestOrder_74 : decode cX10_bestOrder 74 = .ok (.aload_n 0, 1) := by decide +kernel
theorem dX10_bestOrder_75 : decode cX10_bestOrder 75 = .ok (.getfield 11, 3) := by decide +kernel
theorem dX10_bestOrder_78 : decode cX10_bestOrder 78 = .ok (.iconst 0, 1) := by decide +kernel
theorem dX10_bestOrder_79 : decode cX10_bestOrder 79 = .ok (.aload_n 2, 1) := by decide +kernel
theorem dX10_bestOrder_80 : decode cX10_bestOrder 80 = .ok (.getfield 31, 3) := by decide +kernel
theorem dX10_bestOrder_83 : decode cX10_bestOrder 83 = .ok (.bipush 7, 2) := by decide +kernel
theorem dX10_bestOrder_85 : decode cX10_bestOrder 85 = .ok (.invokestatic 72, 3) := by decide +kernel
theorem dX10_bestOrder_88 : decode cX10_bestOrder 88 = .ok (.invokestatic 78, 3) := by decide +kernel
theorem dX10_bestOrder_91 : decode cX10_bestOrder 91 = .ok (.aload_n 3, 1) := by decide +kernel
theorem dX10_bestOrder_92 : decode cX10_bestOrder 92 = .ok (.getfield 64, 3) := by decide +kernel
theorem dX10_bestOrder_95 : decode cX10_bestOrder 95 = .ok (.aload_n 2, 1) := by decide +kernel
theorem dX10_bestOrder_96 : decode cX10_bestOrder 96 = .ok (.getfield 31, 3) := by decide +kernel
theorem dX10_bestOrder_99 : decode cX10_bestOrder 99 = .ok (.invokestatic 84, 3) := by decide +kernel
theorem dX10_bestOrder_102 : decode cX10_bestOrder 102 = .ok (.ifCond .ne 6, 3) := by decide +kernel
theorem dX10_bestOrder_105 : decode cX10_bestOrder 105 = .ok (.goto 9, 3) := by decide +kernel
theorem dX10_bestOrder_108 : decode cX10_bestOrder 108 = .ok (.iinc 7 1, 3) := by decide +kernel
theorem dX10_bestOrder_111 : decode cX10_bestOrder 111 = .ok (.goto (-74), 3) := by decide +kernel
theorem dX10_bestOrder_114 : decode cX10_bestOrder 114 = .ok (.iload_n 1, 1) := by decide +kernel
theorem dX10_bestOrder_115 : decode cX10_bestOrder 115 = .ok (.bipush 7, 2) := by decide +kernel
theorem dX10_bestOrder_117 : decode cX10_bestOrder 117 = .ok (.if_icmp .ge 12, 3) := by decide +kernel
theorem dX10_bestOrder_120 : decode cX10_bestOrder 120 = .ok (.aload_n 0, 1) := by decide +kernel
theorem dX10_bestOrder_121 : decode cX10_bestOrder 121 = .ok (.getfield 11, 3) := by decide +kernel
theorem dX10_bestOrder_124 : decode cX10_bestOrder 124 = .ok (.iload_n 1, 1) := by decide +kernel
theorem dX10_bestOrder_125 : decode cX10_bestOrder 125 = .ok (.iaload, 1) := by decide +kernel
theorem dX10_bestOrder_126 : decode cX10_bestOrder 126 = .ok (.goto 4, 3) := by decide +kernel
theorem dX10_bestOrder_129 : decode cX10_bestOrder 129 = .ok (.iconst (-1), 1) := by decide +kernel
theorem dX10_bestOrder_130 : decode cX10_bestOrder 130 = .ok (.ireturn, 1) := by decide +kernel
theorem dX10_sortUp_0 : decode cX10_sortUp 0 = .ok (.iconst 1, 1) := by decide +kernel
theorem dX10_sortUp_1 : decode cX10_sortUp 1 = .ok (.istore_n 2, 1) := by decide +kernel
theorem dX10_sortUp_2 : decode cX10_sortUp 2 = .ok (.iload_n 2, 1) := by decide +kernel
theorem dX10_sortUp_3 : decode cX10_sortUp 3 = .ok (.iload_n 1, 1) := by decide +kernel
theorem dX10_sortUp_4 : decode cX10_sortUp 4 = .ok (.if_icmp .ge 40, 3) := by decide +kernel
theorem dX10_sortUp_7 : decode cX10_sortUp 7 = .ok (.iload_n 2, 1) := by decide +kernel
theorem dX10_sortUp_8 : decode cX10_sortUp 8 = .ok (.istore_n 3, 1) := by decide +kernel
theorem dX10_sortUp_9 : decode cX10_sortUp 9 = .ok (.iload_n 3, 1) := by decide +kernel
theorem dX10_sortUp_10 : decode cX10_sortUp 10 = .ok (.ifCond .le 28, 3) := by decide +kernel
theorem dX10_sortUp_13 : decode cX10_sortUp 13 = .ok (.aload_n 0, 1) := by decide +kernel
theorem dX10_sortUp_14 : decode cX10_sortUp 14 = .ok (.iload_n 3, 1) := by decide +kernel
theorem dX10_sortUp_15 : decode cX10_sortUp 15 = .ok (.iconst 1, 1) := by decide +kernel
theorem dX10_sortUp_16 : decode cX10_sortUp 16 = .ok (.isub, 1) := by decide +kernel
theorem dX10_sortUp_17 : decode cX10_sortUp 17 = .ok (.iaload, 1) := by decide +kernel
theorem dX10_sortUp_18 : decode cX10_sortUp 18 = .ok (.aload_n 0, 1) := by decide +kernel
theorem dX10_sortUp_19 : decode cX10_sortUp 19 = .ok (.iload_n 3, 1) := by decide +kernel
theorem dX10_sortUp_20 : decode cX10_sortUp 20 = .ok (.iaload, 1) := by decide +kernel
theorem dX10_sortUp_21 : decode cX10_sortUp 21 = .ok (.if_icmp .le 17, 3) := by decide +kernel
theorem dX10_sortUp_24 : decode cX10_sortUp 24 = .ok (.aload_n 0, 1) := by decide +kernel
theorem dX10_sortUp_25 : decode cX10_sortUp 25 = .ok (.iload_n 3, 1) := by decide +kernel
theorem dX10_sortUp_26 : decode cX10_sortUp 26 = .ok (.iconst 1, 1) := by decide +kernel
theorem dX10_sortUp_27 : decode cX10_sortUp 27 = .ok (.isub, 1) := by decide +kernel
theorem dX10_sortUp_28 : decode cX10_sortUp 28 = .ok (.iload_n 3, 1) := by decide +kernel
theorem dX10_sortUp_29 : decode cX10_sortUp 29 = .ok (.invokestatic 88, 3) := by decide +kernel
theorem dX10_sortUp_32 : decode cX10_sortUp 32 = .ok (.iinc 3 (-1), 3) := by decide +kernel
theorem dX10_sortUp_35 : decode cX10_sortUp 35 = .ok (.goto (-26), 3) := by decide +kernel
theorem dX10_sortUp_38 : decode cX10_sortUp 38 = .ok (.iinc 2 1, 3) := by decide +kernel
theorem dX10_sortUp_41 : decode cX10_sortUp 41 = .ok (.goto (-39), 3) := by decide +kernel
theorem dX10_sortUp_44 : decode cX10_sortUp 44 = .ok (.return_, 1) := by decide +kernel
theorem dX10_nextOrder_0 : decode cX10_nextOrder 0 = .ok (.iload_n 1, 1) := by decide +kernel
theorem dX10_nextOrder_1 : decode cX10_nextOrder 1 = .ok (.iconst 2, 1) := by decide +kernel
theorem dX10_nextOrder_2 : decode cX10_nextOrder 2 = .ok (.isub, 1) := by decide +kernel
theorem dX10_nextOrder_3 : decode cX10_nextOrder 3 = .ok (.istore_n 2, 1) := by decide +kernel
theorem dX10_nextOrder_4 : decode cX10_nextOrder 4 = .ok (.iload_n 2, 1) := by decide +kernel
theorem dX10_nextOrder_5 : decode cX10_nextOrder 5 = .ok (.ifCond .lt 20, 3) := by decide +kernel
theorem dX10_nextOrder_8 : decode cX10_nextOrder 8 = .ok (.aload_n 0, 1) := by decide +kernel
theorem dX10_nextOrder_9 : decode cX10_nextOrder 9 = .ok (.iload_n 2, 1) := by decide +kernel
theorem dX10_nextOrder_10 : decode cX10_nextOrder 10 = .ok (.iaload, 1) := by decide +kernel
theorem dX10_nextOrder_11 : decode cX10_nextOrder 11 = .ok (.aload_n 0, 1) := by decide +kernel
theorem dX10_nextOrder_12 : decode cX10_nextOrder 12 = .ok (.iload_n 2, 1) := by decide +kernel
theorem dX10_nextOrder_13 : decode cX10_nextOrder 13 = .ok (.iconst 1, 1) := by decide +kernel
theorem dX10_nextOrder_14 : decode cX10_nextOrder 14 = .ok (.iadd, 1) := by decide +kernel
theorem dX10_nextOrder_15 : decode cX10_nextOrder 15 = .ok (.iaload, 1) := by decide +kernel
theorem dX10_nextOrder_16 : decode cX10_nextOrder 16 = .ok (.if_icmp .lt 9, 3) := by decide +kernel
theorem dX10_nextOrder_19 : decode cX10_nextOrder 19 = .ok (.iinc 2 (-1), 3) := by decide +kernel
theorem dX10_nextOrder_22 : decode cX10_nextOrder 22 = .ok (.goto (-18), 3) := by decide +kernel
theorem dX10_nextOrder_25 : decode cX10_nextOrder 25 = .ok (.iload_n 2, 1) := by decide +kernel
theorem dX10_nextOrder_26 : decode cX10_nextOrder 26 = .ok (.ifCond .ge 5, 3) := by decide +kernel
theorem dX10_nextOrder_29 : decode cX10_nextOrder 29 = .ok (.iconst 0, 1) := by decide +kernel
theorem dX10_nextOrder_30 : decode cX10_nextOrder 30 = .ok (.ireturn, 1) := by decide +kernel
theorem dX10_nextOrder_31 : decode cX10_nextOrder 31 = .ok (.iload_n 1, 1) := by decide +kernel
theorem dX10_nextOrder_32 : decode cX10_nextOrder 32 = .ok (.iconst 1, 1) := by decide +kernel
theorem dX10_nextOrder_33 : decode cX10_nextOrder 33 = .ok (.isub, 1) := by decide +kernel
theorem dX10_nextOrder_34 : decode cX10_nextOrder 34 = .ok (.istore_n 3, 1) := by decide +kernel
theorem dX10_nextOrder_35 : decode cX10_nextOrder 35 = .ok (.iload_n 3, 1) := by decide +kernel
theorem dX10_nextOrder_36 : decode cX10_nextOrder 36 = .ok (.iload_n 2, 1) := by decide +kernel
theorem dX10_nextOrder_37 : decode cX10_nextOrder 37 = .ok (.if_icmp .le 18, 3) := by decide +kernel
theorem dX10_nextOrder_40 : decode cX10_nextOrder 40 = .ok (.aload_n 0, 1) := by decide +kernel
theorem dX10_nextOrder_41 : decode cX10_nextOrder 41 = .ok (.iload_n 3, 1) := by decide +kernel
theorem dX10_nextOrder_42 : decode cX10_nextOrder 42 = .ok (.iaload, 1) := by decide +kernel
theorem dX10_nextOrder_43 : decode cX10_nextOrder 43 = .ok (.aload_n 0, 1) := by decide +kernel
theorem dX10_nextOrder_44 : decode cX10_nextOrder 44 = .ok (.iload_n 2, 1) := by decide +kernel
theorem dX10_nextOrder_45 : decode cX10_nextOrder 45 = .ok (.iaload, 1) := by decide +kernel
theorem dX10_nextOrder_46 : decode cX10_nextOrder 46 = .ok (.if_icmp .gt 9, 3) := by decide +kernel
theorem dX10_nextOrder_49 : decode cX10_nextOrder 49 = .ok (.iinc 3 (-1), 3) := by decide +kernel
theorem dX10_nextOrder_52 : decode cX10_nextOrder 52 = .ok (.goto (-17), 3) := by decide +kernel
theorem dX10_nextOrder_55 : decode cX10_nextOrder 55 = .ok (.aload_n 0, 1) := by decide +kernel
theorem dX10_nextOrder_56 : decode cX10_nextOrder 56 = .ok (.iload_n 2, 1) := by decide +kernel
theorem dX10_nextOrder_57 : decode cX10_nextOrder 57 = .ok (.iload_n 3, 1) := by decide +kernel
theorem dX10_nextOrder_58 : decode cX10_nextOrder 58 = .ok (.invokestatic 88, 3) := by decide +kernel
theorem dX10_nextOrder_61 : decode cX10_nextOrder 61 = .ok (.iload_n 2, 1) := by decide +kernel
theorem dX10_nextOrder_62 : decode cX10_nextOrder 62 = .ok (.iconst 1, 1) := by decide +kernel
theorem dX10_nextOrder_63 : decode cX10_nextOrder 63 = .ok (.iadd, 1) := by decide +kernel
theorem dX10_nextOrder_64 : decode cX10_nextOrder 64 = .ok (.istore 4, 2) := by decide +kernel
theorem dX10_nextOrder_66 : decode cX10_nextOrder 66 = .ok (.iload_n 1, 1) := by decide +kernel
theorem dX10_nextOrder_67 : decode cX10_nextOrder 67 = .ok (.iconst 1, 1) := by decide +kernel
theorem dX10_nextOrder_68 : decode cX10_nextOrder 68 = .ok (.isub, 1) := by decide +kernel
theorem dX10_nextOrder_69 : decode cX10_nextOrder 69 = .ok (.istore 5, 2) := by decide +kernel
theorem dX10_nextOrder_71 : decode cX10_nextOrder 71 = .ok (.iload 4, 2) := by decide +kernel
theorem dX10_nextOrder_73 : decode cX10_nextOrder 73 = .ok (.iload 5, 2) := by decide +kernel
theorem dX10_nextOrder_75 : decode cX10_nextOrder 75 = .ok (.if_icmp .ge 20, 3) := by decide +kernel
theorem dX10_nextOrder_78 : decode cX10_nextOrder 78 = .ok (.aload_n 0, 1) := by decide +kernel
theorem dX10_nextOrder_79 : decode cX10_nextOrder 79 = .ok (.iload 4, 2) := by decide +kernel
theorem dX10_nextOrder_81 : decode cX10_nextOrder 81 = .ok (.iload 5, 2) := by decide +kernel
theorem dX10_nextOrder_83 : decode cX10_nextOrder 83 = .ok (.invokestatic 88, 3) := by decide +kernel
theorem dX10_nextOrder_86 : decode cX10_nextOrder 86 = .ok (.iinc 4 1, 3) := by decide +kernel
theorem dX10_nextOrder_89 : decode cX10_nextOrder 89 = .ok (.iinc 5 (-1), 3) := by decide +kernel
theorem dX10_nextOrder_92 : decode cX10_nextOrder 92 = .ok (.goto (-21), 3) := by decide +kernel
theorem dX10_nextOrder_95 : decode cX10_nextOrder 95 = .ok (.iconst 1, 1) := by decide +kernel
theorem dX10_nextOrder_96 : decode cX10_nextOrder 96 = .ok (.ireturn, 1) := by decide +kernel
theorem dX10_swap_0 : decode cX10_swap 0 = .ok (.aload_n 0, 1) := by decide +kernel
theorem dX10_swap_1 : decode cX10_swap 1 = .ok (.iload_n 1, 1) := by decide +kernel
theorem dX10_swap_2 : decode cX10_swap 2 = .ok (.iaload, 1) := by decide +kernel
theorem dX10_swap_3 : decode cX10_swap 3 = .ok (.istore_n 3, 1) := by decide +kernel
theorem dX10_swap_4 : decode cX10_swap 4 = .ok (.aload_n 0, 1) := by decide +kernel
theorem dX10_swap_5 : decode cX10_swap 5 = .ok (.iload_n 1, 1) := by decide +kernel
theorem dX10_swap_6 : decode cX10_swap 6 = .ok (.aload_n 0, 1) := by decide +kernel
theorem dX10_swap_7 : decode cX10_swap 7 = .ok (.iload_n 2, 1) := by decide +kernel
theorem dX10_swap_8 : decode cX10_swap 8 = .ok (.iaload, 1) := by decide +kernel
theorem dX10_swap_9 : decode cX10_swap 9 = .ok (.iastore, 1) := by decide +kernel
theorem dX10_swap_10 : decode cX10_swap 10 = .ok (.aload_n 0, 1) := by decide +kernel
theorem dX10_swap_11 : decode cX10_swap 11 = .ok (.iload_n 2, 1) := by decide +kernel
theorem dX10_swap_12 : decode cX10_swap 12 = .ok (.iload_n 3, 1) := by decide +kernel
theorem dX10_swap_13 : decode cX10_swap 13 = .ok (.iastore, 1) := by decide +kernel
theorem dX10_swap_14 : decode cX10_swap 14 = .ok (.return_, 1) := by decide +kernel
theorem dX10_leastWay_0 : decode cX10_leastWay 0 = .ok (.iload_n 1, 1) := by decide +kernel
theorem dX10_leastWay_1 : decode cX10_leastWay 1 = .ok (.invokestatic 35, 3) := by decide +kernel
theorem dX10_leastWay_4 : decode cX10_leastWay 4 = .ok (.istore 4, 2) := by decide +kernel
theorem dX10_leastWay_6 : decode cX10_leastWay 6 = .ok (.iconst 0, 1) := by decide +kernel
theorem dX10_leastWay_7 : decode cX10_leastWay 7 = .ok (.iload 4, 2) := by decide +kernel
theorem dX10_leastWay_9 : decode cX10_leastWay 9 = .ok (.aload_n 3, 1) := by decide +kernel
theorem dX10_leastWay_10 : decode cX10_leastWay 10 = .ok (.getfield 92, 3) := by decide +kernel
theorem dX10_leastWay_13 : decode cX10_leastWay 13 = .ok (.bipush 7, 2) := by decide +kernel
theorem dX10_leastWay_15 : decode cX10_leastWay 15 = .ok (.iaload, 1) := by decide +kernel
theorem dX10_leastWay_16 : decode cX10_leastWay 16 = .ok (.isub, 1) := by decide +kernel
theorem dX10_leastWay_17 : decode cX10_leastWay 17 = .ok (.invokestatic 95, 3) := by decide +kernel
theorem dX10_leastWay_20 : decode cX10_leastWay 20 = .ok (.istore 5, 2) := by decide +kernel
theorem dX10_leastWay_22 : decode cX10_leastWay 22 = .ok (.iload 4, 2) := by decide +kernel
theorem dX10_leastWay_24 : decode cX10_leastWay 24 = .ok (.aload_n 3, 1) := by decide +kernel
theorem dX10_leastWay_25 : decode cX10_leastWay 25 = .ok (.getfield 92, 3) := by decide +kernel
theorem dX10_leastWay_28 : decode cX10_leastWay 28 = .ok (.bipush 6, 2) := by decide +kernel
theorem dX10_leastWay_30 : decode cX10_leastWay 30 = .ok (.iaload, 1) := by decide +kernel
theorem dX10_leastWay_31 : decode cX10_leastWay 31 = .ok (.invokestatic 72, 3) := by decide +kernel
theorem dX10_leastWay_34 : decode cX10_leastWay 34 = .ok (.istore 6, 2) := by decide +kernel
theorem dX10_leastWay_36 : decode cX10_leastWay 36 = .ok (.iconst (-1), 1) := by decide +kernel
theorem dX10_leastWay_37 : decode cX10_leastWay 37 = .ok (.istore 7, 2) := by decide +kernel
theorem dX10_leastWay_39 : decode cX10_leastWay 39 = .ok (.iconst (-1), 1) := by decide +kernel
theorem dX10_leastWay_40 : decode cX10_leastWay 40 = .ok (.istore 8, 2) := by decide +kernel
theorem dX10_leastWay_42 : decode cX10_leastWay 42 = .ok (.iload 5, 2) := by decide +kernel
theorem dX10_leastWay_44 : decode cX10_leastWay 44 = .ok (.istore 9, 2) := by decide +kernel
theorem dX10_leastWay_46 : decode cX10_leastWay 46 = .ok (.iload 9, 2) := by decide +kernel
theorem dX10_leastWay_48 : decode cX10_leastWay 48 = .ok (.iload 6, 2) := by decide +kernel
theorem dX10_leastWay_50 : decode cX10_leastWay 50 = .ok (.if_icmp .gt 42, 3) := by decide +kernel
theorem dX10_leastWay_53 : decode cX10_leastWay 53 = .ok (.iload_n 1, 1) := by decide +kernel
theorem dX10_leastWay_54 : decode cX10_leastWay 54 = .ok (.iload 9, 2) := by decide +kernel
theorem dX10_leastWay_56 : decode cX10_leastWay 56 = .ok (.aload_n 3, 1) := by decide +kernel
theorem dX10_leastWay_57 : decode cX10_leastWay 57 = .ok (.getfield 31, 3) := by decide +kernel
theorem dX10_leastWay_60 : decode cX10_leastWay 60 = .ok (.invokestatic 98, 3) := by decide +kernel
theorem dX10_leastWay_63 : decode cX10_leastWay 63 = .ok (.istore 10, 2) := by decide +kernel
theorem dX10_leastWay_65 : decode cX10_leastWay 65 = .ok (.iload 7, 2) := by decide +kernel
theorem dX10_leastWay_67 : decode cX10_leastWay 67 = .ok (.iconst (-1), 1) := by decide +kernel
theorem dX10_leastWay_68 : decode cX10_leastWay 68 = .ok (.if_icmp .eq 10, 3) := by decide +kernel
theorem dX10_leastWay_71 : decode cX10_leastWay 71 = .ok (.iload 10, 2) := by decide +kernel
theorem dX10_leastWay_73 : decode cX10_leastWay 73 = .ok (.iload 8, 2) := by decide +kernel
theorem dX10_leastWay_75 : decode cX10_leastWay 75 = .ok (.if_icmp .ge 11, 3) := by decide +kernel
theorem dX10_leastWay_78 : decode cX10_leastWay 78 = .ok (.iload 9, 2) := by decide +kernel
theorem dX10_leastWay_80 : decode cX10_leastWay 80 = .ok (.istore 7, 2) := by decide +kernel
theorem dX10_leastWay_82 : decode cX10_leastWay 82 = .ok (.iload 10, 2) := by decide +kernel
theorem dX10_leastWay_84 : decode cX10_leastWay 84 = .ok (.istore 8, 2) := by decide +kernel
theorem dX10_leastWay_86 : decode cX10_leastWay 86 = .ok (.iinc 9 1, 3) := by decide +kernel
theorem dX10_leastWay_89 : decode cX10_leastWay 89 = .ok (.goto (-43), 3) := by decide +kernel
theorem dX10_leastWay_92 : decode cX10_leastWay 92 = .ok (.iload_n 2, 1) := by decide +kernel
theorem dX10_leastWay_93 : decode cX10_leastWay 93 = .ok (.ifCond .ne 8, 3) := by decide +kernel
theorem dX10_leastWay_96 : decode cX10_leastWay 96 = .ok (.iload 8, 2) := by decide +kernel
theorem dX10_leastWay_98 : decode cX10_leastWay 98 = .ok (.goto 5, 3) := by decide +kernel
theorem dX10_leastWay_101 : decode cX10_leastWay 101 = .ok (.iload 7, 2) := by decide +kernel
theorem dX10_leastWay_103 : decode cX10_leastWay 103 = .ok (.ireturn, 1) := by decide +kernel
theorem dX10_wayOf_0 : decode cX10_wayOf 0 = .ok (.iconst 0, 1) := by decide +kernel
theorem dX10_wayOf_1 : decode cX10_wayOf 1 = .ok (.istore_n 3, 1) := by decide +kernel
theorem dX10_wayOf_2 : decode cX10_wayOf 2 = .ok (.iconst 0, 1) := by decide +kernel
theorem dX10_wayOf_3 : decode cX10_wayOf 3 = .ok (.istore 4, 2) := by decide +kernel
theorem dX10_wayOf_5 : decode cX10_wayOf 5 = .ok (.iconst 0, 1) := by decide +kernel
theorem dX10_wayOf_6 : decode cX10_wayOf 6 = .ok (.istore 5, 2) := by decide +kernel
theorem dX10_wayOf_8 : decode cX10_wayOf 8 = .ok (.iload 5, 2) := by decide +kernel
theorem dX10_wayOf_10 : decode cX10_wayOf 10 = .ok (.iload_n 2, 1) := by decide +kernel
theorem dX10_wayOf_11 : decode cX10_wayOf 11 = .ok (.if_icmp .ge 43, 3) := by decide +kernel
theorem dX10_wayOf_14 : decode cX10_wayOf 14 = .ok (.iload_n 0, 1) := by decide +kernel
theorem dX10_wayOf_15 : decode cX10_wayOf 15 = .ok (.i2l, 1) := by decide +kernel
theorem dX10_wayOf_16 : decode cX10_wayOf 16 = .ok (.iload 5, 2) := by decide +kernel
theorem dX10_wayOf_18 : decode cX10_wayOf 18 = .ok (.invokestatic 54, 3) := by decide +kernel
theorem dX10_wayOf_21 : decode cX10_wayOf 21 = .ok (.iconst 1, 1) := by decide +kernel
theorem dX10_wayOf_22 : decode cX10_wayOf 22 = .ok (.if_icmp .ne 26, 3) := by decide +kernel
theorem dX10_wayOf_25 : decode cX10_wayOf 25 = .ok (.iload_n 3, 1) := by decide +kernel
theorem dX10_wayOf_26 : decode cX10_wayOf 26 = .ok (.iload 4, 2) := by decide +kernel
theorem dX10_wayOf_28 : decode cX10_wayOf 28 = .ok (.iload_n 1, 1) := by decide +kernel
theorem dX10_wayOf_29 : decode cX10_wayOf 29 = .ok (.if_icmp .ge 10, 3) := by decide +kernel
theorem dX10_wayOf_32 : decode cX10_wayOf 32 = .ok (.iload 5, 2) := by decide +kernel
theorem dX10_wayOf_34 : decode cX10_wayOf 34 = .ok (.iconst 1, 1) := by decide +kernel
theorem dX10_wayOf_35 : decode cX10_wayOf 35 = .ok (.iadd, 1) := by decide +kernel
theorem dX10_wayOf_36 : decode cX10_wayOf 36 = .ok (.goto 7, 3) := by decide +kernel
theorem dX10_wayOf_39 : decode cX10_wayOf 39 = .ok (.iload_n 2, 1) := by decide +kernel
theorem dX10_wayOf_40 : decode cX10_wayOf 40 = .ok (.iload 5, 2) := by decide +kernel
theorem dX10_wayOf_42 : decode cX10_wayOf 42 = .ok (.isub, 1) := by decide +kernel
theorem dX10_wayOf_43 : decode cX10_wayOf 43 = .ok (.iadd, 1) := by decide +kernel
theorem dX10_wayOf_44 : decode cX10_wayOf 44 = .ok (.istore_n 3, 1) := by decide +kernel
theorem dX10_wayOf_45 : decode cX10_wayOf 45 = .ok (.iinc 4 1, 3) := by decide +kernel
theorem dX10_wayOf_48 : decode cX10_wayOf 48 = .ok (.iinc 5 1, 3) := by decide +kernel
theorem dX10_wayOf_51 : decode cX10_wayOf 51 = .ok (.goto (-43), 3) := by decide +kernel
theorem dX10_wayOf_54 : decode cX10_wayOf 54 = .ok (.iload_n 3, 1) := by decide +kernel
theorem dX10_wayOf_55 : decode cX10_wayOf 55 = .ok (.ireturn, 1) := by decide +kernel
theorem dX11_init_0 : decode cX11_init 0 = .ok (.aload_n 0, 1) := by decide +kernel
theorem dX11_init_1 : decode cX11_init 1 = .ok (.invokespecial 3, 3) := by decide +kernel
theorem dX11_init_4 : decode cX11_init 4 = .ok (.aload_n 0, 1) := by decide +kernel
theorem dX11_init_5 : decode cX11_init 5 = .ok (.new 9, 3) := by decide +kernel
theorem dX11_init_8 : decode cX11_init 8 = .ok (.dup, 1) := by decide +kernel
theorem dX11_init_9 : decode cX11_init 9 = .ok (.invokespecial 11, 3) := by decide +kernel
theorem dX11_init_12 : decode cX11_init 12 = .ok (.putfield 12, 3) := by decide +kernel
theorem dX11_init_15 : decode cX11_init 15 = .ok (.aload_n 0, 1) := by decide +kernel
theorem dX11_init_16 : decode cX11_init 16 = .ok (.new 16, 3) := by decide +kernel
theorem dX11_init_19 : decode cX11_init 19 = .ok (.dup, 1) := by decide +kernel
theorem dX11_init_20 : decode cX11_init 20 = .ok (.aload_n 0, 1) := by decide +kernel
theorem dX11_init_21 : decode cX11_init 21 = .ok (.getfield 12, 3) := by decide +kernel
theorem dX11_init_24 : decode cX11_init 24 = .ok (.invokespecial 18, 3) := by decide +kernel
theorem dX11_init_27 : decode cX11_init 27 = .ok (.putfield 21, 3) := by decide +kernel
theorem dX11_init_30 : decode cX11_init 30 = .ok (.aload_n 0, 1) := by decide +kernel
theorem dX11_init_31 : decode cX11_init 31 = .ok (.new 25, 3) := by decide +kernel
theorem dX11_init_34 : decode cX11_init 34 = .ok (.dup, 1) := by decide +kernel
theorem dX11_init_35 : decode cX11_init 35 = .ok (.invokespecial 27, 3) := by decide +kernel
theorem dX11_init_38 : decode cX11_init 38 = .ok (.putfield 28, 3) := by decide +kernel
theorem dX11_init_41 : decode cX11_init 41 = .ok (.aload_n 0, 1) := by decide +kernel
theorem dX11_init_42 : decode cX11_init 42 = .ok (.new 25, 3) := by decide +kernel
theorem dX11_init_45 : decode cX11_init 45 = .ok (.dup, 1) := by decide +kernel
theorem dX11_init_46 : decode cX11_init 46 = .ok (.invokespecial 27, 3) := by decide +kernel
theorem dX11_init_49 : decode cX11_init 49 = .ok (.putfield 32, 3) := by decide +kernel
theorem dX11_init_52 : decode cX11_init 52 = .ok (.aload_n 0, 1) := by decide +kernel
theorem dX11_init_53 : decode cX11_init 53 = .ok (.new 35, 3) := by decide +kernel
theorem dX11_init_56 : decode cX11_init 56 = .ok (.dup, 1) := by decide +kernel
theorem dX11_init_57 : decode cX11_init 57 = .ok (.invokespecial 37, 3) := by decide +kernel
theorem dX11_init_60 : decode cX11_init 60 = .ok (.putfield 38, 3) := by decide +kernel
theorem dX11_init_63 : decode cX11_init 63 = .ok (.aload_n 0, 1) := by decide +kernel
theorem dX11_init_64 : decode cX11_init 64 = .ok (.new 35, 3) := by decide +kernel
theorem dX11_init_67 : decode cX11_init 67 = .ok (.dup, 1) := by decide +kernel
theorem dX11_init_68 : decode cX11_init 68 = .ok (.invokespecial 37, 3) := by decide +kernel
theorem dX11_init_71 : decode cX11_init 71 = .ok (.putfield 42, 3) := by decide +kernel
theorem dX11_init_74 : decode cX11_init 74 = .ok (.aload_n 0, 1) := by decide +kernel
theorem dX11_init_75 : decode cX11_init 75 = .ok (.new 35, 3) := by decide +kernel
theorem dX11_init_78 : decode cX11_init 78 = .ok (.dup, 1) := by decide +kernel
theorem dX11_init_79 : decode cX11_init 79 = .ok (.invokespecial 37, 3) := by decide +kernel
theorem dX11_init_82 : decode cX11_init 82 = .ok (.putfield 45, 3) := by decide +kernel
theorem dX11_init_85 : decode cX11_init 85 = .ok (.aload_n 0, 1) := by decide +kernel
theorem dX11_init_86 : decode cX11_init 86 = .ok (.new 48, 3) := by decide +kernel
theorem dX11_init_89 : decode cX11_init 89 = .ok (.dup, 1) := by decide +kernel
theorem dX11_init_90 : decode cX11_init 90 = .ok (.invokespecial 50, 3) := by decide +kernel
theorem dX11_init_93 : decode cX11_init 93 = .ok (.putfield 51, 3) := by decide +kernel
theorem dX11_init_96 : decode cX11_init 96 = .ok (.aload_n 0, 1) := by decide +kernel
theorem dX11_init_97 : decode cX11_init 97 = .ok (.new 55, 3) := by decide +kernel
theorem dX11_init_100 : decode cX11_init 100 = .ok (.dup, 1) := by decide +kernel
theorem dX11_init_101 : decode cX11_init 101 = .ok (.aload_n 0, 1) := by decide +kernel
theorem dX11_init_102 : decode cX11_init 102 = .ok (.getfield 51, 3) := by decide +kernel
theorem dX11_init_105 : decode cX11_init 105 = .ok (.invokespecial 57, 3) := by decide +kernel
theorem dX11_init_108 : decode cX11_init 108 = .ok (.putfield 60, 3) := by decide +kernel
theorem dX11_init_111 : decode cX11_init 111 = .ok (.aload_n 0, 1) := by decide +kernel
theorem dX11_init_112 : decode cX11_init 112 = .ok (.new 64, 3) := by decide +kernel
theorem dX11_init_115 : decode cX11_init 115 = .ok (.dup, 1) := by decide +kernel
theorem dX11_init_116 : decode cX11_init 116 = .ok (.aload_n 0, 1) := by decide +kernel
theorem dX11_init_117 : decode cX11_init 117 = .ok (.getfield 51, 3) := by decide +kernel
theorem dX11_init_120 : decode cX11_init 120 = .ok (.invokespecial 66, 3) := by decide +kernel
theorem dX11_init_123 : decode cX11_init 123 = .ok (.putfield 67, 3) := by decide +kernel
theorem dX11_init_126 : decode cX11_init 126 = .ok (.aload_n 0, 1) := by decide +kernel
theorem dX11_init_127 : decode cX11_init 127 = .ok (.new 71, 3) := by decide +kernel
theorem dX11_init_130 : decode cX11_init 130 = .ok (.dup, 1) := by decide +kernel
theorem dX11_init_131 : decode cX11_init 131 = .ok (.aload_n 0, 1) := by decide +kernel
theorem dX11_init_132 : decode cX11_init 132 = .ok (.getfield 51, 3) := by decide +kernel
theorem dX11_init_135 : decode cX11_init 135 = .ok (.invokespecial 73, 3) := by decide +kernel
theorem dX11_init_138 : decode cX11_init 138 = .ok (.putfield 74, 3) := by decide +kernel
theorem dX11_init_141 : decode cX11_init 141 = .ok (.aload_n 0, 1) := by decide +kernel
theorem dX11_init_142 : decode cX11_init 142 = .ok (.new 78, 3) := by decide +kernel
theorem dX11_init_145 : decode cX11_init 145 = .ok (.dup, 1) := by decide +kernel
theorem dX11_init_146 : decode cX11_init 146 = .ok (.aload_n 0, 1) := by decide +kernel
theorem dX11_init_147 : decode cX11_init 147 = .ok (.getfield 60, 3) := by decide +kernel
theorem dX11_init_150 : decode cX11_init 150 = .ok (.invokespecial 80, 3) := by decide +kernel
theorem dX11_init_153 : decode cX11_init 153 = .ok (.putfield 83, 3) := by decide +kernel
theorem dX11_init_156 : decode cX11_init 156 = .ok (.aload_n 0, 1) := by decide +kernel
theorem dX11_init_157 : decode cX11_init 157 = .ok (.iconst (-1), 1) := by decide +kernel
theorem dX11_init_158 : decode cX11_init 158 = .ok (.putfield 87, 3) := by decide +kernel
theorem dX11_init_161 : decode cX11_init 161 = .ok (.aload_n 0, 1) := by decide +kernel
theorem dX11_init_162 : decode cX11_init 162 = .ok (.getfield 38, 3) := by decide +kernel
theorem dX11_init_165 : decode cX11_init 165 = .ok (.bipush 8, 2) := by decide +kernel
theorem dX11_init_167 : decode cX11_init 167 = .ok (.invokevirtual 91, 3) := by decide +kernel
theorem dX11_init_170 : decode cX11_init 170 = .ok (.return_, 1) := by decide +kernel
theorem dX11_state_0 : decode cX11_state 0 = .ok (.aload_n 0, 1) := by decide +kernel
theorem dX11_state_1 : decode cX11_state 1 = .ok (.getfield 38, 3) := by decide +kernel
theorem dX11_state_4 : decode cX11_state 4 = .ok (.getfield 95, 3) := by decide +kernel
theorem dX11_state_7 : decode cX11_state 7 = .ok (.istore_n 2, 1) := by decide +kernel
theorem dX11_state_8 : decode cX11_state 8 = .ok (.aload_n 0, 1) := by decide +kernel
theorem dX11_state_9 : decode cX11_state 9 = .ok (.getfield 38, 3) := by decide +kernel
theorem dX11_state_12 : decode cX11_state 12 = .ok (.iload_n 1, 1) := by decide +kernel
theorem dX11_state_13 : decode cX11_state 13 = .ok (.putfield 95, 3) := by decide +kernel
theorem dX11_state_16 : decode cX11_state 16 = .ok (.iload_n 2, 1) := by decide +kernel
theorem dX11_state_17 : decode cX11_state 17 = .ok (.ireturn, 1) := by decide +kernel
theorem dX11_row_0 : decode cX11_row 0 = .ok (.iload_n 1, 1) := by decide +kernel
theorem dX11_row_1 : decode cX11_row 1 = .ok (.iconst 2, 1) := by decide +kernel
theorem dX11_row_2 : decode cX11_row 2 = .ok (.if_icmp .lt 9, 3) := by decide +kernel
theorem dX11_row_5 : decode cX11_row 5 = .ok (.iload_n 1, 1) := by decide +kernel
theorem dX11_row_6 : decode cX11_row 6 = .ok (.bipush 60, 2) := by decide +kernel
theorem dX11_row_8 : decode cX11_row 8 = .ok (.if_icmp .le 5, 3) := by decide +kernel
theorem dX11_row_11 : decode cX11_row 11 = .ok (.iconst 0, 1) := by decide +kernel
theorem dX11_row_12 : decode cX11_row 12 = .ok (.ireturn, 1) := by decide +kernel
theorem dX11_row_13 : decode cX11_row 13 = .ok (.aload_n 0, 1) := by decide +kernel
theorem dX11_row_14 : decode cX11_row 14 = .ok (.getfield 38, 3) := by decide +kernel
theorem dX11_row_17 : decode cX11_row 17 = .ok (.iload_n 1, 1) := by decide +kernel
theorem dX11_row_18 : decode cX11_row 18 = .ok (.invokevirtual 91, 3) := by decide +kernel
theorem dX11_row_21 : decode cX11_row 21 = .ok (.iconst 1, 1) := by decide +kernel
theorem dX11_row_22 : decode cX11_row 22 = .ok (.ireturn, 1) := by decide +kernel
theorem dX11_place_0 : decode cX11_place 0 = .ok (.aload_n 0, 1) := by decide +kernel
theorem dX11_place_1 : decode cX11_place 1 = .ok (.getfield 38, 3) := by decide +kernel
theorem dX11_place_4 : decode cX11_place 4 = .ok (.iload_n 1, 1) := by decide +kernel
theorem dX11_place_5 : decode cX11_place 5 = .ok (.invokevirtual 98, 3) := by decide +kernel
theorem dX11_place_8 : decode cX11_place 8 = .ok (.ifCond .eq 24, 3) := by decide +kernel
theorem dX11_place_11 : decode cX11_place 11 = .ok (.iload_n 2, 1) := by decide +kernel
theorem dX11_place_12 : decode cX11_place 12 = .ok (.ifCond .lt 20, 3) := by decide +kernel
theorem dX11_place_15 : decode cX11_place 15 = .ok (.iload_n 2, 1) := by decide +kernel
theorem dX11_place_16 : decode cX11_place 16 = .ok (.bipush 6, 2) := by decide +kernel
theorem dX11_place_18 : decode cX11_place 18 = .ok (.if_icmp .ge 14, 3) := by decide +kernel
theorem dX11_place_21 : decode cX11_place 21 = .ok (.iload_n 3, 1) := by decide +kernel
theorem dX11_place_22 : decode cX11_place 22 = .ok (.ifCond .lt 10, 3) := by decide +kernel
theorem dX11_place_25 : decode cX11_place 25 = .ok (.iload_n 3, 1) := by decide +kernel
theorem dX11_place_26 : decode cX11_place 26 = .ok (.sipush 999, 3) := by decide +kernel
theorem dX11_place_29 : decode cX11_place 29 = .ok (.if_icmp .le 5, 3) := by decide +kernel
theorem dX11_place_32 : decode cX11_place 32 = .ok (.iconst 0, 1) := by decide +kernel
theorem dX11_place_33 : decode cX11_place 33 = .ok (.ireturn, 1) := by decide +kernel
theorem dX11_place_34 : decode cX11_place 34 = .ok (.aload_n 0, 1) := by decide +kernel
theorem dX11_place_35 : decode cX11_place 35 = .ok (.getfield 38, 3) := by decide +kernel
theorem dX11_place_38 : decode cX11_place 38 = .ok (.getfield 102, 3) := by decide +kernel
theorem dX11_place_41 : decode cX11_place 41 = .ok (.iload_n 1, 1) := by decide +kernel
theorem dX11_place_42 : decode cX11_place 42 = .ok (.iload_n 2, 1) := by decide +kernel
theorem dX11_place_43 : decode cX11_place 43 = .ok (.iastore, 1) := by decide +kernel
theorem dX11_place_44 : decode cX11_place 44 = .ok (.aload_n 0, 1) := by decide +kernel
theorem dX11_place_45 : decode cX11_place 45 = .ok (.getfield 38, 3) := by decide +kernel
theorem dX11_place_48 : decode cX11_place 48 = .ok (.getfield 106, 3) := by decide +kernel
theorem dX11_place_51 : decode cX11_place 51 = .ok (.iload_n 1, 1) := by decide +kernel
theorem dX11_place_52 : decode cX11_place 52 = .ok (.iload_n 3, 1) := by decide +kernel
theorem dX11_place_53 : decode cX11_place 53 = .ok (.iastore, 1) := by decide +kernel
theorem dX11_place_54 : decode cX11_place 54 = .ok (.aload_n 0, 1) := by decide +kernel
theorem dX11_place_55 : decode cX11_place 55 = .ok (.getfield 38, 3) := by decide +kernel
theorem dX11_place_58 : decode cX11_place 58 = .ok (.iload 4, 2) := by decide +kernel
theorem dX11_place_60 : decode cX11_place 60 = .ok (.ifCond .eq 17, 3) := by decide +kernel
theorem dX11_place_63 : decode cX11_place 63 = .ok (.aload_n 0, 1) := by decide +kernel
theorem dX11_place_64 : decode cX11_place 64 = .ok (.getfield 38, 3) := by decide +kernel
theorem dX11_place_67 : decode cX11_place 67 = .ok (.getfield 109, 3) := by decide +kernel
theorem dX11_place_70 : decode cX11_place 70 = .ok (.lconst 1, 1) := by decide +kernel
theorem dX11_place_71 : decode cX11_place 71 = .ok (.iload_n 1, 1) := by decide +kernel
theorem dX11_place_72 : decode cX11_place 72 = .ok (.lshl, 1) := by decide +kernel
theorem dX11_place_73 : decode cX11_place 73 = .ok (.lor, 1) := by decide +kernel
theorem dX11_place_74 : decode cX11_place 74 = .ok (.goto 18, 3) := by decide +kernel
theorem dX11_place_77 : decode cX11_place 77 = .ok (.aload_n 0, 1) := by decide +kernel
theorem dX11_place_78 : decode cX11_place 78 = .ok (.getfield 38, 3) := by decide +kernel
theorem dX11_place_81 : decode cX11_place 81 = .ok (.getfield 109, 3) := by decide +kernel
theorem dX11_place_84 : decode cX11_place 84 = .ok (.lconst 1, 1) := by decide +kernel
theorem dX11_place_85 : decode cX11_place 85 = .ok (.iload_n 1, 1) := by decide +kernel
theorem dX11_place_86 : decode cX11_place 86 = .ok (.lshl, 1) := by decide +kernel
theorem dX11_place_87 : decode cX11_place 87 = .ok (.ldc2_w 113, 3) := by decide +kernel
theorem dX11_place_90 : decode cX11_place 90 = .ok (.lxor, 1) := by decide +kernel
theorem dX11_place_91 : decode cX11_place 91 = .ok (.land, 1) := by decide +kernel
theorem dX11_place_92 : decode cX11_place 92 = .ok (.putfield 109, 3) := by decide +kernel
theorem dX11_place_95 : decode cX11_place 95 = .ok (.iconst 1, 1) := by decide +kernel
theorem dX11_place_96 : decode cX11_place 96 = .ok (.ireturn, 1) := by decide +kernel
theorem dX11_sort_0 : decode cX11_sort 0 = .ok (.iload_n 1, 1) := by decide +kernel
theorem dX11_sort_1 : decode cX11_sort 1 = .ok (.ifCond .lt 30, 3) := by decide +kernel
theorem dX11_sort_4 : decode cX11_sort 4 = .ok (.iload_n 1, 1) := by decide +kernel
theorem dX11_sort_5 : decode cX11_sort 5 = .ok (.bipush 6, 2) := by decide +kernel
theorem dX11_sort_7 : decode cX11_sort 7 = .ok (.if_icmp .ge 24, 3) := by decide +kernel
theorem dX11_sort_10 : decode cX11_sort 10 = .ok (.iload_n 2, 1) := by decide +kernel
theorem dX11_sort_11 : decode cX11_sort 11 = .ok (.ifCond .lt 20, 3) := by decide +kernel
theorem dX11_sort_14 : decode cX11_sort 14 = .ok (.iload_n 2, 1) := by decide +kernel
theorem dX11_sort_15 : decode cX11_sort 15 = .ok (.sipush 1000, 3) := by decide +kernel
theorem dX11_sort_18 : decode cX11_sort 18 = .ok (.if_icmp .gt 13, 3) := by decide +kernel
theorem dX11_sort_21 : decode cX11_sort 21 = .ok (.iload_n 3, 1) := by decide +kernel
theorem dX11_sort_22 : decode cX11_sort 22 = .ok (.ifCond .lt 9, 3) := by decide +kernel
theorem dX11_sort_25 : decode cX11_sort 25 = .ok (.iload_n 3, 1) := by decide +kernel
theorem dX11_sort_26 : decode cX11_sort 26 = .ok (.bipush 99, 2) := by decide +kernel
theorem dX11_sort_28 : decode cX11_sort 28 = .ok (.if_icmp .le 5, 3) := by decide +kernel
theorem dX11_sort_31 : decode cX11_sort 31 = .ok (.iconst 0, 1) := by decide +kernel
theorem dX11_sort_32 : decode cX11_sort 32 = .ok (.ireturn, 1) := by decide +kernel
theorem dX11_sort_33 : decode cX11_sort 33 = .ok (.aload_n 0, 1) := by decide +kernel
theorem dX11_sort_34 : decode cX11_sort 34 = .ok (.getfield 38, 3) := by decide +kernel
theorem dX11_sort_37 : decode cX11_sort 37 = .ok (.getfield 115, 3) := by decide +kernel
theorem dX11_sort_40 : decode cX11_sort 40 = .ok (.iload_n 1, 1) := by decide +kernel
theorem dX11_sort_41 : decode cX11_sort 41 = .ok (.iload_n 2, 1) := by decide +kernel
theorem dX11_sort_42 : decode cX11_sort 42 = .ok (.iastore, 1) := by decide +kernel
theorem dX11_sort_43 : decode cX11_sort 43 = .ok (.aload_n 0, 1) := by decide +kernel
theorem dX11_sort_44 : decode cX11_sort 44 = .ok (.getfield 38, 3) := by decide +kernel
theorem dX11_sort_47 : decode cX11_sort 47 = .ok (.getfield 118, 3) := by decide +kernel
theorem dX11_sort_50 : decode cX11_sort 50 = .ok (.iload_n 1, 1) := by decide +kernel
theorem dX11_sort_51 : decode cX11_sort 51 = .ok (.iload_n 3, 1) := by decide +kernel
theorem dX11_sort_52 : decode cX11_sort 52 = .ok (.iastore, 1) := by decide +kernel
theorem dX11_sort_53 : decode cX11_sort 53 = .ok (.iconst 1, 1) := by decide +kernel
theorem dX11_sort_54 : decode cX11_sort 54 = .ok (.ireturn, 1) := by decide +kernel
theorem dX11_set_0 : decode cX11_set 0 = .ok (.iload_n 1, 1) := by decide +kernel
theorem dX11_set_1 : decode cX11_set 1 = .ok (.ifCond .lt 29, 3) := by decide +kernel
theorem dX11_set_4 : decode cX11_set 4 = .ok (.iload_n 1, 1) := by decide +kernel
theorem dX11_set_5 : decode cX11_set 5 = .ok (.getstatic 121, 3) := by decide +kernel
theorem dX11_set_8 : decode cX11_set 8 = .ok (.arraylength, 1) := by decide +kernel
theorem dX11_set_9 : decode cX11_set 9 = .ok (.if_icmp .ge 21, 3) := by decide +kernel
theorem dX11_set_12 : decode cX11_set 12 = .ok (.iload_n 2, 1) := by decide +kernel
theorem dX11_set_13 : decode cX11_set 13 = .ok (.getstatic 121, 3) := by decide +kernel
theorem dX11_set_16 : decode cX11_set 16 = .ok (.iload_n 1, 1) := by decide +kernel
theorem dX11_set_17 : decode cX11_set 17 = .ok (.iaload, 1) := by decide +kernel
theorem dX11_set_18 : decode cX11_set 18 = .ok (.if_icmp .lt 12, 3) := by decide +kernel
theorem dX11_set_21 : decode cX11_set 21 = .ok (.iload_n 2, 1) := by decide +kernel
theorem dX11_set_22 : decode cX11_set 22 = .ok (.getstatic 124, 3) := by decide +kernel
theorem dX11_set_25 : decode cX11_set 25 = .ok (.iload_n 1, 1) := by decide +kernel
theorem dX11_set_26 : decode cX11_set 26 = .ok (.iaload, 1) := by decide +kernel
theorem dX11_set_27 : decode cX11_set 27 = .ok (.if_icmp .le 5, 3) := by decide +kernel
theorem dX11_set_30 : decode cX11_set 30 = .ok (.iconst 0, 1) := by decide +kernel
theorem dX11_set_31 : decode cX11_set 31 = .ok (.ireturn, 1) := by decide +kernel
