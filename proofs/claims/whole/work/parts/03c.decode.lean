theorem dX12_guessOf_46 : decode cX12_guessOf 46 = .ok (.aload_n 0, 1) := by decide +kernel
theorem dX12_guessOf_47 : decode cX12_guessOf 47 = .ok (.getfield 334, 3) := by decide +kernel
theorem dX12_guessOf_50 : decode cX12_guessOf 50 = .ok (.invokevirtual 337, 3) := by decide +kernel
theorem dX12_guessOf_53 : decode cX12_guessOf 53 = .ok (.istore_n 3, 1) := by decide +kernel
theorem dX12_guessOf_54 : decode cX12_guessOf 54 = .ok (.aload_n 0, 1) := by decide +kernel
theorem dX12_guessOf_55 : decode cX12_guessOf 55 = .ok (.getfield 23, 3) := by decide +kernel
theorem dX12_guessOf_58 : decode cX12_guessOf 58 = .ok (.iload_n 1, 1) := by decide +kernel
theorem dX12_guessOf_59 : decode cX12_guessOf 59 = .ok (.iaload, 1) := by decide +kernel
theorem dX12_guessOf_60 : decode cX12_guessOf 60 = .ok (.iconst 1, 1) := by decide +kernel
theorem dX12_guessOf_61 : decode cX12_guessOf 61 = .ok (.isub, 1) := by decide +kernel
theorem dX12_guessOf_62 : decode cX12_guessOf 62 = .ok (.istore 4, 2) := by decide +kernel
theorem dX12_guessOf_64 : decode cX12_guessOf 64 = .ok (.iload 4, 2) := by decide +kernel
theorem dX12_guessOf_66 : decode cX12_guessOf 66 = .ok (.aload_n 0, 1) := by decide +kernel
theorem dX12_guessOf_67 : decode cX12_guessOf 67 = .ok (.getfield 334, 3) := by decide +kernel
theorem dX12_guessOf_70 : decode cX12_guessOf 70 = .ok (.if_icmp .ge 29, 3) := by decide +kernel
theorem dX12_guessOf_73 : decode cX12_guessOf 73 = .ok (.iload_n 2, 1) := by decide +kernel
theorem dX12_guessOf_74 : decode cX12_guessOf 74 = .ok (.ifCond .le 25, 3) := by decide +kernel
theorem dX12_guessOf_77 : decode cX12_guessOf 77 = .ok (.iload_n 3, 1) := by decide +kernel
theorem dX12_guessOf_78 : decode cX12_guessOf 78 = .ok (.ifCond .le 21, 3) := by decide +kernel
theorem dX12_guessOf_81 : decode cX12_guessOf 81 = .ok (.iload_n 2, 1) := by decide +kernel
theorem dX12_guessOf_82 : decode cX12_guessOf 82 = .ok (.sipush 1000, 3) := by decide +kernel
theorem dX12_guessOf_85 : decode cX12_guessOf 85 = .ok (.iload_n 3, 1) := by decide +kernel
theorem dX12_guessOf_86 : decode cX12_guessOf 86 = .ok (.isub, 1) := by decide +kernel
theorem dX12_guessOf_87 : decode cX12_guessOf 87 = .ok (.imul, 1) := by decide +kernel
theorem dX12_guessOf_88 : decode cX12_guessOf 88 = .ok (.sipush 1000, 3) := by decide +kernel
theorem dX12_guessOf_91 : decode cX12_guessOf 91 = .ok (.idiv, 1) := by decide +kernel
theorem dX12_guessOf_92 : decode cX12_guessOf 92 = .ok (.istore_n 2, 1) := by decide +kernel
theorem dX12_guessOf_93 : decode cX12_guessOf 93 = .ok (.iinc 4 1, 3) := by decide +kernel
theorem dX12_guessOf_96 : decode cX12_guessOf 96 = .ok (.goto (-32), 3) := by decide +kernel
theorem dX12_guessOf_99 : decode cX12_guessOf 99 = .ok (.sipush 1000, 3) := by decide +kernel
theorem dX12_guessOf_102 : decode cX12_guessOf 102 = .ok (.iload_n 2, 1) := by decide +kernel
theorem dX12_guessOf_103 : decode cX12_guessOf 103 = .ok (.isub, 1) := by decide +kernel
theorem dX12_guessOf_104 : decode cX12_guessOf 104 = .ok (.ireturn, 1) := by decide +kernel
theorem dX12_isShape_0 : decode cX12_isShape 0 = .ok (.aload_n 0, 1) := by decide +kernel
theorem dX12_isShape_1 : decode cX12_isShape 1 = .ok (.getfield 77, 3) := by decide +kernel
theorem dX12_isShape_4 : decode cX12_isShape 4 = .ok (.iload_n 1, 1) := by decide +kernel
theorem dX12_isShape_5 : decode cX12_isShape 5 = .ok (.iaload, 1) := by decide +kernel
theorem dX12_isShape_6 : decode cX12_isShape 6 = .ok (.istore_n 3, 1) := by decide +kernel
theorem dX12_isShape_7 : decode cX12_isShape 7 = .ok (.iconst 0, 1) := by decide +kernel
theorem dX12_isShape_8 : decode cX12_isShape 8 = .ok (.istore 4, 2) := by decide +kernel
theorem dX12_isShape_10 : decode cX12_isShape 10 = .ok (.iload 4, 2) := by decide +kernel
theorem dX12_isShape_12 : decode cX12_isShape 12 = .ok (.iload_n 3, 1) := by decide +kernel
theorem dX12_isShape_13 : decode cX12_isShape 13 = .ok (.if_icmp .ge 62, 3) := by decide +kernel
theorem dX12_isShape_16 : decode cX12_isShape 16 = .ok (.aload_n 0, 1) := by decide +kernel
theorem dX12_isShape_17 : decode cX12_isShape 17 = .ok (.getfield 83, 3) := by decide +kernel
theorem dX12_isShape_20 : decode cX12_isShape 20 = .ok (.bipush 8, 2) := by decide +kernel
theorem dX12_isShape_22 : decode cX12_isShape 22 = .ok (.iload_n 1, 1) := by decide +kernel
theorem dX12_isShape_23 : decode cX12_isShape 23 = .ok (.imul, 1) := by decide +kernel
theorem dX12_isShape_24 : decode cX12_isShape 24 = .ok (.iload 4, 2) := by decide +kernel
theorem dX12_isShape_26 : decode cX12_isShape 26 = .ok (.iadd, 1) := by decide +kernel
theorem dX12_isShape_27 : decode cX12_isShape 27 = .ok (.iaload, 1) := by decide +kernel
theorem dX12_isShape_28 : decode cX12_isShape 28 = .ok (.istore 5, 2) := by decide +kernel
theorem dX12_isShape_30 : decode cX12_isShape 30 = .ok (.iload_n 2, 1) := by decide +kernel
theorem dX12_isShape_31 : decode cX12_isShape 31 = .ok (.iload_n 3, 1) := by decide +kernel
theorem dX12_isShape_32 : decode cX12_isShape 32 = .ok (.iconst 1, 1) := by decide +kernel
theorem dX12_isShape_33 : decode cX12_isShape 33 = .ok (.isub, 1) := by decide +kernel
theorem dX12_isShape_34 : decode cX12_isShape 34 = .ok (.iload 4, 2) := by decide +kernel
theorem dX12_isShape_36 : decode cX12_isShape 36 = .ok (.isub, 1) := by decide +kernel
theorem dX12_isShape_37 : decode cX12_isShape 37 = .ok (.ishr, 1) := by decide +kernel
theorem dX12_isShape_38 : decode cX12_isShape 38 = .ok (.iconst 1, 1) := by decide +kernel
theorem dX12_isShape_39 : decode cX12_isShape 39 = .ok (.iand, 1) := by decide +kernel
theorem dX12_isShape_40 : decode cX12_isShape 40 = .ok (.istore 6, 2) := by decide +kernel
theorem dX12_isShape_42 : decode cX12_isShape 42 = .ok (.iload 5, 2) := by decide +kernel
theorem dX12_isShape_44 : decode cX12_isShape 44 = .ok (.bipush 6, 2) := by decide +kernel
theorem dX12_isShape_46 : decode cX12_isShape 46 = .ok (.if_icmp .ne 8, 3) := by decide +kernel
theorem dX12_isShape_49 : decode cX12_isShape 49 = .ok (.iload 6, 2) := by decide +kernel
theorem dX12_isShape_51 : decode cX12_isShape 51 = .ok (.ifCond .eq 16, 3) := by decide +kernel
theorem dX12_isShape_54 : decode cX12_isShape 54 = .ok (.iload 5, 2) := by decide +kernel
theorem dX12_isShape_56 : decode cX12_isShape 56 = .ok (.bipush 7, 2) := by decide +kernel
theorem dX12_isShape_58 : decode cX12_isShape 58 = .ok (.if_icmp .ne 11, 3) := by decide +kernel
theorem dX12_isShape_61 : decode cX12_isShape 61 = .ok (.iload 6, 2) := by decide +kernel
theorem dX12_isShape_63 : decode cX12_isShape 63 = .ok (.iconst 1, 1) := by decide +kernel
theorem dX12_isShape_64 : decode cX12_isShape 64 = .ok (.if_icmp .ne 5, 3) := by decide +kernel
theorem dX12_isShape_67 : decode cX12_isShape 67 = .ok (.iconst 0, 1) := by decide +kernel
theorem dX12_isShape_68 : decode cX12_isShape 68 = .ok (.ireturn, 1) := by decide +kernel
theorem dX12_isShape_69 : decode cX12_isShape 69 = .ok (.iinc 4 1, 3) := by decide +kernel
theorem dX12_isShape_72 : decode cX12_isShape 72 = .ok (.goto (-62), 3) := by decide +kernel
theorem dX12_isShape_75 : decode cX12_isShape 75 = .ok (.iconst 1, 1) := by decide +kernel
theorem dX12_isShape_76 : decode cX12_isShape 76 = .ok (.ireturn, 1) := by decide +kernel
theorem dX12_isMet_0 : decode cX12_isMet 0 = .ok (.iconst 0, 1) := by decide +kernel
theorem dX12_isMet_1 : decode cX12_isMet 1 = .ok (.istore_n 3, 1) := by decide +kernel
theorem dX12_isMet_2 : decode cX12_isMet 2 = .ok (.iload_n 3, 1) := by decide +kernel
theorem dX12_isMet_3 : decode cX12_isMet 3 = .ok (.aload_n 0, 1) := by decide +kernel
theorem dX12_isMet_4 : decode cX12_isMet 4 = .ok (.getfield 300, 3) := by decide +kernel
theorem dX12_isMet_7 : decode cX12_isMet 7 = .ok (.if_icmp .ge 112, 3) := by decide +kernel
theorem dX12_isMet_10 : decode cX12_isMet 10 = .ok (.aload_n 0, 1) := by decide +kernel
theorem dX12_isMet_11 : decode cX12_isMet 11 = .ok (.getfield 77, 3) := by decide +kernel
theorem dX12_isMet_14 : decode cX12_isMet 14 = .ok (.iload_n 3, 1) := by decide +kernel
theorem dX12_isMet_15 : decode cX12_isMet 15 = .ok (.iaload, 1) := by decide +kernel
theorem dX12_isMet_16 : decode cX12_isMet 16 = .ok (.istore 4, 2) := by decide +kernel
theorem dX12_isMet_18 : decode cX12_isMet 18 = .ok (.aload_n 0, 1) := by decide +kernel
theorem dX12_isMet_19 : decode cX12_isMet 19 = .ok (.getfield 74, 3) := by decide +kernel
theorem dX12_isMet_22 : decode cX12_isMet 22 = .ok (.iload_n 3, 1) := by decide +kernel
theorem dX12_isMet_23 : decode cX12_isMet 23 = .ok (.iaload, 1) := by decide +kernel
theorem dX12_isMet_24 : decode cX12_isMet 24 = .ok (.iconst 2, 1) := by decide +kernel
theorem dX12_isMet_25 : decode cX12_isMet 25 = .ok (.if_icmp .ne 28, 3) := by decide +kernel
theorem dX12_isMet_28 : decode cX12_isMet 28 = .ok (.iload_n 2, 1) := by decide +kernel
theorem dX12_isMet_29 : decode cX12_isMet 29 = .ok (.iload 4, 2) := by decide +kernel
theorem dX12_isMet_31 : decode cX12_isMet 31 = .ok (.if_icmp .lt 22, 3) := by decide +kernel
theorem dX12_isMet_34 : decode cX12_isMet 34 = .ok (.iload_n 1, 1) := by decide +kernel
theorem dX12_isMet_35 : decode cX12_isMet 35 = .ok (.iconst 1, 1) := by decide +kernel
theorem dX12_isMet_36 : decode cX12_isMet 36 = .ok (.iload 4, 2) := by decide +kernel
theorem dX12_isMet_38 : decode cX12_isMet 38 = .ok (.ishl, 1) := by decide +kernel
theorem dX12_isMet_39 : decode cX12_isMet 39 = .ok (.iconst 1, 1) := by decide +kernel
theorem dX12_isMet_40 : decode cX12_isMet 40 = .ok (.isub, 1) := by decide +kernel
theorem dX12_isMet_41 : decode cX12_isMet 41 = .ok (.iand, 1) := by decide +kernel
theorem dX12_isMet_42 : decode cX12_isMet 42 = .ok (.iconst 1, 1) := by decide +kernel
theorem dX12_isMet_43 : decode cX12_isMet 43 = .ok (.iload 4, 2) := by decide +kernel
theorem dX12_isMet_45 : decode cX12_isMet 45 = .ok (.ishl, 1) := by decide +kernel
theorem dX12_isMet_46 : decode cX12_isMet 46 = .ok (.iconst 1, 1) := by decide +kernel
theorem dX12_isMet_47 : decode cX12_isMet 47 = .ok (.isub, 1) := by decide +kernel
theorem dX12_isMet_48 : decode cX12_isMet 48 = .ok (.if_icmp .ne 5, 3) := by decide +kernel
theorem dX12_isMet_51 : decode cX12_isMet 51 = .ok (.iconst 1, 1) := by decide +kernel
theorem dX12_isMet_52 : decode cX12_isMet 52 = .ok (.ireturn, 1) := by decide +kernel
theorem dX12_isMet_53 : decode cX12_isMet 53 = .ok (.aload_n 0, 1) := by decide +kernel
theorem dX12_isMet_54 : decode cX12_isMet 54 = .ok (.getfield 74, 3) := by decide +kernel
theorem dX12_isMet_57 : decode cX12_isMet 57 = .ok (.iload_n 3, 1) := by decide +kernel
theorem dX12_isMet_58 : decode cX12_isMet 58 = .ok (.iaload, 1) := by decide +kernel
theorem dX12_isMet_59 : decode cX12_isMet 59 = .ok (.iconst 3, 1) := by decide +kernel
theorem dX12_isMet_60 : decode cX12_isMet 60 = .ok (.if_icmp .ne 26, 3) := by decide +kernel
theorem dX12_isMet_63 : decode cX12_isMet 63 = .ok (.aload_n 0, 1) := by decide +kernel
theorem dX12_isMet_64 : decode cX12_isMet 64 = .ok (.iload_n 1, 1) := by decide +kernel
theorem dX12_isMet_65 : decode cX12_isMet 65 = .ok (.iconst 1, 1) := by decide +kernel
theorem dX12_isMet_66 : decode cX12_isMet 66 = .ok (.aload_n 0, 1) := by decide +kernel
theorem dX12_isMet_67 : decode cX12_isMet 67 = .ok (.getfield 80, 3) := by decide +kernel
theorem dX12_isMet_70 : decode cX12_isMet 70 = .ok (.iload_n 3, 1) := by decide +kernel
theorem dX12_isMet_71 : decode cX12_isMet 71 = .ok (.iaload, 1) := by decide +kernel
theorem dX12_isMet_72 : decode cX12_isMet 72 = .ok (.ishl, 1) := by decide +kernel
theorem dX12_isMet_73 : decode cX12_isMet 73 = .ok (.iconst 1, 1) := by decide +kernel
theorem dX12_isMet_74 : decode cX12_isMet 74 = .ok (.isub, 1) := by decide +kernel
theorem dX12_isMet_75 : decode cX12_isMet 75 = .ok (.iand, 1) := by decide +kernel
theorem dX12_isMet_76 : decode cX12_isMet 76 = .ok (.invokevirtual 341, 3) := by decide +kernel
theorem dX12_isMet_79 : decode cX12_isMet 79 = .ok (.iload 4, 2) := by decide +kernel
theorem dX12_isMet_81 : decode cX12_isMet 81 = .ok (.if_icmp .lt 5, 3) := by decide +kernel
theorem dX12_isMet_84 : decode cX12_isMet 84 = .ok (.iconst 1, 1) := by decide +kernel
theorem dX12_isMet_85 : decode cX12_isMet 85 = .ok (.ireturn, 1) := by decide +kernel
theorem dX12_isMet_86 : decode cX12_isMet 86 = .ok (.aload_n 0, 1) := by decide +kernel
theorem dX12_isMet_87 : decode cX12_isMet 87 = .ok (.getfield 74, 3) := by decide +kernel
theorem dX12_isMet_90 : decode cX12_isMet 90 = .ok (.iload_n 3, 1) := by decide +kernel
theorem dX12_isMet_91 : decode cX12_isMet 91 = .ok (.iaload, 1) := by decide +kernel
theorem dX12_isMet_92 : decode cX12_isMet 92 = .ok (.iconst 5, 1) := by decide +kernel
theorem dX12_isMet_93 : decode cX12_isMet 93 = .ok (.if_icmp .ne 20, 3) := by decide +kernel
theorem dX12_isMet_96 : decode cX12_isMet 96 = .ok (.iload_n 2, 1) := by decide +kernel
theorem dX12_isMet_97 : decode cX12_isMet 97 = .ok (.iload 4, 2) := by decide +kernel
theorem dX12_isMet_99 : decode cX12_isMet 99 = .ok (.if_icmp .lt 14, 3) := by decide +kernel
theorem dX12_isMet_102 : decode cX12_isMet 102 = .ok (.aload_n 0, 1) := by decide +kernel
theorem dX12_isMet_103 : decode cX12_isMet 103 = .ok (.iload_n 3, 1) := by decide +kernel
theorem dX12_isMet_104 : decode cX12_isMet 104 = .ok (.iload_n 1, 1) := by decide +kernel
theorem dX12_isMet_105 : decode cX12_isMet 105 = .ok (.invokevirtual 344, 3) := by decide +kernel
theorem dX12_isMet_108 : decode cX12_isMet 108 = .ok (.ifCond .eq 5, 3) := by decide +kernel
theorem dX12_isMet_111 : decode cX12_isMet 111 = .ok (.iconst 1, 1) := by decide +kernel
theorem dX12_isMet_112 : decode cX12_isMet 112 = .ok (.ireturn, 1) := by decide +kernel
theorem dX12_isMet_113 : decode cX12_isMet 113 = .ok (.iinc 3 1, 3) := by decide +kernel
theorem dX12_isMet_116 : decode cX12_isMet 116 = .ok (.goto (-114), 3) := by decide +kernel
theorem dX12_isMet_119 : decode cX12_isMet 119 = .ok (.iconst 0, 1) := by decide +kernel
theorem dX12_isMet_120 : decode cX12_isMet 120 = .ok (.ireturn, 1) := by decide +kernel
theorem dX12_failsTrial_0 : decode cX12_failsTrial 0 = .ok (.iconst 0, 1) := by decide +kernel
theorem dX12_failsTrial_1 : decode cX12_failsTrial 1 = .ok (.istore_n 1, 1) := by decide +kernel
theorem dX12_failsTrial_2 : decode cX12_failsTrial 2 = .ok (.iconst 0, 1) := by decide +kernel
theorem dX12_failsTrial_3 : decode cX12_failsTrial 3 = .ok (.istore_n 2, 1) := by decide +kernel
theorem dX12_failsTrial_4 : decode cX12_failsTrial 4 = .ok (.iload_n 2, 1) := by decide +kernel
theorem dX12_failsTrial_5 : decode cX12_failsTrial 5 = .ok (.aload_n 0, 1) := by decide +kernel
theorem dX12_failsTrial_6 : decode cX12_failsTrial 6 = .ok (.getfield 7, 3) := by decide +kernel
theorem dX12_failsTrial_9 : decode cX12_failsTrial 9 = .ok (.if_icmp .ge 37, 3) := by decide +kernel
theorem dX12_failsTrial_12 : decode cX12_failsTrial 12 = .ok (.iload_n 1, 1) := by decide +kernel
theorem dX12_failsTrial_13 : decode cX12_failsTrial 13 = .ok (.iconst 1, 1) := by decide +kernel
theorem dX12_failsTrial_14 : decode cX12_failsTrial 14 = .ok (.ishl, 1) := by decide +kernel
theorem dX12_failsTrial_15 : decode cX12_failsTrial 15 = .ok (.aload_n 0, 1) := by decide +kernel
theorem dX12_failsTrial_16 : decode cX12_failsTrial 16 = .ok (.getfield 92, 3) := by decide +kernel
theorem dX12_failsTrial_19 : decode cX12_failsTrial 19 = .ok (.iload_n 2, 1) := by decide +kernel
theorem dX12_failsTrial_20 : decode cX12_failsTrial 20 = .ok (.iaload, 1) := by decide +kernel
theorem dX12_failsTrial_21 : decode cX12_failsTrial 21 = .ok (.ior, 1) := by decide +kernel
theorem dX12_failsTrial_22 : decode cX12_failsTrial 22 = .ok (.sipush 255, 3) := by decide +kernel
theorem dX12_failsTrial_25 : decode cX12_failsTrial 25 = .ok (.iand, 1) := by decide +kernel
theorem dX12_failsTrial_26 : decode cX12_failsTrial 26 = .ok (.istore_n 1, 1) := by decide +kernel
theorem dX12_failsTrial_27 : decode cX12_failsTrial 27 = .ok (.aload_n 0, 1) := by decide +kernel
theorem dX12_failsTrial_28 : decode cX12_failsTrial 28 = .ok (.iload_n 1, 1) := by decide +kernel
theorem dX12_failsTrial_29 : decode cX12_failsTrial 29 = .ok (.iload_n 2, 1) := by decide +kernel
theorem dX12_failsTrial_30 : decode cX12_failsTrial 30 = .ok (.iconst 1, 1) := by decide +kernel
theorem dX12_failsTrial_31 : decode cX12_failsTrial 31 = .ok (.iadd, 1) := by decide +kernel
theorem dX12_failsTrial_32 : decode cX12_failsTrial 32 = .ok (.invokevirtual 348, 3) := by decide +kernel
theorem dX12_failsTrial_35 : decode cX12_failsTrial 35 = .ok (.ifCond .eq 5, 3) := by decide +kernel
theorem dX12_failsTrial_38 : decode cX12_failsTrial 38 = .ok (.iconst 1, 1) := by decide +kernel
theorem dX12_failsTrial_39 : decode cX12_failsTrial 39 = .ok (.ireturn, 1) := by decide +kernel
theorem dX12_failsTrial_40 : decode cX12_failsTrial 40 = .ok (.iinc 2 1, 3) := by decide +kernel
theorem dX12_failsTrial_43 : decode cX12_failsTrial 43 = .ok (.goto (-39), 3) := by decide +kernel
theorem dX12_failsTrial_46 : decode cX12_failsTrial 46 = .ok (.iconst 0, 1) := by decide +kernel
theorem dX12_failsTrial_47 : decode cX12_failsTrial 47 = .ok (.ireturn, 1) := by decide +kernel
theorem dX12_failsNow_0 : decode cX12_failsNow 0 = .ok (.iconst 0, 1) := by decide +kernel
theorem dX12_failsNow_1 : decode cX12_failsNow 1 = .ok (.istore_n 1, 1) := by decide +kernel
theorem dX12_failsNow_2 : decode cX12_failsNow 2 = .ok (.iload_n 1, 1) := by decide +kernel
theorem dX12_failsNow_3 : decode cX12_failsNow 3 = .ok (.aload_n 0, 1) := by decide +kernel
theorem dX12_failsNow_4 : decode cX12_failsNow 4 = .ok (.getfield 7, 3) := by decide +kernel
theorem dX12_failsNow_7 : decode cX12_failsNow 7 = .ok (.if_icmp .ge 21, 3) := by decide +kernel
theorem dX12_failsNow_10 : decode cX12_failsNow 10 = .ok (.aload_n 0, 1) := by decide +kernel
theorem dX12_failsNow_11 : decode cX12_failsNow 11 = .ok (.getfield 92, 3) := by decide +kernel
theorem dX12_failsNow_14 : decode cX12_failsNow 14 = .ok (.iload_n 1, 1) := by decide +kernel
theorem dX12_failsNow_15 : decode cX12_failsNow 15 = .ok (.aload_n 0, 1) := by decide +kernel
theorem dX12_failsNow_16 : decode cX12_failsNow 16 = .ok (.getfield 20, 3) := by decide +kernel
theorem dX12_failsNow_19 : decode cX12_failsNow 19 = .ok (.iload_n 1, 1) := by decide +kernel
theorem dX12_failsNow_20 : decode cX12_failsNow 20 = .ok (.iaload, 1) := by decide +kernel
theorem dX12_failsNow_21 : decode cX12_failsNow 21 = .ok (.iastore, 1) := by decide +kernel
theorem dX12_failsNow_22 : decode cX12_failsNow 22 = .ok (.iinc 1 1, 3) := by decide +kernel
theorem dX12_failsNow_25 : decode cX12_failsNow 25 = .ok (.goto (-23), 3) := by decide +kernel
theorem dX12_failsNow_28 : decode cX12_failsNow 28 = .ok (.aload_n 0, 1) := by decide +kernel
theorem dX12_failsNow_29 : decode cX12_failsNow 29 = .ok (.invokevirtual 351, 3) := by decide +kernel
theorem dX12_failsNow_32 : decode cX12_failsNow 32 = .ok (.ireturn, 1) := by decide +kernel
theorem dX12_areBits_0 : decode cX12_areBits 0 = .ok (.iload_n 1, 1) := by decide +kernel
theorem dX12_areBits_1 : decode cX12_areBits 1 = .ok (.ifCond .lt 10, 3) := by decide +kernel
theorem dX12_areBits_4 : decode cX12_areBits 4 = .ok (.iload_n 1, 1) := by decide +kernel
theorem dX12_areBits_5 : decode cX12_areBits 5 = .ok (.ldc_w 354, 3) := by decide +kernel
theorem dX12_areBits_8 : decode cX12_areBits 8 = .ok (.if_icmp .lt 5, 3) := by decide +kernel
theorem dX12_areBits_11 : decode cX12_areBits 11 = .ok (.iconst 0, 1) := by decide +kernel
theorem dX12_areBits_12 : decode cX12_areBits 12 = .ok (.ireturn, 1) := by decide +kernel
theorem dX12_areBits_13 : decode cX12_areBits 13 = .ok (.iconst 0, 1) := by decide +kernel
theorem dX12_areBits_14 : decode cX12_areBits 14 = .ok (.istore_n 3, 1) := by decide +kernel
theorem dX12_areBits_15 : decode cX12_areBits 15 = .ok (.iload_n 3, 1) := by decide +kernel
theorem dX12_areBits_16 : decode cX12_areBits 16 = .ok (.bipush 30, 2) := by decide +kernel
theorem dX12_areBits_18 : decode cX12_areBits 18 = .ok (.if_icmp .ge 30, 3) := by decide +kernel
theorem dX12_areBits_21 : decode cX12_areBits 21 = .ok (.iload_n 1, 1) := by decide +kernel
theorem dX12_areBits_22 : decode cX12_areBits 22 = .ok (.iload_n 3, 1) := by decide +kernel
theorem dX12_areBits_23 : decode cX12_areBits 23 = .ok (.ishr, 1) := by decide +kernel
theorem dX12_areBits_24 : decode cX12_areBits 24 = .ok (.iconst 1, 1) := by decide +kernel
theorem dX12_areBits_25 : decode cX12_areBits 25 = .ok (.iand, 1) := by decide +kernel
theorem dX12_areBits_26 : decode cX12_areBits 26 = .ok (.iconst 1, 1) := by decide +kernel
theorem dX12_areBits_27 : decode cX12_areBits 27 = .ok (.if_icmp .ne 15, 3) := by decide +kernel
theorem dX12_areBits_30 : decode cX12_areBits 30 = .ok (.iload_n 2, 1) := by decide +kernel
theorem dX12_areBits_31 : decode cX12_areBits 31 = .ok (.iload_n 3, 1) := by decide +kernel
theorem dX12_areBits_32 : decode cX12_areBits 32 = .ok (.iadd, 1) := by decide +kernel
theorem dX12_areBits_33 : decode cX12_areBits 33 = .ok (.aload_n 0, 1) := by decide +kernel
theorem dX12_areBits_34 : decode cX12_areBits 34 = .ok (.getfield 7, 3) := by decide +kernel
theorem dX12_areBits_37 : decode cX12_areBits 37 = .ok (.if_icmp .lt 5, 3) := by decide +kernel
theorem dX12_areBits_40 : decode cX12_areBits 40 = .ok (.iconst 0, 1) := by decide +kernel
theorem dX12_areBits_41 : decode cX12_areBits 41 = .ok (.ireturn, 1) := by decide +kernel
theorem dX12_areBits_42 : decode cX12_areBits 42 = .ok (.iinc 3 1, 3) := by decide +kernel
theorem dX12_areBits_45 : decode cX12_areBits 45 = .ok (.goto (-30), 3) := by decide +kernel
theorem dX12_areBits_48 : decode cX12_areBits 48 = .ok (.iconst 1, 1) := by decide +kernel
theorem dX12_areBits_49 : decode cX12_areBits 49 = .ok (.ireturn, 1) := by decide +kernel
theorem dX12_fails_0 : decode cX12_fails 0 = .ok (.aload_n 0, 1) := by decide +kernel
theorem dX12_fails_1 : decode cX12_fails 1 = .ok (.iconst 0, 1) := by decide +kernel
theorem dX12_fails_2 : decode cX12_fails 2 = .ok (.putfield 166, 3) := by decide +kernel
theorem dX12_fails_5 : decode cX12_fails 5 = .ok (.aload_n 0, 1) := by decide +kernel
theorem dX12_fails_6 : decode cX12_fails 6 = .ok (.iload_n 1, 1) := by decide +kernel
theorem dX12_fails_7 : decode cX12_fails 7 = .ok (.iconst 0, 1) := by decide +kernel
theorem dX12_fails_8 : decode cX12_fails 8 = .ok (.invokevirtual 355, 3) := by decide +kernel
theorem dX12_fails_11 : decode cX12_fails 11 = .ok (.ifCond .eq 13, 3) := by decide +kernel
theorem dX12_fails_14 : decode cX12_fails 14 = .ok (.aload_n 0, 1) := by decide +kernel
theorem dX12_fails_15 : decode cX12_fails 15 = .ok (.iload_n 2, 1) := by decide +kernel
theorem dX12_fails_16 : decode cX12_fails 16 = .ok (.bipush 30, 2) := by decide +kernel
theorem dX12_fails_18 : decode cX12_fails 18 = .ok (.invokevirtual 355, 3) := by decide +kernel
theorem dX12_fails_21 : decode cX12_fails 21 = .ok (.ifCond .ne 5, 3) := by decide +kernel
theorem dX12_fails_24 : decode cX12_fails 24 = .ok (.iconst (-1), 1) := by decide +kernel
theorem dX12_fails_25 : decode cX12_fails 25 = .ok (.ireturn, 1) := by decide +kernel
theorem dX12_fails_26 : decode cX12_fails 26 = .ok (.iconst 0, 1) := by decide +kernel
theorem dX12_fails_27 : decode cX12_fails 27 = .ok (.istore_n 3, 1) := by decide +kernel
theorem dX12_fails_28 : decode cX12_fails 28 = .ok (.iload_n 3, 1) := by decide +kernel
theorem dX12_fails_29 : decode cX12_fails 29 = .ok (.aload_n 0, 1) := by decide +kernel
theorem dX12_fails_30 : decode cX12_fails 30 = .ok (.getfield 7, 3) := by decide +kernel
theorem dX12_fails_33 : decode cX12_fails 33 = .ok (.if_icmp .ge 37, 3) := by decide +kernel
theorem dX12_fails_36 : decode cX12_fails 36 = .ok (.aload_n 0, 1) := by decide +kernel
theorem dX12_fails_37 : decode cX12_fails 37 = .ok (.getfield 92, 3) := by decide +kernel
theorem dX12_fails_40 : decode cX12_fails 40 = .ok (.iload_n 3, 1) := by decide +kernel
theorem dX12_fails_41 : decode cX12_fails 41 = .ok (.iload_n 3, 1) := by decide +kernel
theorem dX12_fails_42 : decode cX12_fails 42 = .ok (.bipush 30, 2) := by decide +kernel
theorem dX12_fails_44 : decode cX12_fails 44 = .ok (.if_icmp .ge 11, 3) := by decide +kernel
theorem dX12_fails_47 : decode cX12_fails 47 = .ok (.iload_n 1, 1) := by decide +kernel
theorem dX12_fails_48 : decode cX12_fails 48 = .ok (.iload_n 3, 1) := by decide +kernel
theorem dX12_fails_49 : decode cX12_fails 49 = .ok (.ishr, 1) := by decide +kernel
theorem dX12_fails_50 : decode cX12_fails 50 = .ok (.iconst 1, 1) := by decide +kernel
theorem dX12_fails_51 : decode cX12_fails 51 = .ok (.iand, 1) := by decide +kernel
theorem dX12_fails_52 : decode cX12_fails 52 = .ok (.goto 11, 3) := by decide +kernel
theorem dX12_fails_55 : decode cX12_fails 55 = .ok (.iload_n 2, 1) := by decide +kernel
theorem dX12_fails_56 : decode cX12_fails 56 = .ok (.iload_n 3, 1) := by decide +kernel
theorem dX12_fails_57 : decode cX12_fails 57 = .ok (.bipush 30, 2) := by decide +kernel
theorem dX12_fails_59 : decode cX12_fails 59 = .ok (.isub, 1) := by decide +kernel
theorem dX12_fails_60 : decode cX12_fails 60 = .ok (.ishr, 1) := by decide +kernel
theorem dX12_fails_61 : decode cX12_fails 61 = .ok (.iconst 1, 1) := by decide +kernel
theorem dX12_fails_62 : decode cX12_fails 62 = .ok (.iand, 1) := by decide +kernel
theorem dX12_fails_63 : decode cX12_fails 63 = .ok (.iastore, 1) := by decide +kernel
theorem dX12_fails_64 : decode cX12_fails 64 = .ok (.iinc 3 1, 3) := by decide +kernel
theorem dX12_fails_67 : decode cX12_fails 67 = .ok (.goto (-39), 3) := by decide +kernel
theorem dX12_fails_70 : decode cX12_fails 70 = .ok (.aload_n 0, 1) := by decide +kernel
theorem dX12_fails_71 : decode cX12_fails 71 = .ok (.invokevirtual 351, 3) := by decide +kernel
theorem dX12_fails_74 : decode cX12_fails 74 = .ok (.ifCond .eq 7, 3) := by decide +kernel
theorem dX12_fails_77 : decode cX12_fails 77 = .ok (.iconst 1, 1) := by decide +kernel
theorem dX12_fails_78 : decode cX12_fails 78 = .ok (.goto 4, 3) := by decide +kernel
theorem dX12_fails_81 : decode cX12_fails 81 = .ok (.iconst 0, 1) := by decide +kernel
theorem dX12_fails_82 : decode cX12_fails 82 = .ok (.ireturn, 1) := by decide +kernel
theorem dX12_bestUrge_0 : decode cX12_bestUrge 0 = .ok (.iconst (-1), 1) := by decide +kernel
theorem dX12_bestUrge_1 : decode cX12_bestUrge 1 = .ok (.istore_n 1, 1) := by decide +kernel
theorem dX12_bestUrge_2 : decode cX12_bestUrge 2 = .ok (.iconst 0, 1) := by decide +kernel
theorem dX12_bestUrge_3 : decode cX12_bestUrge 3 = .ok (.istore_n 2, 1) := by decide +kernel
theorem dX12_bestUrge_4 : decode cX12_bestUrge 4 = .ok (.iload_n 2, 1) := by decide +kernel
theorem dX12_bestUrge_5 : decode cX12_bestUrge 5 = .ok (.aload_n 0, 1) := by decide +kernel
theorem dX12_bestUrge_6 : decode cX12_bestUrge 6 = .ok (.getfield 7, 3) := by decide +kernel
theorem dX12_bestUrge_9 : decode cX12_bestUrge 9 = .ok (.if_icmp .ge 40, 3) := by decide +kernel
theorem dX12_bestUrge_12 : decode cX12_bestUrge 12 = .ok (.aload_n 0, 1) := by decide +kernel
theorem dX12_bestUrge_13 : decode cX12_bestUrge 13 = .ok (.getfield 98, 3) := by decide +kernel
theorem dX12_bestUrge_16 : decode cX12_bestUrge 16 = .ok (.iload_n 2, 1) := by decide +kernel
theorem dX12_bestUrge_17 : decode cX12_bestUrge 17 = .ok (.iaload, 1) := by decide +kernel
theorem dX12_bestUrge_18 : decode cX12_bestUrge 18 = .ok (.ifCond .le 25, 3) := by decide +kernel
theorem dX12_bestUrge_21 : decode cX12_bestUrge 21 = .ok (.iload_n 1, 1) := by decide +kernel
theorem dX12_bestUrge_22 : decode cX12_bestUrge 22 = .ok (.iconst (-1), 1) := by decide +kernel
theorem dX12_bestUrge_23 : decode cX12_bestUrge 23 = .ok (.if_icmp .eq 18, 3) := by decide +kernel
theorem dX12_bestUrge_26 : decode cX12_bestUrge 26 = .ok (.aload_n 0, 1) := by decide +kernel
theorem dX12_bestUrge_27 : decode cX12_bestUrge 27 = .ok (.getfield 98, 3) := by decide +kernel
theorem dX12_bestUrge_30 : decode cX12_bestUrge 30 = .ok (.iload_n 2, 1) := by decide +kernel
theorem dX12_bestUrge_31 : decode cX12_bestUrge 31 = .ok (.iaload, 1) := by decide +kernel
theorem dX12_bestUrge_32 : decode cX12_bestUrge 32 = .ok (.aload_n 0, 1) := by decide +kernel
theorem dX12_bestUrge_33 : decode cX12_bestUrge 33 = .ok (.getfield 98, 3) := by decide +kernel
theorem dX12_bestUrge_36 : decode cX12_bestUrge 36 = .ok (.iload_n 1, 1) := by decide +kernel
theorem dX12_bestUrge_37 : decode cX12_bestUrge 37 = .ok (.iaload, 1) := by decide +kernel
theorem dX12_bestUrge_38 : decode cX12_bestUrge 38 = .ok (.if_icmp .le 5, 3) := by decide +kernel
theorem dX12_bestUrge_41 : decode cX12_bestUrge 41 = .ok (.iload_n 2, 1) := by decide +kernel
theorem dX12_bestUrge_42 : decode cX12_bestUrge 42 = .ok (.istore_n 1, 1) := by decide +kernel
theorem dX12_bestUrge_43 : decode cX12_bestUrge 43 = .ok (.iinc 2 1, 3) := by decide +kernel
theorem dX12_bestUrge_46 : decode cX12_bestUrge 46 = .ok (.goto (-42), 3) := by decide +kernel
theorem dX12_bestUrge_49 : decode cX12_bestUrge 49 = .ok (.iload_n 1, 1) := by decide +kernel
theorem dX12_bestUrge_50 : decode cX12_bestUrge 50 = .ok (.ireturn, 1) := by decide +kernel
theorem dX12_changes_0 : decode cX12_changes 0 = .ok (.iload_n 1, 1) := by decide +kernel
theorem dX12_changes_1 : decode cX12_changes 1 = .ok (.iconst 1, 1) := by decide +kernel
theorem dX12_changes_2 : decode cX12_changes 2 = .ok (.iadd, 1) := by decide +kernel
theorem dX12_changes_3 : decode cX12_changes 3 = .ok (.aload_n 0, 1) := by decide +kernel
theorem dX12_changes_4 : decode cX12_changes 4 = .ok (.getfield 7, 3) := by decide +kernel
theorem dX12_changes_7 : decode cX12_changes 7 = .ok (.iload_n 1, 1) := by decide +kernel
theorem dX12_changes_8 : decode cX12_changes 8 = .ok (.isub, 1) := by decide +kernel
theorem dX12_changes_9 : decode cX12_changes 9 = .ok (.if_icmp .gt 21, 3) := by decide +kernel
theorem dX12_changes_12 : decode cX12_changes 12 = .ok (.aload_n 0, 1) := by decide +kernel
theorem dX12_changes_13 : decode cX12_changes 13 = .ok (.getfield 38, 3) := by decide +kernel
theorem dX12_changes_16 : decode cX12_changes 16 = .ok (.bipush 6, 2) := by decide +kernel
theorem dX12_changes_18 : decode cX12_changes 18 = .ok (.iaload, 1) := by decide +kernel
theorem dX12_changes_19 : decode cX12_changes 19 = .ok (.ifCond .le 7, 3) := by decide +kernel
theorem dX12_changes_22 : decode cX12_changes 22 = .ok (.iconst 1, 1) := by decide +kernel
theorem dX12_changes_23 : decode cX12_changes 23 = .ok (.goto 32, 3) := by decide +kernel
theorem dX12_changes_26 : decode cX12_changes 26 = .ok (.iconst 0, 1) := by decide +kernel
theorem dX12_changes_27 : decode cX12_changes 27 = .ok (.goto 28, 3) := by decide +kernel
theorem dX12_changes_30 : decode cX12_changes 30 = .ok (.aload_n 0, 1) := by decide +kernel
theorem dX12_changes_31 : decode cX12_changes 31 = .ok (.getfield 38, 3) := by decide +kernel
theorem dX12_changes_34 : decode cX12_changes 34 = .ok (.bipush 7, 2) := by decide +kernel
theorem dX12_changes_36 : decode cX12_changes 36 = .ok (.iaload, 1) := by decide +kernel
theorem dX12_changes_37 : decode cX12_changes 37 = .ok (.ifCond .ne 17, 3) := by decide +kernel
theorem dX12_changes_40 : decode cX12_changes 40 = .ok (.aload_n 0, 1) := by decide +kernel
theorem dX12_changes_41 : decode cX12_changes 41 = .ok (.getfield 38, 3) := by decide +kernel
theorem dX12_changes_44 : decode cX12_changes 44 = .ok (.bipush 6, 2) := by decide +kernel
theorem dX12_changes_46 : decode cX12_changes 46 = .ok (.iaload, 1) := by decide +kernel
theorem dX12_changes_47 : decode cX12_changes 47 = .ok (.ifCond .le 7, 3) := by decide +kernel
theorem dX12_changes_50 : decode cX12_changes 50 = .ok (.iconst 1, 1) := by decide +kernel
theorem dX12_changes_51 : decode cX12_changes 51 = .ok (.goto 4, 3) := by decide +kernel
theorem dX12_changes_54 : decode cX12_changes 54 = .ok (.iconst 0, 1) := by decide +kernel
theorem dX12_changes_55 : decode cX12_changes 55 = .ok (.istore_n 2, 1) := by decide +kernel
theorem dX12_changes_56 : decode cX12_changes 56 = .ok (.iload_n 2, 1) := by decide +kernel
theorem dX12_changes_57 : decode cX12_changes 57 = .ok (.ifCond .ne 15, 3) := by decide +kernel
theorem dX12_changes_60 : decode cX12_changes 60 = .ok (.aload_n 0, 1) := by decide +kernel
theorem dX12_changes_61 : decode cX12_changes 61 = .ok (.getfield 38, 3) := by decide +kernel
theorem dX12_changes_64 : decode cX12_changes 64 = .ok (.bipush 7, 2) := by decide +kernel
theorem dX12_changes_66 : decode cX12_changes 66 = .ok (.iaload, 1) := by decide +kernel
theorem dX12_changes_67 : decode cX12_changes 67 = .ok (.ifCond .ne 5, 3) := by decide +kernel
theorem dX12_changes_70 : decode cX12_changes 70 = .ok (.iconst 0, 1) := by decide +kernel
theorem dX12_changes_71 : decode cX12_changes 71 = .ok (.ireturn, 1) := by decide +kernel
theorem dX12_changes_72 : decode cX12_changes 72 = .ok (.iload_n 2, 1) := by decide +kernel
theorem dX12_changes_73 : decode cX12_changes 73 = .ok (.ifCond .eq 8, 3) := by decide +kernel
theorem dX12_changes_76 : decode cX12_changes 76 = .ok (.bipush 6, 2) := by decide +kernel
theorem dX12_changes_78 : decode cX12_changes 78 = .ok (.goto 5, 3) := by decide +kernel
theorem dX12_changes_81 : decode cX12_changes 81 = .ok (.bipush 7, 2) := by decide +kernel
theorem dX12_changes_83 : decode cX12_changes 83 = .ok (.istore_n 3, 1) := by decide +kernel
theorem dX12_changes_84 : decode cX12_changes 84 = .ok (.aload_n 0, 1) := by decide +kernel
theorem dX12_changes_85 : decode cX12_changes 85 = .ok (.getfield 38, 3) := by decide +kernel
theorem dX12_changes_88 : decode cX12_changes 88 = .ok (.iload_n 3, 1) := by decide +kernel
theorem dX12_changes_89 : decode cX12_changes 89 = .ok (.aload_n 0, 1) := by decide +kernel
theorem dX12_changes_90 : decode cX12_changes 90 = .ok (.getfield 38, 3) := by decide +kernel
theorem dX12_changes_93 : decode cX12_changes 93 = .ok (.iload_n 3, 1) := by decide +kernel
theorem dX12_changes_94 : decode cX12_changes 94 = .ok (.iaload, 1) := by decide +kernel
theorem dX12_changes_95 : decode cX12_changes 95 = .ok (.iconst 1, 1) := by decide +kernel
theorem dX12_changes_96 : decode cX12_changes 96 = .ok (.isub, 1) := by decide +kernel
theorem dX12_changes_97 : decode cX12_changes 97 = .ok (.iastore, 1) := by decide +kernel
theorem dX12_changes_98 : decode cX12_changes 98 = .ok (.aload_n 0, 1) := by decide +kernel
theorem dX12_changes_99 : decode cX12_changes 99 = .ok (.aload_n 0, 1) := by decide +kernel
theorem dX12_changes_100 : decode cX12_changes 100 = .ok (.getfield 358, 3) := by decide +kernel
theorem dX12_changes_103 : decode cX12_changes 103 = .ok (.aload_n 0, 1) := by decide +kernel
theorem dX12_changes_104 : decode cX12_changes 104 = .ok (.getfield 35, 3) := by decide +kernel
theorem dX12_changes_107 : decode cX12_changes 107 = .ok (.aload_n 0, 1) := by decide +kernel
theorem dX12_changes_108 : decode cX12_changes 108 = .ok (.getfield 13, 3) := by decide +kernel
theorem dX12_changes_111 : decode cX12_changes 111 = .ok (.iload_n 1, 1) := by decide +kernel
theorem dX12_changes_112 : decode cX12_changes 112 = .ok (.iaload, 1) := by decide +kernel
theorem dX12_changes_113 : decode cX12_changes 113 = .ok (.iaload, 1) := by decide +kernel
theorem dX12_changes_114 : decode cX12_changes 114 = .ok (.iadd, 1) := by decide +kernel
theorem dX12_changes_115 : decode cX12_changes 115 = .ok (.aload_n 0, 1) := by decide +kernel
theorem dX12_changes_116 : decode cX12_changes 116 = .ok (.getfield 38, 3) := by decide +kernel
theorem dX12_changes_119 : decode cX12_changes 119 = .ok (.iconst 4, 1) := by decide +kernel
theorem dX12_changes_120 : decode cX12_changes 120 = .ok (.iaload, 1) := by decide +kernel
theorem dX12_changes_121 : decode cX12_changes 121 = .ok (.iload_n 2, 1) := by decide +kernel
theorem dX12_changes_122 : decode cX12_changes 122 = .ok (.ifCond .eq 9, 3) := by decide +kernel
theorem dX12_changes_125 : decode cX12_changes 125 = .ok (.iload_n 1, 1) := by decide +kernel
theorem dX12_changes_126 : decode cX12_changes 126 = .ok (.iconst 1, 1) := by decide +kernel
theorem dX12_changes_127 : decode cX12_changes 127 = .ok (.iadd, 1) := by decide +kernel
theorem dX12_changes_128 : decode cX12_changes 128 = .ok (.goto 9, 3) := by decide +kernel
theorem dX12_changes_131 : decode cX12_changes 131 = .ok (.aload_n 0, 1) := by decide +kernel
theorem dX12_changes_132 : decode cX12_changes 132 = .ok (.getfield 7, 3) := by decide +kernel
theorem dX12_changes_135 : decode cX12_changes 135 = .ok (.iload_n 1, 1) := by decide +kernel
theorem dX12_changes_136 : decode cX12_changes 136 = .ok (.isub, 1) := by decide +kernel
theorem dX12_changes_137 : decode cX12_changes 137 = .ok (.imul, 1) := by decide +kernel
theorem dX12_changes_138 : decode cX12_changes 138 = .ok (.iadd, 1) := by decide +kernel
theorem dX12_changes_139 : decode cX12_changes 139 = .ok (.putfield 358, 3) := by decide +kernel
theorem dX12_changes_142 : decode cX12_changes 142 = .ok (.aload_n 0, 1) := by decide +kernel
theorem dX12_changes_143 : decode cX12_changes 143 = .ok (.aload_n 0, 1) := by decide +kernel
theorem dX12_changes_144 : decode cX12_changes 144 = .ok (.getfield 361, 3) := by decide +kernel
theorem dX12_changes_147 : decode cX12_changes 147 = .ok (.iconst 1, 1) := by decide +kernel
theorem dX12_changes_148 : decode cX12_changes 148 = .ok (.iadd, 1) := by decide +kernel
theorem dX12_changes_149 : decode cX12_changes 149 = .ok (.putfield 361, 3) := by decide +kernel
theorem dX12_changes_152 : decode cX12_changes 152 = .ok (.aload_n 0, 1) := by decide +kernel
theorem dX12_changes_153 : decode cX12_changes 153 = .ok (.getfield 29, 3) := by decide +kernel
theorem dX12_changes_156 : decode cX12_changes 156 = .ok (.iload_n 1, 1) := by decide +kernel
theorem dX12_changes_157 : decode cX12_changes 157 = .ok (.aload_n 0, 1) := by decide +kernel
theorem dX12_changes_158 : decode cX12_changes 158 = .ok (.getfield 29, 3) := by decide +kernel
theorem dX12_changes_161 : decode cX12_changes 161 = .ok (.iload_n 1, 1) := by decide +kernel
theorem dX12_changes_162 : decode cX12_changes 162 = .ok (.iaload, 1) := by decide +kernel
theorem dX12_changes_163 : decode cX12_changes 163 = .ok (.iconst 1, 1) := by decide +kernel
theorem dX12_changes_164 : decode cX12_changes 164 = .ok (.iadd, 1) := by decide +kernel
theorem dX12_changes_165 : decode cX12_changes 165 = .ok (.iastore, 1) := by decide +kernel
theorem dX12_changes_166 : decode cX12_changes 166 = .ok (.aload_n 0, 1) := by decide +kernel
theorem dX12_changes_167 : decode cX12_changes 167 = .ok (.getfield 17, 3) := by decide +kernel
theorem dX12_changes_170 : decode cX12_changes 170 = .ok (.iload_n 1, 1) := by decide +kernel
theorem dX12_changes_171 : decode cX12_changes 171 = .ok (.iconst 0, 1) := by decide +kernel
theorem dX12_changes_172 : decode cX12_changes 172 = .ok (.iastore, 1) := by decide +kernel
theorem dX12_changes_173 : decode cX12_changes 173 = .ok (.aload_n 0, 1) := by decide +kernel
theorem dX12_changes_174 : decode cX12_changes 174 = .ok (.getfield 20, 3) := by decide +kernel
theorem dX12_changes_177 : decode cX12_changes 177 = .ok (.iload_n 1, 1) := by decide +kernel
theorem dX12_changes_178 : decode cX12_changes 178 = .ok (.iconst 0, 1) := by decide +kernel
theorem dX12_changes_179 : decode cX12_changes 179 = .ok (.iastore, 1) := by decide +kernel
theorem dX12_changes_180 : decode cX12_changes 180 = .ok (.aload_n 0, 1) := by decide +kernel
theorem dX12_changes_181 : decode cX12_changes 181 = .ok (.getfield 26, 3) := by decide +kernel
theorem dX12_changes_184 : decode cX12_changes 184 = .ok (.iload_n 1, 1) := by decide +kernel
theorem dX12_changes_185 : decode cX12_changes 185 = .ok (.iconst 0, 1) := by decide +kernel
theorem dX12_changes_186 : decode cX12_changes 186 = .ok (.iastore, 1) := by decide +kernel
theorem dX12_changes_187 : decode cX12_changes 187 = .ok (.aload_n 0, 1) := by decide +kernel
theorem dX12_changes_188 : decode cX12_changes 188 = .ok (.getfield 98, 3) := by decide +kernel
theorem dX12_changes_191 : decode cX12_changes 191 = .ok (.iload_n 1, 1) := by decide +kernel
theorem dX12_changes_192 : decode cX12_changes 192 = .ok (.iconst 0, 1) := by decide +kernel
theorem dX12_changes_193 : decode cX12_changes 193 = .ok (.iastore, 1) := by decide +kernel
theorem dX12_changes_194 : decode cX12_changes 194 = .ok (.iconst 1, 1) := by decide +kernel
theorem dX12_changes_195 : decode cX12_changes 195 = .ok (.ireturn, 1) := by decide +kernel
theorem dX12_heComes_0 : decode cX12_heComes 0 = .ok (.iconst 0, 1) := by decide +kernel
theorem dX12_heComes_1 : decode cX12_heComes 1 = .ok (.istore_n 1, 1) := by decide +kernel
theorem dX12_heComes_2 : decode cX12_heComes 2 = .ok (.iload_n 1, 1) := by decide +kernel
theorem dX12_heComes_3 : decode cX12_heComes 3 = .ok (.aload_n 0, 1) := by decide +kernel
theorem dX12_heComes_4 : decode cX12_heComes 4 = .ok (.getfield 7, 3) := by decide +kernel
theorem dX12_heComes_7 : decode cX12_heComes 7 = .ok (.if_icmp .ge 24, 3) := by decide +kernel
theorem dX12_heComes_10 : decode cX12_heComes 10 = .ok (.aload_n 0, 1) := by decide +kernel
theorem dX12_heComes_11 : decode cX12_heComes 11 = .ok (.getfield 98, 3) := by decide +kernel
theorem dX12_heComes_14 : decode cX12_heComes 14 = .ok (.iload_n 1, 1) := by decide +kernel
theorem dX12_heComes_15 : decode cX12_heComes 15 = .ok (.aload_n 0, 1) := by decide +kernel
theorem dX12_heComes_16 : decode cX12_heComes 16 = .ok (.aload_n 0, 1) := by decide +kernel
theorem dX12_heComes_17 : decode cX12_heComes 17 = .ok (.getfield 101, 3) := by decide +kernel
theorem dX12_heComes_20 : decode cX12_heComes 20 = .ok (.iload_n 1, 1) := by decide +kernel
theorem dX12_heComes_21 : decode cX12_heComes 21 = .ok (.invokevirtual 364, 3) := by decide +kernel
theorem dX12_heComes_24 : decode cX12_heComes 24 = .ok (.iastore, 1) := by decide +kernel
theorem dX12_heComes_25 : decode cX12_heComes 25 = .ok (.iinc 1 1, 3) := by decide +kernel
theorem dX12_heComes_28 : decode cX12_heComes 28 = .ok (.goto (-26), 3) := by decide +kernel
theorem dX12_heComes_31 : decode cX12_heComes 31 = .ok (.iconst 0, 1) := by decide +kernel
theorem dX12_heComes_32 : decode cX12_heComes 32 = .ok (.istore_n 1, 1) := by decide +kernel
theorem dX12_heComes_33 : decode cX12_heComes 33 = .ok (.iload_n 1, 1) := by decide +kernel
theorem dX12_heComes_34 : decode cX12_heComes 34 = .ok (.aload_n 0, 1) := by decide +kernel
theorem dX12_heComes_35 : decode cX12_heComes 35 = .ok (.getfield 7, 3) := by decide +kernel
theorem dX12_heComes_38 : decode cX12_heComes 38 = .ok (.if_icmp .ge 33, 3) := by decide +kernel
theorem dX12_heComes_41 : decode cX12_heComes 41 = .ok (.aload_n 0, 1) := by decide +kernel
theorem dX12_heComes_42 : decode cX12_heComes 42 = .ok (.getfield 23, 3) := by decide +kernel
theorem dX12_heComes_45 : decode cX12_heComes 45 = .ok (.iload_n 1, 1) := by decide +kernel
theorem dX12_heComes_46 : decode cX12_heComes 46 = .ok (.aload_n 0, 1) := by decide +kernel
theorem dX12_heComes_47 : decode cX12_heComes 47 = .ok (.getfield 334, 3) := by decide +kernel
theorem dX12_heComes_50 : decode cX12_heComes 50 = .ok (.iconst 1, 1) := by decide +kernel
theorem dX12_heComes_51 : decode cX12_heComes 51 = .ok (.iadd, 1) := by decide +kernel
theorem dX12_heComes_52 : decode cX12_heComes 52 = .ok (.iastore, 1) := by decide +kernel
theorem dX12_heComes_53 : decode cX12_heComes 53 = .ok (.aload_n 0, 1) := by decide +kernel
theorem dX12_heComes_54 : decode cX12_heComes 54 = .ok (.getfield 26, 3) := by decide +kernel
theorem dX12_heComes_57 : decode cX12_heComes 57 = .ok (.iload_n 1, 1) := by decide +kernel
theorem dX12_heComes_58 : decode cX12_heComes 58 = .ok (.aload_n 0, 1) := by decide +kernel
theorem dX12_heComes_59 : decode cX12_heComes 59 = .ok (.getfield 20, 3) := by decide +kernel
theorem dX12_heComes_62 : decode cX12_heComes 62 = .ok (.iload_n 1, 1) := by decide +kernel
theorem dX12_heComes_63 : decode cX12_heComes 63 = .ok (.iaload, 1) := by decide +kernel
theorem dX12_heComes_64 : decode cX12_heComes 64 = .ok (.iastore, 1) := by decide +kernel
theorem dX12_heComes_65 : decode cX12_heComes 65 = .ok (.iinc 1 1, 3) := by decide +kernel
theorem dX12_heComes_68 : decode cX12_heComes 68 = .ok (.goto (-35), 3) := by decide +kernel
theorem dX12_heComes_71 : decode cX12_heComes 71 = .ok (.iconst 0, 1) := by decide +kernel
theorem dX12_heComes_72 : decode cX12_heComes 72 = .ok (.istore_n 1, 1) := by decide +kernel
theorem dX12_heComes_73 : decode cX12_heComes 73 = .ok (.iload_n 1, 1) := by decide +kernel
theorem dX12_heComes_74 : decode cX12_heComes 74 = .ok (.aload_n 0, 1) := by decide +kernel
theorem dX12_heComes_75 : decode cX12_heComes 75 = .ok (.getfield 38, 3) := by decide +kernel
theorem dX12_heComes_78 : decode cX12_heComes 78 = .ok (.iconst 2, 1) := by decide +kernel
theorem dX12_heComes_79 : decode cX12_heComes 79 = .ok (.iaload, 1) := by decide +kernel
theorem dX12_heComes_80 : decode cX12_heComes 80 = .ok (.if_icmp .ge 28, 3) := by decide +kernel
theorem dX12_heComes_83 : decode cX12_heComes 83 = .ok (.aload_n 0, 1) := by decide +kernel
theorem dX12_heComes_84 : decode cX12_heComes 84 = .ok (.invokevirtual 367, 3) := by decide +kernel
theorem dX12_heComes_87 : decode cX12_heComes 87 = .ok (.istore_n 2, 1) := by decide +kernel
theorem dX12_heComes_88 : decode cX12_heComes 88 = .ok (.iload_n 2, 1) := by decide +kernel
theorem dX12_heComes_89 : decode cX12_heComes 89 = .ok (.iconst (-1), 1) := by decide +kernel
theorem dX12_heComes_90 : decode cX12_heComes 90 = .ok (.if_icmp .eq 11, 3) := by decide +kernel
theorem dX12_heComes_93 : decode cX12_heComes 93 = .ok (.aload_n 0, 1) := by decide +kernel
theorem dX12_heComes_94 : decode cX12_heComes 94 = .ok (.iload_n 2, 1) := by decide +kernel
theorem dX12_heComes_95 : decode cX12_heComes 95 = .ok (.invokevirtual 370, 3) := by decide +kernel
theorem dX12_heComes_98 : decode cX12_heComes 98 = .ok (.ifCond .ne 4, 3) := by decide +kernel
theorem dX12_heComes_101 : decode cX12_heComes 101 = .ok (.return_, 1) := by decide +kernel
theorem dX12_heComes_102 : decode cX12_heComes 102 = .ok (.iinc 1 1, 3) := by decide +kernel
theorem dX12_heComes_105 : decode cX12_heComes 105 = .ok (.goto (-32), 3) := by decide +kernel
theorem dX12_heComes_108 : decode cX12_heComes 108 = .ok (.return_, 1) := by decide +kernel
theorem dX12_goesBy_0 : decode cX12_goesBy 0 = .ok (.iconst 0, 1) := by decide +kernel
theorem dX12_goesBy_1 : decode cX12_goesBy 1 = .ok (.istore_n 1, 1) := by decide +kernel
theorem dX12_goesBy_2 : decode cX12_goesBy 2 = .ok (.iload_n 1, 1) := by decide +kernel
theorem dX12_goesBy_3 : decode cX12_goesBy 3 = .ok (.aload_n 0, 1) := by decide +kernel
theorem dX12_goesBy_4 : decode cX12_goesBy 4 = .ok (.getfield 7, 3) := by decide +kernel
theorem dX12_goesBy_7 : decode cX12_goesBy 7 = .ok (.if_icmp .ge 20, 3) := by decide +kernel
theorem dX12_goesBy_10 : decode cX12_goesBy 10 = .ok (.aload_n 0, 1) := by decide +kernel
theorem dX12_goesBy_11 : decode cX12_goesBy 11 = .ok (.getfield 95, 3) := by decide +kernel
theorem dX12_goesBy_14 : decode cX12_goesBy 14 = .ok (.iload_n 1, 1) := by decide +kernel
theorem dX12_goesBy_15 : decode cX12_goesBy 15 = .ok (.aload_n 0, 1) := by decide +kernel
theorem dX12_goesBy_16 : decode cX12_goesBy 16 = .ok (.iload_n 1, 1) := by decide +kernel
theorem dX12_goesBy_17 : decode cX12_goesBy 17 = .ok (.invokevirtual 373, 3) := by decide +kernel
theorem dX12_goesBy_20 : decode cX12_goesBy 20 = .ok (.iastore, 1) := by decide +kernel
theorem dX12_goesBy_21 : decode cX12_goesBy 21 = .ok (.iinc 1 1, 3) := by decide +kernel
theorem dX12_goesBy_24 : decode cX12_goesBy 24 = .ok (.goto (-22), 3) := by decide +kernel
theorem dX12_goesBy_27 : decode cX12_goesBy 27 = .ok (.iconst 0, 1) := by decide +kernel
theorem dX12_goesBy_28 : decode cX12_goesBy 28 = .ok (.istore_n 1, 1) := by decide +kernel
theorem dX12_goesBy_29 : decode cX12_goesBy 29 = .ok (.iload_n 1, 1) := by decide +kernel
theorem dX12_goesBy_30 : decode cX12_goesBy 30 = .ok (.aload_n 0, 1) := by decide +kernel
theorem dX12_goesBy_31 : decode cX12_goesBy 31 = .ok (.getfield 7, 3) := by decide +kernel
theorem dX12_goesBy_34 : decode cX12_goesBy 34 = .ok (.if_icmp .ge 90, 3) := by decide +kernel
theorem dX12_goesBy_37 : decode cX12_goesBy 37 = .ok (.aload_n 0, 1) := by decide +kernel
theorem dX12_goesBy_38 : decode cX12_goesBy 38 = .ok (.getfield 20, 3) := by decide +kernel
theorem dX12_goesBy_41 : decode cX12_goesBy 41 = .ok (.iload_n 1, 1) := by decide +kernel
theorem dX12_goesBy_42 : decode cX12_goesBy 42 = .ok (.iaload, 1) := by decide +kernel
theorem dX12_goesBy_43 : decode cX12_goesBy 43 = .ok (.iconst 1, 1) := by decide +kernel
theorem dX12_goesBy_44 : decode cX12_goesBy 44 = .ok (.if_icmp .ne 6, 3) := by decide +kernel
theorem dX12_goesBy_47 : decode cX12_goesBy 47 = .ok (.goto 71, 3) := by decide +kernel
theorem dX12_goesBy_50 : decode cX12_goesBy 50 = .ok (.aload_n 0, 1) := by decide +kernel
theorem dX12_goesBy_51 : decode cX12_goesBy 51 = .ok (.sipush 1000, 3) := by decide +kernel
theorem dX12_goesBy_54 : decode cX12_goesBy 54 = .ok (.invokevirtual 376, 3) := by decide +kernel
theorem dX12_goesBy_57 : decode cX12_goesBy 57 = .ok (.aload_n 0, 1) := by decide +kernel
theorem dX12_goesBy_58 : decode cX12_goesBy 58 = .ok (.getfield 95, 3) := by decide +kernel
theorem dX12_goesBy_61 : decode cX12_goesBy 61 = .ok (.iload_n 1, 1) := by decide +kernel
theorem dX12_goesBy_62 : decode cX12_goesBy 62 = .ok (.iaload, 1) := by decide +kernel
theorem dX12_goesBy_63 : decode cX12_goesBy 63 = .ok (.if_icmp .ge 13, 3) := by decide +kernel
theorem dX12_goesBy_66 : decode cX12_goesBy 66 = .ok (.aload_n 0, 1) := by decide +kernel
theorem dX12_goesBy_67 : decode cX12_goesBy 67 = .ok (.getfield 20, 3) := by decide +kernel
theorem dX12_goesBy_70 : decode cX12_goesBy 70 = .ok (.iload_n 1, 1) := by decide +kernel
theorem dX12_goesBy_71 : decode cX12_goesBy 71 = .ok (.iconst 1, 1) := by decide +kernel
theorem dX12_goesBy_72 : decode cX12_goesBy 72 = .ok (.iastore, 1) := by decide +kernel
theorem dX12_goesBy_73 : decode cX12_goesBy 73 = .ok (.goto 45, 3) := by decide +kernel
theorem dX12_goesBy_76 : decode cX12_goesBy 76 = .ok (.aload_n 0, 1) := by decide +kernel
theorem dX12_goesBy_77 : decode cX12_goesBy 77 = .ok (.getfield 17, 3) := by decide +kernel
theorem dX12_goesBy_80 : decode cX12_goesBy 80 = .ok (.iload_n 1, 1) := by decide +kernel
theorem dX12_goesBy_81 : decode cX12_goesBy 81 = .ok (.aload_n 0, 1) := by decide +kernel
theorem dX12_goesBy_82 : decode cX12_goesBy 82 = .ok (.getfield 17, 3) := by decide +kernel
theorem dX12_goesBy_85 : decode cX12_goesBy 85 = .ok (.iload_n 1, 1) := by decide +kernel
theorem dX12_goesBy_86 : decode cX12_goesBy 86 = .ok (.iaload, 1) := by decide +kernel
theorem dX12_goesBy_87 : decode cX12_goesBy 87 = .ok (.iconst 1, 1) := by decide +kernel
theorem dX12_goesBy_88 : decode cX12_goesBy 88 = .ok (.iadd, 1) := by decide +kernel
theorem dX12_goesBy_89 : decode cX12_goesBy 89 = .ok (.iastore, 1) := by decide +kernel
theorem dX12_goesBy_90 : decode cX12_goesBy 90 = .ok (.aload_n 0, 1) := by decide +kernel
theorem dX12_goesBy_91 : decode cX12_goesBy 91 = .ok (.getfield 17, 3) := by decide +kernel
theorem dX12_goesBy_94 : decode cX12_goesBy 94 = .ok (.iload_n 1, 1) := by decide +kernel
theorem dX12_goesBy_95 : decode cX12_goesBy 95 = .ok (.iaload, 1) := by decide +kernel
theorem dX12_goesBy_96 : decode cX12_goesBy 96 = .ok (.aload_n 0, 1) := by decide +kernel
theorem dX12_goesBy_97 : decode cX12_goesBy 97 = .ok (.getfield 178, 3) := by decide +kernel
theorem dX12_goesBy_100 : decode cX12_goesBy 100 = .ok (.if_icmp .le 18, 3) := by decide +kernel
theorem dX12_goesBy_103 : decode cX12_goesBy 103 = .ok (.aload_n 0, 1) := by decide +kernel
theorem dX12_goesBy_104 : decode cX12_goesBy 104 = .ok (.aload_n 0, 1) := by decide +kernel
theorem dX12_goesBy_105 : decode cX12_goesBy 105 = .ok (.getfield 17, 3) := by decide +kernel
theorem dX12_goesBy_108 : decode cX12_goesBy 108 = .ok (.iload_n 1, 1) := by decide +kernel
theorem dX12_goesBy_109 : decode cX12_goesBy 109 = .ok (.iaload, 1) := by decide +kernel
theorem dX12_goesBy_110 : decode cX12_goesBy 110 = .ok (.putfield 178, 3) := by decide +kernel
theorem dX12_goesBy_113 : decode cX12_goesBy 113 = .ok (.aload_n 0, 1) := by decide +kernel
theorem dX12_goesBy_114 : decode cX12_goesBy 114 = .ok (.iload_n 1, 1) := by decide +kernel
theorem dX12_goesBy_115 : decode cX12_goesBy 115 = .ok (.putfield 41, 3) := by decide +kernel
theorem dX12_goesBy_118 : decode cX12_goesBy 118 = .ok (.iinc 1 1, 3) := by decide +kernel
theorem dX12_goesBy_121 : decode cX12_goesBy 121 = .ok (.goto (-92), 3) := by decide +kernel
theorem dX12_goesBy_124 : decode cX12_goesBy 124 = .ok (.aload_n 0, 1) := by decide +kernel
theorem dX12_goesBy_125 : decode cX12_goesBy 125 = .ok (.aload_n 0, 1) := by decide +kernel
theorem dX12_goesBy_126 : decode cX12_goesBy 126 = .ok (.getfield 334, 3) := by decide +kernel
theorem dX12_goesBy_129 : decode cX12_goesBy 129 = .ok (.iconst 1, 1) := by decide +kernel
theorem dX12_goesBy_130 : decode cX12_goesBy 130 = .ok (.iadd, 1) := by decide +kernel
theorem dX12_goesBy_131 : decode cX12_goesBy 131 = .ok (.putfield 334, 3) := by decide +kernel
theorem dX12_goesBy_134 : decode cX12_goesBy 134 = .ok (.aload_n 0, 1) := by decide +kernel
theorem dX12_goesBy_135 : decode cX12_goesBy 135 = .ok (.invokevirtual 379, 3) := by decide +kernel
theorem dX12_goesBy_138 : decode cX12_goesBy 138 = .ok (.ifCond .eq 28, 3) := by decide +kernel
theorem dX12_goesBy_141 : decode cX12_goesBy 141 = .ok (.aload_n 0, 1) := by decide +kernel
theorem dX12_goesBy_142 : decode cX12_goesBy 142 = .ok (.aload_n 0, 1) := by decide +kernel
theorem dX12_goesBy_143 : decode cX12_goesBy 143 = .ok (.getfield 382, 3) := by decide +kernel
theorem dX12_goesBy_146 : decode cX12_goesBy 146 = .ok (.iconst 1, 1) := by decide +kernel
theorem dX12_goesBy_147 : decode cX12_goesBy 147 = .ok (.iadd, 1) := by decide +kernel
theorem dX12_goesBy_148 : decode cX12_goesBy 148 = .ok (.putfield 382, 3) := by decide +kernel
theorem dX12_goesBy_151 : decode cX12_goesBy 151 = .ok (.aload_n 0, 1) := by decide +kernel
theorem dX12_goesBy_152 : decode cX12_goesBy 152 = .ok (.aload_n 0, 1) := by decide +kernel
theorem dX12_goesBy_153 : decode cX12_goesBy 153 = .ok (.getfield 358, 3) := by decide +kernel
theorem dX12_goesBy_156 : decode cX12_goesBy 156 = .ok (.aload_n 0, 1) := by decide +kernel
theorem dX12_goesBy_157 : decode cX12_goesBy 157 = .ok (.getfield 38, 3) := by decide +kernel
theorem dX12_goesBy_160 : decode cX12_goesBy 160 = .ok (.iconst 5, 1) := by decide +kernel
theorem dX12_goesBy_161 : decode cX12_goesBy 161 = .ok (.iaload, 1) := by decide +kernel
theorem dX12_goesBy_162 : decode cX12_goesBy 162 = .ok (.iadd, 1) := by decide +kernel
theorem dX12_goesBy_163 : decode cX12_goesBy 163 = .ok (.putfield 358, 3) := by decide +kernel
theorem dX12_goesBy_166 : decode cX12_goesBy 166 = .ok (.aload_n 0, 1) := by decide +kernel
theorem dX12_goesBy_167 : decode cX12_goesBy 167 = .ok (.getfield 334, 3) := by decide +kernel
theorem dX12_goesBy_170 : decode cX12_goesBy 170 = .ok (.aload_n 0, 1) := by decide +kernel
theorem dX12_goesBy_171 : decode cX12_goesBy 171 = .ok (.getfield 385, 3) := by decide +kernel
theorem dX12_goesBy_174 : decode cX12_goesBy 174 = .ok (.irem, 1) := by decide +kernel
theorem dX12_goesBy_175 : decode cX12_goesBy 175 = .ok (.ifCond .ne 7, 3) := by decide +kernel
theorem dX12_goesBy_178 : decode cX12_goesBy 178 = .ok (.aload_n 0, 1) := by decide +kernel
theorem dX12_goesBy_179 : decode cX12_goesBy 179 = .ok (.invokevirtual 388, 3) := by decide +kernel
theorem dX12_goesBy_182 : decode cX12_goesBy 182 = .ok (.return_, 1) := by decide +kernel
theorem dX12_days_0 : decode cX12_days 0 = .ok (.aload_n 0, 1) := by decide +kernel
theorem dX12_days_1 : decode cX12_days 1 = .ok (.iconst 0, 1) := by decide +kernel
theorem dX12_days_2 : decode cX12_days 2 = .ok (.putfield 166, 3) := by decide +kernel
theorem dX12_days_5 : decode cX12_days 5 = .ok (.aload_n 0, 1) := by decide +kernel
theorem dX12_days_6 : decode cX12_days 6 = .ok (.iload_n 1, 1) := by decide +kernel
theorem dX12_days_7 : decode cX12_days 7 = .ok (.iconst 1, 1) := by decide +kernel
theorem dX12_days_8 : decode cX12_days 8 = .ok (.bipush 99, 2) := by decide +kernel
theorem dX12_days_10 : decode cX12_days 10 = .ok (.invokevirtual 174, 3) := by decide +kernel
theorem dX12_days_13 : decode cX12_days 13 = .ok (.ifCond .eq 15, 3) := by decide +kernel
theorem dX12_days_16 : decode cX12_days 16 = .ok (.aload_n 0, 1) := by decide +kernel
theorem dX12_days_17 : decode cX12_days 17 = .ok (.getfield 334, 3) := by decide +kernel
theorem dX12_days_20 : decode cX12_days 20 = .ok (.iload_n 1, 1) := by decide +kernel
theorem dX12_days_21 : decode cX12_days 21 = .ok (.iadd, 1) := by decide +kernel
theorem dX12_days_22 : decode cX12_days 22 = .ok (.sipush 9999, 3) := by decide +kernel
theorem dX12_days_25 : decode cX12_days 25 = .ok (.if_icmp .le 5, 3) := by decide +kernel
theorem dX12_days_28 : decode cX12_days 28 = .ok (.iconst (-1), 1) := by decide +kernel
theorem dX12_days_29 : decode cX12_days 29 = .ok (.ireturn, 1) := by decide +kernel
theorem dX12_days_30 : decode cX12_days 30 = .ok (.aload_n 0, 1) := by decide +kernel
theorem dX12_days_31 : decode cX12_days 31 = .ok (.getfield 382, 3) := by decide +kernel
theorem dX12_days_34 : decode cX12_days 34 = .ok (.istore_n 2, 1) := by decide +kernel
theorem dX12_days_35 : decode cX12_days 35 = .ok (.aload_n 0, 1) := by decide +kernel
theorem dX12_days_36 : decode cX12_days 36 = .ok (.iconst 1, 1) := by decide +kernel
theorem dX12_days_37 : decode cX12_days 37 = .ok (.putfield 101, 3) := by decide +kernel
theorem dX12_days_40 : decode cX12_days 40 = .ok (.aload_n 0, 1) := by decide +kernel
theorem dX12_days_41 : decode cX12_days 41 = .ok (.aload_n 0, 1) := by decide +kernel
theorem dX12_days_42 : decode cX12_days 42 = .ok (.getfield 38, 3) := by decide +kernel
theorem dX12_days_45 : decode cX12_days 45 = .ok (.iconst 3, 1) := by decide +kernel
theorem dX12_days_46 : decode cX12_days 46 = .ok (.iaload, 1) := by decide +kernel
theorem dX12_days_47 : decode cX12_days 47 = .ok (.putfield 385, 3) := by decide +kernel
theorem dX12_days_50 : decode cX12_days 50 = .ok (.iconst 0, 1) := by decide +kernel
theorem dX12_days_51 : decode cX12_days 51 = .ok (.istore_n 3, 1) := by decide +kernel
theorem dX12_days_52 : decode cX12_days 52 = .ok (.iload_n 3, 1) := by decide +kernel
theorem dX12_days_53 : decode cX12_days 53 = .ok (.iload_n 1, 1) := by decide +kernel
theorem dX12_days_54 : decode cX12_days 54 = .ok (.if_icmp .ge 13, 3) := by decide +kernel
theorem dX12_days_57 : decode cX12_days 57 = .ok (.aload_n 0, 1) := by decide +kernel
theorem dX12_days_58 : decode cX12_days 58 = .ok (.invokevirtual 391, 3) := by decide +kernel
theorem dX12_days_61 : decode cX12_days 61 = .ok (.iinc 3 1, 3) := by decide +kernel
theorem dX12_days_64 : decode cX12_days 64 = .ok (.goto (-12), 3) := by decide +kernel
theorem dX12_days_67 : decode cX12_days 67 = .ok (.aload_n 0, 1) := by decide +kernel
theorem dX12_days_68 : decode cX12_days 68 = .ok (.getfield 382, 3) := by decide +kernel
theorem dX12_days_71 : decode cX12_days 71 = .ok (.iload_n 2, 1) := by decide +kernel
theorem dX12_days_72 : decode cX12_days 72 = .ok (.isub, 1) := by decide +kernel
theorem dX12_days_73 : decode cX12_days 73 = .ok (.ireturn, 1) := by decide +kernel
theorem dX12_see_0 : decode cX12_see 0 = .ok (.aload_n 0, 1) := by decide +kernel
theorem dX12_see_1 : decode cX12_see 1 = .ok (.iconst 0, 1) := by decide +kernel
theorem dX12_see_2 : decode cX12_see 2 = .ok (.putfield 166, 3) := by decide +kernel
theorem dX12_see_5 : decode cX12_see 5 = .ok (.aload_n 0, 1) := by decide +kernel
theorem dX12_see_6 : decode cX12_see 6 = .ok (.iload_n 1, 1) := by decide +kernel
theorem dX12_see_7 : decode cX12_see 7 = .ok (.invokevirtual 181, 3) := by decide +kernel
theorem dX12_see_10 : decode cX12_see 10 = .ok (.ifCond .ne 5, 3) := by decide +kernel
theorem dX12_see_13 : decode cX12_see 13 = .ok (.iconst 0, 1) := by decide +kernel
theorem dX12_see_14 : decode cX12_see 14 = .ok (.ireturn, 1) := by decide +kernel
theorem dX12_see_15 : decode cX12_see 15 = .ok (.aload_n 0, 1) := by decide +kernel
theorem dX12_see_16 : decode cX12_see 16 = .ok (.getfield 23, 3) := by decide +kernel
theorem dX12_see_19 : decode cX12_see 19 = .ok (.iload_n 1, 1) := by decide +kernel
theorem dX12_see_20 : decode cX12_see 20 = .ok (.aload_n 0, 1) := by decide +kernel
theorem dX12_see_21 : decode cX12_see 21 = .ok (.getfield 334, 3) := by decide +kernel
theorem dX12_see_24 : decode cX12_see 24 = .ok (.iconst 1, 1) := by decide +kernel
theorem dX12_see_25 : decode cX12_see 25 = .ok (.iadd, 1) := by decide +kernel
theorem dX12_see_26 : decode cX12_see 26 = .ok (.iastore, 1) := by decide +kernel
theorem dX12_see_27 : decode cX12_see 27 = .ok (.aload_n 0, 1) := by decide +kernel
theorem dX12_see_28 : decode cX12_see 28 = .ok (.getfield 26, 3) := by decide +kernel
theorem dX12_see_31 : decode cX12_see 31 = .ok (.iload_n 1, 1) := by decide +kernel
theorem dX12_see_32 : decode cX12_see 32 = .ok (.aload_n 0, 1) := by decide +kernel
theorem dX12_see_33 : decode cX12_see 33 = .ok (.getfield 20, 3) := by decide +kernel
theorem dX12_see_36 : decode cX12_see 36 = .ok (.iload_n 1, 1) := by decide +kernel
theorem dX12_see_37 : decode cX12_see 37 = .ok (.iaload, 1) := by decide +kernel
theorem dX12_see_38 : decode cX12_see 38 = .ok (.iastore, 1) := by decide +kernel
theorem dX12_see_39 : decode cX12_see 39 = .ok (.iconst 1, 1) := by decide +kernel
theorem dX12_see_40 : decode cX12_see 40 = .ok (.ireturn, 1) := by decide +kernel
theorem dX12_of_0 : decode cX12_of 0 = .ok (.aload_n 0, 1) := by decide +kernel
theorem dX12_of_1 : decode cX12_of 1 = .ok (.iconst 0, 1) := by decide +kernel
theorem dX12_of_2 : decode cX12_of 2 = .ok (.putfield 166, 3) := by decide +kernel
theorem dX12_of_5 : decode cX12_of 5 = .ok (.aload_n 0, 1) := by decide +kernel
theorem dX12_of_6 : decode cX12_of 6 = .ok (.iload_n 1, 1) := by decide +kernel
theorem dX12_of_7 : decode cX12_of 7 = .ok (.invokevirtual 181, 3) := by decide +kernel
theorem dX12_of_10 : decode cX12_of 10 = .ok (.ifCond .ne 7, 3) := by decide +kernel
theorem dX12_of_13 : decode cX12_of 13 = .ok (.ldc_w 394, 3) := by decide +kernel
theorem dX12_of_16 : decode cX12_of 16 = .ok (.ireturn, 1) := by decide +kernel
theorem dX12_of_17 : decode cX12_of 17 = .ok (.iload_n 2, 1) := by decide +kernel
theorem dX12_of_18 : decode cX12_of 18 = .ok (.ifCond .ne 10, 3) := by decide +kernel
theorem dX12_of_21 : decode cX12_of 21 = .ok (.aload_n 0, 1) := by decide +kernel
theorem dX12_of_22 : decode cX12_of 22 = .ok (.getfield 13, 3) := by decide +kernel
theorem dX12_of_25 : decode cX12_of 25 = .ok (.iload_n 1, 1) := by decide +kernel
theorem dX12_of_26 : decode cX12_of 26 = .ok (.iaload, 1) := by decide +kernel
theorem dX12_of_27 : decode cX12_of 27 = .ok (.ireturn, 1) := by decide +kernel
theorem dX12_of_28 : decode cX12_of 28 = .ok (.iload_n 2, 1) := by decide +kernel
theorem dX12_of_29 : decode cX12_of 29 = .ok (.iconst 1, 1) := by decide +kernel
theorem dX12_of_30 : decode cX12_of 30 = .ok (.if_icmp .ne 10, 3) := by decide +kernel
theorem dX12_of_33 : decode cX12_of 33 = .ok (.aload_n 0, 1) := by decide +kernel
theorem dX12_of_34 : decode cX12_of 34 = .ok (.getfield 17, 3) := by decide +kernel
theorem dX12_of_37 : decode cX12_of 37 = .ok (.iload_n 1, 1) := by decide +kernel
theorem dX12_of_38 : decode cX12_of 38 = .ok (.iaload, 1) := by decide +kernel
theorem dX12_of_39 : decode cX12_of 39 = .ok (.ireturn, 1) := by decide +kernel
theorem dX12_of_40 : decode cX12_of 40 = .ok (.iload_n 2, 1) := by decide +kernel
theorem dX12_of_41 : decode cX12_of 41 = .ok (.iconst 2, 1) := by decide +kernel
theorem dX12_of_42 : decode cX12_of 42 = .ok (.if_icmp .ne 10, 3) := by decide +kernel
theorem dX12_of_45 : decode cX12_of 45 = .ok (.aload_n 0, 1) := by decide +kernel
theorem dX12_of_46 : decode cX12_of 46 = .ok (.getfield 20, 3) := by decide +kernel
theorem dX12_of_49 : decode cX12_of 49 = .ok (.iload_n 1, 1) := by decide +kernel
theorem dX12_of_50 : decode cX12_of 50 = .ok (.iaload, 1) := by decide +kernel
theorem dX12_of_51 : decode cX12_of 51 = .ok (.ireturn, 1) := by decide +kernel
theorem dX12_of_52 : decode cX12_of 52 = .ok (.iload_n 2, 1) := by decide +kernel
theorem dX12_of_53 : decode cX12_of 53 = .ok (.iconst 3, 1) := by decide +kernel
theorem dX12_of_54 : decode cX12_of 54 = .ok (.if_icmp .ne 12, 3) := by decide +kernel
theorem dX12_of_57 : decode cX12_of 57 = .ok (.aload_n 0, 1) := by decide +kernel
theorem dX12_of_58 : decode cX12_of 58 = .ok (.getfield 23, 3) := by decide +kernel
theorem dX12_of_61 : decode cX12_of 61 = .ok (.iload_n 1, 1) := by decide +kernel
theorem dX12_of_62 : decode cX12_of 62 = .ok (.iaload, 1) := by decide +kernel
theorem dX12_of_63 : decode cX12_of 63 = .ok (.iconst 1, 1) := by decide +kernel
theorem dX12_of_64 : decode cX12_of 64 = .ok (.isub, 1) := by decide +kernel
theorem dX12_of_65 : decode cX12_of 65 = .ok (.ireturn, 1) := by decide +kernel
theorem dX12_of_66 : decode cX12_of 66 = .ok (.iload_n 2, 1) := by decide +kernel
theorem dX12_of_67 : decode cX12_of 67 = .ok (.iconst 4, 1) := by decide +kernel
theorem dX12_of_68 : decode cX12_of 68 = .ok (.if_icmp .ne 10, 3) := by decide +kernel
theorem dX12_of_71 : decode cX12_of 71 = .ok (.aload_n 0, 1) := by decide +kernel
theorem dX12_of_72 : decode cX12_of 72 = .ok (.getfield 26, 3) := by decide +kernel
theorem dX12_of_75 : decode cX12_of 75 = .ok (.iload_n 1, 1) := by decide +kernel
theorem dX12_of_76 : decode cX12_of 76 = .ok (.iaload, 1) := by decide +kernel
theorem dX12_of_77 : decode cX12_of 77 = .ok (.ireturn, 1) := by decide +kernel
theorem dX12_of_78 : decode cX12_of 78 = .ok (.iload_n 2, 1) := by decide +kernel
theorem dX12_of_79 : decode cX12_of 79 = .ok (.iconst 5, 1) := by decide +kernel
theorem dX12_of_80 : decode cX12_of 80 = .ok (.if_icmp .ne 9, 3) := by decide +kernel
theorem dX12_of_83 : decode cX12_of 83 = .ok (.aload_n 0, 1) := by decide +kernel
theorem dX12_of_84 : decode cX12_of 84 = .ok (.iload_n 1, 1) := by decide +kernel
theorem dX12_of_85 : decode cX12_of 85 = .ok (.invokevirtual 373, 3) := by decide +kernel
theorem dX12_of_88 : decode cX12_of 88 = .ok (.ireturn, 1) := by decide +kernel
theorem dX12_of_89 : decode cX12_of 89 = .ok (.iload_n 2, 1) := by decide +kernel
theorem dX12_of_90 : decode cX12_of 90 = .ok (.bipush 6, 2) := by decide +kernel
theorem dX12_of_92 : decode cX12_of 92 = .ok (.if_icmp .ne 9, 3) := by decide +kernel
theorem dX12_of_95 : decode cX12_of 95 = .ok (.aload_n 0, 1) := by decide +kernel
theorem dX12_of_96 : decode cX12_of 96 = .ok (.iload_n 1, 1) := by decide +kernel
theorem dX12_of_97 : decode cX12_of 97 = .ok (.invokevirtual 395, 3) := by decide +kernel
theorem dX12_of_100 : decode cX12_of 100 = .ok (.ireturn, 1) := by decide +kernel
theorem dX12_of_101 : decode cX12_of 101 = .ok (.iload_n 2, 1) := by decide +kernel
theorem dX12_of_102 : decode cX12_of 102 = .ok (.bipush 7, 2) := by decide +kernel
theorem dX12_of_104 : decode cX12_of 104 = .ok (.if_icmp .eq 9, 3) := by decide +kernel
theorem dX12_of_107 : decode cX12_of 107 = .ok (.iload_n 2, 1) := by decide +kernel
theorem dX12_of_108 : decode cX12_of 108 = .ok (.bipush 8, 2) := by decide +kernel
theorem dX12_of_110 : decode cX12_of 110 = .ok (.if_icmp .ne 13, 3) := by decide +kernel
theorem dX12_of_113 : decode cX12_of 113 = .ok (.aload_n 0, 1) := by decide +kernel
theorem dX12_of_114 : decode cX12_of 114 = .ok (.iload_n 2, 1) := by decide +kernel
theorem dX12_of_115 : decode cX12_of 115 = .ok (.bipush 6, 2) := by decide +kernel
theorem dX12_of_117 : decode cX12_of 117 = .ok (.isub, 1) := by decide +kernel
theorem dX12_of_118 : decode cX12_of 118 = .ok (.iload_n 1, 1) := by decide +kernel
theorem dX12_of_119 : decode cX12_of 119 = .ok (.invokevirtual 364, 3) := by decide +kernel
theorem dX12_of_122 : decode cX12_of 122 = .ok (.ireturn, 1) := by decide +kernel
theorem dX12_of_123 : decode cX12_of 123 = .ok (.iload_n 2, 1) := by decide +kernel
theorem dX12_of_124 : decode cX12_of 124 = .ok (.bipush 9, 2) := by decide +kernel
theorem dX12_of_126 : decode cX12_of 126 = .ok (.if_icmp .ne 12, 3) := by decide +kernel
theorem dX12_of_129 : decode cX12_of 129 = .ok (.aload_n 0, 1) := by decide +kernel
theorem dX12_of_130 : decode cX12_of 130 = .ok (.getfield 29, 3) := by decide +kernel
theorem dX12_of_133 : decode cX12_of 133 = .ok (.iload_n 1, 1) := by decide +kernel
theorem dX12_of_134 : decode cX12_of 134 = .ok (.iaload, 1) := by decide +kernel
theorem dX12_of_135 : decode cX12_of 135 = .ok (.goto 6, 3) := by decide +kernel
theorem dX12_of_138 : decode cX12_of 138 = .ok (.ldc_w 394, 3) := by decide +kernel
theorem dX12_of_141 : decode cX12_of 141 = .ok (.ireturn, 1) := by decide +kernel
theorem dX12_chanceOf_0 : decode cX12_chanceOf 0 = .ok (.iconst 0, 1) := by decide +kernel
theorem dX12_chanceOf_1 : decode cX12_chanceOf 1 = .ok (.istore_n 1, 1) := by decide +kernel
theorem dX12_chanceOf_2 : decode cX12_chanceOf 2 = .ok (.iload_n 1, 1) := by decide +kernel
theorem dX12_chanceOf_3 : decode cX12_chanceOf 3 = .ok (.sipush 128, 3) := by decide +kernel
theorem dX12_chanceOf_6 : decode cX12_chanceOf 6 = .ok (.if_icmp .ge 16, 3) := by decide +kernel
theorem dX12_chanceOf_9 : decode cX12_chanceOf 9 = .ok (.aload_n 0, 1) := by decide +kernel
theorem dX12_chanceOf_10 : decode cX12_chanceOf 10 = .ok (.getfield 104, 3) := by decide +kernel
theorem dX12_chanceOf_13 : decode cX12_chanceOf 13 = .ok (.iload_n 1, 1) := by decide +kernel
theorem dX12_chanceOf_14 : decode cX12_chanceOf 14 = .ok (.lconst 0, 1) := by decide +kernel
theorem dX12_chanceOf_15 : decode cX12_chanceOf 15 = .ok (.lastore, 1) := by decide +kernel
theorem dX12_chanceOf_16 : decode cX12_chanceOf 16 = .ok (.iinc 1 1, 3) := by decide +kernel
theorem dX12_chanceOf_19 : decode cX12_chanceOf 19 = .ok (.goto (-17), 3) := by decide +kernel
theorem dX12_chanceOf_22 : decode cX12_chanceOf 22 = .ok (.aload_n 0, 1) := by decide +kernel
theorem dX12_chanceOf_23 : decode cX12_chanceOf 23 = .ok (.getfield 104, 3) := by decide +kernel
theorem dX12_chanceOf_26 : decode cX12_chanceOf 26 = .ok (.iconst 0, 1) := by decide +kernel
theorem dX12_chanceOf_27 : decode cX12_chanceOf 27 = .ok (.ldc2_w 398, 3) := by decide +kernel
theorem dX12_chanceOf_30 : decode cX12_chanceOf 30 = .ok (.lastore, 1) := by decide +kernel
theorem dX12_chanceOf_31 : decode cX12_chanceOf 31 = .ok (.lconst 0, 1) := by decide +kernel
theorem dX12_chanceOf_32 : decode cX12_chanceOf 32 = .ok (.lstore_n 1, 1) := by decide +kernel
theorem dX12_chanceOf_33 : decode cX12_chanceOf 33 = .ok (.iconst 0, 1) := by decide +kernel
theorem dX12_chanceOf_34 : decode cX12_chanceOf 34 = .ok (.istore_n 3, 1) := by decide +kernel
theorem dX12_chanceOf_35 : decode cX12_chanceOf 35 = .ok (.iload_n 3, 1) := by decide +kernel
theorem dX12_chanceOf_36 : decode cX12_chanceOf 36 = .ok (.aload_n 0, 1) := by decide +kernel
theorem dX12_chanceOf_37 : decode cX12_chanceOf 37 = .ok (.getfield 7, 3) := by decide +kernel
theorem dX12_chanceOf_40 : decode cX12_chanceOf 40 = .ok (.if_icmp .ge 214, 3) := by decide +kernel
theorem dX12_chanceOf_43 : decode cX12_chanceOf 43 = .ok (.iconst 0, 1) := by decide +kernel
theorem dX12_chanceOf_44 : decode cX12_chanceOf 44 = .ok (.istore 4, 2) := by decide +kernel
theorem dX12_chanceOf_46 : decode cX12_chanceOf 46 = .ok (.iload 4, 2) := by decide +kernel
theorem dX12_chanceOf_48 : decode cX12_chanceOf 48 = .ok (.sipush 128, 3) := by decide +kernel
theorem dX12_chanceOf_51 : decode cX12_chanceOf 51 = .ok (.if_icmp .ge 17, 3) := by decide +kernel
theorem dX12_chanceOf_54 : decode cX12_chanceOf 54 = .ok (.aload_n 0, 1) := by decide +kernel
theorem dX12_chanceOf_55 : decode cX12_chanceOf 55 = .ok (.getfield 108, 3) := by decide +kernel
theorem dX12_chanceOf_58 : decode cX12_chanceOf 58 = .ok (.iload 4, 2) := by decide +kernel
theorem dX12_chanceOf_60 : decode cX12_chanceOf 60 = .ok (.lconst 0, 1) := by decide +kernel
theorem dX12_chanceOf_61 : decode cX12_chanceOf 61 = .ok (.lastore, 1) := by decide +kernel
theorem dX12_chanceOf_62 : decode cX12_chanceOf 62 = .ok (.iinc 4 1, 3) := by decide +kernel
theorem dX12_chanceOf_65 : decode cX12_chanceOf 65 = .ok (.goto (-19), 3) := by decide +kernel
theorem dX12_chanceOf_68 : decode cX12_chanceOf 68 = .ok (.iconst 0, 1) := by decide +kernel
theorem dX12_chanceOf_69 : decode cX12_chanceOf 69 = .ok (.istore 4, 2) := by decide +kernel
theorem dX12_chanceOf_71 : decode cX12_chanceOf 71 = .ok (.iload 4, 2) := by decide +kernel
theorem dX12_chanceOf_73 : decode cX12_chanceOf 73 = .ok (.sipush 128, 3) := by decide +kernel
theorem dX12_chanceOf_76 : decode cX12_chanceOf 76 = .ok (.if_icmp .ge 141, 3) := by decide +kernel
theorem dX12_chanceOf_79 : decode cX12_chanceOf 79 = .ok (.aload_n 0, 1) := by decide +kernel
theorem dX12_chanceOf_80 : decode cX12_chanceOf 80 = .ok (.getfield 104, 3) := by decide +kernel
theorem dX12_chanceOf_83 : decode cX12_chanceOf 83 = .ok (.iload 4, 2) := by decide +kernel
theorem dX12_chanceOf_85 : decode cX12_chanceOf 85 = .ok (.laload, 1) := by decide +kernel
theorem dX12_chanceOf_86 : decode cX12_chanceOf 86 = .ok (.lconst 0, 1) := by decide +kernel
theorem dX12_chanceOf_87 : decode cX12_chanceOf 87 = .ok (.lcmp, 1) := by decide +kernel
theorem dX12_chanceOf_88 : decode cX12_chanceOf 88 = .ok (.ifCond .ne 6, 3) := by decide +kernel
theorem dX12_chanceOf_91 : decode cX12_chanceOf 91 = .ok (.goto 120, 3) := by decide +kernel
theorem dX12_chanceOf_94 : decode cX12_chanceOf 94 = .ok (.aload_n 0, 1) := by decide +kernel
theorem dX12_chanceOf_95 : decode cX12_chanceOf 95 = .ok (.getfield 104, 3) := by decide +kernel
theorem dX12_chanceOf_98 : decode cX12_chanceOf 98 = .ok (.iload 4, 2) := by decide +kernel
theorem dX12_chanceOf_100 : decode cX12_chanceOf 100 = .ok (.laload, 1) := by decide +kernel
theorem dX12_chanceOf_101 : decode cX12_chanceOf 101 = .ok (.aload_n 0, 1) := by decide +kernel
theorem dX12_chanceOf_102 : decode cX12_chanceOf 102 = .ok (.getfield 111, 3) := by decide +kernel
theorem dX12_chanceOf_105 : decode cX12_chanceOf 105 = .ok (.iload_n 3, 1) := by decide +kernel
theorem dX12_chanceOf_106 : decode cX12_chanceOf 106 = .ok (.iaload, 1) := by decide +kernel
theorem dX12_chanceOf_107 : decode cX12_chanceOf 107 = .ok (.i2l, 1) := by decide +kernel
theorem dX12_chanceOf_108 : decode cX12_chanceOf 108 = .ok (.lmul, 1) := by decide +kernel
theorem dX12_chanceOf_109 : decode cX12_chanceOf 109 = .ok (.ldc2_w 400, 3) := by decide +kernel
theorem dX12_chanceOf_112 : decode cX12_chanceOf 112 = .ok (.ldiv, 1) := by decide +kernel
theorem dX12_chanceOf_113 : decode cX12_chanceOf 113 = .ok (.lstore 5, 2) := by decide +kernel
theorem dX12_chanceOf_115 : decode cX12_chanceOf 115 = .ok (.iconst 0, 1) := by decide +kernel
theorem dX12_chanceOf_116 : decode cX12_chanceOf 116 = .ok (.istore 7, 2) := by decide +kernel
theorem dX12_chanceOf_118 : decode cX12_chanceOf 118 = .ok (.iload 7, 2) := by decide +kernel
theorem dX12_chanceOf_120 : decode cX12_chanceOf 120 = .ok (.iconst 2, 1) := by decide +kernel
theorem dX12_chanceOf_121 : decode cX12_chanceOf 121 = .ok (.if_icmp .ge 90, 3) := by decide +kernel
theorem dX12_chanceOf_124 : decode cX12_chanceOf 124 = .ok (.iload 7, 2) := by decide +kernel
theorem dX12_chanceOf_126 : decode cX12_chanceOf 126 = .ok (.iconst 1, 1) := by decide +kernel
theorem dX12_chanceOf_127 : decode cX12_chanceOf 127 = .ok (.if_icmp .ne 8, 3) := by decide +kernel
theorem dX12_chanceOf_130 : decode cX12_chanceOf 130 = .ok (.lload 5, 2) := by decide +kernel
theorem dX12_chanceOf_132 : decode cX12_chanceOf 132 = .ok (.goto 13, 3) := by decide +kernel
theorem dX12_chanceOf_135 : decode cX12_chanceOf 135 = .ok (.aload_n 0, 1) := by decide +kernel
theorem dX12_chanceOf_136 : decode cX12_chanceOf 136 = .ok (.getfield 104, 3) := by decide +kernel
theorem dX12_chanceOf_139 : decode cX12_chanceOf 139 = .ok (.iload 4, 2) := by decide +kernel
theorem dX12_chanceOf_141 : decode cX12_chanceOf 141 = .ok (.laload, 1) := by decide +kernel
theorem dX12_chanceOf_142 : decode cX12_chanceOf 142 = .ok (.lload 5, 2) := by decide +kernel
theorem dX12_chanceOf_144 : decode cX12_chanceOf 144 = .ok (.lsub, 1) := by decide +kernel
theorem dX12_chanceOf_145 : decode cX12_chanceOf 145 = .ok (.lstore 8, 2) := by decide +kernel
theorem dX12_chanceOf_147 : decode cX12_chanceOf 147 = .ok (.aload_n 0, 1) := by decide +kernel
theorem dX12_chanceOf_148 : decode cX12_chanceOf 148 = .ok (.iload 4, 2) := by decide +kernel
theorem dX12_chanceOf_150 : decode cX12_chanceOf 150 = .ok (.iconst 1, 1) := by decide +kernel
theorem dX12_chanceOf_151 : decode cX12_chanceOf 151 = .ok (.ishl, 1) := by decide +kernel
theorem dX12_chanceOf_152 : decode cX12_chanceOf 152 = .ok (.iload 7, 2) := by decide +kernel
theorem dX12_chanceOf_154 : decode cX12_chanceOf 154 = .ok (.ior, 1) := by decide +kernel
theorem dX12_chanceOf_155 : decode cX12_chanceOf 155 = .ok (.iload_n 3, 1) := by decide +kernel
theorem dX12_chanceOf_156 : decode cX12_chanceOf 156 = .ok (.iconst 1, 1) := by decide +kernel
theorem dX12_chanceOf_157 : decode cX12_chanceOf 157 = .ok (.iadd, 1) := by decide +kernel
theorem dX12_chanceOf_158 : decode cX12_chanceOf 158 = .ok (.invokevirtual 348, 3) := by decide +kernel
theorem dX12_chanceOf_161 : decode cX12_chanceOf 161 = .ok (.ifCond .eq 11, 3) := by decide +kernel
theorem dX12_chanceOf_164 : decode cX12_chanceOf 164 = .ok (.lload_n 1, 1) := by decide +kernel
theorem dX12_chanceOf_165 : decode cX12_chanceOf 165 = .ok (.lload 8, 2) := by decide +kernel
theorem dX12_chanceOf_167 : decode cX12_chanceOf 167 = .ok (.ladd, 1) := by decide +kernel
theorem dX12_chanceOf_168 : decode cX12_chanceOf 168 = .ok (.lstore_n 1, 1) := by decide +kernel
theorem dX12_chanceOf_169 : decode cX12_chanceOf 169 = .ok (.goto 36, 3) := by decide +kernel
theorem dX12_chanceOf_172 : decode cX12_chanceOf 172 = .ok (.aload_n 0, 1) := by decide +kernel
theorem dX12_chanceOf_173 : decode cX12_chanceOf 173 = .ok (.getfield 108, 3) := by decide +kernel
theorem dX12_chanceOf_176 : decode cX12_chanceOf 176 = .ok (.iload 4, 2) := by decide +kernel
theorem dX12_chanceOf_178 : decode cX12_chanceOf 178 = .ok (.iconst 1, 1) := by decide +kernel
theorem dX12_chanceOf_179 : decode cX12_chanceOf 179 = .ok (.ishl, 1) := by decide +kernel
theorem dX12_chanceOf_180 : decode cX12_chanceOf 180 = .ok (.iload 7, 2) := by decide +kernel
theorem dX12_chanceOf_182 : decode cX12_chanceOf 182 = .ok (.ior, 1) := by decide +kernel
theorem dX12_chanceOf_183 : decode cX12_chanceOf 183 = .ok (.bipush 127, 2) := by decide +kernel
theorem dX12_chanceOf_185 : decode cX12_chanceOf 185 = .ok (.iand, 1) := by decide +kernel
theorem dX12_chanceOf_186 : decode cX12_chanceOf 186 = .ok (.aload_n 0, 1) := by decide +kernel
theorem dX12_chanceOf_187 : decode cX12_chanceOf 187 = .ok (.getfield 108, 3) := by decide +kernel
theorem dX12_chanceOf_190 : decode cX12_chanceOf 190 = .ok (.iload 4, 2) := by decide +kernel
theorem dX12_chanceOf_192 : decode cX12_chanceOf 192 = .ok (.iconst 1, 1) := by decide +kernel
theorem dX12_chanceOf_193 : decode cX12_chanceOf 193 = .ok (.ishl, 1) := by decide +kernel
theorem dX12_chanceOf_194 : decode cX12_chanceOf 194 = .ok (.iload 7, 2) := by decide +kernel
theorem dX12_chanceOf_196 : decode cX12_chanceOf 196 = .ok (.ior, 1) := by decide +kernel
theorem dX12_chanceOf_197 : decode cX12_chanceOf 197 = .ok (.bipush 127, 2) := by decide +kernel
theorem dX12_chanceOf_199 : decode cX12_chanceOf 199 = .ok (.iand, 1) := by decide +kernel
theorem dX12_chanceOf_200 : decode cX12_chanceOf 200 = .ok (.laload, 1) := by decide +kernel
theorem dX12_chanceOf_201 : decode cX12_chanceOf 201 = .ok (.lload 8, 2) := by decide +kernel
theorem dX12_chanceOf_203 : decode cX12_chanceOf 203 = .ok (.ladd, 1) := by decide +kernel
theorem dX12_chanceOf_204 : decode cX12_chanceOf 204 = .ok (.lastore, 1) := by decide +kernel
theorem dX12_chanceOf_205 : decode cX12_chanceOf 205 = .ok (.iinc 7 1, 3) := by decide +kernel
theorem dX12_chanceOf_208 : decode cX12_chanceOf 208 = .ok (.goto (-90), 3) := by decide +kernel
theorem dX12_chanceOf_211 : decode cX12_chanceOf 211 = .ok (.iinc 4 1, 3) := by decide +kernel
theorem dX12_chanceOf_214 : decode cX12_chanceOf 214 = .ok (.goto (-143), 3) := by decide +kernel
theorem dX12_chanceOf_217 : decode cX12_chanceOf 217 = .ok (.iconst 0, 1) := by decide +kernel
theorem dX12_chanceOf_218 : decode cX12_chanceOf 218 = .ok (.istore 4, 2) := by decide +kernel
theorem dX12_chanceOf_220 : decode cX12_chanceOf 220 = .ok (.iload 4, 2) := by decide +kernel
theorem dX12_chanceOf_222 : decode cX12_chanceOf 222 = .ok (.sipush 128, 3) := by decide +kernel
theorem dX12_chanceOf_225 : decode cX12_chanceOf 225 = .ok (.if_icmp .ge 23, 3) := by decide +kernel
theorem dX12_chanceOf_228 : decode cX12_chanceOf 228 = .ok (.aload_n 0, 1) := by decide +kernel
theorem dX12_chanceOf_229 : decode cX12_chanceOf 229 = .ok (.getfield 104, 3) := by decide +kernel
theorem dX12_chanceOf_232 : decode cX12_chanceOf 232 = .ok (.iload 4, 2) := by decide +kernel
theorem dX12_chanceOf_234 : decode cX12_chanceOf 234 = .ok (.aload_n 0, 1) := by decide +kernel
theorem dX12_chanceOf_235 : decode cX12_chanceOf 235 = .ok (.getfield 108, 3) := by decide +kernel
theorem dX12_chanceOf_238 : decode cX12_chanceOf 238 = .ok (.iload 4, 2) := by decide +kernel
theorem dX12_chanceOf_240 : decode cX12_chanceOf 240 = .ok (.laload, 1) := by decide +kernel
theorem dX12_chanceOf_241 : decode cX12_chanceOf 241 = .ok (.lastore, 1) := by decide +kernel
theorem dX12_chanceOf_242 : decode cX12_chanceOf 242 = .ok (.iinc 4 1, 3) := by decide +kernel
theorem dX12_chanceOf_245 : decode cX12_chanceOf 245 = .ok (.goto (-25), 3) := by decide +kernel
theorem dX12_chanceOf_248 : decode cX12_chanceOf 248 = .ok (.iinc 3 1, 3) := by decide +kernel
theorem dX12_chanceOf_251 : decode cX12_chanceOf 251 = .ok (.goto (-216), 3) := by decide +kernel
theorem dX12_chanceOf_254 : decode cX12_chanceOf 254 = .ok (.lload_n 1, 1) := by decide +kernel
theorem dX12_chanceOf_255 : decode cX12_chanceOf 255 = .ok (.lreturn, 1) := by decide +kernel
theorem dX12_chanceNow_0 : decode cX12_chanceNow 0 = .ok (.iconst 0, 1) := by decide +kernel
theorem dX12_chanceNow_1 : decode cX12_chanceNow 1 = .ok (.istore_n 1, 1) := by decide +kernel
theorem dX12_chanceNow_2 : decode cX12_chanceNow 2 = .ok (.iload_n 1, 1) := by decide +kernel
theorem dX12_chanceNow_3 : decode cX12_chanceNow 3 = .ok (.aload_n 0, 1) := by decide +kernel
theorem dX12_chanceNow_4 : decode cX12_chanceNow 4 = .ok (.getfield 7, 3) := by decide +kernel
theorem dX12_chanceNow_7 : decode cX12_chanceNow 7 = .ok (.if_icmp .ge 36, 3) := by decide +kernel
theorem dX12_chanceNow_10 : decode cX12_chanceNow 10 = .ok (.aload_n 0, 1) := by decide +kernel
theorem dX12_chanceNow_11 : decode cX12_chanceNow 11 = .ok (.getfield 111, 3) := by decide +kernel
theorem dX12_chanceNow_14 : decode cX12_chanceNow 14 = .ok (.iload_n 1, 1) := by decide +kernel
theorem dX12_chanceNow_15 : decode cX12_chanceNow 15 = .ok (.aload_n 0, 1) := by decide +kernel
theorem dX12_chanceNow_16 : decode cX12_chanceNow 16 = .ok (.getfield 20, 3) := by decide +kernel
theorem dX12_chanceNow_19 : decode cX12_chanceNow 19 = .ok (.iload_n 1, 1) := by decide +kernel
theorem dX12_chanceNow_20 : decode cX12_chanceNow 20 = .ok (.iaload, 1) := by decide +kernel
theorem dX12_chanceNow_21 : decode cX12_chanceNow 21 = .ok (.iconst 1, 1) := by decide +kernel
theorem dX12_chanceNow_22 : decode cX12_chanceNow 22 = .ok (.if_icmp .ne 9, 3) := by decide +kernel
theorem dX12_chanceNow_25 : decode cX12_chanceNow 25 = .ok (.sipush 1000, 3) := by decide +kernel
theorem dX12_chanceNow_28 : decode cX12_chanceNow 28 = .ok (.goto 8, 3) := by decide +kernel
theorem dX12_chanceNow_31 : decode cX12_chanceNow 31 = .ok (.aload_n 0, 1) := by decide +kernel
theorem dX12_chanceNow_32 : decode cX12_chanceNow 32 = .ok (.iload_n 1, 1) := by decide +kernel
theorem dX12_chanceNow_33 : decode cX12_chanceNow 33 = .ok (.invokevirtual 373, 3) := by decide +kernel
theorem dX12_chanceNow_36 : decode cX12_chanceNow 36 = .ok (.iastore, 1) := by decide +kernel
theorem dX12_chanceNow_37 : decode cX12_chanceNow 37 = .ok (.iinc 1 1, 3) := by decide +kernel
theorem dX12_chanceNow_40 : decode cX12_chanceNow 40 = .ok (.goto (-38), 3) := by decide +kernel
theorem dX12_chanceNow_43 : decode cX12_chanceNow 43 = .ok (.aload_n 0, 1) := by decide +kernel
theorem dX12_chanceNow_44 : decode cX12_chanceNow 44 = .ok (.invokevirtual 402, 3) := by decide +kernel
theorem dX12_chanceNow_47 : decode cX12_chanceNow 47 = .ok (.lreturn, 1) := by decide +kernel
theorem dX12_chance_0 : decode cX12_chance 0 = .ok (.aload_n 0, 1) := by decide +kernel
theorem dX12_chance_1 : decode cX12_chance 1 = .ok (.iconst 0, 1) := by decide +kernel
theorem dX12_chance_2 : decode cX12_chance 2 = .ok (.putfield 166, 3) := by decide +kernel
theorem dX12_chance_5 : decode cX12_chance 5 = .ok (.iload_n 1, 1) := by decide +kernel
theorem dX12_chance_6 : decode cX12_chance 6 = .ok (.ifCond .ne 8, 3) := by decide +kernel
theorem dX12_chance_9 : decode cX12_chance 9 = .ok (.aload_n 0, 1) := by decide +kernel
theorem dX12_chance_10 : decode cX12_chance 10 = .ok (.invokevirtual 406, 3) := by decide +kernel
theorem dX12_chance_13 : decode cX12_chance 13 = .ok (.lreturn, 1) := by decide +kernel
theorem dX12_chance_14 : decode cX12_chance 14 = .ok (.iload_n 1, 1) := by decide +kernel
theorem dX12_chance_15 : decode cX12_chance 15 = .ok (.iconst 1, 1) := by decide +kernel
theorem dX12_chance_16 : decode cX12_chance 16 = .ok (.if_icmp .eq 7, 3) := by decide +kernel
theorem dX12_chance_19 : decode cX12_chance 19 = .ok (.ldc2_w 409, 3) := by decide +kernel
theorem dX12_chance_22 : decode cX12_chance 22 = .ok (.lreturn, 1) := by decide +kernel
theorem dX12_chance_23 : decode cX12_chance 23 = .ok (.iconst 0, 1) := by decide +kernel
theorem dX12_chance_24 : decode cX12_chance 24 = .ok (.istore_n 2, 1) := by decide +kernel
theorem dX12_chance_25 : decode cX12_chance 25 = .ok (.iload_n 2, 1) := by decide +kernel
theorem dX12_chance_26 : decode cX12_chance 26 = .ok (.aload_n 0, 1) := by decide +kernel
theorem dX12_chance_27 : decode cX12_chance 27 = .ok (.getfield 7, 3) := by decide +kernel
theorem dX12_chance_30 : decode cX12_chance 30 = .ok (.if_icmp .ge 20, 3) := by decide +kernel
theorem dX12_chance_33 : decode cX12_chance 33 = .ok (.aload_n 0, 1) := by decide +kernel
theorem dX12_chance_34 : decode cX12_chance 34 = .ok (.getfield 111, 3) := by decide +kernel
theorem dX12_chance_37 : decode cX12_chance 37 = .ok (.iload_n 2, 1) := by decide +kernel
theorem dX12_chance_38 : decode cX12_chance 38 = .ok (.aload_n 0, 1) := by decide +kernel
theorem dX12_chance_39 : decode cX12_chance 39 = .ok (.iload_n 2, 1) := by decide +kernel
theorem dX12_chance_40 : decode cX12_chance 40 = .ok (.invokevirtual 395, 3) := by decide +kernel
theorem dX12_chance_43 : decode cX12_chance 43 = .ok (.iastore, 1) := by decide +kernel
theorem dX12_chance_44 : decode cX12_chance 44 = .ok (.iinc 2 1, 3) := by decide +kernel
theorem dX12_chance_47 : decode cX12_chance 47 = .ok (.goto (-22), 3) := by decide +kernel
theorem dX12_chance_50 : decode cX12_chance 50 = .ok (.aload_n 0, 1) := by decide +kernel
theorem dX12_chance_51 : decode cX12_chance 51 = .ok (.invokevirtual 402, 3) := by decide +kernel
theorem dX12_chance_54 : decode cX12_chance 54 = .ok (.lreturn, 1) := by decide +kernel
theorem dX12_findsSetFails_0 : decode cX12_findsSetFails 0 = .ok (.iconst 0, 1) := by decide +kernel
theorem dX12_findsSetFails_1 : decode cX12_findsSetFails 1 = .ok (.istore_n 1, 1) := by decide +kernel
theorem dX12_findsSetFails_2 : decode cX12_findsSetFails 2 = .ok (.iload_n 1, 1) := by decide +kernel
theorem dX12_findsSetFails_3 : decode cX12_findsSetFails 3 = .ok (.iconst 1, 1) := by decide +kernel
theorem dX12_findsSetFails_4 : decode cX12_findsSetFails 4 = .ok (.aload_n 0, 1) := by decide +kernel
theorem dX12_findsSetFails_5 : decode cX12_findsSetFails 5 = .ok (.getfield 7, 3) := by decide +kernel
theorem dX12_findsSetFails_8 : decode cX12_findsSetFails 8 = .ok (.ishl, 1) := by decide +kernel
theorem dX12_findsSetFails_9 : decode cX12_findsSetFails 9 = .ok (.if_icmp .ge 46, 3) := by decide +kernel
theorem dX12_findsSetFails_12 : decode cX12_findsSetFails 12 = .ok (.iconst 0, 1) := by decide +kernel
theorem dX12_findsSetFails_13 : decode cX12_findsSetFails 13 = .ok (.istore_n 2, 1) := by decide +kernel
theorem dX12_findsSetFails_14 : decode cX12_findsSetFails 14 = .ok (.iload_n 2, 1) := by decide +kernel
theorem dX12_findsSetFails_15 : decode cX12_findsSetFails 15 = .ok (.aload_n 0, 1) := by decide +kernel
theorem dX12_findsSetFails_16 : decode cX12_findsSetFails 16 = .ok (.getfield 7, 3) := by decide +kernel
theorem dX12_findsSetFails_19 : decode cX12_findsSetFails 19 = .ok (.if_icmp .ge 20, 3) := by decide +kernel
theorem dX12_findsSetFails_22 : decode cX12_findsSetFails 22 = .ok (.aload_n 0, 1) := by decide +kernel
theorem dX12_findsSetFails_23 : decode cX12_findsSetFails 23 = .ok (.getfield 92, 3) := by decide +kernel
theorem dX12_findsSetFails_26 : decode cX12_findsSetFails 26 = .ok (.iload_n 2, 1) := by decide +kernel
theorem dX12_findsSetFails_27 : decode cX12_findsSetFails 27 = .ok (.iload_n 1, 1) := by decide +kernel
theorem dX12_findsSetFails_28 : decode cX12_findsSetFails 28 = .ok (.iload_n 2, 1) := by decide +kernel
theorem dX12_findsSetFails_29 : decode cX12_findsSetFails 29 = .ok (.ishr, 1) := by decide +kernel
theorem dX12_findsSetFails_30 : decode cX12_findsSetFails 30 = .ok (.iconst 1, 1) := by decide +kernel
theorem dX12_findsSetFails_31 : decode cX12_findsSetFails 31 = .ok (.iand, 1) := by decide +kernel
theorem dX12_findsSetFails_32 : decode cX12_findsSetFails 32 = .ok (.iastore, 1) := by decide +kernel
theorem dX12_findsSetFails_33 : decode cX12_findsSetFails 33 = .ok (.iinc 2 1, 3) := by decide +kernel
theorem dX12_findsSetFails_36 : decode cX12_findsSetFails 36 = .ok (.goto (-22), 3) := by decide +kernel
theorem dX12_findsSetFails_39 : decode cX12_findsSetFails 39 = .ok (.aload_n 0, 1) := by decide +kernel
theorem dX12_findsSetFails_40 : decode cX12_findsSetFails 40 = .ok (.getfield 129, 3) := by decide +kernel
theorem dX12_findsSetFails_43 : decode cX12_findsSetFails 43 = .ok (.iload_n 1, 1) := by decide +kernel
theorem dX12_findsSetFails_44 : decode cX12_findsSetFails 44 = .ok (.aload_n 0, 1) := by decide +kernel
theorem dX12_findsSetFails_45 : decode cX12_findsSetFails 45 = .ok (.invokevirtual 351, 3) := by decide +kernel
theorem dX12_findsSetFails_48 : decode cX12_findsSetFails 48 = .ok (.bastore, 1) := by decide +kernel
theorem dX12_findsSetFails_49 : decode cX12_findsSetFails 49 = .ok (.iinc 1 1, 3) := by decide +kernel
theorem dX12_findsSetFails_52 : decode cX12_findsSetFails 52 = .ok (.goto (-50), 3) := by decide +kernel
theorem dX12_findsSetFails_55 : decode cX12_findsSetFails 55 = .ok (.return_, 1) := by decide +kernel
theorem dX12_beginsAhead_0 : decode cX12_beginsAhead 0 = .ok (.aload_n 0, 1) := by decide +kernel
theorem dX12_beginsAhead_1 : decode cX12_beginsAhead 1 = .ok (.invokevirtual 411, 3) := by decide +kernel
theorem dX12_beginsAhead_4 : decode cX12_beginsAhead 4 = .ok (.iconst 0, 1) := by decide +kernel
theorem dX12_beginsAhead_5 : decode cX12_beginsAhead 5 = .ok (.istore_n 1, 1) := by decide +kernel
theorem dX12_beginsAhead_6 : decode cX12_beginsAhead 6 = .ok (.iconst 0, 1) := by decide +kernel
theorem dX12_beginsAhead_7 : decode cX12_beginsAhead 7 = .ok (.istore_n 2, 1) := by decide +kernel
theorem dX12_beginsAhead_8 : decode cX12_beginsAhead 8 = .ok (.iload_n 2, 1) := by decide +kernel
theorem dX12_beginsAhead_9 : decode cX12_beginsAhead 9 = .ok (.aload_n 0, 1) := by decide +kernel
theorem dX12_beginsAhead_10 : decode cX12_beginsAhead 10 = .ok (.getfield 7, 3) := by decide +kernel
theorem dX12_beginsAhead_13 : decode cX12_beginsAhead 13 = .ok (.if_icmp .ge 20, 3) := by decide +kernel
theorem dX12_beginsAhead_16 : decode cX12_beginsAhead 16 = .ok (.iload_n 1, 1) := by decide +kernel
theorem dX12_beginsAhead_17 : decode cX12_beginsAhead 17 = .ok (.aload_n 0, 1) := by decide +kernel
theorem dX12_beginsAhead_18 : decode cX12_beginsAhead 18 = .ok (.getfield 20, 3) := by decide +kernel
theorem dX12_beginsAhead_21 : decode cX12_beginsAhead 21 = .ok (.iload_n 2, 1) := by decide +kernel
theorem dX12_beginsAhead_22 : decode cX12_beginsAhead 22 = .ok (.iaload, 1) := by decide +kernel
theorem dX12_beginsAhead_23 : decode cX12_beginsAhead 23 = .ok (.iload_n 2, 1) := by decide +kernel
theorem dX12_beginsAhead_24 : decode cX12_beginsAhead 24 = .ok (.ishl, 1) := by decide +kernel
theorem dX12_beginsAhead_25 : decode cX12_beginsAhead 25 = .ok (.ior, 1) := by decide +kernel
theorem dX12_beginsAhead_26 : decode cX12_beginsAhead 26 = .ok (.istore_n 1, 1) := by decide +kernel
theorem dX12_beginsAhead_27 : decode cX12_beginsAhead 27 = .ok (.iinc 2 1, 3) := by decide +kernel
theorem dX12_beginsAhead_30 : decode cX12_beginsAhead 30 = .ok (.goto (-22), 3) := by decide +kernel
theorem dX12_beginsAhead_33 : decode cX12_beginsAhead 33 = .ok (.iconst 0, 1) := by decide +kernel
theorem dX12_beginsAhead_34 : decode cX12_beginsAhead 34 = .ok (.istore_n 2, 1) := by decide +kernel
theorem dX12_beginsAhead_35 : decode cX12_beginsAhead 35 = .ok (.iload_n 2, 1) := by decide +kernel
theorem dX12_beginsAhead_36 : decode cX12_beginsAhead 36 = .ok (.sipush 1024, 3) := by decide +kernel
theorem dX12_beginsAhead_39 : decode cX12_beginsAhead 39 = .ok (.if_icmp .ge 16, 3) := by decide +kernel
theorem dX12_beginsAhead_42 : decode cX12_beginsAhead 42 = .ok (.aload_n 0, 1) := by decide +kernel
theorem dX12_beginsAhead_43 : decode cX12_beginsAhead 43 = .ok (.getfield 114, 3) := by decide +kernel
theorem dX12_beginsAhead_46 : decode cX12_beginsAhead 46 = .ok (.iload_n 2, 1) := by decide +kernel
theorem dX12_beginsAhead_47 : decode cX12_beginsAhead 47 = .ok (.lconst 0, 1) := by decide +kernel
theorem dX12_beginsAhead_48 : decode cX12_beginsAhead 48 = .ok (.lastore, 1) := by decide +kernel
theorem dX12_beginsAhead_49 : decode cX12_beginsAhead 49 = .ok (.iinc 2 1, 3) := by decide +kernel
theorem dX12_beginsAhead_52 : decode cX12_beginsAhead 52 = .ok (.goto (-17), 3) := by decide +kernel
theorem dX12_beginsAhead_55 : decode cX12_beginsAhead 55 = .ok (.aload_n 0, 1) := by decide +kernel
theorem dX12_beginsAhead_56 : decode cX12_beginsAhead 56 = .ok (.getfield 129, 3) := by decide +kernel
theorem dX12_beginsAhead_59 : decode cX12_beginsAhead 59 = .ok (.iload_n 1, 1) := by decide +kernel
theorem dX12_beginsAhead_60 : decode cX12_beginsAhead 60 = .ok (.baload, 1) := by decide +kernel
theorem dX12_beginsAhead_61 : decode cX12_beginsAhead 61 = .ok (.ifCond .ne 12, 3) := by decide +kernel
theorem dX12_beginsAhead_64 : decode cX12_beginsAhead 64 = .ok (.aload_n 0, 1) := by decide +kernel
theorem dX12_beginsAhead_65 : decode cX12_beginsAhead 65 = .ok (.getfield 114, 3) := by decide +kernel
theorem dX12_beginsAhead_68 : decode cX12_beginsAhead 68 = .ok (.iload_n 1, 1) := by decide +kernel
theorem dX12_beginsAhead_69 : decode cX12_beginsAhead 69 = .ok (.ldc2_w 398, 3) := by decide +kernel
theorem dX12_beginsAhead_72 : decode cX12_beginsAhead 72 = .ok (.lastore, 1) := by decide +kernel
theorem dX12_beginsAhead_73 : decode cX12_beginsAhead 73 = .ok (.return_, 1) := by decide +kernel
theorem dX12_splits_0 : decode cX12_splits 0 = .ok (.iconst 0, 1) := by decide +kernel
theorem dX12_splits_1 : decode cX12_splits 1 = .ok (.istore_n 3, 1) := by decide +kernel
theorem dX12_splits_2 : decode cX12_splits 2 = .ok (.iload_n 3, 1) := by decide +kernel
theorem dX12_splits_3 : decode cX12_splits 3 = .ok (.aload_n 0, 1) := by decide +kernel
theorem dX12_splits_4 : decode cX12_splits 4 = .ok (.getfield 7, 3) := by decide +kernel
theorem dX12_splits_7 : decode cX12_splits 7 = .ok (.if_icmp .ge 81, 3) := by decide +kernel
theorem dX12_splits_10 : decode cX12_splits 10 = .ok (.iload_n 3, 1) := by decide +kernel
theorem dX12_splits_11 : decode cX12_splits 11 = .ok (.ifCond .le 13, 3) := by decide +kernel
theorem dX12_splits_14 : decode cX12_splits 14 = .ok (.iload_n 1, 1) := by decide +kernel
theorem dX12_splits_15 : decode cX12_splits 15 = .ok (.iload_n 3, 1) := by decide +kernel
theorem dX12_splits_16 : decode cX12_splits 16 = .ok (.iconst 1, 1) := by decide +kernel
theorem dX12_splits_17 : decode cX12_splits 17 = .ok (.isub, 1) := by decide +kernel
theorem dX12_splits_18 : decode cX12_splits 18 = .ok (.ishr, 1) := by decide +kernel
theorem dX12_splits_19 : decode cX12_splits 19 = .ok (.iconst 1, 1) := by decide +kernel
theorem dX12_splits_20 : decode cX12_splits 20 = .ok (.iand, 1) := by decide +kernel
theorem dX12_splits_21 : decode cX12_splits 21 = .ok (.goto 4, 3) := by decide +kernel
theorem dX12_splits_24 : decode cX12_splits 24 = .ok (.iconst 0, 1) := by decide +kernel
theorem dX12_splits_25 : decode cX12_splits 25 = .ok (.iload_n 3, 1) := by decide +kernel
theorem dX12_splits_26 : decode cX12_splits 26 = .ok (.aload_n 0, 1) := by decide +kernel
theorem dX12_splits_27 : decode cX12_splits 27 = .ok (.getfield 7, 3) := by decide +kernel
theorem dX12_splits_30 : decode cX12_splits 30 = .ok (.iconst 1, 1) := by decide +kernel
theorem dX12_splits_31 : decode cX12_splits 31 = .ok (.isub, 1) := by decide +kernel
theorem dX12_splits_32 : decode cX12_splits 32 = .ok (.if_icmp .ge 13, 3) := by decide +kernel
theorem dX12_splits_35 : decode cX12_splits 35 = .ok (.iload_n 1, 1) := by decide +kernel
theorem dX12_splits_36 : decode cX12_splits 36 = .ok (.iload_n 3, 1) := by decide +kernel
theorem dX12_splits_37 : decode cX12_splits 37 = .ok (.iconst 1, 1) := by decide +kernel
theorem dX12_splits_38 : decode cX12_splits 38 = .ok (.iadd, 1) := by decide +kernel
theorem dX12_splits_39 : decode cX12_splits 39 = .ok (.ishr, 1) := by decide +kernel
theorem dX12_splits_40 : decode cX12_splits 40 = .ok (.iconst 1, 1) := by decide +kernel
theorem dX12_splits_41 : decode cX12_splits 41 = .ok (.iand, 1) := by decide +kernel
theorem dX12_splits_42 : decode cX12_splits 42 = .ok (.goto 4, 3) := by decide +kernel
theorem dX12_splits_45 : decode cX12_splits 45 = .ok (.iconst 0, 1) := by decide +kernel
theorem dX12_splits_46 : decode cX12_splits 46 = .ok (.iadd, 1) := by decide +kernel
theorem dX12_splits_47 : decode cX12_splits 47 = .ok (.istore 4, 2) := by decide +kernel
theorem dX12_splits_49 : decode cX12_splits 49 = .ok (.aload_n 0, 1) := by decide +kernel
theorem dX12_splits_50 : decode cX12_splits 50 = .ok (.getfield 126, 3) := by decide +kernel
theorem dX12_splits_53 : decode cX12_splits 53 = .ok (.iload_n 3, 1) := by decide +kernel
theorem dX12_splits_54 : decode cX12_splits 54 = .ok (.aload_n 0, 1) := by decide +kernel
theorem dX12_splits_55 : decode cX12_splits 55 = .ok (.aload_n 0, 1) := by decide +kernel
theorem dX12_splits_56 : decode cX12_splits 56 = .ok (.getfield 13, 3) := by decide +kernel
theorem dX12_splits_59 : decode cX12_splits 59 = .ok (.iload_n 3, 1) := by decide +kernel
theorem dX12_splits_60 : decode cX12_splits 60 = .ok (.iaload, 1) := by decide +kernel
theorem dX12_splits_61 : decode cX12_splits 61 = .ok (.aload_n 0, 1) := by decide +kernel
theorem dX12_splits_62 : decode cX12_splits 62 = .ok (.getfield 17, 3) := by decide +kernel
theorem dX12_splits_65 : decode cX12_splits 65 = .ok (.iload_n 3, 1) := by decide +kernel
theorem dX12_splits_66 : decode cX12_splits 66 = .ok (.iaload, 1) := by decide +kernel
theorem dX12_splits_67 : decode cX12_splits 67 = .ok (.iload_n 2, 1) := by decide +kernel
theorem dX12_splits_68 : decode cX12_splits 68 = .ok (.iadd, 1) := by decide +kernel
theorem dX12_splits_69 : decode cX12_splits 69 = .ok (.iload 4, 2) := by decide +kernel
theorem dX12_splits_71 : decode cX12_splits 71 = .ok (.iload_n 3, 1) := by decide +kernel
theorem dX12_splits_72 : decode cX12_splits 72 = .ok (.aload_n 0, 1) := by decide +kernel
theorem dX12_splits_73 : decode cX12_splits 73 = .ok (.getfield 334, 3) := by decide +kernel
theorem dX12_splits_76 : decode cX12_splits 76 = .ok (.iload_n 2, 1) := by decide +kernel
theorem dX12_splits_77 : decode cX12_splits 77 = .ok (.iadd, 1) := by decide +kernel
theorem dX12_splits_78 : decode cX12_splits 78 = .ok (.invokevirtual 337, 3) := by decide +kernel
theorem dX12_splits_81 : decode cX12_splits 81 = .ok (.iastore, 1) := by decide +kernel
theorem dX12_splits_82 : decode cX12_splits 82 = .ok (.iinc 3 1, 3) := by decide +kernel
theorem dX12_splits_85 : decode cX12_splits 85 = .ok (.goto (-83), 3) := by decide +kernel
theorem dX12_splits_88 : decode cX12_splits 88 = .ok (.aload_n 0, 1) := by decide +kernel
theorem dX12_splits_89 : decode cX12_splits 89 = .ok (.getfield 120, 3) := by decide +kernel
theorem dX12_splits_92 : decode cX12_splits 92 = .ok (.iconst 0, 1) := by decide +kernel
theorem dX12_splits_93 : decode cX12_splits 93 = .ok (.iload_n 1, 1) := by decide +kernel
theorem dX12_splits_94 : decode cX12_splits 94 = .ok (.iastore, 1) := by decide +kernel
theorem dX12_splits_95 : decode cX12_splits 95 = .ok (.aload_n 0, 1) := by decide +kernel
theorem dX12_splits_96 : decode cX12_splits 96 = .ok (.getfield 123, 3) := by decide +kernel
theorem dX12_splits_99 : decode cX12_splits 99 = .ok (.iconst 0, 1) := by decide +kernel
theorem dX12_splits_100 : decode cX12_splits 100 = .ok (.aload_n 0, 1) := by decide +kernel
theorem dX12_splits_101 : decode cX12_splits 101 = .ok (.getfield 114, 3) := by decide +kernel
theorem dX12_splits_104 : decode cX12_splits 104 = .ok (.iload_n 1, 1) := by decide +kernel
theorem dX12_splits_105 : decode cX12_splits 105 = .ok (.laload, 1) := by decide +kernel
theorem dX12_splits_106 : decode cX12_splits 106 = .ok (.lastore, 1) := by decide +kernel
theorem dX12_splits_107 : decode cX12_splits 107 = .ok (.iconst 1, 1) := by decide +kernel
theorem dX12_splits_108 : decode cX12_splits 108 = .ok (.istore_n 3, 1) := by decide +kernel
theorem dX12_splits_109 : decode cX12_splits 109 = .ok (.iconst 0, 1) := by decide +kernel
theorem dX12_splits_110 : decode cX12_splits 110 = .ok (.istore 4, 2) := by decide +kernel
theorem dX12_splits_112 : decode cX12_splits 112 = .ok (.iload 4, 2) := by decide +kernel
theorem dX12_splits_114 : decode cX12_splits 114 = .ok (.aload_n 0, 1) := by decide +kernel
theorem dX12_splits_115 : decode cX12_splits 115 = .ok (.getfield 7, 3) := by decide +kernel
theorem dX12_splits_118 : decode cX12_splits 118 = .ok (.if_icmp .ge 112, 3) := by decide +kernel
theorem dX12_splits_121 : decode cX12_splits 121 = .ok (.iload_n 1, 1) := by decide +kernel
theorem dX12_splits_122 : decode cX12_splits 122 = .ok (.iload 4, 2) := by decide +kernel
theorem dX12_splits_124 : decode cX12_splits 124 = .ok (.ishr, 1) := by decide +kernel
theorem dX12_splits_125 : decode cX12_splits 125 = .ok (.iconst 1, 1) := by decide +kernel
theorem dX12_splits_126 : decode cX12_splits 126 = .ok (.iand, 1) := by decide +kernel
theorem dX12_splits_127 : decode cX12_splits 127 = .ok (.iconst 1, 1) := by decide +kernel
theorem dX12_splits_128 : decode cX12_splits 128 = .ok (.if_icmp .ne 6, 3) := by decide +kernel
theorem dX12_splits_131 : decode cX12_splits 131 = .ok (.goto 93, 3) := by decide +kernel
theorem dX12_splits_134 : decode cX12_splits 134 = .ok (.iconst 0, 1) := by decide +kernel
theorem dX12_splits_135 : decode cX12_splits 135 = .ok (.istore 5, 2) := by decide +kernel
theorem dX12_splits_137 : decode cX12_splits 137 = .ok (.iload 5, 2) := by decide +kernel
theorem dX12_splits_139 : decode cX12_splits 139 = .ok (.iload_n 3, 1) := by decide +kernel
theorem dX12_splits_140 : decode cX12_splits 140 = .ok (.if_icmp .ge 80, 3) := by decide +kernel
theorem dX12_splits_143 : decode cX12_splits 143 = .ok (.aload_n 0, 1) := by decide +kernel
theorem dX12_splits_144 : decode cX12_splits 144 = .ok (.getfield 123, 3) := by decide +kernel
theorem dX12_splits_147 : decode cX12_splits 147 = .ok (.iload 5, 2) := by decide +kernel
theorem dX12_splits_149 : decode cX12_splits 149 = .ok (.laload, 1) := by decide +kernel
theorem dX12_splits_150 : decode cX12_splits 150 = .ok (.aload_n 0, 1) := by decide +kernel
theorem dX12_splits_151 : decode cX12_splits 151 = .ok (.getfield 126, 3) := by decide +kernel
theorem dX12_splits_154 : decode cX12_splits 154 = .ok (.iload 4, 2) := by decide +kernel
theorem dX12_splits_156 : decode cX12_splits 156 = .ok (.iaload, 1) := by decide +kernel
theorem dX12_splits_157 : decode cX12_splits 157 = .ok (.i2l, 1) := by decide +kernel
theorem dX12_splits_158 : decode cX12_splits 158 = .ok (.lmul, 1) := by decide +kernel
theorem dX12_splits_159 : decode cX12_splits 159 = .ok (.ldc2_w 400, 3) := by decide +kernel
theorem dX12_splits_162 : decode cX12_splits 162 = .ok (.ldiv, 1) := by decide +kernel
theorem dX12_splits_163 : decode cX12_splits 163 = .ok (.lstore 6, 2) := by decide +kernel
theorem dX12_splits_165 : decode cX12_splits 165 = .ok (.aload_n 0, 1) := by decide +kernel
theorem dX12_splits_166 : decode cX12_splits 166 = .ok (.getfield 120, 3) := by decide +kernel
theorem dX12_splits_169 : decode cX12_splits 169 = .ok (.iload_n 3, 1) := by decide +kernel
theorem dX12_splits_170 : decode cX12_splits 170 = .ok (.iload 5, 2) := by decide +kernel
theorem dX12_splits_172 : decode cX12_splits 172 = .ok (.iadd, 1) := by decide +kernel
theorem dX12_splits_173 : decode cX12_splits 173 = .ok (.aload_n 0, 1) := by decide +kernel
theorem dX12_splits_174 : decode cX12_splits 174 = .ok (.getfield 120, 3) := by decide +kernel
theorem dX12_splits_177 : decode cX12_splits 177 = .ok (.iload 5, 2) := by decide +kernel
theorem dX12_splits_179 : decode cX12_splits 179 = .ok (.iaload, 1) := by decide +kernel
theorem dX12_splits_180 : decode cX12_splits 180 = .ok (.iconst 1, 1) := by decide +kernel
theorem dX12_splits_181 : decode cX12_splits 181 = .ok (.iload 4, 2) := by decide +kernel
theorem dX12_splits_183 : decode cX12_splits 183 = .ok (.ishl, 1) := by decide +kernel
theorem dX12_splits_184 : decode cX12_splits 184 = .ok (.ior, 1) := by decide +kernel
theorem dX12_splits_185 : decode cX12_splits 185 = .ok (.iastore, 1) := by decide +kernel
theorem dX12_splits_186 : decode cX12_splits 186 = .ok (.aload_n 0, 1) := by decide +kernel
theorem dX12_splits_187 : decode cX12_splits 187 = .ok (.getfield 123, 3) := by decide +kernel
theorem dX12_splits_190 : decode cX12_splits 190 = .ok (.iload_n 3, 1) := by decide +kernel
theorem dX12_splits_191 : decode cX12_splits 191 = .ok (.iload 5, 2) := by decide +kernel
theorem dX12_splits_193 : decode cX12_splits 193 = .ok (.iadd, 1) := by decide +kernel
theorem dX12_splits_194 : decode cX12_splits 194 = .ok (.lload 6, 2) := by decide +kernel
theorem dX12_splits_196 : decode cX12_splits 196 = .ok (.lastore, 1) := by decide +kernel
theorem dX12_splits_197 : decode cX12_splits 197 = .ok (.aload_n 0, 1) := by decide +kernel
theorem dX12_splits_198 : decode cX12_splits 198 = .ok (.getfield 123, 3) := by decide +kernel
theorem dX12_splits_201 : decode cX12_splits 201 = .ok (.iload 5, 2) := by decide +kernel
theorem dX12_splits_203 : decode cX12_splits 203 = .ok (.aload_n 0, 1) := by decide +kernel
theorem dX12_splits_204 : decode cX12_splits 204 = .ok (.getfield 123, 3) := by decide +kernel
theorem dX12_splits_207 : decode cX12_splits 207 = .ok (.iload 5, 2) := by decide +kernel
theorem dX12_splits_209 : decode cX12_splits 209 = .ok (.laload, 1) := by decide +kernel
theorem dX12_splits_210 : decode cX12_splits 210 = .ok (.lload 6, 2) := by decide +kernel
theorem dX12_splits_212 : decode cX12_splits 212 = .ok (.lsub, 1) := by decide +kernel
theorem dX12_splits_213 : decode cX12_splits 213 = .ok (.lastore, 1) := by decide +kernel
theorem dX12_splits_214 : decode cX12_splits 214 = .ok (.iinc 5 1, 3) := by decide +kernel
theorem dX12_splits_217 : decode cX12_splits 217 = .ok (.goto (-80), 3) := by decide +kernel
theorem dX12_splits_220 : decode cX12_splits 220 = .ok (.iconst 2, 1) := by decide +kernel
theorem dX12_splits_221 : decode cX12_splits 221 = .ok (.iload_n 3, 1) := by decide +kernel
theorem dX12_splits_222 : decode cX12_splits 222 = .ok (.imul, 1) := by decide +kernel
theorem dX12_splits_223 : decode cX12_splits 223 = .ok (.istore_n 3, 1) := by decide +kernel
theorem dX12_splits_224 : decode cX12_splits 224 = .ok (.iinc 4 1, 3) := by decide +kernel
theorem dX12_splits_227 : decode cX12_splits 227 = .ok (.goto (-115), 3) := by decide +kernel
theorem dX12_splits_230 : decode cX12_splits 230 = .ok (.iconst 0, 1) := by decide +kernel
theorem dX12_splits_231 : decode cX12_splits 231 = .ok (.istore 4, 2) := by decide +kernel
theorem dX12_splits_233 : decode cX12_splits 233 = .ok (.iload 4, 2) := by decide +kernel
theorem dX12_splits_235 : decode cX12_splits 235 = .ok (.iload_n 3, 1) := by decide +kernel
theorem dX12_splits_236 : decode cX12_splits 236 = .ok (.if_icmp .ge 56, 3) := by decide +kernel
theorem dX12_splits_239 : decode cX12_splits 239 = .ok (.aload_n 0, 1) := by decide +kernel
theorem dX12_splits_240 : decode cX12_splits 240 = .ok (.getfield 129, 3) := by decide +kernel
theorem dX12_splits_243 : decode cX12_splits 243 = .ok (.aload_n 0, 1) := by decide +kernel
theorem dX12_splits_244 : decode cX12_splits 244 = .ok (.getfield 120, 3) := by decide +kernel
theorem dX12_splits_247 : decode cX12_splits 247 = .ok (.iload 4, 2) := by decide +kernel
theorem dX12_splits_249 : decode cX12_splits 249 = .ok (.iaload, 1) := by decide +kernel
theorem dX12_splits_250 : decode cX12_splits 250 = .ok (.baload, 1) := by decide +kernel
theorem dX12_splits_251 : decode cX12_splits 251 = .ok (.ifCond .ne 35, 3) := by decide +kernel
theorem dX12_splits_254 : decode cX12_splits 254 = .ok (.aload_n 0, 1) := by decide +kernel
theorem dX12_splits_255 : decode cX12_splits 255 = .ok (.getfield 117, 3) := by decide +kernel
theorem dX12_splits_258 : decode cX12_splits 258 = .ok (.aload_n 0, 1) := by decide +kernel
theorem dX12_splits_259 : decode cX12_splits 259 = .ok (.getfield 120, 3) := by decide +kernel
theorem dX12_splits_262 : decode cX12_splits 262 = .ok (.iload 4, 2) := by decide +kernel
theorem dX12_splits_264 : decode cX12_splits 264 = .ok (.iaload, 1) := by decide +kernel
theorem dX12_splits_265 : decode cX12_splits 265 = .ok (.aload_n 0, 1) := by decide +kernel
theorem dX12_splits_266 : decode cX12_splits 266 = .ok (.getfield 117, 3) := by decide +kernel
theorem dX12_splits_269 : decode cX12_splits 269 = .ok (.aload_n 0, 1) := by decide +kernel
theorem dX12_splits_270 : decode cX12_splits 270 = .ok (.getfield 120, 3) := by decide +kernel
theorem dX12_splits_273 : decode cX12_splits 273 = .ok (.iload 4, 2) := by decide +kernel
theorem dX12_splits_275 : decode cX12_splits 275 = .ok (.iaload, 1) := by decide +kernel
theorem dX12_splits_276 : decode cX12_splits 276 = .ok (.laload, 1) := by decide +kernel
theorem dX12_splits_277 : decode cX12_splits 277 = .ok (.aload_n 0, 1) := by decide +kernel
theorem dX12_splits_278 : decode cX12_splits 278 = .ok (.getfield 123, 3) := by decide +kernel
theorem dX12_splits_281 : decode cX12_splits 281 = .ok (.iload 4, 2) := by decide +kernel
theorem dX12_splits_283 : decode cX12_splits 283 = .ok (.laload, 1) := by decide +kernel
theorem dX12_splits_284 : decode cX12_splits 284 = .ok (.ladd, 1) := by decide +kernel
theorem dX12_splits_285 : decode cX12_splits 285 = .ok (.lastore, 1) := by decide +kernel
theorem dX12_splits_286 : decode cX12_splits 286 = .ok (.iinc 4 1, 3) := by decide +kernel
theorem dX12_splits_289 : decode cX12_splits 289 = .ok (.goto (-56), 3) := by decide +kernel
theorem dX12_splits_292 : decode cX12_splits 292 = .ok (.return_, 1) := by decide +kernel
theorem dX12_aDayAhead_0 : decode cX12_aDayAhead 0 = .ok (.iconst 0, 1) := by decide +kernel
theorem dX12_aDayAhead_1 : decode cX12_aDayAhead 1 = .ok (.istore_n 2, 1) := by decide +kernel
theorem dX12_aDayAhead_2 : decode cX12_aDayAhead 2 = .ok (.iload_n 2, 1) := by decide +kernel
theorem dX12_aDayAhead_3 : decode cX12_aDayAhead 3 = .ok (.iconst 1, 1) := by decide +kernel
theorem dX12_aDayAhead_4 : decode cX12_aDayAhead 4 = .ok (.aload_n 0, 1) := by decide +kernel
theorem dX12_aDayAhead_5 : decode cX12_aDayAhead 5 = .ok (.getfield 7, 3) := by decide +kernel
theorem dX12_aDayAhead_8 : decode cX12_aDayAhead 8 = .ok (.ishl, 1) := by decide +kernel
theorem dX12_aDayAhead_9 : decode cX12_aDayAhead 9 = .ok (.if_icmp .ge 16, 3) := by decide +kernel
theorem dX12_aDayAhead_12 : decode cX12_aDayAhead 12 = .ok (.aload_n 0, 1) := by decide +kernel
theorem dX12_aDayAhead_13 : decode cX12_aDayAhead 13 = .ok (.getfield 117, 3) := by decide +kernel
theorem dX12_aDayAhead_16 : decode cX12_aDayAhead 16 = .ok (.iload_n 2, 1) := by decide +kernel
theorem dX12_aDayAhead_17 : decode cX12_aDayAhead 17 = .ok (.lconst 0, 1) := by decide +kernel
theorem dX12_aDayAhead_18 : decode cX12_aDayAhead 18 = .ok (.lastore, 1) := by decide +kernel
theorem dX12_aDayAhead_19 : decode cX12_aDayAhead 19 = .ok (.iinc 2 1, 3) := by decide +kernel
theorem dX12_aDayAhead_22 : decode cX12_aDayAhead 22 = .ok (.goto (-20), 3) := by decide +kernel
theorem dX12_aDayAhead_25 : decode cX12_aDayAhead 25 = .ok (.iconst 0, 1) := by decide +kernel
theorem dX12_aDayAhead_26 : decode cX12_aDayAhead 26 = .ok (.istore_n 2, 1) := by decide +kernel
theorem dX12_aDayAhead_27 : decode cX12_aDayAhead 27 = .ok (.iload_n 2, 1) := by decide +kernel
theorem dX12_aDayAhead_28 : decode cX12_aDayAhead 28 = .ok (.iconst 1, 1) := by decide +kernel
theorem dX12_aDayAhead_29 : decode cX12_aDayAhead 29 = .ok (.aload_n 0, 1) := by decide +kernel
theorem dX12_aDayAhead_30 : decode cX12_aDayAhead 30 = .ok (.getfield 7, 3) := by decide +kernel
theorem dX12_aDayAhead_33 : decode cX12_aDayAhead 33 = .ok (.ishl, 1) := by decide +kernel
theorem dX12_aDayAhead_34 : decode cX12_aDayAhead 34 = .ok (.if_icmp .ge 26, 3) := by decide +kernel
theorem dX12_aDayAhead_37 : decode cX12_aDayAhead 37 = .ok (.aload_n 0, 1) := by decide +kernel
theorem dX12_aDayAhead_38 : decode cX12_aDayAhead 38 = .ok (.getfield 114, 3) := by decide +kernel
theorem dX12_aDayAhead_41 : decode cX12_aDayAhead 41 = .ok (.iload_n 2, 1) := by decide +kernel
theorem dX12_aDayAhead_42 : decode cX12_aDayAhead 42 = .ok (.laload, 1) := by decide +kernel
theorem dX12_aDayAhead_43 : decode cX12_aDayAhead 43 = .ok (.lconst 0, 1) := by decide +kernel
theorem dX12_aDayAhead_44 : decode cX12_aDayAhead 44 = .ok (.lcmp, 1) := by decide +kernel
theorem dX12_aDayAhead_45 : decode cX12_aDayAhead 45 = .ok (.ifCond .le 9, 3) := by decide +kernel
theorem dX12_aDayAhead_48 : decode cX12_aDayAhead 48 = .ok (.aload_n 0, 1) := by decide +kernel
theorem dX12_aDayAhead_49 : decode cX12_aDayAhead 49 = .ok (.iload_n 2, 1) := by decide +kernel
theorem dX12_aDayAhead_50 : decode cX12_aDayAhead 50 = .ok (.iload_n 1, 1) := by decide +kernel
theorem dX12_aDayAhead_51 : decode cX12_aDayAhead 51 = .ok (.invokevirtual 414, 3) := by decide +kernel
theorem dX12_aDayAhead_54 : decode cX12_aDayAhead 54 = .ok (.iinc 2 1, 3) := by decide +kernel
theorem dX12_aDayAhead_57 : decode cX12_aDayAhead 57 = .ok (.goto (-30), 3) := by decide +kernel
theorem dX12_aDayAhead_60 : decode cX12_aDayAhead 60 = .ok (.iconst 0, 1) := by decide +kernel
theorem dX12_aDayAhead_61 : decode cX12_aDayAhead 61 = .ok (.istore_n 2, 1) := by decide +kernel
theorem dX12_aDayAhead_62 : decode cX12_aDayAhead 62 = .ok (.iload_n 2, 1) := by decide +kernel
theorem dX12_aDayAhead_63 : decode cX12_aDayAhead 63 = .ok (.iconst 1, 1) := by decide +kernel
theorem dX12_aDayAhead_64 : decode cX12_aDayAhead 64 = .ok (.aload_n 0, 1) := by decide +kernel
theorem dX12_aDayAhead_65 : decode cX12_aDayAhead 65 = .ok (.getfield 7, 3) := by decide +kernel
theorem dX12_aDayAhead_68 : decode cX12_aDayAhead 68 = .ok (.ishl, 1) := by decide +kernel
theorem dX12_aDayAhead_69 : decode cX12_aDayAhead 69 = .ok (.if_icmp .ge 21, 3) := by decide +kernel
theorem dX12_aDayAhead_72 : decode cX12_aDayAhead 72 = .ok (.aload_n 0, 1) := by decide +kernel
theorem dX12_aDayAhead_73 : decode cX12_aDayAhead 73 = .ok (.getfield 114, 3) := by decide +kernel
theorem dX12_aDayAhead_76 : decode cX12_aDayAhead 76 = .ok (.iload_n 2, 1) := by decide +kernel
theorem dX12_aDayAhead_77 : decode cX12_aDayAhead 77 = .ok (.aload_n 0, 1) := by decide +kernel
theorem dX12_aDayAhead_78 : decode cX12_aDayAhead 78 = .ok (.getfield 117, 3) := by decide +kernel
theorem dX12_aDayAhead_81 : decode cX12_aDayAhead 81 = .ok (.iload_n 2, 1) := by decide +kernel
theorem dX12_aDayAhead_82 : decode cX12_aDayAhead 82 = .ok (.laload, 1) := by decide +kernel
theorem dX12_aDayAhead_83 : decode cX12_aDayAhead 83 = .ok (.lastore, 1) := by decide +kernel
theorem dX12_aDayAhead_84 : decode cX12_aDayAhead 84 = .ok (.iinc 2 1, 3) := by decide +kernel
theorem dX12_aDayAhead_87 : decode cX12_aDayAhead 87 = .ok (.goto (-25), 3) := by decide +kernel
theorem dX12_aDayAhead_90 : decode cX12_aDayAhead 90 = .ok (.return_, 1) := by decide +kernel
theorem dX12_leftNow_0 : decode cX12_leftNow 0 = .ok (.lconst 0, 1) := by decide +kernel
theorem dX12_leftNow_1 : decode cX12_leftNow 1 = .ok (.lstore_n 1, 1) := by decide +kernel
theorem dX12_leftNow_2 : decode cX12_leftNow 2 = .ok (.iconst 0, 1) := by decide +kernel
theorem dX12_leftNow_3 : decode cX12_leftNow 3 = .ok (.istore_n 3, 1) := by decide +kernel
theorem dX12_leftNow_4 : decode cX12_leftNow 4 = .ok (.iload_n 3, 1) := by decide +kernel
theorem dX12_leftNow_5 : decode cX12_leftNow 5 = .ok (.iconst 1, 1) := by decide +kernel
theorem dX12_leftNow_6 : decode cX12_leftNow 6 = .ok (.aload_n 0, 1) := by decide +kernel
theorem dX12_leftNow_7 : decode cX12_leftNow 7 = .ok (.getfield 7, 3) := by decide +kernel
theorem dX12_leftNow_10 : decode cX12_leftNow 10 = .ok (.ishl, 1) := by decide +kernel
theorem dX12_leftNow_11 : decode cX12_leftNow 11 = .ok (.if_icmp .ge 18, 3) := by decide +kernel
theorem dX12_leftNow_14 : decode cX12_leftNow 14 = .ok (.lload_n 1, 1) := by decide +kernel
theorem dX12_leftNow_15 : decode cX12_leftNow 15 = .ok (.aload_n 0, 1) := by decide +kernel
theorem dX12_leftNow_16 : decode cX12_leftNow 16 = .ok (.getfield 114, 3) := by decide +kernel
theorem dX12_leftNow_19 : decode cX12_leftNow 19 = .ok (.iload_n 3, 1) := by decide +kernel
theorem dX12_leftNow_20 : decode cX12_leftNow 20 = .ok (.laload, 1) := by decide +kernel
theorem dX12_leftNow_21 : decode cX12_leftNow 21 = .ok (.ladd, 1) := by decide +kernel
theorem dX12_leftNow_22 : decode cX12_leftNow 22 = .ok (.lstore_n 1, 1) := by decide +kernel
theorem dX12_leftNow_23 : decode cX12_leftNow 23 = .ok (.iinc 3 1, 3) := by decide +kernel
theorem dX12_leftNow_26 : decode cX12_leftNow 26 = .ok (.goto (-22), 3) := by decide +kernel
theorem dX12_leftNow_29 : decode cX12_leftNow 29 = .ok (.lload_n 1, 1) := by decide +kernel
theorem dX12_leftNow_30 : decode cX12_leftNow 30 = .ok (.lreturn, 1) := by decide +kernel
theorem dX12_left_0 : decode cX12_left 0 = .ok (.aload_n 0, 1) := by decide +kernel
theorem dX12_left_1 : decode cX12_left 1 = .ok (.iconst 0, 1) := by decide +kernel
theorem dX12_left_2 : decode cX12_left 2 = .ok (.putfield 166, 3) := by decide +kernel
theorem dX12_left_5 : decode cX12_left 5 = .ok (.aload_n 0, 1) := by decide +kernel
theorem dX12_left_6 : decode cX12_left 6 = .ok (.getfield 7, 3) := by decide +kernel
theorem dX12_left_9 : decode cX12_left 9 = .ok (.bipush 10, 2) := by decide +kernel
theorem dX12_left_11 : decode cX12_left 11 = .ok (.if_icmp .gt 14, 3) := by decide +kernel
theorem dX12_left_14 : decode cX12_left 14 = .ok (.aload_n 0, 1) := by decide +kernel
theorem dX12_left_15 : decode cX12_left 15 = .ok (.iload_n 1, 1) := by decide +kernel
theorem dX12_left_16 : decode cX12_left 16 = .ok (.iconst 0, 1) := by decide +kernel
theorem dX12_left_17 : decode cX12_left 17 = .ok (.bipush 60, 2) := by decide +kernel
theorem dX12_left_19 : decode cX12_left 19 = .ok (.invokevirtual 174, 3) := by decide +kernel
theorem dX12_left_22 : decode cX12_left 22 = .ok (.ifCond .ne 7, 3) := by decide +kernel
theorem dX12_left_25 : decode cX12_left 25 = .ok (.ldc2_w 409, 3) := by decide +kernel
theorem dX12_left_28 : decode cX12_left 28 = .ok (.lreturn, 1) := by decide +kernel
theorem dX12_left_29 : decode cX12_left 29 = .ok (.aload_n 0, 1) := by decide +kernel
theorem dX12_left_30 : decode cX12_left 30 = .ok (.invokevirtual 417, 3) := by decide +kernel
theorem dX12_left_33 : decode cX12_left 33 = .ok (.iconst 0, 1) := by decide +kernel
theorem dX12_left_34 : decode cX12_left 34 = .ok (.istore_n 2, 1) := by decide +kernel
theorem dX12_left_35 : decode cX12_left 35 = .ok (.iload_n 2, 1) := by decide +kernel
theorem dX12_left_36 : decode cX12_left 36 = .ok (.iload_n 1, 1) := by decide +kernel
theorem dX12_left_37 : decode cX12_left 37 = .ok (.if_icmp .ge 14, 3) := by decide +kernel
theorem dX12_left_40 : decode cX12_left 40 = .ok (.aload_n 0, 1) := by decide +kernel
theorem dX12_left_41 : decode cX12_left 41 = .ok (.iload_n 2, 1) := by decide +kernel
theorem dX12_left_42 : decode cX12_left 42 = .ok (.invokevirtual 420, 3) := by decide +kernel
theorem dX12_left_45 : decode cX12_left 45 = .ok (.iinc 2 1, 3) := by decide +kernel
theorem dX12_left_48 : decode cX12_left 48 = .ok (.goto (-13), 3) := by decide +kernel
theorem dX12_left_51 : decode cX12_left 51 = .ok (.aload_n 0, 1) := by decide +kernel
theorem dX12_left_52 : decode cX12_left 52 = .ok (.invokevirtual 423, 3) := by decide +kernel
theorem dX12_left_55 : decode cX12_left 55 = .ok (.lreturn, 1) := by decide +kernel
theorem dX12_lasts_0 : decode cX12_lasts 0 = .ok (.aload_n 0, 1) := by decide +kernel
theorem dX12_lasts_1 : decode cX12_lasts 1 = .ok (.invokevirtual 417, 3) := by decide +kernel
theorem dX12_lasts_4 : decode cX12_lasts 4 = .ok (.lconst 0, 1) := by decide +kernel
theorem dX12_lasts_5 : decode cX12_lasts 5 = .ok (.lstore_n 1, 1) := by decide +kernel
theorem dX12_lasts_6 : decode cX12_lasts 6 = .ok (.iconst 0, 1) := by decide +kernel
theorem dX12_lasts_7 : decode cX12_lasts 7 = .ok (.istore_n 3, 1) := by decide +kernel
theorem dX12_lasts_8 : decode cX12_lasts 8 = .ok (.iload_n 3, 1) := by decide +kernel
theorem dX12_lasts_9 : decode cX12_lasts 9 = .ok (.bipush 60, 2) := by decide +kernel
theorem dX12_lasts_11 : decode cX12_lasts 11 = .ok (.if_icmp .ge 21, 3) := by decide +kernel
theorem dX12_lasts_14 : decode cX12_lasts 14 = .ok (.lload_n 1, 1) := by decide +kernel
theorem dX12_lasts_15 : decode cX12_lasts 15 = .ok (.aload_n 0, 1) := by decide +kernel
theorem dX12_lasts_16 : decode cX12_lasts 16 = .ok (.invokevirtual 423, 3) := by decide +kernel
theorem dX12_lasts_19 : decode cX12_lasts 19 = .ok (.ladd, 1) := by decide +kernel
theorem dX12_lasts_20 : decode cX12_lasts 20 = .ok (.lstore_n 1, 1) := by decide +kernel
theorem dX12_lasts_21 : decode cX12_lasts 21 = .ok (.aload_n 0, 1) := by decide +kernel
theorem dX12_lasts_22 : decode cX12_lasts 22 = .ok (.iload_n 3, 1) := by decide +kernel
theorem dX12_lasts_23 : decode cX12_lasts 23 = .ok (.invokevirtual 420, 3) := by decide +kernel
theorem dX12_lasts_26 : decode cX12_lasts 26 = .ok (.iinc 3 1, 3) := by decide +kernel
theorem dX12_lasts_29 : decode cX12_lasts 29 = .ok (.goto (-21), 3) := by decide +kernel
theorem dX12_lasts_32 : decode cX12_lasts 32 = .ok (.lload_n 1, 1) := by decide +kernel
theorem dX12_lasts_33 : decode cX12_lasts 33 = .ok (.ldc2_w 400, 3) := by decide +kernel
theorem dX12_lasts_36 : decode cX12_lasts 36 = .ok (.lmul, 1) := by decide +kernel
theorem dX12_lasts_37 : decode cX12_lasts 37 = .ok (.ldc2_w 398, 3) := by decide +kernel
theorem dX12_lasts_40 : decode cX12_lasts 40 = .ok (.ldiv, 1) := by decide +kernel
theorem dX12_lasts_41 : decode cX12_lasts 41 = .ok (.l2i, 1) := by decide +kernel
theorem dX12_lasts_42 : decode cX12_lasts 42 = .ok (.ireturn, 1) := by decide +kernel
theorem dX12_ahead_0 : decode cX12_ahead 0 = .ok (.aload_n 0, 1) := by decide +kernel
theorem dX12_ahead_1 : decode cX12_ahead 1 = .ok (.iconst 0, 1) := by decide +kernel
theorem dX12_ahead_2 : decode cX12_ahead 2 = .ok (.putfield 166, 3) := by decide +kernel
theorem dX12_ahead_5 : decode cX12_ahead 5 = .ok (.aload_n 0, 1) := by decide +kernel
theorem dX12_ahead_6 : decode cX12_ahead 6 = .ok (.getfield 7, 3) := by decide +kernel
theorem dX12_ahead_9 : decode cX12_ahead 9 = .ok (.bipush 10, 2) := by decide +kernel
theorem dX12_ahead_11 : decode cX12_ahead 11 = .ok (.if_icmp .gt 13, 3) := by decide +kernel
theorem dX12_ahead_14 : decode cX12_ahead 14 = .ok (.aload_n 0, 1) := by decide +kernel
theorem dX12_ahead_15 : decode cX12_ahead 15 = .ok (.iload_n 1, 1) := by decide +kernel
theorem dX12_ahead_16 : decode cX12_ahead 16 = .ok (.iconst 0, 1) := by decide +kernel
theorem dX12_ahead_17 : decode cX12_ahead 17 = .ok (.iconst 1, 1) := by decide +kernel
theorem dX12_ahead_18 : decode cX12_ahead 18 = .ok (.invokevirtual 174, 3) := by decide +kernel
theorem dX12_ahead_21 : decode cX12_ahead 21 = .ok (.ifCond .ne 5, 3) := by decide +kernel
theorem dX12_ahead_24 : decode cX12_ahead 24 = .ok (.iconst (-1), 1) := by decide +kernel
theorem dX12_ahead_25 : decode cX12_ahead 25 = .ok (.ireturn, 1) := by decide +kernel
theorem dX12_ahead_26 : decode cX12_ahead 26 = .ok (.iload_n 1, 1) := by decide +kernel
theorem dX12_ahead_27 : decode cX12_ahead 27 = .ok (.ifCond .ne 8, 3) := by decide +kernel
theorem dX12_ahead_30 : decode cX12_ahead 30 = .ok (.aload_n 0, 1) := by decide +kernel
theorem dX12_ahead_31 : decode cX12_ahead 31 = .ok (.invokevirtual 426, 3) := by decide +kernel
theorem dX12_ahead_34 : decode cX12_ahead 34 = .ok (.ireturn, 1) := by decide +kernel
theorem dX12_ahead_35 : decode cX12_ahead 35 = .ok (.aload_n 0, 1) := by decide +kernel
theorem dX12_ahead_36 : decode cX12_ahead 36 = .ok (.iload_n 2, 1) := by decide +kernel
theorem dX12_ahead_37 : decode cX12_ahead 37 = .ok (.iconst 0, 1) := by decide +kernel
theorem dX12_ahead_38 : decode cX12_ahead 38 = .ok (.bipush 60, 2) := by decide +kernel
theorem dX12_ahead_40 : decode cX12_ahead 40 = .ok (.invokevirtual 174, 3) := by decide +kernel
theorem dX12_ahead_43 : decode cX12_ahead 43 = .ok (.ifCond .ne 5, 3) := by decide +kernel
theorem dX12_ahead_46 : decode cX12_ahead 46 = .ok (.iconst (-1), 1) := by decide +kernel
theorem dX12_ahead_47 : decode cX12_ahead 47 = .ok (.ireturn, 1) := by decide +kernel
theorem dX12_ahead_48 : decode cX12_ahead 48 = .ok (.aload_n 0, 1) := by decide +kernel
theorem dX12_ahead_49 : decode cX12_ahead 49 = .ok (.invokevirtual 417, 3) := by decide +kernel
theorem dX12_ahead_52 : decode cX12_ahead 52 = .ok (.iconst 0, 1) := by decide +kernel
theorem dX12_ahead_53 : decode cX12_ahead 53 = .ok (.istore_n 3, 1) := by decide +kernel
theorem dX12_ahead_54 : decode cX12_ahead 54 = .ok (.iload_n 3, 1) := by decide +kernel
theorem dX12_ahead_55 : decode cX12_ahead 55 = .ok (.iload_n 2, 1) := by decide +kernel
theorem dX12_ahead_56 : decode cX12_ahead 56 = .ok (.if_icmp .ge 14, 3) := by decide +kernel
theorem dX12_ahead_59 : decode cX12_ahead 59 = .ok (.aload_n 0, 1) := by decide +kernel
theorem dX12_ahead_60 : decode cX12_ahead 60 = .ok (.iload_n 3, 1) := by decide +kernel
theorem dX12_ahead_61 : decode cX12_ahead 61 = .ok (.invokevirtual 420, 3) := by decide +kernel
theorem dX12_ahead_64 : decode cX12_ahead 64 = .ok (.iinc 3 1, 3) := by decide +kernel
theorem dX12_ahead_67 : decode cX12_ahead 67 = .ok (.goto (-13), 3) := by decide +kernel
theorem dX12_ahead_70 : decode cX12_ahead 70 = .ok (.iconst (-1), 1) := by decide +kernel
theorem dX12_ahead_71 : decode cX12_ahead 71 = .ok (.istore_n 3, 1) := by decide +kernel
theorem dX12_ahead_72 : decode cX12_ahead 72 = .ok (.iconst 0, 1) := by decide +kernel
theorem dX12_ahead_73 : decode cX12_ahead 73 = .ok (.istore 4, 2) := by decide +kernel
theorem dX12_ahead_75 : decode cX12_ahead 75 = .ok (.iload 4, 2) := by decide +kernel
theorem dX12_ahead_77 : decode cX12_ahead 77 = .ok (.iconst 1, 1) := by decide +kernel
theorem dX12_ahead_78 : decode cX12_ahead 78 = .ok (.aload_n 0, 1) := by decide +kernel
theorem dX12_ahead_79 : decode cX12_ahead 79 = .ok (.getfield 7, 3) := by decide +kernel
theorem dX12_ahead_82 : decode cX12_ahead 82 = .ok (.ishl, 1) := by decide +kernel
theorem dX12_ahead_83 : decode cX12_ahead 83 = .ok (.if_icmp .ge 46, 3) := by decide +kernel
theorem dX12_ahead_86 : decode cX12_ahead 86 = .ok (.aload_n 0, 1) := by decide +kernel
theorem dX12_ahead_87 : decode cX12_ahead 87 = .ok (.getfield 114, 3) := by decide +kernel
theorem dX12_ahead_90 : decode cX12_ahead 90 = .ok (.iload 4, 2) := by decide +kernel
theorem dX12_ahead_92 : decode cX12_ahead 92 = .ok (.laload, 1) := by decide +kernel
theorem dX12_ahead_93 : decode cX12_ahead 93 = .ok (.lconst 0, 1) := by decide +kernel
theorem dX12_ahead_94 : decode cX12_ahead 94 = .ok (.lcmp, 1) := by decide +kernel
theorem dX12_ahead_95 : decode cX12_ahead 95 = .ok (.ifCond .le 28, 3) := by decide +kernel
theorem dX12_ahead_98 : decode cX12_ahead 98 = .ok (.iload_n 3, 1) := by decide +kernel
theorem dX12_ahead_99 : decode cX12_ahead 99 = .ok (.iconst (-1), 1) := by decide +kernel
theorem dX12_ahead_100 : decode cX12_ahead 100 = .ok (.if_icmp .eq 20, 3) := by decide +kernel
theorem dX12_ahead_103 : decode cX12_ahead 103 = .ok (.aload_n 0, 1) := by decide +kernel
theorem dX12_ahead_104 : decode cX12_ahead 104 = .ok (.getfield 114, 3) := by decide +kernel
theorem dX12_ahead_107 : decode cX12_ahead 107 = .ok (.iload 4, 2) := by decide +kernel
theorem dX12_ahead_109 : decode cX12_ahead 109 = .ok (.laload, 1) := by decide +kernel
theorem dX12_ahead_110 : decode cX12_ahead 110 = .ok (.aload_n 0, 1) := by decide +kernel
theorem dX12_ahead_111 : decode cX12_ahead 111 = .ok (.getfield 114, 3) := by decide +kernel
theorem dX12_ahead_114 : decode cX12_ahead 114 = .ok (.iload_n 3, 1) := by decide +kernel
theorem dX12_ahead_115 : decode cX12_ahead 115 = .ok (.laload, 1) := by decide +kernel
theorem dX12_ahead_116 : decode cX12_ahead 116 = .ok (.lcmp, 1) := by decide +kernel
theorem dX12_ahead_117 : decode cX12_ahead 117 = .ok (.ifCond .le 6, 3) := by decide +kernel
theorem dX12_ahead_120 : decode cX12_ahead 120 = .ok (.iload 4, 2) := by decide +kernel
theorem dX12_ahead_122 : decode cX12_ahead 122 = .ok (.istore_n 3, 1) := by decide +kernel
theorem dX12_ahead_123 : decode cX12_ahead 123 = .ok (.iinc 4 1, 3) := by decide +kernel
theorem dX12_ahead_126 : decode cX12_ahead 126 = .ok (.goto (-51), 3) := by decide +kernel
theorem dX12_ahead_129 : decode cX12_ahead 129 = .ok (.iload_n 3, 1) := by decide +kernel
theorem dX12_ahead_130 : decode cX12_ahead 130 = .ok (.ireturn, 1) := by decide +kernel
theorem dX12_hold_0 : decode cX12_hold 0 = .ok (.aload_n 0, 1) := by decide +kernel
theorem dX12_hold_1 : decode cX12_hold 1 = .ok (.iconst 0, 1) := by decide +kernel
theorem dX12_hold_2 : decode cX12_hold 2 = .ok (.putfield 166, 3) := by decide +kernel
theorem dX12_hold_5 : decode cX12_hold 5 = .ok (.aload_n 0, 1) := by decide +kernel
theorem dX12_hold_6 : decode cX12_hold 6 = .ok (.iload_n 1, 1) := by decide +kernel
theorem dX12_hold_7 : decode cX12_hold 7 = .ok (.iconst 0, 1) := by decide +kernel
theorem dX12_hold_8 : decode cX12_hold 8 = .ok (.aload_n 0, 1) := by decide +kernel
theorem dX12_hold_9 : decode cX12_hold 9 = .ok (.getfield 7, 3) := by decide +kernel
theorem dX12_hold_12 : decode cX12_hold 12 = .ok (.invokevirtual 174, 3) := by decide +kernel
theorem dX12_hold_15 : decode cX12_hold 15 = .ok (.ifCond .ne 7, 3) := by decide +kernel
theorem dX12_hold_18 : decode cX12_hold 18 = .ok (.ldc2_w 409, 3) := by decide +kernel
theorem dX12_hold_21 : decode cX12_hold 21 = .ok (.lreturn, 1) := by decide +kernel
theorem dX12_hold_22 : decode cX12_hold 22 = .ok (.iconst 0, 1) := by decide +kernel
theorem dX12_hold_23 : decode cX12_hold 23 = .ok (.istore_n 2, 1) := by decide +kernel
theorem dX12_hold_24 : decode cX12_hold 24 = .ok (.iload_n 2, 1) := by decide +kernel
theorem dX12_hold_25 : decode cX12_hold 25 = .ok (.sipush 7808, 3) := by decide +kernel
theorem dX12_hold_28 : decode cX12_hold 28 = .ok (.if_icmp .ge 16, 3) := by decide +kernel
theorem dX12_hold_31 : decode cX12_hold 31 = .ok (.aload_n 0, 1) := by decide +kernel
theorem dX12_hold_32 : decode cX12_hold 32 = .ok (.getfield 133, 3) := by decide +kernel
theorem dX12_hold_35 : decode cX12_hold 35 = .ok (.iload_n 2, 1) := by decide +kernel
theorem dX12_hold_36 : decode cX12_hold 36 = .ok (.lconst 0, 1) := by decide +kernel
theorem dX12_hold_37 : decode cX12_hold 37 = .ok (.lastore, 1) := by decide +kernel
theorem dX12_hold_38 : decode cX12_hold 38 = .ok (.iinc 2 1, 3) := by decide +kernel
theorem dX12_hold_41 : decode cX12_hold 41 = .ok (.goto (-17), 3) := by decide +kernel
theorem dX12_hold_44 : decode cX12_hold 44 = .ok (.aload_n 0, 1) := by decide +kernel
theorem dX12_hold_45 : decode cX12_hold 45 = .ok (.getfield 133, 3) := by decide +kernel
theorem dX12_hold_48 : decode cX12_hold 48 = .ok (.iconst 0, 1) := by decide +kernel
theorem dX12_hold_49 : decode cX12_hold 49 = .ok (.lconst 1, 1) := by decide +kernel
theorem dX12_hold_50 : decode cX12_hold 50 = .ok (.lastore, 1) := by decide +kernel
theorem dX12_hold_51 : decode cX12_hold 51 = .ok (.iconst 0, 1) := by decide +kernel
theorem dX12_hold_52 : decode cX12_hold 52 = .ok (.istore_n 2, 1) := by decide +kernel
theorem dX12_hold_53 : decode cX12_hold 53 = .ok (.iload_n 2, 1) := by decide +kernel
theorem dX12_hold_54 : decode cX12_hold 54 = .ok (.aload_n 0, 1) := by decide +kernel
theorem dX12_hold_55 : decode cX12_hold 55 = .ok (.getfield 7, 3) := by decide +kernel
theorem dX12_hold_58 : decode cX12_hold 58 = .ok (.if_icmp .ge 198, 3) := by decide +kernel
theorem dX12_hold_61 : decode cX12_hold 61 = .ok (.iconst 0, 1) := by decide +kernel
theorem dX12_hold_62 : decode cX12_hold 62 = .ok (.istore_n 3, 1) := by decide +kernel
theorem dX12_hold_63 : decode cX12_hold 63 = .ok (.iload_n 3, 1) := by decide +kernel
theorem dX12_hold_64 : decode cX12_hold 64 = .ok (.sipush 7808, 3) := by decide +kernel
theorem dX12_hold_67 : decode cX12_hold 67 = .ok (.if_icmp .ge 16, 3) := by decide +kernel
theorem dX12_hold_70 : decode cX12_hold 70 = .ok (.aload_n 0, 1) := by decide +kernel
theorem dX12_hold_71 : decode cX12_hold 71 = .ok (.getfield 136, 3) := by decide +kernel
theorem dX12_hold_74 : decode cX12_hold 74 = .ok (.iload_n 3, 1) := by decide +kernel
theorem dX12_hold_75 : decode cX12_hold 75 = .ok (.lconst 0, 1) := by decide +kernel
theorem dX12_hold_76 : decode cX12_hold 76 = .ok (.lastore, 1) := by decide +kernel
theorem dX12_hold_77 : decode cX12_hold 77 = .ok (.iinc 3 1, 3) := by decide +kernel
theorem dX12_hold_80 : decode cX12_hold 80 = .ok (.goto (-17), 3) := by decide +kernel
theorem dX12_hold_83 : decode cX12_hold 83 = .ok (.iconst 0, 1) := by decide +kernel
theorem dX12_hold_84 : decode cX12_hold 84 = .ok (.istore_n 3, 1) := by decide +kernel
theorem dX12_hold_85 : decode cX12_hold 85 = .ok (.iload_n 3, 1) := by decide +kernel
theorem dX12_hold_86 : decode cX12_hold 86 = .ok (.iload_n 2, 1) := by decide +kernel
theorem dX12_hold_87 : decode cX12_hold 87 = .ok (.if_icmp .gt 136, 3) := by decide +kernel
theorem dX12_hold_90 : decode cX12_hold 90 = .ok (.iload_n 3, 1) := by decide +kernel
theorem dX12_hold_91 : decode cX12_hold 91 = .ok (.iload_n 1, 1) := by decide +kernel
theorem dX12_hold_92 : decode cX12_hold 92 = .ok (.if_icmp .gt 131, 3) := by decide +kernel
theorem dX12_hold_95 : decode cX12_hold 95 = .ok (.iconst 0, 1) := by decide +kernel
theorem dX12_hold_96 : decode cX12_hold 96 = .ok (.istore 4, 2) := by decide +kernel
theorem dX12_hold_98 : decode cX12_hold 98 = .ok (.iload 4, 2) := by decide +kernel
theorem dX12_hold_100 : decode cX12_hold 100 = .ok (.sipush 128, 3) := by decide +kernel
theorem dX12_hold_103 : decode cX12_hold 103 = .ok (.if_icmp .ge 114, 3) := by decide +kernel
theorem dX12_hold_106 : decode cX12_hold 106 = .ok (.aload_n 0, 1) := by decide +kernel
theorem dX12_hold_107 : decode cX12_hold 107 = .ok (.getfield 133, 3) := by decide +kernel
theorem dX12_hold_110 : decode cX12_hold 110 = .ok (.sipush 128, 3) := by decide +kernel
theorem dX12_hold_113 : decode cX12_hold 113 = .ok (.iload_n 3, 1) := by decide +kernel
theorem dX12_hold_114 : decode cX12_hold 114 = .ok (.imul, 1) := by decide +kernel
theorem dX12_hold_115 : decode cX12_hold 115 = .ok (.iload 4, 2) := by decide +kernel
theorem dX12_hold_117 : decode cX12_hold 117 = .ok (.iadd, 1) := by decide +kernel
theorem dX12_hold_118 : decode cX12_hold 118 = .ok (.laload, 1) := by decide +kernel
theorem dX12_hold_119 : decode cX12_hold 119 = .ok (.lconst 0, 1) := by decide +kernel
theorem dX12_hold_120 : decode cX12_hold 120 = .ok (.lcmp, 1) := by decide +kernel
theorem dX12_hold_121 : decode cX12_hold 121 = .ok (.ifCond .ne 6, 3) := by decide +kernel
theorem dX12_hold_124 : decode cX12_hold 124 = .ok (.goto 87, 3) := by decide +kernel
theorem dX12_hold_127 : decode cX12_hold 127 = .ok (.iconst 0, 1) := by decide +kernel
theorem dX12_hold_128 : decode cX12_hold 128 = .ok (.istore 5, 2) := by decide +kernel
theorem dX12_hold_130 : decode cX12_hold 130 = .ok (.iload 5, 2) := by decide +kernel
theorem dX12_hold_132 : decode cX12_hold 132 = .ok (.iconst 2, 1) := by decide +kernel
theorem dX12_hold_133 : decode cX12_hold 133 = .ok (.if_icmp .ge 78, 3) := by decide +kernel
theorem dX12_hold_136 : decode cX12_hold 136 = .ok (.aload_n 0, 1) := by decide +kernel
theorem dX12_hold_137 : decode cX12_hold 137 = .ok (.iload 4, 2) := by decide +kernel
theorem dX12_hold_139 : decode cX12_hold 139 = .ok (.iconst 1, 1) := by decide +kernel
theorem dX12_hold_140 : decode cX12_hold 140 = .ok (.ishl, 1) := by decide +kernel
theorem dX12_hold_141 : decode cX12_hold 141 = .ok (.iload 5, 2) := by decide +kernel
theorem dX12_hold_143 : decode cX12_hold 143 = .ok (.ior, 1) := by decide +kernel
theorem dX12_hold_144 : decode cX12_hold 144 = .ok (.iload_n 2, 1) := by decide +kernel
theorem dX12_hold_145 : decode cX12_hold 145 = .ok (.iconst 1, 1) := by decide +kernel
theorem dX12_hold_146 : decode cX12_hold 146 = .ok (.iadd, 1) := by decide +kernel
theorem dX12_hold_147 : decode cX12_hold 147 = .ok (.invokevirtual 348, 3) := by decide +kernel
theorem dX12_hold_150 : decode cX12_hold 150 = .ok (.ifCond .eq 6, 3) := by decide +kernel
theorem dX12_hold_153 : decode cX12_hold 153 = .ok (.goto 52, 3) := by decide +kernel
theorem dX12_hold_156 : decode cX12_hold 156 = .ok (.sipush 128, 3) := by decide +kernel
theorem dX12_hold_159 : decode cX12_hold 159 = .ok (.iload_n 3, 1) := by decide +kernel
theorem dX12_hold_160 : decode cX12_hold 160 = .ok (.iload 5, 2) := by decide +kernel
theorem dX12_hold_162 : decode cX12_hold 162 = .ok (.iadd, 1) := by decide +kernel
theorem dX12_hold_163 : decode cX12_hold 163 = .ok (.imul, 1) := by decide +kernel
theorem dX12_hold_164 : decode cX12_hold 164 = .ok (.iload 4, 2) := by decide +kernel
theorem dX12_hold_166 : decode cX12_hold 166 = .ok (.iconst 1, 1) := by decide +kernel
theorem dX12_hold_167 : decode cX12_hold 167 = .ok (.ishl, 1) := by decide +kernel
theorem dX12_hold_168 : decode cX12_hold 168 = .ok (.iload 5, 2) := by decide +kernel
theorem dX12_hold_170 : decode cX12_hold 170 = .ok (.ior, 1) := by decide +kernel
theorem dX12_hold_171 : decode cX12_hold 171 = .ok (.bipush 127, 2) := by decide +kernel
theorem dX12_hold_173 : decode cX12_hold 173 = .ok (.iand, 1) := by decide +kernel
theorem dX12_hold_174 : decode cX12_hold 174 = .ok (.iadd, 1) := by decide +kernel
theorem dX12_hold_175 : decode cX12_hold 175 = .ok (.istore 6, 2) := by decide +kernel
theorem dX12_hold_177 : decode cX12_hold 177 = .ok (.aload_n 0, 1) := by decide +kernel
theorem dX12_hold_178 : decode cX12_hold 178 = .ok (.getfield 136, 3) := by decide +kernel
theorem dX12_hold_181 : decode cX12_hold 181 = .ok (.iload 6, 2) := by decide +kernel
theorem dX12_hold_183 : decode cX12_hold 183 = .ok (.aload_n 0, 1) := by decide +kernel
theorem dX12_hold_184 : decode cX12_hold 184 = .ok (.getfield 136, 3) := by decide +kernel
theorem dX12_hold_187 : decode cX12_hold 187 = .ok (.iload 6, 2) := by decide +kernel
theorem dX12_hold_189 : decode cX12_hold 189 = .ok (.laload, 1) := by decide +kernel
theorem dX12_hold_190 : decode cX12_hold 190 = .ok (.aload_n 0, 1) := by decide +kernel
theorem dX12_hold_191 : decode cX12_hold 191 = .ok (.getfield 133, 3) := by decide +kernel
theorem dX12_hold_194 : decode cX12_hold 194 = .ok (.sipush 128, 3) := by decide +kernel
theorem dX12_hold_197 : decode cX12_hold 197 = .ok (.iload_n 3, 1) := by decide +kernel
theorem dX12_hold_198 : decode cX12_hold 198 = .ok (.imul, 1) := by decide +kernel
theorem dX12_hold_199 : decode cX12_hold 199 = .ok (.iload 4, 2) := by decide +kernel
theorem dX12_hold_201 : decode cX12_hold 201 = .ok (.iadd, 1) := by decide +kernel
theorem dX12_hold_202 : decode cX12_hold 202 = .ok (.laload, 1) := by decide +kernel
theorem dX12_hold_203 : decode cX12_hold 203 = .ok (.ladd, 1) := by decide +kernel
theorem dX12_hold_204 : decode cX12_hold 204 = .ok (.lastore, 1) := by decide +kernel
theorem dX12_hold_205 : decode cX12_hold 205 = .ok (.iinc 5 1, 3) := by decide +kernel
theorem dX12_hold_208 : decode cX12_hold 208 = .ok (.goto (-78), 3) := by decide +kernel
theorem dX12_hold_211 : decode cX12_hold 211 = .ok (.iinc 4 1, 3) := by decide +kernel
theorem dX12_hold_214 : decode cX12_hold 214 = .ok (.goto (-116), 3) := by decide +kernel
theorem dX12_hold_217 : decode cX12_hold 217 = .ok (.iinc 3 1, 3) := by decide +kernel
theorem dX12_hold_220 : decode cX12_hold 220 = .ok (.goto (-135), 3) := by decide +kernel
theorem dX12_hold_223 : decode cX12_hold 223 = .ok (.iconst 0, 1) := by decide +kernel
theorem dX12_hold_224 : decode cX12_hold 224 = .ok (.istore_n 3, 1) := by decide +kernel
theorem dX12_hold_225 : decode cX12_hold 225 = .ok (.iload_n 3, 1) := by decide +kernel
theorem dX12_hold_226 : decode cX12_hold 226 = .ok (.sipush 7808, 3) := by decide +kernel
theorem dX12_hold_229 : decode cX12_hold 229 = .ok (.if_icmp .ge 21, 3) := by decide +kernel
theorem dX12_hold_232 : decode cX12_hold 232 = .ok (.aload_n 0, 1) := by decide +kernel
theorem dX12_hold_233 : decode cX12_hold 233 = .ok (.getfield 133, 3) := by decide +kernel
theorem dX12_hold_236 : decode cX12_hold 236 = .ok (.iload_n 3, 1) := by decide +kernel
theorem dX12_hold_237 : decode cX12_hold 237 = .ok (.aload_n 0, 1) := by decide +kernel
theorem dX12_hold_238 : decode cX12_hold 238 = .ok (.getfield 136, 3) := by decide +kernel
theorem dX12_hold_241 : decode cX12_hold 241 = .ok (.iload_n 3, 1) := by decide +kernel
theorem dX12_hold_242 : decode cX12_hold 242 = .ok (.laload, 1) := by decide +kernel
theorem dX12_hold_243 : decode cX12_hold 243 = .ok (.lastore, 1) := by decide +kernel
theorem dX12_hold_244 : decode cX12_hold 244 = .ok (.iinc 3 1, 3) := by decide +kernel
theorem dX12_hold_247 : decode cX12_hold 247 = .ok (.goto (-22), 3) := by decide +kernel
theorem dX12_hold_250 : decode cX12_hold 250 = .ok (.iinc 2 1, 3) := by decide +kernel
theorem dX12_hold_253 : decode cX12_hold 253 = .ok (.goto (-200), 3) := by decide +kernel
theorem dX12_hold_256 : decode cX12_hold 256 = .ok (.lconst 0, 1) := by decide +kernel
theorem dX12_hold_257 : decode cX12_hold 257 = .ok (.lstore_n 2, 1) := by decide +kernel
theorem dX12_hold_258 : decode cX12_hold 258 = .ok (.iconst 0, 1) := by decide +kernel
theorem dX12_hold_259 : decode cX12_hold 259 = .ok (.istore 4, 2) := by decide +kernel
theorem dX12_hold_261 : decode cX12_hold 261 = .ok (.iload 4, 2) := by decide +kernel
theorem dX12_hold_263 : decode cX12_hold 263 = .ok (.sipush 128, 3) := by decide +kernel
theorem dX12_hold_266 : decode cX12_hold 266 = .ok (.if_icmp .ge 25, 3) := by decide +kernel
theorem dX12_hold_269 : decode cX12_hold 269 = .ok (.lload_n 2, 1) := by decide +kernel
theorem dX12_hold_270 : decode cX12_hold 270 = .ok (.aload_n 0, 1) := by decide +kernel
theorem dX12_hold_271 : decode cX12_hold 271 = .ok (.getfield 133, 3) := by decide +kernel
theorem dX12_hold_274 : decode cX12_hold 274 = .ok (.sipush 128, 3) := by decide +kernel
theorem dX12_hold_277 : decode cX12_hold 277 = .ok (.iload_n 1, 1) := by decide +kernel
theorem dX12_hold_278 : decode cX12_hold 278 = .ok (.imul, 1) := by decide +kernel
theorem dX12_hold_279 : decode cX12_hold 279 = .ok (.iload 4, 2) := by decide +kernel
theorem dX12_hold_281 : decode cX12_hold 281 = .ok (.iadd, 1) := by decide +kernel
theorem dX12_hold_282 : decode cX12_hold 282 = .ok (.laload, 1) := by decide +kernel
theorem dX12_hold_283 : decode cX12_hold 283 = .ok (.ladd, 1) := by decide +kernel
theorem dX12_hold_284 : decode cX12_hold 284 = .ok (.lstore_n 2, 1) := by decide +kernel
theorem dX12_hold_285 : decode cX12_hold 285 = .ok (.iinc 4 1, 3) := by decide +kernel
theorem dX12_hold_288 : decode cX12_hold 288 = .ok (.goto (-27), 3) := by decide +kernel
theorem dX12_hold_291 : decode cX12_hold 291 = .ok (.lload_n 2, 1) := by decide +kernel
theorem dX12_hold_292 : decode cX12_hold 292 = .ok (.lreturn, 1) := by decide +kernel
theorem dX12_keepsRow_0 : decode cX12_keepsRow 0 = .ok (.iconst 0, 1) := by decide +kernel
theorem dX12_keepsRow_1 : decode cX12_keepsRow 1 = .ok (.istore_n 1, 1) := by decide +kernel
theorem dX12_keepsRow_2 : decode cX12_keepsRow 2 = .ok (.iload_n 1, 1) := by decide +kernel
theorem dX12_keepsRow_3 : decode cX12_keepsRow 3 = .ok (.aload_n 0, 1) := by decide +kernel
theorem dX12_keepsRow_4 : decode cX12_keepsRow 4 = .ok (.getfield 7, 3) := by decide +kernel
theorem dX12_keepsRow_7 : decode cX12_keepsRow 7 = .ok (.if_icmp .ge 45, 3) := by decide +kernel
theorem dX12_keepsRow_10 : decode cX12_keepsRow 10 = .ok (.aload_n 0, 1) := by decide +kernel
theorem dX12_keepsRow_11 : decode cX12_keepsRow 11 = .ok (.getfield 139, 3) := by decide +kernel
theorem dX12_keepsRow_14 : decode cX12_keepsRow 14 = .ok (.iload_n 1, 1) := by decide +kernel
theorem dX12_keepsRow_15 : decode cX12_keepsRow 15 = .ok (.aload_n 0, 1) := by decide +kernel
theorem dX12_keepsRow_16 : decode cX12_keepsRow 16 = .ok (.getfield 13, 3) := by decide +kernel
theorem dX12_keepsRow_19 : decode cX12_keepsRow 19 = .ok (.iload_n 1, 1) := by decide +kernel
theorem dX12_keepsRow_20 : decode cX12_keepsRow 20 = .ok (.iaload, 1) := by decide +kernel
theorem dX12_keepsRow_21 : decode cX12_keepsRow 21 = .ok (.iastore, 1) := by decide +kernel
theorem dX12_keepsRow_22 : decode cX12_keepsRow 22 = .ok (.aload_n 0, 1) := by decide +kernel
theorem dX12_keepsRow_23 : decode cX12_keepsRow 23 = .ok (.getfield 142, 3) := by decide +kernel
theorem dX12_keepsRow_26 : decode cX12_keepsRow 26 = .ok (.iload_n 1, 1) := by decide +kernel
theorem dX12_keepsRow_27 : decode cX12_keepsRow 27 = .ok (.aload_n 0, 1) := by decide +kernel
theorem dX12_keepsRow_28 : decode cX12_keepsRow 28 = .ok (.getfield 17, 3) := by decide +kernel
theorem dX12_keepsRow_31 : decode cX12_keepsRow 31 = .ok (.iload_n 1, 1) := by decide +kernel
theorem dX12_keepsRow_32 : decode cX12_keepsRow 32 = .ok (.iaload, 1) := by decide +kernel
theorem dX12_keepsRow_33 : decode cX12_keepsRow 33 = .ok (.iastore, 1) := by decide +kernel
theorem dX12_keepsRow_34 : decode cX12_keepsRow 34 = .ok (.aload_n 0, 1) := by decide +kernel
theorem dX12_keepsRow_35 : decode cX12_keepsRow 35 = .ok (.getfield 145, 3) := by decide +kernel
theorem dX12_keepsRow_38 : decode cX12_keepsRow 38 = .ok (.iload_n 1, 1) := by decide +kernel
theorem dX12_keepsRow_39 : decode cX12_keepsRow 39 = .ok (.aload_n 0, 1) := by decide +kernel
theorem dX12_keepsRow_40 : decode cX12_keepsRow 40 = .ok (.getfield 20, 3) := by decide +kernel
theorem dX12_keepsRow_43 : decode cX12_keepsRow 43 = .ok (.iload_n 1, 1) := by decide +kernel
theorem dX12_keepsRow_44 : decode cX12_keepsRow 44 = .ok (.iaload, 1) := by decide +kernel
theorem dX12_keepsRow_45 : decode cX12_keepsRow 45 = .ok (.iastore, 1) := by decide +kernel
theorem dX12_keepsRow_46 : decode cX12_keepsRow 46 = .ok (.iinc 1 1, 3) := by decide +kernel
theorem dX12_keepsRow_49 : decode cX12_keepsRow 49 = .ok (.goto (-47), 3) := by decide +kernel
theorem dX12_keepsRow_52 : decode cX12_keepsRow 52 = .ok (.return_, 1) := by decide +kernel
theorem dX12_givesRowBack_0 : decode cX12_givesRowBack 0 = .ok (.iconst 0, 1) := by decide +kernel
theorem dX12_givesRowBack_1 : decode cX12_givesRowBack 1 = .ok (.istore_n 1, 1) := by decide +kernel
theorem dX12_givesRowBack_2 : decode cX12_givesRowBack 2 = .ok (.iload_n 1, 1) := by decide +kernel
theorem dX12_givesRowBack_3 : decode cX12_givesRowBack 3 = .ok (.aload_n 0, 1) := by decide +kernel
theorem dX12_givesRowBack_4 : decode cX12_givesRowBack 4 = .ok (.getfield 7, 3) := by decide +kernel
theorem dX12_givesRowBack_7 : decode cX12_givesRowBack 7 = .ok (.if_icmp .ge 45, 3) := by decide +kernel
theorem dX12_givesRowBack_10 : decode cX12_givesRowBack 10 = .ok (.aload_n 0, 1) := by decide +kernel
theorem dX12_givesRowBack_11 : decode cX12_givesRowBack 11 = .ok (.getfield 13, 3) := by decide +kernel
theorem dX12_givesRowBack_14 : decode cX12_givesRowBack 14 = .ok (.iload_n 1, 1) := by decide +kernel
theorem dX12_givesRowBack_15 : decode cX12_givesRowBack 15 = .ok (.aload_n 0, 1) := by decide +kernel
theorem dX12_givesRowBack_16 : decode cX12_givesRowBack 16 = .ok (.getfield 139, 3) := by decide +kernel
theorem dX12_givesRowBack_19 : decode cX12_givesRowBack 19 = .ok (.iload_n 1, 1) := by decide +kernel
theorem dX12_givesRowBack_20 : decode cX12_givesRowBack 20 = .ok (.iaload, 1) := by decide +kernel
theorem dX12_givesRowBack_21 : decode cX12_givesRowBack 21 = .ok (.iastore, 1) := by decide +kernel
theorem dX12_givesRowBack_22 : decode cX12_givesRowBack 22 = .ok (.aload_n 0, 1) := by decide +kernel
theorem dX12_givesRowBack_23 : decode cX12_givesRowBack 23 = .ok (.getfield 17, 3) := by decide +kernel
theorem dX12_givesRowBack_26 : decode cX12_givesRowBack 26 = .ok (.iload_n 1, 1) := by decide +kernel
theorem dX12_givesRowBack_27 : decode cX12_givesRowBack 27 = .ok (.aload_n 0, 1) := by decide +kernel
theorem dX12_givesRowBack_28 : decode cX12_givesRowBack 28 = .ok (.getfield 142, 3) := by decide +kernel
theorem dX12_givesRowBack_31 : decode cX12_givesRowBack 31 = .ok (.iload_n 1, 1) := by decide +kernel
theorem dX12_givesRowBack_32 : decode cX12_givesRowBack 32 = .ok (.iaload, 1) := by decide +kernel
theorem dX12_givesRowBack_33 : decode cX12_givesRowBack 33 = .ok (.iastore, 1) := by decide +kernel
theorem dX12_givesRowBack_34 : decode cX12_givesRowBack 34 = .ok (.aload_n 0, 1) := by decide +kernel
theorem dX12_givesRowBack_35 : decode cX12_givesRowBack 35 = .ok (.getfield 20, 3) := by decide +kernel
theorem dX12_givesRowBack_38 : decode cX12_givesRowBack 38 = .ok (.iload_n 1, 1) := by decide +kernel
theorem dX12_givesRowBack_39 : decode cX12_givesRowBack 39 = .ok (.aload_n 0, 1) := by decide +kernel
theorem dX12_givesRowBack_40 : decode cX12_givesRowBack 40 = .ok (.getfield 145, 3) := by decide +kernel
theorem dX12_givesRowBack_43 : decode cX12_givesRowBack 43 = .ok (.iload_n 1, 1) := by decide +kernel
theorem dX12_givesRowBack_44 : decode cX12_givesRowBack 44 = .ok (.iaload, 1) := by decide +kernel
theorem dX12_givesRowBack_45 : decode cX12_givesRowBack 45 = .ok (.iastore, 1) := by decide +kernel
theorem dX12_givesRowBack_46 : decode cX12_givesRowBack 46 = .ok (.iinc 1 1, 3) := by decide +kernel
theorem dX12_givesRowBack_49 : decode cX12_givesRowBack 49 = .ok (.goto (-47), 3) := by decide +kernel
theorem dX12_givesRowBack_52 : decode cX12_givesRowBack 52 = .ok (.return_, 1) := by decide +kernel
theorem dX12_which_0 : decode cX12_which 0 = .ok (.aload_n 0, 1) := by decide +kernel
theorem dX12_which_1 : decode cX12_which 1 = .ok (.iconst 0, 1) := by decide +kernel
theorem dX12_which_2 : decode cX12_which 2 = .ok (.putfield 166, 3) := by decide +kernel
theorem dX12_which_5 : decode cX12_which 5 = .ok (.aload_n 0, 1) := by decide +kernel
theorem dX12_which_6 : decode cX12_which 6 = .ok (.getfield 7, 3) := by decide +kernel
theorem dX12_which_9 : decode cX12_which 9 = .ok (.bipush 12, 2) := by decide +kernel
theorem dX12_which_11 : decode cX12_which 11 = .ok (.if_icmp .gt 13, 3) := by decide +kernel
theorem dX12_which_14 : decode cX12_which 14 = .ok (.aload_n 0, 1) := by decide +kernel
theorem dX12_which_15 : decode cX12_which 15 = .ok (.iload_n 1, 1) := by decide +kernel
theorem dX12_which_16 : decode cX12_which 16 = .ok (.iconst 0, 1) := by decide +kernel
theorem dX12_which_17 : decode cX12_which 17 = .ok (.iconst 4, 1) := by decide +kernel
theorem dX12_which_18 : decode cX12_which 18 = .ok (.invokevirtual 174, 3) := by decide +kernel
theorem dX12_which_21 : decode cX12_which 21 = .ok (.ifCond .ne 5, 3) := by decide +kernel
theorem dX12_which_24 : decode cX12_which 24 = .ok (.iconst (-1), 1) := by decide +kernel
theorem dX12_which_25 : decode cX12_which 25 = .ok (.ireturn, 1) := by decide +kernel
theorem dX12_which_26 : decode cX12_which 26 = .ok (.aload_n 0, 1) := by decide +kernel
theorem dX12_which_27 : decode cX12_which 27 = .ok (.invokevirtual 429, 3) := by decide +kernel
theorem dX12_which_30 : decode cX12_which 30 = .ok (.iconst (-1), 1) := by decide +kernel
theorem dX12_which_31 : decode cX12_which 31 = .ok (.istore_n 2, 1) := by decide +kernel
theorem dX12_which_32 : decode cX12_which 32 = .ok (.lconst 0, 1) := by decide +kernel
theorem dX12_which_33 : decode cX12_which 33 = .ok (.lstore_n 3, 1) := by decide +kernel
theorem dX12_which_34 : decode cX12_which 34 = .ok (.iconst 0, 1) := by decide +kernel
theorem dX12_which_35 : decode cX12_which 35 = .ok (.istore 5, 2) := by decide +kernel
theorem dX12_which_37 : decode cX12_which 37 = .ok (.iload 5, 2) := by decide +kernel
theorem dX12_which_39 : decode cX12_which 39 = .ok (.iconst 1, 1) := by decide +kernel
theorem dX12_which_40 : decode cX12_which 40 = .ok (.aload_n 0, 1) := by decide +kernel
theorem dX12_which_41 : decode cX12_which 41 = .ok (.getfield 7, 3) := by decide +kernel
theorem dX12_which_44 : decode cX12_which 44 = .ok (.ishl, 1) := by decide +kernel
theorem dX12_which_45 : decode cX12_which 45 = .ok (.if_icmp .ge 146, 3) := by decide +kernel
theorem dX12_which_48 : decode cX12_which 48 = .ok (.aload_n 0, 1) := by decide +kernel
theorem dX12_which_49 : decode cX12_which 49 = .ok (.iload 5, 2) := by decide +kernel
theorem dX12_which_51 : decode cX12_which 51 = .ok (.invokevirtual 341, 3) := by decide +kernel
theorem dX12_which_54 : decode cX12_which 54 = .ok (.iload_n 1, 1) := by decide +kernel
theorem dX12_which_55 : decode cX12_which 55 = .ok (.if_icmp .le 6, 3) := by decide +kernel
theorem dX12_which_58 : decode cX12_which 58 = .ok (.goto 127, 3) := by decide +kernel
theorem dX12_which_61 : decode cX12_which 61 = .ok (.iconst 0, 1) := by decide +kernel
theorem dX12_which_62 : decode cX12_which 62 = .ok (.istore 6, 2) := by decide +kernel
theorem dX12_which_64 : decode cX12_which 64 = .ok (.iload 6, 2) := by decide +kernel
theorem dX12_which_66 : decode cX12_which 66 = .ok (.aload_n 0, 1) := by decide +kernel
theorem dX12_which_67 : decode cX12_which 67 = .ok (.getfield 7, 3) := by decide +kernel
theorem dX12_which_70 : decode cX12_which 70 = .ok (.if_icmp .ge 67, 3) := by decide +kernel
theorem dX12_which_73 : decode cX12_which 73 = .ok (.aload_n 0, 1) := by decide +kernel
theorem dX12_which_74 : decode cX12_which 74 = .ok (.getfield 17, 3) := by decide +kernel
theorem dX12_which_77 : decode cX12_which 77 = .ok (.iload 6, 2) := by decide +kernel
theorem dX12_which_79 : decode cX12_which 79 = .ok (.iload 5, 2) := by decide +kernel
theorem dX12_which_81 : decode cX12_which 81 = .ok (.iload 6, 2) := by decide +kernel
theorem dX12_which_83 : decode cX12_which 83 = .ok (.ishr, 1) := by decide +kernel
theorem dX12_which_84 : decode cX12_which 84 = .ok (.iconst 1, 1) := by decide +kernel
theorem dX12_which_85 : decode cX12_which 85 = .ok (.iand, 1) := by decide +kernel
theorem dX12_which_86 : decode cX12_which 86 = .ok (.iconst 1, 1) := by decide +kernel
theorem dX12_which_87 : decode cX12_which 87 = .ok (.if_icmp .ne 7, 3) := by decide +kernel
theorem dX12_which_90 : decode cX12_which 90 = .ok (.iconst 0, 1) := by decide +kernel
theorem dX12_which_91 : decode cX12_which 91 = .ok (.goto 10, 3) := by decide +kernel
theorem dX12_which_94 : decode cX12_which 94 = .ok (.aload_n 0, 1) := by decide +kernel
theorem dX12_which_95 : decode cX12_which 95 = .ok (.getfield 142, 3) := by decide +kernel
theorem dX12_which_98 : decode cX12_which 98 = .ok (.iload 6, 2) := by decide +kernel
theorem dX12_which_100 : decode cX12_which 100 = .ok (.iaload, 1) := by decide +kernel
theorem dX12_which_101 : decode cX12_which 101 = .ok (.iastore, 1) := by decide +kernel
theorem dX12_which_102 : decode cX12_which 102 = .ok (.aload_n 0, 1) := by decide +kernel
theorem dX12_which_103 : decode cX12_which 103 = .ok (.getfield 20, 3) := by decide +kernel
theorem dX12_which_106 : decode cX12_which 106 = .ok (.iload 6, 2) := by decide +kernel
theorem dX12_which_108 : decode cX12_which 108 = .ok (.iload 5, 2) := by decide +kernel
theorem dX12_which_110 : decode cX12_which 110 = .ok (.iload 6, 2) := by decide +kernel
theorem dX12_which_112 : decode cX12_which 112 = .ok (.ishr, 1) := by decide +kernel
theorem dX12_which_113 : decode cX12_which 113 = .ok (.iconst 1, 1) := by decide +kernel
theorem dX12_which_114 : decode cX12_which 114 = .ok (.iand, 1) := by decide +kernel
theorem dX12_which_115 : decode cX12_which 115 = .ok (.iconst 1, 1) := by decide +kernel
theorem dX12_which_116 : decode cX12_which 116 = .ok (.if_icmp .ne 7, 3) := by decide +kernel
theorem dX12_which_119 : decode cX12_which 119 = .ok (.iconst 0, 1) := by decide +kernel
theorem dX12_which_120 : decode cX12_which 120 = .ok (.goto 10, 3) := by decide +kernel
theorem dX12_which_123 : decode cX12_which 123 = .ok (.aload_n 0, 1) := by decide +kernel
theorem dX12_which_124 : decode cX12_which 124 = .ok (.getfield 145, 3) := by decide +kernel
theorem dX12_which_127 : decode cX12_which 127 = .ok (.iload 6, 2) := by decide +kernel
theorem dX12_which_129 : decode cX12_which 129 = .ok (.iaload, 1) := by decide +kernel
theorem dX12_which_130 : decode cX12_which 130 = .ok (.iastore, 1) := by decide +kernel
theorem dX12_which_131 : decode cX12_which 131 = .ok (.iinc 6 1, 3) := by decide +kernel
theorem dX12_which_134 : decode cX12_which 134 = .ok (.goto (-70), 3) := by decide +kernel
theorem dX12_which_137 : decode cX12_which 137 = .ok (.aload_n 0, 1) := by decide +kernel
theorem dX12_which_138 : decode cX12_which 138 = .ok (.invokevirtual 406, 3) := by decide +kernel
theorem dX12_which_141 : decode cX12_which 141 = .ok (.lstore 6, 2) := by decide +kernel
theorem dX12_which_143 : decode cX12_which 143 = .ok (.iload_n 2, 1) := by decide +kernel
theorem dX12_which_144 : decode cX12_which 144 = .ok (.iconst (-1), 1) := by decide +kernel
theorem dX12_which_145 : decode cX12_which 145 = .ok (.if_icmp .eq 34, 3) := by decide +kernel
theorem dX12_which_148 : decode cX12_which 148 = .ok (.lload 6, 2) := by decide +kernel
theorem dX12_which_150 : decode cX12_which 150 = .ok (.lload_n 3, 1) := by decide +kernel
theorem dX12_which_151 : decode cX12_which 151 = .ok (.lcmp, 1) := by decide +kernel
theorem dX12_which_152 : decode cX12_which 152 = .ok (.ifCond .gt 33, 3) := by decide +kernel
theorem dX12_which_155 : decode cX12_which 155 = .ok (.lload 6, 2) := by decide +kernel
theorem dX12_which_157 : decode cX12_which 157 = .ok (.lload_n 3, 1) := by decide +kernel
theorem dX12_which_158 : decode cX12_which 158 = .ok (.lcmp, 1) := by decide +kernel
theorem dX12_which_159 : decode cX12_which 159 = .ok (.ifCond .ne 20, 3) := by decide +kernel
theorem dX12_which_162 : decode cX12_which 162 = .ok (.aload_n 0, 1) := by decide +kernel
theorem dX12_which_163 : decode cX12_which 163 = .ok (.iload 5, 2) := by decide +kernel
theorem dX12_which_165 : decode cX12_which 165 = .ok (.invokevirtual 341, 3) := by decide +kernel
theorem dX12_which_168 : decode cX12_which 168 = .ok (.aload_n 0, 1) := by decide +kernel
theorem dX12_which_169 : decode cX12_which 169 = .ok (.iload_n 2, 1) := by decide +kernel
theorem dX12_which_170 : decode cX12_which 170 = .ok (.invokevirtual 341, 3) := by decide +kernel
theorem dX12_which_173 : decode cX12_which 173 = .ok (.if_icmp .lt 6, 3) := by decide +kernel
theorem dX12_which_176 : decode cX12_which 176 = .ok (.goto 9, 3) := by decide +kernel
theorem dX12_which_179 : decode cX12_which 179 = .ok (.iload 5, 2) := by decide +kernel
theorem dX12_which_181 : decode cX12_which 181 = .ok (.istore_n 2, 1) := by decide +kernel
theorem dX12_which_182 : decode cX12_which 182 = .ok (.lload 6, 2) := by decide +kernel
theorem dX12_which_184 : decode cX12_which 184 = .ok (.lstore_n 3, 1) := by decide +kernel
theorem dX12_which_185 : decode cX12_which 185 = .ok (.iinc 5 1, 3) := by decide +kernel
theorem dX12_which_188 : decode cX12_which 188 = .ok (.goto (-151), 3) := by decide +kernel
theorem dX12_which_191 : decode cX12_which 191 = .ok (.aload_n 0, 1) := by decide +kernel
theorem dX12_which_192 : decode cX12_which 192 = .ok (.invokevirtual 432, 3) := by decide +kernel
theorem dX12_which_195 : decode cX12_which 195 = .ok (.iload_n 2, 1) := by decide +kernel
theorem dX12_which_196 : decode cX12_which 196 = .ok (.ireturn, 1) := by decide +kernel
theorem dX12_goesOn_0 : decode cX12_goesOn 0 = .ok (.aload_n 0, 1) := by decide +kernel
theorem dX12_goesOn_1 : decode cX12_goesOn 1 = .ok (.getfield 7, 3) := by decide +kernel
theorem dX12_goesOn_4 : decode cX12_goesOn 4 = .ok (.iconst 2, 1) := by decide +kernel
theorem dX12_goesOn_5 : decode cX12_goesOn 5 = .ok (.isub, 1) := by decide +kernel
theorem dX12_goesOn_6 : decode cX12_goesOn 6 = .ok (.istore_n 1, 1) := by decide +kernel
theorem dX12_goesOn_7 : decode cX12_goesOn 7 = .ok (.iload_n 1, 1) := by decide +kernel
theorem dX12_goesOn_8 : decode cX12_goesOn 8 = .ok (.ifCond .lt 27, 3) := by decide +kernel
theorem dX12_goesOn_11 : decode cX12_goesOn 11 = .ok (.aload_n 0, 1) := by decide +kernel
theorem dX12_goesOn_12 : decode cX12_goesOn 12 = .ok (.getfield 148, 3) := by decide +kernel
theorem dX12_goesOn_15 : decode cX12_goesOn 15 = .ok (.iload_n 1, 1) := by decide +kernel
theorem dX12_goesOn_16 : decode cX12_goesOn 16 = .ok (.iaload, 1) := by decide +kernel
theorem dX12_goesOn_17 : decode cX12_goesOn 17 = .ok (.aload_n 0, 1) := by decide +kernel
theorem dX12_goesOn_18 : decode cX12_goesOn 18 = .ok (.getfield 148, 3) := by decide +kernel
theorem dX12_goesOn_21 : decode cX12_goesOn 21 = .ok (.iload_n 1, 1) := by decide +kernel
theorem dX12_goesOn_22 : decode cX12_goesOn 22 = .ok (.iconst 1, 1) := by decide +kernel
theorem dX12_goesOn_23 : decode cX12_goesOn 23 = .ok (.iadd, 1) := by decide +kernel
theorem dX12_goesOn_24 : decode cX12_goesOn 24 = .ok (.iaload, 1) := by decide +kernel
theorem dX12_goesOn_25 : decode cX12_goesOn 25 = .ok (.if_icmp .lt 10, 3) := by decide +kernel
theorem dX12_goesOn_28 : decode cX12_goesOn 28 = .ok (.iload_n 1, 1) := by decide +kernel
theorem dX12_goesOn_29 : decode cX12_goesOn 29 = .ok (.iconst 1, 1) := by decide +kernel
theorem dX12_goesOn_30 : decode cX12_goesOn 30 = .ok (.isub, 1) := by decide +kernel
theorem dX12_goesOn_31 : decode cX12_goesOn 31 = .ok (.istore_n 1, 1) := by decide +kernel
theorem dX12_goesOn_32 : decode cX12_goesOn 32 = .ok (.goto (-25), 3) := by decide +kernel
theorem dX12_goesOn_35 : decode cX12_goesOn 35 = .ok (.iload_n 1, 1) := by decide +kernel
theorem dX12_goesOn_36 : decode cX12_goesOn 36 = .ok (.ifCond .ge 5, 3) := by decide +kernel
theorem dX12_goesOn_39 : decode cX12_goesOn 39 = .ok (.iconst 0, 1) := by decide +kernel
theorem dX12_goesOn_40 : decode cX12_goesOn 40 = .ok (.ireturn, 1) := by decide +kernel
theorem dX12_goesOn_41 : decode cX12_goesOn 41 = .ok (.aload_n 0, 1) := by decide +kernel
theorem dX12_goesOn_42 : decode cX12_goesOn 42 = .ok (.getfield 7, 3) := by decide +kernel
theorem dX12_goesOn_45 : decode cX12_goesOn 45 = .ok (.iconst 1, 1) := by decide +kernel
theorem dX12_goesOn_46 : decode cX12_goesOn 46 = .ok (.isub, 1) := by decide +kernel
theorem dX12_goesOn_47 : decode cX12_goesOn 47 = .ok (.istore_n 2, 1) := by decide +kernel
theorem dX12_goesOn_48 : decode cX12_goesOn 48 = .ok (.aload_n 0, 1) := by decide +kernel
theorem dX12_goesOn_49 : decode cX12_goesOn 49 = .ok (.getfield 148, 3) := by decide +kernel
theorem dX12_goesOn_52 : decode cX12_goesOn 52 = .ok (.iload_n 2, 1) := by decide +kernel
theorem dX12_goesOn_53 : decode cX12_goesOn 53 = .ok (.iaload, 1) := by decide +kernel
theorem dX12_goesOn_54 : decode cX12_goesOn 54 = .ok (.aload_n 0, 1) := by decide +kernel
theorem dX12_goesOn_55 : decode cX12_goesOn 55 = .ok (.getfield 148, 3) := by decide +kernel
theorem dX12_goesOn_58 : decode cX12_goesOn 58 = .ok (.iload_n 1, 1) := by decide +kernel
theorem dX12_goesOn_59 : decode cX12_goesOn 59 = .ok (.iaload, 1) := by decide +kernel
theorem dX12_goesOn_60 : decode cX12_goesOn 60 = .ok (.if_icmp .gt 10, 3) := by decide +kernel
theorem dX12_goesOn_63 : decode cX12_goesOn 63 = .ok (.iload_n 2, 1) := by decide +kernel
theorem dX12_goesOn_64 : decode cX12_goesOn 64 = .ok (.iconst 1, 1) := by decide +kernel
theorem dX12_goesOn_65 : decode cX12_goesOn 65 = .ok (.isub, 1) := by decide +kernel
theorem dX12_goesOn_66 : decode cX12_goesOn 66 = .ok (.istore_n 2, 1) := by decide +kernel
theorem dX12_goesOn_67 : decode cX12_goesOn 67 = .ok (.goto (-19), 3) := by decide +kernel
theorem dX12_goesOn_70 : decode cX12_goesOn 70 = .ok (.aload_n 0, 1) := by decide +kernel
theorem dX12_goesOn_71 : decode cX12_goesOn 71 = .ok (.getfield 148, 3) := by decide +kernel
theorem dX12_goesOn_74 : decode cX12_goesOn 74 = .ok (.iload_n 1, 1) := by decide +kernel
theorem dX12_goesOn_75 : decode cX12_goesOn 75 = .ok (.iaload, 1) := by decide +kernel
theorem dX12_goesOn_76 : decode cX12_goesOn 76 = .ok (.istore_n 3, 1) := by decide +kernel
theorem dX12_goesOn_77 : decode cX12_goesOn 77 = .ok (.aload_n 0, 1) := by decide +kernel
theorem dX12_goesOn_78 : decode cX12_goesOn 78 = .ok (.getfield 148, 3) := by decide +kernel
theorem dX12_goesOn_81 : decode cX12_goesOn 81 = .ok (.iload_n 1, 1) := by decide +kernel
theorem dX12_goesOn_82 : decode cX12_goesOn 82 = .ok (.aload_n 0, 1) := by decide +kernel
theorem dX12_goesOn_83 : decode cX12_goesOn 83 = .ok (.getfield 148, 3) := by decide +kernel
theorem dX12_goesOn_86 : decode cX12_goesOn 86 = .ok (.iload_n 2, 1) := by decide +kernel
theorem dX12_goesOn_87 : decode cX12_goesOn 87 = .ok (.iaload, 1) := by decide +kernel
theorem dX12_goesOn_88 : decode cX12_goesOn 88 = .ok (.iastore, 1) := by decide +kernel
theorem dX12_goesOn_89 : decode cX12_goesOn 89 = .ok (.aload_n 0, 1) := by decide +kernel
theorem dX12_goesOn_90 : decode cX12_goesOn 90 = .ok (.getfield 148, 3) := by decide +kernel
theorem dX12_goesOn_93 : decode cX12_goesOn 93 = .ok (.iload_n 2, 1) := by decide +kernel
theorem dX12_goesOn_94 : decode cX12_goesOn 94 = .ok (.iload_n 3, 1) := by decide +kernel
theorem dX12_goesOn_95 : decode cX12_goesOn 95 = .ok (.iastore, 1) := by decide +kernel
theorem dX12_goesOn_96 : decode cX12_goesOn 96 = .ok (.iload_n 1, 1) := by decide +kernel
theorem dX12_goesOn_97 : decode cX12_goesOn 97 = .ok (.iconst 1, 1) := by decide +kernel
theorem dX12_goesOn_98 : decode cX12_goesOn 98 = .ok (.iadd, 1) := by decide +kernel
theorem dX12_goesOn_99 : decode cX12_goesOn 99 = .ok (.istore 4, 2) := by decide +kernel
theorem dX12_goesOn_101 : decode cX12_goesOn 101 = .ok (.aload_n 0, 1) := by decide +kernel
theorem dX12_goesOn_102 : decode cX12_goesOn 102 = .ok (.getfield 7, 3) := by decide +kernel
theorem dX12_goesOn_105 : decode cX12_goesOn 105 = .ok (.iconst 1, 1) := by decide +kernel
theorem dX12_goesOn_106 : decode cX12_goesOn 106 = .ok (.isub, 1) := by decide +kernel
theorem dX12_goesOn_107 : decode cX12_goesOn 107 = .ok (.istore 5, 2) := by decide +kernel
theorem dX12_goesOn_109 : decode cX12_goesOn 109 = .ok (.iload 4, 2) := by decide +kernel
theorem dX12_goesOn_111 : decode cX12_goesOn 111 = .ok (.iload 5, 2) := by decide +kernel
theorem dX12_goesOn_113 : decode cX12_goesOn 113 = .ok (.if_icmp .ge 48, 3) := by decide +kernel
theorem dX12_goesOn_116 : decode cX12_goesOn 116 = .ok (.aload_n 0, 1) := by decide +kernel
theorem dX12_goesOn_117 : decode cX12_goesOn 117 = .ok (.getfield 148, 3) := by decide +kernel
theorem dX12_goesOn_120 : decode cX12_goesOn 120 = .ok (.iload 4, 2) := by decide +kernel
theorem dX12_goesOn_122 : decode cX12_goesOn 122 = .ok (.iaload, 1) := by decide +kernel
theorem dX12_goesOn_123 : decode cX12_goesOn 123 = .ok (.istore_n 3, 1) := by decide +kernel
theorem dX12_goesOn_124 : decode cX12_goesOn 124 = .ok (.aload_n 0, 1) := by decide +kernel
theorem dX12_goesOn_125 : decode cX12_goesOn 125 = .ok (.getfield 148, 3) := by decide +kernel
theorem dX12_goesOn_128 : decode cX12_goesOn 128 = .ok (.iload 4, 2) := by decide +kernel
theorem dX12_goesOn_130 : decode cX12_goesOn 130 = .ok (.aload_n 0, 1) := by decide +kernel
theorem dX12_goesOn_131 : decode cX12_goesOn 131 = .ok (.getfield 148, 3) := by decide +kernel
theorem dX12_goesOn_134 : decode cX12_goesOn 134 = .ok (.iload 5, 2) := by decide +kernel
theorem dX12_goesOn_136 : decode cX12_goesOn 136 = .ok (.iaload, 1) := by decide +kernel
theorem dX12_goesOn_137 : decode cX12_goesOn 137 = .ok (.iastore, 1) := by decide +kernel
theorem dX12_goesOn_138 : decode cX12_goesOn 138 = .ok (.aload_n 0, 1) := by decide +kernel
theorem dX12_goesOn_139 : decode cX12_goesOn 139 = .ok (.getfield 148, 3) := by decide +kernel
theorem dX12_goesOn_142 : decode cX12_goesOn 142 = .ok (.iload 5, 2) := by decide +kernel
theorem dX12_goesOn_144 : decode cX12_goesOn 144 = .ok (.iload_n 3, 1) := by decide +kernel
theorem dX12_goesOn_145 : decode cX12_goesOn 145 = .ok (.iastore, 1) := by decide +kernel
theorem dX12_goesOn_146 : decode cX12_goesOn 146 = .ok (.iload 4, 2) := by decide +kernel
theorem dX12_goesOn_148 : decode cX12_goesOn 148 = .ok (.iconst 1, 1) := by decide +kernel
theorem dX12_goesOn_149 : decode cX12_goesOn 149 = .ok (.iadd, 1) := by decide +kernel
theorem dX12_goesOn_150 : decode cX12_goesOn 150 = .ok (.istore 4, 2) := by decide +kernel
theorem dX12_goesOn_152 : decode cX12_goesOn 152 = .ok (.iload 5, 2) := by decide +kernel
theorem dX12_goesOn_154 : decode cX12_goesOn 154 = .ok (.iconst 1, 1) := by decide +kernel
theorem dX12_goesOn_155 : decode cX12_goesOn 155 = .ok (.isub, 1) := by decide +kernel
theorem dX12_goesOn_156 : decode cX12_goesOn 156 = .ok (.istore 5, 2) := by decide +kernel
theorem dX12_goesOn_158 : decode cX12_goesOn 158 = .ok (.goto (-49), 3) := by decide +kernel
theorem dX12_goesOn_161 : decode cX12_goesOn 161 = .ok (.iconst 1, 1) := by decide +kernel
theorem dX12_goesOn_162 : decode cX12_goesOn 162 = .ok (.ireturn, 1) := by decide +kernel
theorem dX12_sortsOrder_0 : decode cX12_sortsOrder 0 = .ok (.iconst 0, 1) := by decide +kernel
theorem dX12_sortsOrder_1 : decode cX12_sortsOrder 1 = .ok (.istore_n 1, 1) := by decide +kernel
theorem dX12_sortsOrder_2 : decode cX12_sortsOrder 2 = .ok (.iconst 0, 1) := by decide +kernel
theorem dX12_sortsOrder_3 : decode cX12_sortsOrder 3 = .ok (.istore_n 2, 1) := by decide +kernel
theorem dX12_sortsOrder_4 : decode cX12_sortsOrder 4 = .ok (.iload_n 2, 1) := by decide +kernel
theorem dX12_sortsOrder_5 : decode cX12_sortsOrder 5 = .ok (.bipush 6, 2) := by decide +kernel
theorem dX12_sortsOrder_7 : decode cX12_sortsOrder 7 = .ok (.if_icmp .ge 49, 3) := by decide +kernel
theorem dX12_sortsOrder_10 : decode cX12_sortsOrder 10 = .ok (.iconst 0, 1) := by decide +kernel
theorem dX12_sortsOrder_11 : decode cX12_sortsOrder 11 = .ok (.istore_n 3, 1) := by decide +kernel
theorem dX12_sortsOrder_12 : decode cX12_sortsOrder 12 = .ok (.iload_n 3, 1) := by decide +kernel
theorem dX12_sortsOrder_13 : decode cX12_sortsOrder 13 = .ok (.aload_n 0, 1) := by decide +kernel
theorem dX12_sortsOrder_14 : decode cX12_sortsOrder 14 = .ok (.getfield 7, 3) := by decide +kernel
theorem dX12_sortsOrder_17 : decode cX12_sortsOrder 17 = .ok (.if_icmp .ge 33, 3) := by decide +kernel
theorem dX12_sortsOrder_20 : decode cX12_sortsOrder 20 = .ok (.aload_n 0, 1) := by decide +kernel
theorem dX12_sortsOrder_21 : decode cX12_sortsOrder 21 = .ok (.getfield 13, 3) := by decide +kernel
theorem dX12_sortsOrder_24 : decode cX12_sortsOrder 24 = .ok (.iload_n 3, 1) := by decide +kernel
theorem dX12_sortsOrder_25 : decode cX12_sortsOrder 25 = .ok (.iaload, 1) := by decide +kernel
theorem dX12_sortsOrder_26 : decode cX12_sortsOrder 26 = .ok (.iload_n 2, 1) := by decide +kernel
theorem dX12_sortsOrder_27 : decode cX12_sortsOrder 27 = .ok (.if_icmp .eq 6, 3) := by decide +kernel
theorem dX12_sortsOrder_30 : decode cX12_sortsOrder 30 = .ok (.goto 14, 3) := by decide +kernel
theorem dX12_sortsOrder_33 : decode cX12_sortsOrder 33 = .ok (.aload_n 0, 1) := by decide +kernel
theorem dX12_sortsOrder_34 : decode cX12_sortsOrder 34 = .ok (.getfield 148, 3) := by decide +kernel
theorem dX12_sortsOrder_37 : decode cX12_sortsOrder 37 = .ok (.iload_n 1, 1) := by decide +kernel
theorem dX12_sortsOrder_38 : decode cX12_sortsOrder 38 = .ok (.iload_n 2, 1) := by decide +kernel
theorem dX12_sortsOrder_39 : decode cX12_sortsOrder 39 = .ok (.iastore, 1) := by decide +kernel
theorem dX12_sortsOrder_40 : decode cX12_sortsOrder 40 = .ok (.iload_n 1, 1) := by decide +kernel
theorem dX12_sortsOrder_41 : decode cX12_sortsOrder 41 = .ok (.iconst 1, 1) := by decide +kernel
theorem dX12_sortsOrder_42 : decode cX12_sortsOrder 42 = .ok (.iadd, 1) := by decide +kernel
theorem dX12_sortsOrder_43 : decode cX12_sortsOrder 43 = .ok (.istore_n 1, 1) := by decide +kernel
theorem dX12_sortsOrder_44 : decode cX12_sortsOrder 44 = .ok (.iinc 3 1, 3) := by decide +kernel
theorem dX12_sortsOrder_47 : decode cX12_sortsOrder 47 = .ok (.goto (-35), 3) := by decide +kernel
theorem dX12_sortsOrder_50 : decode cX12_sortsOrder 50 = .ok (.iinc 2 1, 3) := by decide +kernel
theorem dX12_sortsOrder_53 : decode cX12_sortsOrder 53 = .ok (.goto (-49), 3) := by decide +kernel
theorem dX12_sortsOrder_56 : decode cX12_sortsOrder 56 = .ok (.return_, 1) := by decide +kernel
theorem dX12_where_0 : decode cX12_where 0 = .ok (.aload_n 0, 1) := by decide +kernel
theorem dX12_where_1 : decode cX12_where 1 = .ok (.iconst 0, 1) := by decide +kernel
theorem dX12_where_2 : decode cX12_where 2 = .ok (.putfield 166, 3) := by decide +kernel
theorem dX12_where_5 : decode cX12_where 5 = .ok (.aload_n 0, 1) := by decide +kernel
theorem dX12_where_6 : decode cX12_where 6 = .ok (.getfield 7, 3) := by decide +kernel
theorem dX12_where_9 : decode cX12_where 9 = .ok (.bipush 7, 2) := by decide +kernel
theorem dX12_where_11 : decode cX12_where 11 = .ok (.if_icmp .gt 11, 3) := by decide +kernel
theorem dX12_where_14 : decode cX12_where 14 = .ok (.aload_n 0, 1) := by decide +kernel
theorem dX12_where_15 : decode cX12_where 15 = .ok (.iload_n 1, 1) := by decide +kernel
theorem dX12_where_16 : decode cX12_where 16 = .ok (.invokevirtual 181, 3) := by decide +kernel
theorem dX12_where_19 : decode cX12_where 19 = .ok (.ifCond .ne 5, 3) := by decide +kernel
theorem dX12_where_22 : decode cX12_where 22 = .ok (.iconst (-1), 1) := by decide +kernel
theorem dX12_where_23 : decode cX12_where 23 = .ok (.ireturn, 1) := by decide +kernel
theorem dX12_where_24 : decode cX12_where 24 = .ok (.aload_n 0, 1) := by decide +kernel
theorem dX12_where_25 : decode cX12_where 25 = .ok (.invokevirtual 429, 3) := by decide +kernel
theorem dX12_where_28 : decode cX12_where 28 = .ok (.aload_n 0, 1) := by decide +kernel
theorem dX12_where_29 : decode cX12_where 29 = .ok (.invokevirtual 435, 3) := by decide +kernel
theorem dX12_where_32 : decode cX12_where 32 = .ok (.iconst 1, 1) := by decide +kernel
theorem dX12_where_33 : decode cX12_where 33 = .ok (.istore_n 2, 1) := by decide +kernel
theorem dX12_where_34 : decode cX12_where 34 = .ok (.lconst 0, 1) := by decide +kernel
theorem dX12_where_35 : decode cX12_where 35 = .ok (.lstore_n 3, 1) := by decide +kernel
theorem dX12_where_36 : decode cX12_where 36 = .ok (.iconst 1, 1) := by decide +kernel
theorem dX12_where_37 : decode cX12_where 37 = .ok (.istore 5, 2) := by decide +kernel
theorem dX12_where_39 : decode cX12_where 39 = .ok (.iload 5, 2) := by decide +kernel
theorem dX12_where_41 : decode cX12_where 41 = .ok (.ifCond .eq 114, 3) := by decide +kernel
theorem dX12_where_44 : decode cX12_where 44 = .ok (.iconst 0, 1) := by decide +kernel
theorem dX12_where_45 : decode cX12_where 45 = .ok (.istore 6, 2) := by decide +kernel
theorem dX12_where_47 : decode cX12_where 47 = .ok (.iload 6, 2) := by decide +kernel
theorem dX12_where_49 : decode cX12_where 49 = .ok (.aload_n 0, 1) := by decide +kernel
theorem dX12_where_50 : decode cX12_where 50 = .ok (.getfield 7, 3) := by decide +kernel
theorem dX12_where_53 : decode cX12_where 53 = .ok (.if_icmp .ge 39, 3) := by decide +kernel
theorem dX12_where_56 : decode cX12_where 56 = .ok (.aload_n 0, 1) := by decide +kernel
theorem dX12_where_57 : decode cX12_where 57 = .ok (.getfield 13, 3) := by decide +kernel
theorem dX12_where_60 : decode cX12_where 60 = .ok (.iload 6, 2) := by decide +kernel
theorem dX12_where_62 : decode cX12_where 62 = .ok (.aload_n 0, 1) := by decide +kernel
theorem dX12_where_63 : decode cX12_where 63 = .ok (.getfield 148, 3) := by decide +kernel
theorem dX12_where_66 : decode cX12_where 66 = .ok (.iload 6, 2) := by decide +kernel
theorem dX12_where_68 : decode cX12_where 68 = .ok (.iaload, 1) := by decide +kernel
theorem dX12_where_69 : decode cX12_where 69 = .ok (.iastore, 1) := by decide +kernel
theorem dX12_where_70 : decode cX12_where 70 = .ok (.aload_n 0, 1) := by decide +kernel
theorem dX12_where_71 : decode cX12_where 71 = .ok (.getfield 17, 3) := by decide +kernel
theorem dX12_where_74 : decode cX12_where 74 = .ok (.iload 6, 2) := by decide +kernel
theorem dX12_where_76 : decode cX12_where 76 = .ok (.iconst 0, 1) := by decide +kernel
theorem dX12_where_77 : decode cX12_where 77 = .ok (.iastore, 1) := by decide +kernel
theorem dX12_where_78 : decode cX12_where 78 = .ok (.aload_n 0, 1) := by decide +kernel
theorem dX12_where_79 : decode cX12_where 79 = .ok (.getfield 20, 3) := by decide +kernel
theorem dX12_where_82 : decode cX12_where 82 = .ok (.iload 6, 2) := by decide +kernel
theorem dX12_where_84 : decode cX12_where 84 = .ok (.iconst 0, 1) := by decide +kernel
theorem dX12_where_85 : decode cX12_where 85 = .ok (.iastore, 1) := by decide +kernel
theorem dX12_where_86 : decode cX12_where 86 = .ok (.iinc 6 1, 3) := by decide +kernel
theorem dX12_where_89 : decode cX12_where 89 = .ok (.goto (-42), 3) := by decide +kernel
theorem dX12_where_92 : decode cX12_where 92 = .ok (.aload_n 0, 1) := by decide +kernel
theorem dX12_where_93 : decode cX12_where 93 = .ok (.invokevirtual 406, 3) := by decide +kernel
theorem dX12_where_96 : decode cX12_where 96 = .ok (.lstore 6, 2) := by decide +kernel
theorem dX12_where_98 : decode cX12_where 98 = .ok (.iload_n 2, 1) := by decide +kernel
theorem dX12_where_99 : decode cX12_where 99 = .ok (.ifCond .ne 10, 3) := by decide +kernel
theorem dX12_where_102 : decode cX12_where 102 = .ok (.lload 6, 2) := by decide +kernel
theorem dX12_where_104 : decode cX12_where 104 = .ok (.lload_n 3, 1) := by decide +kernel
theorem dX12_where_105 : decode cX12_where 105 = .ok (.lcmp, 1) := by decide +kernel
theorem dX12_where_106 : decode cX12_where 106 = .ok (.ifCond .ge 38, 3) := by decide +kernel
theorem dX12_where_109 : decode cX12_where 109 = .ok (.lload 6, 2) := by decide +kernel
theorem dX12_where_111 : decode cX12_where 111 = .ok (.lstore_n 3, 1) := by decide +kernel
theorem dX12_where_112 : decode cX12_where 112 = .ok (.iconst 0, 1) := by decide +kernel
theorem dX12_where_113 : decode cX12_where 113 = .ok (.istore 8, 2) := by decide +kernel
theorem dX12_where_115 : decode cX12_where 115 = .ok (.iload 8, 2) := by decide +kernel
theorem dX12_where_117 : decode cX12_where 117 = .ok (.aload_n 0, 1) := by decide +kernel
theorem dX12_where_118 : decode cX12_where 118 = .ok (.getfield 7, 3) := by decide +kernel
theorem dX12_where_121 : decode cX12_where 121 = .ok (.if_icmp .ge 23, 3) := by decide +kernel
theorem dX12_where_124 : decode cX12_where 124 = .ok (.aload_n 0, 1) := by decide +kernel
theorem dX12_where_125 : decode cX12_where 125 = .ok (.getfield 151, 3) := by decide +kernel
theorem dX12_where_128 : decode cX12_where 128 = .ok (.iload 8, 2) := by decide +kernel
theorem dX12_where_130 : decode cX12_where 130 = .ok (.aload_n 0, 1) := by decide +kernel
theorem dX12_where_131 : decode cX12_where 131 = .ok (.getfield 148, 3) := by decide +kernel
theorem dX12_where_134 : decode cX12_where 134 = .ok (.iload 8, 2) := by decide +kernel
theorem dX12_where_136 : decode cX12_where 136 = .ok (.iaload, 1) := by decide +kernel
theorem dX12_where_137 : decode cX12_where 137 = .ok (.iastore, 1) := by decide +kernel
theorem dX12_where_138 : decode cX12_where 138 = .ok (.iinc 8 1, 3) := by decide +kernel
theorem dX12_where_141 : decode cX12_where 141 = .ok (.goto (-26), 3) := by decide +kernel
theorem dX12_where_144 : decode cX12_where 144 = .ok (.iconst 0, 1) := by decide +kernel
theorem dX12_where_145 : decode cX12_where 145 = .ok (.istore_n 2, 1) := by decide +kernel
theorem dX12_where_146 : decode cX12_where 146 = .ok (.aload_n 0, 1) := by decide +kernel
theorem dX12_where_147 : decode cX12_where 147 = .ok (.invokevirtual 438, 3) := by decide +kernel
theorem dX12_where_150 : decode cX12_where 150 = .ok (.istore 5, 2) := by decide +kernel
theorem dX12_where_152 : decode cX12_where 152 = .ok (.goto (-113), 3) := by decide +kernel
theorem dX12_where_155 : decode cX12_where 155 = .ok (.aload_n 0, 1) := by decide +kernel
theorem dX12_where_156 : decode cX12_where 156 = .ok (.invokevirtual 432, 3) := by decide +kernel
theorem dX12_where_159 : decode cX12_where 159 = .ok (.aload_n 0, 1) := by decide +kernel
theorem dX12_where_160 : decode cX12_where 160 = .ok (.getfield 151, 3) := by decide +kernel
theorem dX12_where_163 : decode cX12_where 163 = .ok (.iload_n 1, 1) := by decide +kernel
theorem dX12_where_164 : decode cX12_where 164 = .ok (.iaload, 1) := by decide +kernel
theorem dX12_where_165 : decode cX12_where 165 = .ok (.ireturn, 1) := by decide +kernel
theorem dX12_stocks_0 : decode cX12_stocks 0 = .ok (.aload_n 0, 1) := by decide +kernel
theorem dX12_stocks_1 : decode cX12_stocks 1 = .ok (.iconst 0, 1) := by decide +kernel
theorem dX12_stocks_2 : decode cX12_stocks 2 = .ok (.putfield 166, 3) := by decide +kernel
theorem dX12_stocks_5 : decode cX12_stocks 5 = .ok (.aload_n 0, 1) := by decide +kernel
theorem dX12_stocks_6 : decode cX12_stocks 6 = .ok (.getfield 7, 3) := by decide +kernel
theorem dX12_stocks_9 : decode cX12_stocks 9 = .ok (.bipush 30, 2) := by decide +kernel
theorem dX12_stocks_11 : decode cX12_stocks 11 = .ok (.if_icmp .gt 30, 3) := by decide +kernel
theorem dX12_stocks_14 : decode cX12_stocks 14 = .ok (.aload_n 0, 1) := by decide +kernel
theorem dX12_stocks_15 : decode cX12_stocks 15 = .ok (.iload_n 1, 1) := by decide +kernel
theorem dX12_stocks_16 : decode cX12_stocks 16 = .ok (.iconst 0, 1) := by decide +kernel
theorem dX12_stocks_17 : decode cX12_stocks 17 = .ok (.iconst 1, 1) := by decide +kernel
theorem dX12_stocks_18 : decode cX12_stocks 18 = .ok (.aload_n 0, 1) := by decide +kernel
theorem dX12_stocks_19 : decode cX12_stocks 19 = .ok (.getfield 7, 3) := by decide +kernel
theorem dX12_stocks_22 : decode cX12_stocks 22 = .ok (.ishl, 1) := by decide +kernel
theorem dX12_stocks_23 : decode cX12_stocks 23 = .ok (.iconst 1, 1) := by decide +kernel
theorem dX12_stocks_24 : decode cX12_stocks 24 = .ok (.isub, 1) := by decide +kernel
theorem dX12_stocks_25 : decode cX12_stocks 25 = .ok (.invokevirtual 174, 3) := by decide +kernel
theorem dX12_stocks_28 : decode cX12_stocks 28 = .ok (.ifCond .eq 13, 3) := by decide +kernel
theorem dX12_stocks_31 : decode cX12_stocks 31 = .ok (.aload_n 0, 1) := by decide +kernel
theorem dX12_stocks_32 : decode cX12_stocks 32 = .ok (.iload_n 2, 1) := by decide +kernel
theorem dX12_stocks_33 : decode cX12_stocks 33 = .ok (.iconst 0, 1) := by decide +kernel
theorem dX12_stocks_34 : decode cX12_stocks 34 = .ok (.iconst 1, 1) := by decide +kernel
theorem dX12_stocks_35 : decode cX12_stocks 35 = .ok (.invokevirtual 174, 3) := by decide +kernel
theorem dX12_stocks_38 : decode cX12_stocks 38 = .ok (.ifCond .ne 5, 3) := by decide +kernel
theorem dX12_stocks_41 : decode cX12_stocks 41 = .ok (.iconst (-1), 1) := by decide +kernel
theorem dX12_stocks_42 : decode cX12_stocks 42 = .ok (.ireturn, 1) := by decide +kernel
theorem dX12_stocks_43 : decode cX12_stocks 43 = .ok (.aload_n 0, 1) := by decide +kernel
theorem dX12_stocks_44 : decode cX12_stocks 44 = .ok (.iload_n 1, 1) := by decide +kernel
theorem dX12_stocks_45 : decode cX12_stocks 45 = .ok (.invokevirtual 341, 3) := by decide +kernel
theorem dX12_stocks_48 : decode cX12_stocks 48 = .ok (.istore_n 3, 1) := by decide +kernel
theorem dX12_stocks_49 : decode cX12_stocks 49 = .ok (.iconst 0, 1) := by decide +kernel
theorem dX12_stocks_50 : decode cX12_stocks 50 = .ok (.istore 4, 2) := by decide +kernel
theorem dX12_stocks_52 : decode cX12_stocks 52 = .ok (.iload 4, 2) := by decide +kernel
theorem dX12_stocks_54 : decode cX12_stocks 54 = .ok (.iload_n 3, 1) := by decide +kernel
theorem dX12_stocks_55 : decode cX12_stocks 55 = .ok (.if_icmp .gt 17, 3) := by decide +kernel
theorem dX12_stocks_58 : decode cX12_stocks 58 = .ok (.aload_n 0, 1) := by decide +kernel
theorem dX12_stocks_59 : decode cX12_stocks 59 = .ok (.getfield 154, 3) := by decide +kernel
theorem dX12_stocks_62 : decode cX12_stocks 62 = .ok (.iload 4, 2) := by decide +kernel
theorem dX12_stocks_64 : decode cX12_stocks 64 = .ok (.iconst (-1), 1) := by decide +kernel
theorem dX12_stocks_65 : decode cX12_stocks 65 = .ok (.iastore, 1) := by decide +kernel
theorem dX12_stocks_66 : decode cX12_stocks 66 = .ok (.iinc 4 1, 3) := by decide +kernel
theorem dX12_stocks_69 : decode cX12_stocks 69 = .ok (.goto (-17), 3) := by decide +kernel
theorem dX12_stocks_72 : decode cX12_stocks 72 = .ok (.aload_n 0, 1) := by decide +kernel
theorem dX12_stocks_73 : decode cX12_stocks 73 = .ok (.getfield 154, 3) := by decide +kernel
theorem dX12_stocks_76 : decode cX12_stocks 76 = .ok (.iconst 0, 1) := by decide +kernel
theorem dX12_stocks_77 : decode cX12_stocks 77 = .ok (.iconst 0, 1) := by decide +kernel
theorem dX12_stocks_78 : decode cX12_stocks 78 = .ok (.iastore, 1) := by decide +kernel
theorem dX12_stocks_79 : decode cX12_stocks 79 = .ok (.iconst 0, 1) := by decide +kernel
theorem dX12_stocks_80 : decode cX12_stocks 80 = .ok (.istore 4, 2) := by decide +kernel
theorem dX12_stocks_82 : decode cX12_stocks 82 = .ok (.iconst 0, 1) := by decide +kernel
theorem dX12_stocks_83 : decode cX12_stocks 83 = .ok (.istore 5, 2) := by decide +kernel
theorem dX12_stocks_85 : decode cX12_stocks 85 = .ok (.iload 5, 2) := by decide +kernel
theorem dX12_stocks_87 : decode cX12_stocks 87 = .ok (.aload_n 0, 1) := by decide +kernel
theorem dX12_stocks_88 : decode cX12_stocks 88 = .ok (.getfield 7, 3) := by decide +kernel
theorem dX12_stocks_91 : decode cX12_stocks 91 = .ok (.if_icmp .ge 157, 3) := by decide +kernel
theorem dX12_stocks_94 : decode cX12_stocks 94 = .ok (.iload_n 1, 1) := by decide +kernel
theorem dX12_stocks_95 : decode cX12_stocks 95 = .ok (.iload 5, 2) := by decide +kernel
theorem dX12_stocks_97 : decode cX12_stocks 97 = .ok (.ishr, 1) := by decide +kernel
theorem dX12_stocks_98 : decode cX12_stocks 98 = .ok (.iconst 1, 1) := by decide +kernel
theorem dX12_stocks_99 : decode cX12_stocks 99 = .ok (.iand, 1) := by decide +kernel
theorem dX12_stocks_100 : decode cX12_stocks 100 = .ok (.ifCond .ne 6, 3) := by decide +kernel
theorem dX12_stocks_103 : decode cX12_stocks 103 = .ok (.goto 139, 3) := by decide +kernel
theorem dX12_stocks_106 : decode cX12_stocks 106 = .ok (.iload 4, 2) := by decide +kernel
theorem dX12_stocks_108 : decode cX12_stocks 108 = .ok (.iconst 1, 1) := by decide +kernel
theorem dX12_stocks_109 : decode cX12_stocks 109 = .ok (.iadd, 1) := by decide +kernel
theorem dX12_stocks_110 : decode cX12_stocks 110 = .ok (.istore 4, 2) := by decide +kernel
theorem dX12_stocks_112 : decode cX12_stocks 112 = .ok (.iload 4, 2) := by decide +kernel
theorem dX12_stocks_114 : decode cX12_stocks 114 = .ok (.istore 6, 2) := by decide +kernel
theorem dX12_stocks_116 : decode cX12_stocks 116 = .ok (.iload 6, 2) := by decide +kernel
theorem dX12_stocks_118 : decode cX12_stocks 118 = .ok (.ifCond .lt 124, 3) := by decide +kernel
theorem dX12_stocks_121 : decode cX12_stocks 121 = .ok (.iload 6, 2) := by decide +kernel
theorem dX12_stocks_123 : decode cX12_stocks 123 = .ok (.iload 4, 2) := by decide +kernel
theorem dX12_stocks_125 : decode cX12_stocks 125 = .ok (.if_icmp .eq 14, 3) := by decide +kernel
theorem dX12_stocks_128 : decode cX12_stocks 128 = .ok (.aload_n 0, 1) := by decide +kernel
theorem dX12_stocks_129 : decode cX12_stocks 129 = .ok (.getfield 154, 3) := by decide +kernel
theorem dX12_stocks_132 : decode cX12_stocks 132 = .ok (.iload 6, 2) := by decide +kernel
theorem dX12_stocks_134 : decode cX12_stocks 134 = .ok (.iaload, 1) := by decide +kernel
theorem dX12_stocks_135 : decode cX12_stocks 135 = .ok (.iconst (-1), 1) := by decide +kernel
theorem dX12_stocks_136 : decode cX12_stocks 136 = .ok (.if_icmp .ne 7, 3) := by decide +kernel
theorem dX12_stocks_139 : decode cX12_stocks 139 = .ok (.iconst (-1), 1) := by decide +kernel
theorem dX12_stocks_140 : decode cX12_stocks 140 = .ok (.goto 18, 3) := by decide +kernel
theorem dX12_stocks_143 : decode cX12_stocks 143 = .ok (.aload_n 0, 1) := by decide +kernel
theorem dX12_stocks_144 : decode cX12_stocks 144 = .ok (.getfield 154, 3) := by decide +kernel
theorem dX12_stocks_147 : decode cX12_stocks 147 = .ok (.iload 6, 2) := by decide +kernel
theorem dX12_stocks_149 : decode cX12_stocks 149 = .ok (.iaload, 1) := by decide +kernel
theorem dX12_stocks_150 : decode cX12_stocks 150 = .ok (.aload_n 0, 1) := by decide +kernel
theorem dX12_stocks_151 : decode cX12_stocks 151 = .ok (.getfield 7, 3) := by decide +kernel
theorem dX12_stocks_154 : decode cX12_stocks 154 = .ok (.iadd, 1) := by decide +kernel
theorem dX12_stocks_155 : decode cX12_stocks 155 = .ok (.iload 5, 2) := by decide +kernel
theorem dX12_stocks_157 : decode cX12_stocks 157 = .ok (.isub, 1) := by decide +kernel
theorem dX12_stocks_158 : decode cX12_stocks 158 = .ok (.istore 7, 2) := by decide +kernel
theorem dX12_stocks_160 : decode cX12_stocks 160 = .ok (.iload 6, 2) := by decide +kernel
theorem dX12_stocks_162 : decode cX12_stocks 162 = .ok (.ifCond .eq 16, 3) := by decide +kernel
theorem dX12_stocks_165 : decode cX12_stocks 165 = .ok (.aload_n 0, 1) := by decide +kernel
theorem dX12_stocks_166 : decode cX12_stocks 166 = .ok (.getfield 154, 3) := by decide +kernel
theorem dX12_stocks_169 : decode cX12_stocks 169 = .ok (.iload 6, 2) := by decide +kernel
theorem dX12_stocks_171 : decode cX12_stocks 171 = .ok (.iconst 1, 1) := by decide +kernel
theorem dX12_stocks_172 : decode cX12_stocks 172 = .ok (.isub, 1) := by decide +kernel
theorem dX12_stocks_173 : decode cX12_stocks 173 = .ok (.iaload, 1) := by decide +kernel
theorem dX12_stocks_174 : decode cX12_stocks 174 = .ok (.iconst (-1), 1) := by decide +kernel
theorem dX12_stocks_175 : decode cX12_stocks 175 = .ok (.if_icmp .ne 7, 3) := by decide +kernel
theorem dX12_stocks_178 : decode cX12_stocks 178 = .ok (.iconst (-1), 1) := by decide +kernel
theorem dX12_stocks_179 : decode cX12_stocks 179 = .ok (.goto 17, 3) := by decide +kernel
theorem dX12_stocks_182 : decode cX12_stocks 182 = .ok (.aload_n 0, 1) := by decide +kernel
theorem dX12_stocks_183 : decode cX12_stocks 183 = .ok (.getfield 154, 3) := by decide +kernel
theorem dX12_stocks_186 : decode cX12_stocks 186 = .ok (.iload 6, 2) := by decide +kernel
theorem dX12_stocks_188 : decode cX12_stocks 188 = .ok (.iconst 1, 1) := by decide +kernel
theorem dX12_stocks_189 : decode cX12_stocks 189 = .ok (.isub, 1) := by decide +kernel
theorem dX12_stocks_190 : decode cX12_stocks 190 = .ok (.iaload, 1) := by decide +kernel
theorem dX12_stocks_191 : decode cX12_stocks 191 = .ok (.iload 5, 2) := by decide +kernel
theorem dX12_stocks_193 : decode cX12_stocks 193 = .ok (.iadd, 1) := by decide +kernel
theorem dX12_stocks_194 : decode cX12_stocks 194 = .ok (.iconst 1, 1) := by decide +kernel
theorem dX12_stocks_195 : decode cX12_stocks 195 = .ok (.iadd, 1) := by decide +kernel
theorem dX12_stocks_196 : decode cX12_stocks 196 = .ok (.istore 8, 2) := by decide +kernel
theorem dX12_stocks_198 : decode cX12_stocks 198 = .ok (.aload_n 0, 1) := by decide +kernel
theorem dX12_stocks_199 : decode cX12_stocks 199 = .ok (.getfield 154, 3) := by decide +kernel
theorem dX12_stocks_202 : decode cX12_stocks 202 = .ok (.iload 6, 2) := by decide +kernel
theorem dX12_stocks_204 : decode cX12_stocks 204 = .ok (.iload 7, 2) := by decide +kernel
theorem dX12_stocks_206 : decode cX12_stocks 206 = .ok (.iconst (-1), 1) := by decide +kernel
theorem dX12_stocks_207 : decode cX12_stocks 207 = .ok (.if_icmp .ne 8, 3) := by decide +kernel
theorem dX12_stocks_210 : decode cX12_stocks 210 = .ok (.iload 8, 2) := by decide +kernel
theorem dX12_stocks_212 : decode cX12_stocks 212 = .ok (.goto 23, 3) := by decide +kernel
theorem dX12_stocks_215 : decode cX12_stocks 215 = .ok (.iload 8, 2) := by decide +kernel
theorem dX12_stocks_217 : decode cX12_stocks 217 = .ok (.iconst (-1), 1) := by decide +kernel
theorem dX12_stocks_218 : decode cX12_stocks 218 = .ok (.if_icmp .eq 10, 3) := by decide +kernel
theorem dX12_stocks_221 : decode cX12_stocks 221 = .ok (.iload 7, 2) := by decide +kernel
theorem dX12_stocks_223 : decode cX12_stocks 223 = .ok (.iload 8, 2) := by decide +kernel
theorem dX12_stocks_225 : decode cX12_stocks 225 = .ok (.if_icmp .ge 8, 3) := by decide +kernel
theorem dX12_stocks_228 : decode cX12_stocks 228 = .ok (.iload 7, 2) := by decide +kernel
theorem dX12_stocks_230 : decode cX12_stocks 230 = .ok (.goto 5, 3) := by decide +kernel
theorem dX12_stocks_233 : decode cX12_stocks 233 = .ok (.iload 8, 2) := by decide +kernel
theorem dX12_stocks_235 : decode cX12_stocks 235 = .ok (.iastore, 1) := by decide +kernel
theorem dX12_stocks_236 : decode cX12_stocks 236 = .ok (.iinc 6 (-1), 3) := by decide +kernel
theorem dX12_stocks_239 : decode cX12_stocks 239 = .ok (.goto (-123), 3) := by decide +kernel
theorem dX12_stocks_242 : decode cX12_stocks 242 = .ok (.iinc 5 1, 3) := by decide +kernel
theorem dX12_stocks_245 : decode cX12_stocks 245 = .ok (.goto (-160), 3) := by decide +kernel
theorem dX12_stocks_248 : decode cX12_stocks 248 = .ok (.iconst (-1), 1) := by decide +kernel
theorem dX12_stocks_249 : decode cX12_stocks 249 = .ok (.istore 5, 2) := by decide +kernel
theorem dX12_stocks_251 : decode cX12_stocks 251 = .ok (.iconst 0, 1) := by decide +kernel
theorem dX12_stocks_252 : decode cX12_stocks 252 = .ok (.istore 6, 2) := by decide +kernel
theorem dX12_stocks_254 : decode cX12_stocks 254 = .ok (.iload 6, 2) := by decide +kernel
theorem dX12_stocks_256 : decode cX12_stocks 256 = .ok (.iload_n 3, 1) := by decide +kernel
theorem dX12_stocks_257 : decode cX12_stocks 257 = .ok (.if_icmp .gt 76, 3) := by decide +kernel
theorem dX12_stocks_260 : decode cX12_stocks 260 = .ok (.iload 6, 2) := by decide +kernel
theorem dX12_stocks_262 : decode cX12_stocks 262 = .ok (.aload_n 0, 1) := by decide +kernel
theorem dX12_stocks_263 : decode cX12_stocks 263 = .ok (.getfield 38, 3) := by decide +kernel
theorem dX12_stocks_266 : decode cX12_stocks 266 = .ok (.bipush 6, 2) := by decide +kernel
theorem dX12_stocks_268 : decode cX12_stocks 268 = .ok (.iaload, 1) := by decide +kernel
theorem dX12_stocks_269 : decode cX12_stocks 269 = .ok (.if_icmp .gt 58, 3) := by decide +kernel
theorem dX12_stocks_272 : decode cX12_stocks 272 = .ok (.iload_n 3, 1) := by decide +kernel
theorem dX12_stocks_273 : decode cX12_stocks 273 = .ok (.iload 6, 2) := by decide +kernel
theorem dX12_stocks_275 : decode cX12_stocks 275 = .ok (.isub, 1) := by decide +kernel
theorem dX12_stocks_276 : decode cX12_stocks 276 = .ok (.aload_n 0, 1) := by decide +kernel
theorem dX12_stocks_277 : decode cX12_stocks 277 = .ok (.getfield 38, 3) := by decide +kernel
theorem dX12_stocks_280 : decode cX12_stocks 280 = .ok (.bipush 7, 2) := by decide +kernel
theorem dX12_stocks_282 : decode cX12_stocks 282 = .ok (.iaload, 1) := by decide +kernel
theorem dX12_stocks_283 : decode cX12_stocks 283 = .ok (.if_icmp .gt 44, 3) := by decide +kernel
theorem dX12_stocks_286 : decode cX12_stocks 286 = .ok (.aload_n 0, 1) := by decide +kernel
theorem dX12_stocks_287 : decode cX12_stocks 287 = .ok (.getfield 154, 3) := by decide +kernel
theorem dX12_stocks_290 : decode cX12_stocks 290 = .ok (.iload 6, 2) := by decide +kernel
theorem dX12_stocks_292 : decode cX12_stocks 292 = .ok (.iaload, 1) := by decide +kernel
theorem dX12_stocks_293 : decode cX12_stocks 293 = .ok (.iconst (-1), 1) := by decide +kernel
theorem dX12_stocks_294 : decode cX12_stocks 294 = .ok (.if_icmp .ne 6, 3) := by decide +kernel
theorem dX12_stocks_297 : decode cX12_stocks 297 = .ok (.goto 30, 3) := by decide +kernel
theorem dX12_stocks_300 : decode cX12_stocks 300 = .ok (.iload 5, 2) := by decide +kernel
theorem dX12_stocks_302 : decode cX12_stocks 302 = .ok (.iconst (-1), 1) := by decide +kernel
theorem dX12_stocks_303 : decode cX12_stocks 303 = .ok (.if_icmp .eq 20, 3) := by decide +kernel
theorem dX12_stocks_306 : decode cX12_stocks 306 = .ok (.aload_n 0, 1) := by decide +kernel
theorem dX12_stocks_307 : decode cX12_stocks 307 = .ok (.getfield 154, 3) := by decide +kernel
theorem dX12_stocks_310 : decode cX12_stocks 310 = .ok (.iload 6, 2) := by decide +kernel
theorem dX12_stocks_312 : decode cX12_stocks 312 = .ok (.iaload, 1) := by decide +kernel
theorem dX12_stocks_313 : decode cX12_stocks 313 = .ok (.aload_n 0, 1) := by decide +kernel
theorem dX12_stocks_314 : decode cX12_stocks 314 = .ok (.getfield 154, 3) := by decide +kernel
theorem dX12_stocks_317 : decode cX12_stocks 317 = .ok (.iload 5, 2) := by decide +kernel
theorem dX12_stocks_319 : decode cX12_stocks 319 = .ok (.iaload, 1) := by decide +kernel
theorem dX12_stocks_320 : decode cX12_stocks 320 = .ok (.if_icmp .ge 7, 3) := by decide +kernel
theorem dX12_stocks_323 : decode cX12_stocks 323 = .ok (.iload 6, 2) := by decide +kernel
theorem dX12_stocks_325 : decode cX12_stocks 325 = .ok (.istore 5, 2) := by decide +kernel
theorem dX12_stocks_327 : decode cX12_stocks 327 = .ok (.iinc 6 1, 3) := by decide +kernel
theorem dX12_stocks_330 : decode cX12_stocks 330 = .ok (.goto (-76), 3) := by decide +kernel
theorem dX12_stocks_333 : decode cX12_stocks 333 = .ok (.iload 5, 2) := by decide +kernel
theorem dX12_stocks_335 : decode cX12_stocks 335 = .ok (.iconst (-1), 1) := by decide +kernel
theorem dX12_stocks_336 : decode cX12_stocks 336 = .ok (.if_icmp .eq 8, 3) := by decide +kernel
theorem dX12_stocks_339 : decode cX12_stocks 339 = .ok (.iload_n 2, 1) := by decide +kernel
theorem dX12_stocks_340 : decode cX12_stocks 340 = .ok (.iconst 1, 1) := by decide +kernel
theorem dX12_stocks_341 : decode cX12_stocks 341 = .ok (.if_icmp .ne 8, 3) := by decide +kernel
theorem dX12_stocks_344 : decode cX12_stocks 344 = .ok (.iload 5, 2) := by decide +kernel
theorem dX12_stocks_346 : decode cX12_stocks 346 = .ok (.goto 10, 3) := by decide +kernel
theorem dX12_stocks_349 : decode cX12_stocks 349 = .ok (.aload_n 0, 1) := by decide +kernel
theorem dX12_stocks_350 : decode cX12_stocks 350 = .ok (.getfield 154, 3) := by decide +kernel
theorem dX12_stocks_353 : decode cX12_stocks 353 = .ok (.iload 5, 2) := by decide +kernel
theorem dX12_stocks_355 : decode cX12_stocks 355 = .ok (.iaload, 1) := by decide +kernel
theorem dX12_stocks_356 : decode cX12_stocks 356 = .ok (.ireturn, 1) := by decide +kernel
theorem dX12_putAside_0 : decode cX12_putAside 0 = .ok (.aload_n 0, 1) := by decide +kernel
theorem dX12_putAside_1 : decode cX12_putAside 1 = .ok (.aload_n 0, 1) := by decide +kernel
theorem dX12_putAside_2 : decode cX12_putAside 2 = .ok (.getfield 441, 3) := by decide +kernel
theorem dX12_putAside_5 : decode cX12_putAside 5 = .ok (.iconst 1, 1) := by decide +kernel
theorem dX12_putAside_6 : decode cX12_putAside 6 = .ok (.iadd, 1) := by decide +kernel
theorem dX12_putAside_7 : decode cX12_putAside 7 = .ok (.putfield 441, 3) := by decide +kernel
theorem dX12_putAside_10 : decode cX12_putAside 10 = .ok (.aload_n 0, 1) := by decide +kernel
theorem dX12_putAside_11 : decode cX12_putAside 11 = .ok (.getfield 444, 3) := by decide +kernel
theorem dX12_putAside_14 : decode cX12_putAside 14 = .ok (.ifCond .ne 15, 3) := by decide +kernel
theorem dX12_putAside_17 : decode cX12_putAside 17 = .ok (.aload_n 0, 1) := by decide +kernel
theorem dX12_putAside_18 : decode cX12_putAside 18 = .ok (.getfield 157, 3) := by decide +kernel
theorem dX12_putAside_21 : decode cX12_putAside 21 = .ok (.aload_n 0, 1) := by decide +kernel
theorem dX12_putAside_22 : decode cX12_putAside 22 = .ok (.getfield 441, 3) := by decide +kernel
theorem dX12_putAside_25 : decode cX12_putAside 25 = .ok (.iconst 1, 1) := by decide +kernel
theorem dX12_putAside_26 : decode cX12_putAside 26 = .ok (.isub, 1) := by decide +kernel
theorem dX12_putAside_27 : decode cX12_putAside 27 = .ok (.iaload, 1) := by decide +kernel
theorem dX12_putAside_28 : decode cX12_putAside 28 = .ok (.ireturn, 1) := by decide +kernel
theorem dX12_putAside_29 : decode cX12_putAside 29 = .ok (.aload_n 0, 1) := by decide +kernel
theorem dX12_putAside_30 : decode cX12_putAside 30 = .ok (.getfield 157, 3) := by decide +kernel
theorem dX12_putAside_33 : decode cX12_putAside 33 = .ok (.aload_n 0, 1) := by decide +kernel
theorem dX12_putAside_34 : decode cX12_putAside 34 = .ok (.getfield 441, 3) := by decide +kernel
theorem dX12_putAside_37 : decode cX12_putAside 37 = .ok (.iconst 1, 1) := by decide +kernel
theorem dX12_putAside_38 : decode cX12_putAside 38 = .ok (.isub, 1) := by decide +kernel
theorem dX12_putAside_39 : decode cX12_putAside 39 = .ok (.iload_n 1, 1) := by decide +kernel
theorem dX12_putAside_40 : decode cX12_putAside 40 = .ok (.iastore, 1) := by decide +kernel
theorem dX12_putAside_41 : decode cX12_putAside 41 = .ok (.iload_n 1, 1) := by decide +kernel
theorem dX12_putAside_42 : decode cX12_putAside 42 = .ok (.ireturn, 1) := by decide +kernel
theorem dX12_asides_0 : decode cX12_asides 0 = .ok (.aload_n 0, 1) := by decide +kernel
theorem dX12_asides_1 : decode cX12_asides 1 = .ok (.iload_n 1, 1) := by decide +kernel
theorem dX12_asides_2 : decode cX12_asides 2 = .ok (.putfield 444, 3) := by decide +kernel
theorem dX12_asides_5 : decode cX12_asides 5 = .ok (.aload_n 0, 1) := by decide +kernel
theorem dX12_asides_6 : decode cX12_asides 6 = .ok (.iconst 0, 1) := by decide +kernel
theorem dX12_asides_7 : decode cX12_asides 7 = .ok (.putfield 441, 3) := by decide +kernel
theorem dX12_asides_10 : decode cX12_asides 10 = .ok (.aload_n 0, 1) := by decide +kernel
theorem dX12_asides_11 : decode cX12_asides 11 = .ok (.aload_n 0, 1) := by decide +kernel
theorem dX12_asides_12 : decode cX12_asides 12 = .ok (.aload_n 0, 1) := by decide +kernel
theorem dX12_asides_13 : decode cX12_asides 13 = .ok (.getfield 169, 3) := by decide +kernel
theorem dX12_asides_16 : decode cX12_asides 16 = .ok (.invokevirtual 447, 3) := by decide +kernel
theorem dX12_asides_19 : decode cX12_asides 19 = .ok (.putfield 169, 3) := by decide +kernel
theorem dX12_asides_22 : decode cX12_asides 22 = .ok (.aload_n 0, 1) := by decide +kernel
theorem dX12_asides_23 : decode cX12_asides 23 = .ok (.aload_n 0, 1) := by decide +kernel
theorem dX12_asides_24 : decode cX12_asides 24 = .ok (.aload_n 0, 1) := by decide +kernel
theorem dX12_asides_25 : decode cX12_asides 25 = .ok (.getfield 7, 3) := by decide +kernel
theorem dX12_asides_28 : decode cX12_asides 28 = .ok (.invokevirtual 447, 3) := by decide +kernel
theorem dX12_asides_31 : decode cX12_asides 31 = .ok (.putfield 7, 3) := by decide +kernel
theorem dX12_asides_34 : decode cX12_asides 34 = .ok (.aload_n 0, 1) := by decide +kernel
theorem dX12_asides_35 : decode cX12_asides 35 = .ok (.aload_n 0, 1) := by decide +kernel
theorem dX12_asides_36 : decode cX12_asides 36 = .ok (.aload_n 0, 1) := by decide +kernel
theorem dX12_asides_37 : decode cX12_asides 37 = .ok (.getfield 334, 3) := by decide +kernel
theorem dX12_asides_40 : decode cX12_asides 40 = .ok (.invokevirtual 447, 3) := by decide +kernel
theorem dX12_asides_43 : decode cX12_asides 43 = .ok (.putfield 334, 3) := by decide +kernel
theorem dX12_asides_46 : decode cX12_asides 46 = .ok (.aload_n 0, 1) := by decide +kernel
theorem dX12_asides_47 : decode cX12_asides 47 = .ok (.aload_n 0, 1) := by decide +kernel
theorem dX12_asides_48 : decode cX12_asides 48 = .ok (.aload_n 0, 1) := by decide +kernel
theorem dX12_asides_49 : decode cX12_asides 49 = .ok (.getfield 382, 3) := by decide +kernel
theorem dX12_asides_52 : decode cX12_asides 52 = .ok (.invokevirtual 447, 3) := by decide +kernel
theorem dX12_asides_55 : decode cX12_asides 55 = .ok (.putfield 382, 3) := by decide +kernel
theorem dX12_asides_58 : decode cX12_asides 58 = .ok (.aload_n 0, 1) := by decide +kernel
theorem dX12_asides_59 : decode cX12_asides 59 = .ok (.aload_n 0, 1) := by decide +kernel
theorem dX12_asides_60 : decode cX12_asides 60 = .ok (.aload_n 0, 1) := by decide +kernel
theorem dX12_asides_61 : decode cX12_asides 61 = .ok (.getfield 358, 3) := by decide +kernel
theorem dX12_asides_64 : decode cX12_asides 64 = .ok (.invokevirtual 447, 3) := by decide +kernel
theorem dX12_asides_67 : decode cX12_asides 67 = .ok (.putfield 358, 3) := by decide +kernel
theorem dX12_asides_70 : decode cX12_asides 70 = .ok (.aload_n 0, 1) := by decide +kernel
theorem dX12_asides_71 : decode cX12_asides 71 = .ok (.aload_n 0, 1) := by decide +kernel
theorem dX12_asides_72 : decode cX12_asides 72 = .ok (.aload_n 0, 1) := by decide +kernel
theorem dX12_asides_73 : decode cX12_asides 73 = .ok (.getfield 361, 3) := by decide +kernel
theorem dX12_asides_76 : decode cX12_asides 76 = .ok (.invokevirtual 447, 3) := by decide +kernel
theorem dX12_asides_79 : decode cX12_asides 79 = .ok (.putfield 361, 3) := by decide +kernel
theorem dX12_asides_82 : decode cX12_asides 82 = .ok (.aload_n 0, 1) := by decide +kernel
theorem dX12_asides_83 : decode cX12_asides 83 = .ok (.aload_n 0, 1) := by decide +kernel
theorem dX12_asides_84 : decode cX12_asides 84 = .ok (.aload_n 0, 1) := by decide +kernel
theorem dX12_asides_85 : decode cX12_asides 85 = .ok (.getfield 178, 3) := by decide +kernel
theorem dX12_asides_88 : decode cX12_asides 88 = .ok (.invokevirtual 447, 3) := by decide +kernel
theorem dX12_asides_91 : decode cX12_asides 91 = .ok (.putfield 178, 3) := by decide +kernel
theorem dX12_asides_94 : decode cX12_asides 94 = .ok (.aload_n 0, 1) := by decide +kernel
theorem dX12_asides_95 : decode cX12_asides 95 = .ok (.aload_n 0, 1) := by decide +kernel
theorem dX12_asides_96 : decode cX12_asides 96 = .ok (.aload_n 0, 1) := by decide +kernel
theorem dX12_asides_97 : decode cX12_asides 97 = .ok (.getfield 41, 3) := by decide +kernel
theorem dX12_asides_100 : decode cX12_asides 100 = .ok (.invokevirtual 447, 3) := by decide +kernel
theorem dX12_asides_103 : decode cX12_asides 103 = .ok (.putfield 41, 3) := by decide +kernel
theorem dX12_asides_106 : decode cX12_asides 106 = .ok (.iconst 0, 1) := by decide +kernel
theorem dX12_asides_107 : decode cX12_asides 107 = .ok (.istore_n 2, 1) := by decide +kernel
theorem dX12_asides_108 : decode cX12_asides 108 = .ok (.iload_n 2, 1) := by decide +kernel
theorem dX12_asides_109 : decode cX12_asides 109 = .ok (.bipush 8, 2) := by decide +kernel
theorem dX12_asides_111 : decode cX12_asides 111 = .ok (.if_icmp .ge 25, 3) := by decide +kernel
theorem dX12_asides_114 : decode cX12_asides 114 = .ok (.aload_n 0, 1) := by decide +kernel
theorem dX12_asides_115 : decode cX12_asides 115 = .ok (.getfield 38, 3) := by decide +kernel
theorem dX12_asides_118 : decode cX12_asides 118 = .ok (.iload_n 2, 1) := by decide +kernel
theorem dX12_asides_119 : decode cX12_asides 119 = .ok (.aload_n 0, 1) := by decide +kernel
theorem dX12_asides_120 : decode cX12_asides 120 = .ok (.aload_n 0, 1) := by decide +kernel
theorem dX12_asides_121 : decode cX12_asides 121 = .ok (.getfield 38, 3) := by decide +kernel
theorem dX12_asides_124 : decode cX12_asides 124 = .ok (.iload_n 2, 1) := by decide +kernel
theorem dX12_asides_125 : decode cX12_asides 125 = .ok (.iaload, 1) := by decide +kernel
theorem dX12_asides_126 : decode cX12_asides 126 = .ok (.invokevirtual 447, 3) := by decide +kernel
theorem dX12_asides_129 : decode cX12_asides 129 = .ok (.iastore, 1) := by decide +kernel
theorem dX12_asides_130 : decode cX12_asides 130 = .ok (.iinc 2 1, 3) := by decide +kernel
theorem dX12_asides_133 : decode cX12_asides 133 = .ok (.goto (-25), 3) := by decide +kernel
theorem dX12_asides_136 : decode cX12_asides 136 = .ok (.iconst 0, 1) := by decide +kernel
theorem dX12_asides_137 : decode cX12_asides 137 = .ok (.istore_n 2, 1) := by decide +kernel
theorem dX12_asides_138 : decode cX12_asides 138 = .ok (.iload_n 2, 1) := by decide +kernel
theorem dX12_asides_139 : decode cX12_asides 139 = .ok (.bipush 60, 2) := by decide +kernel
theorem dX12_asides_141 : decode cX12_asides 141 = .ok (.if_icmp .ge 105, 3) := by decide +kernel
theorem dX12_asides_144 : decode cX12_asides 144 = .ok (.aload_n 0, 1) := by decide +kernel
theorem dX12_asides_145 : decode cX12_asides 145 = .ok (.getfield 13, 3) := by decide +kernel
theorem dX12_asides_148 : decode cX12_asides 148 = .ok (.iload_n 2, 1) := by decide +kernel
theorem dX12_asides_149 : decode cX12_asides 149 = .ok (.aload_n 0, 1) := by decide +kernel
theorem dX12_asides_150 : decode cX12_asides 150 = .ok (.aload_n 0, 1) := by decide +kernel
theorem dX12_asides_151 : decode cX12_asides 151 = .ok (.getfield 13, 3) := by decide +kernel
theorem dX12_asides_154 : decode cX12_asides 154 = .ok (.iload_n 2, 1) := by decide +kernel
theorem dX12_asides_155 : decode cX12_asides 155 = .ok (.iaload, 1) := by decide +kernel
theorem dX12_asides_156 : decode cX12_asides 156 = .ok (.invokevirtual 447, 3) := by decide +kernel
theorem dX12_asides_159 : decode cX12_asides 159 = .ok (.iastore, 1) := by decide +kernel
theorem dX12_asides_160 : decode cX12_asides 160 = .ok (.aload_n 0, 1) := by decide +kernel
theorem dX12_asides_161 : decode cX12_asides 161 = .ok (.getfield 17, 3) := by decide +kernel
theorem dX12_asides_164 : decode cX12_asides 164 = .ok (.iload_n 2, 1) := by decide +kernel
theorem dX12_asides_165 : decode cX12_asides 165 = .ok (.aload_n 0, 1) := by decide +kernel
theorem dX12_asides_166 : decode cX12_asides 166 = .ok (.aload_n 0, 1) := by decide +kernel
theorem dX12_asides_167 : decode cX12_asides 167 = .ok (.getfield 17, 3) := by decide +kernel
theorem dX12_asides_170 : decode cX12_asides 170 = .ok (.iload_n 2, 1) := by decide +kernel
theorem dX12_asides_171 : decode cX12_asides 171 = .ok (.iaload, 1) := by decide +kernel
theorem dX12_asides_172 : decode cX12_asides 172 = .ok (.invokevirtual 447, 3) := by decide +kernel
theorem dX12_asides_175 : decode cX12_asides 175 = .ok (.iastore, 1) := by decide +kernel
theorem dX12_asides_176 : decode cX12_asides 176 = .ok (.aload_n 0, 1) := by decide +kernel
theorem dX12_asides_177 : decode cX12_asides 177 = .ok (.getfield 20, 3) := by decide +kernel
theorem dX12_asides_180 : decode cX12_asides 180 = .ok (.iload_n 2, 1) := by decide +kernel
theorem dX12_asides_181 : decode cX12_asides 181 = .ok (.aload_n 0, 1) := by decide +kernel
theorem dX12_asides_182 : decode cX12_asides 182 = .ok (.aload_n 0, 1) := by decide +kernel
theorem dX12_asides_183 : decode cX12_asides 183 = .ok (.getfield 20, 3) := by decide +kernel
theorem dX12_asides_186 : decode cX12_asides 186 = .ok (.iload_n 2, 1) := by decide +kernel
theorem dX12_asides_187 : decode cX12_asides 187 = .ok (.iaload, 1) := by decide +kernel
theorem dX12_asides_188 : decode cX12_asides 188 = .ok (.invokevirtual 447, 3) := by decide +kernel
theorem dX12_asides_191 : decode cX12_asides 191 = .ok (.iastore, 1) := by decide +kernel
theorem dX12_asides_192 : decode cX12_asides 192 = .ok (.aload_n 0, 1) := by decide +kernel
theorem dX12_asides_193 : decode cX12_asides 193 = .ok (.getfield 23, 3) := by decide +kernel
theorem dX12_asides_196 : decode cX12_asides 196 = .ok (.iload_n 2, 1) := by decide +kernel
theorem dX12_asides_197 : decode cX12_asides 197 = .ok (.aload_n 0, 1) := by decide +kernel
theorem dX12_asides_198 : decode cX12_asides 198 = .ok (.aload_n 0, 1) := by decide +kernel
theorem dX12_asides_199 : decode cX12_asides 199 = .ok (.getfield 23, 3) := by decide +kernel
theorem dX12_asides_202 : decode cX12_asides 202 = .ok (.iload_n 2, 1) := by decide +kernel
theorem dX12_asides_203 : decode cX12_asides 203 = .ok (.iaload, 1) := by decide +kernel
theorem dX12_asides_204 : decode cX12_asides 204 = .ok (.invokevirtual 447, 3) := by decide +kernel
theorem dX12_asides_207 : decode cX12_asides 207 = .ok (.iastore, 1) := by decide +kernel
theorem dX12_asides_208 : decode cX12_asides 208 = .ok (.aload_n 0, 1) := by decide +kernel
theorem dX12_asides_209 : decode cX12_asides 209 = .ok (.getfield 26, 3) := by decide +kernel
theorem dX12_asides_212 : decode cX12_asides 212 = .ok (.iload_n 2, 1) := by decide +kernel
theorem dX12_asides_213 : decode cX12_asides 213 = .ok (.aload_n 0, 1) := by decide +kernel
theorem dX12_asides_214 : decode cX12_asides 214 = .ok (.aload_n 0, 1) := by decide +kernel
theorem dX12_asides_215 : decode cX12_asides 215 = .ok (.getfield 26, 3) := by decide +kernel
theorem dX12_asides_218 : decode cX12_asides 218 = .ok (.iload_n 2, 1) := by decide +kernel
theorem dX12_asides_219 : decode cX12_asides 219 = .ok (.iaload, 1) := by decide +kernel
theorem dX12_asides_220 : decode cX12_asides 220 = .ok (.invokevirtual 447, 3) := by decide +kernel
theorem dX12_asides_223 : decode cX12_asides 223 = .ok (.iastore, 1) := by decide +kernel
theorem dX12_asides_224 : decode cX12_asides 224 = .ok (.aload_n 0, 1) := by decide +kernel
theorem dX12_asides_225 : decode cX12_asides 225 = .ok (.getfield 29, 3) := by decide +kernel
theorem dX12_asides_228 : decode cX12_asides 228 = .ok (.iload_n 2, 1) := by decide +kernel
theorem dX12_asides_229 : decode cX12_asides 229 = .ok (.aload_n 0, 1) := by decide +kernel
theorem dX12_asides_230 : decode cX12_asides 230 = .ok (.aload_n 0, 1) := by decide +kernel
theorem dX12_asides_231 : decode cX12_asides 231 = .ok (.getfield 29, 3) := by decide +kernel
theorem dX12_asides_234 : decode cX12_asides 234 = .ok (.iload_n 2, 1) := by decide +kernel
theorem dX12_asides_235 : decode cX12_asides 235 = .ok (.iaload, 1) := by decide +kernel
theorem dX12_asides_236 : decode cX12_asides 236 = .ok (.invokevirtual 447, 3) := by decide +kernel
theorem dX12_asides_239 : decode cX12_asides 239 = .ok (.iastore, 1) := by decide +kernel
theorem dX12_asides_240 : decode cX12_asides 240 = .ok (.iinc 2 1, 3) := by decide +kernel
theorem dX12_asides_243 : decode cX12_asides 243 = .ok (.goto (-105), 3) := by decide +kernel
theorem dX12_asides_246 : decode cX12_asides 246 = .ok (.return_, 1) := by decide +kernel
theorem dX12_thinks_0 : decode cX12_thinks 0 = .ok (.aload_n 0, 1) := by decide +kernel
theorem dX12_thinks_1 : decode cX12_thinks 1 = .ok (.iconst 1, 1) := by decide +kernel
theorem dX12_thinks_2 : decode cX12_thinks 2 = .ok (.invokevirtual 450, 3) := by decide +kernel
theorem dX12_thinks_5 : decode cX12_thinks 5 = .ok (.aload_n 0, 1) := by decide +kernel
theorem dX12_thinks_6 : decode cX12_thinks 6 = .ok (.getfield 358, 3) := by decide +kernel
theorem dX12_thinks_9 : decode cX12_thinks 9 = .ok (.istore 4, 2) := by decide +kernel
theorem dX12_thinks_11 : decode cX12_thinks 11 = .ok (.aload_n 0, 1) := by decide +kernel
theorem dX12_thinks_12 : decode cX12_thinks 12 = .ok (.getfield 382, 3) := by decide +kernel
theorem dX12_thinks_15 : decode cX12_thinks 15 = .ok (.istore 5, 2) := by decide +kernel
theorem dX12_thinks_17 : decode cX12_thinks 17 = .ok (.aload_n 0, 1) := by decide +kernel
theorem dX12_thinks_18 : decode cX12_thinks 18 = .ok (.getfield 361, 3) := by decide +kernel
theorem dX12_thinks_21 : decode cX12_thinks 21 = .ok (.istore 6, 2) := by decide +kernel
theorem dX12_thinks_23 : decode cX12_thinks 23 = .ok (.aload_n 0, 1) := by decide +kernel
theorem dX12_thinks_24 : decode cX12_thinks 24 = .ok (.iload_n 1, 1) := by decide +kernel
theorem dX12_thinks_25 : decode cX12_thinks 25 = .ok (.putfield 101, 3) := by decide +kernel
theorem dX12_thinks_28 : decode cX12_thinks 28 = .ok (.aload_n 0, 1) := by decide +kernel
theorem dX12_thinks_29 : decode cX12_thinks 29 = .ok (.iload_n 2, 1) := by decide +kernel
theorem dX12_thinks_30 : decode cX12_thinks 30 = .ok (.putfield 385, 3) := by decide +kernel
theorem dX12_thinks_33 : decode cX12_thinks 33 = .ok (.iconst 0, 1) := by decide +kernel
theorem dX12_thinks_34 : decode cX12_thinks 34 = .ok (.istore 7, 2) := by decide +kernel
theorem dX12_thinks_36 : decode cX12_thinks 36 = .ok (.iload 7, 2) := by decide +kernel
theorem dX12_thinks_38 : decode cX12_thinks 38 = .ok (.iload_n 3, 1) := by decide +kernel
theorem dX12_thinks_39 : decode cX12_thinks 39 = .ok (.if_icmp .ge 13, 3) := by decide +kernel
theorem dX12_thinks_42 : decode cX12_thinks 42 = .ok (.aload_n 0, 1) := by decide +kernel
theorem dX12_thinks_43 : decode cX12_thinks 43 = .ok (.invokevirtual 391, 3) := by decide +kernel
theorem dX12_thinks_46 : decode cX12_thinks 46 = .ok (.iinc 7 1, 3) := by decide +kernel
theorem dX12_thinks_49 : decode cX12_thinks 49 = .ok (.goto (-13), 3) := by decide +kernel
theorem dX12_thinks_52 : decode cX12_thinks 52 = .ok (.aload_n 0, 1) := by decide +kernel
theorem dX12_thinks_53 : decode cX12_thinks 53 = .ok (.aload_n 0, 1) := by decide +kernel
theorem dX12_thinks_54 : decode cX12_thinks 54 = .ok (.getfield 358, 3) := by decide +kernel
theorem dX12_thinks_57 : decode cX12_thinks 57 = .ok (.iload 4, 2) := by decide +kernel
theorem dX12_thinks_59 : decode cX12_thinks 59 = .ok (.isub, 1) := by decide +kernel
theorem dX12_thinks_60 : decode cX12_thinks 60 = .ok (.putfield 454, 3) := by decide +kernel
theorem dX12_thinks_63 : decode cX12_thinks 63 = .ok (.aload_n 0, 1) := by decide +kernel
theorem dX12_thinks_64 : decode cX12_thinks 64 = .ok (.aload_n 0, 1) := by decide +kernel
theorem dX12_thinks_65 : decode cX12_thinks 65 = .ok (.getfield 382, 3) := by decide +kernel
theorem dX12_thinks_68 : decode cX12_thinks 68 = .ok (.iload 5, 2) := by decide +kernel
theorem dX12_thinks_70 : decode cX12_thinks 70 = .ok (.isub, 1) := by decide +kernel
theorem dX12_thinks_71 : decode cX12_thinks 71 = .ok (.putfield 457, 3) := by decide +kernel
theorem dX12_thinks_74 : decode cX12_thinks 74 = .ok (.aload_n 0, 1) := by decide +kernel
theorem dX12_thinks_75 : decode cX12_thinks 75 = .ok (.aload_n 0, 1) := by decide +kernel
theorem dX12_thinks_76 : decode cX12_thinks 76 = .ok (.getfield 361, 3) := by decide +kernel
theorem dX12_thinks_79 : decode cX12_thinks 79 = .ok (.iload 6, 2) := by decide +kernel
theorem dX12_thinks_81 : decode cX12_thinks 81 = .ok (.isub, 1) := by decide +kernel
theorem dX12_thinks_82 : decode cX12_thinks 82 = .ok (.putfield 460, 3) := by decide +kernel
theorem dX12_thinks_85 : decode cX12_thinks 85 = .ok (.aload_n 0, 1) := by decide +kernel
theorem dX12_thinks_86 : decode cX12_thinks 86 = .ok (.iconst 0, 1) := by decide +kernel
theorem dX12_thinks_87 : decode cX12_thinks 87 = .ok (.invokevirtual 450, 3) := by decide +kernel
theorem dX12_thinks_90 : decode cX12_thinks 90 = .ok (.return_, 1) := by decide +kernel
theorem dX12_thought_0 : decode cX12_thought 0 = .ok (.aload_n 0, 1) := by decide +kernel
theorem dX12_thought_1 : decode cX12_thought 1 = .ok (.iconst 0, 1) := by decide +kernel
theorem dX12_thought_2 : decode cX12_thought 2 = .ok (.putfield 166, 3) := by decide +kernel
theorem dX12_thought_5 : decode cX12_thought 5 = .ok (.aload_n 0, 1) := by decide +kernel
theorem dX12_thought_6 : decode cX12_thought 6 = .ok (.iload_n 1, 1) := by decide +kernel
theorem dX12_thought_7 : decode cX12_thought 7 = .ok (.iconst 1, 1) := by decide +kernel
theorem dX12_thought_8 : decode cX12_thought 8 = .ok (.iconst 2, 1) := by decide +kernel
theorem dX12_thought_9 : decode cX12_thought 9 = .ok (.invokevirtual 174, 3) := by decide +kernel
theorem dX12_thought_12 : decode cX12_thought 12 = .ok (.ifCond .eq 36, 3) := by decide +kernel
theorem dX12_thought_15 : decode cX12_thought 15 = .ok (.aload_n 0, 1) := by decide +kernel
theorem dX12_thought_16 : decode cX12_thought 16 = .ok (.iload_n 2, 1) := by decide +kernel
theorem dX12_thought_17 : decode cX12_thought 17 = .ok (.iconst 1, 1) := by decide +kernel
theorem dX12_thought_18 : decode cX12_thought 18 = .ok (.bipush 99, 2) := by decide +kernel
theorem dX12_thought_20 : decode cX12_thought 20 = .ok (.invokevirtual 174, 3) := by decide +kernel
theorem dX12_thought_23 : decode cX12_thought 23 = .ok (.ifCond .eq 25, 3) := by decide +kernel
theorem dX12_thought_26 : decode cX12_thought 26 = .ok (.aload_n 0, 1) := by decide +kernel
theorem dX12_thought_27 : decode cX12_thought 27 = .ok (.iload_n 3, 1) := by decide +kernel
theorem dX12_thought_28 : decode cX12_thought 28 = .ok (.iconst 1, 1) := by decide +kernel
theorem dX12_thought_29 : decode cX12_thought 29 = .ok (.bipush 99, 2) := by decide +kernel
theorem dX12_thought_31 : decode cX12_thought 31 = .ok (.invokevirtual 174, 3) := by decide +kernel
theorem dX12_thought_34 : decode cX12_thought 34 = .ok (.ifCond .eq 14, 3) := by decide +kernel
theorem dX12_thought_37 : decode cX12_thought 37 = .ok (.aload_n 0, 1) := by decide +kernel
theorem dX12_thought_38 : decode cX12_thought 38 = .ok (.iload 4, 2) := by decide +kernel
theorem dX12_thought_40 : decode cX12_thought 40 = .ok (.iconst 0, 1) := by decide +kernel
theorem dX12_thought_41 : decode cX12_thought 41 = .ok (.iconst 2, 1) := by decide +kernel
theorem dX12_thought_42 : decode cX12_thought 42 = .ok (.invokevirtual 174, 3) := by decide +kernel
theorem dX12_thought_45 : decode cX12_thought 45 = .ok (.ifCond .ne 5, 3) := by decide +kernel
theorem dX12_thought_48 : decode cX12_thought 48 = .ok (.iconst (-1), 1) := by decide +kernel
theorem dX12_thought_49 : decode cX12_thought 49 = .ok (.ireturn, 1) := by decide +kernel
theorem dX12_thought_50 : decode cX12_thought 50 = .ok (.aload_n 0, 1) := by decide +kernel
theorem dX12_thought_51 : decode cX12_thought 51 = .ok (.iload_n 1, 1) := by decide +kernel
theorem dX12_thought_52 : decode cX12_thought 52 = .ok (.iload_n 2, 1) := by decide +kernel
theorem dX12_thought_53 : decode cX12_thought 53 = .ok (.iload_n 3, 1) := by decide +kernel
theorem dX12_thought_54 : decode cX12_thought 54 = .ok (.invokevirtual 463, 3) := by decide +kernel
theorem dX12_thought_57 : decode cX12_thought 57 = .ok (.iload 4, 2) := by decide +kernel
theorem dX12_thought_59 : decode cX12_thought 59 = .ok (.ifCond .ne 10, 3) := by decide +kernel
theorem dX12_thought_62 : decode cX12_thought 62 = .ok (.aload_n 0, 1) := by decide +kernel
theorem dX12_thought_63 : decode cX12_thought 63 = .ok (.getfield 454, 3) := by decide +kernel
theorem dX12_thought_66 : decode cX12_thought 66 = .ok (.goto 20, 3) := by decide +kernel
theorem dX12_thought_69 : decode cX12_thought 69 = .ok (.iload 4, 2) := by decide +kernel
theorem dX12_thought_71 : decode cX12_thought 71 = .ok (.iconst 1, 1) := by decide +kernel
theorem dX12_thought_72 : decode cX12_thought 72 = .ok (.if_icmp .ne 10, 3) := by decide +kernel
theorem dX12_thought_75 : decode cX12_thought 75 = .ok (.aload_n 0, 1) := by decide +kernel
theorem dX12_thought_76 : decode cX12_thought 76 = .ok (.getfield 457, 3) := by decide +kernel
theorem dX12_thought_79 : decode cX12_thought 79 = .ok (.goto 7, 3) := by decide +kernel
theorem dX12_thought_82 : decode cX12_thought 82 = .ok (.aload_n 0, 1) := by decide +kernel
theorem dX12_thought_83 : decode cX12_thought 83 = .ok (.getfield 460, 3) := by decide +kernel
theorem dX12_thought_86 : decode cX12_thought 86 = .ok (.ireturn, 1) := by decide +kernel
theorem dX12_often_0 : decode cX12_often 0 = .ok (.aload_n 0, 1) := by decide +kernel
theorem dX12_often_1 : decode cX12_often 1 = .ok (.iconst 0, 1) := by decide +kernel
theorem dX12_often_2 : decode cX12_often 2 = .ok (.putfield 166, 3) := by decide +kernel
theorem dX12_often_5 : decode cX12_often 5 = .ok (.aload_n 0, 1) := by decide +kernel
theorem dX12_often_6 : decode cX12_often 6 = .ok (.iload_n 1, 1) := by decide +kernel
theorem dX12_often_7 : decode cX12_often 7 = .ok (.iconst 1, 1) := by decide +kernel
theorem dX12_often_8 : decode cX12_often 8 = .ok (.bipush 99, 2) := by decide +kernel
theorem dX12_often_10 : decode cX12_often 10 = .ok (.invokevirtual 174, 3) := by decide +kernel
theorem dX12_often_13 : decode cX12_often 13 = .ok (.ifCond .eq 13, 3) := by decide +kernel
theorem dX12_often_16 : decode cX12_often 16 = .ok (.aload_n 0, 1) := by decide +kernel
theorem dX12_often_17 : decode cX12_often 17 = .ok (.iload_n 2, 1) := by decide +kernel
theorem dX12_often_18 : decode cX12_often 18 = .ok (.iconst 0, 1) := by decide +kernel
theorem dX12_often_19 : decode cX12_often 19 = .ok (.iconst 1, 1) := by decide +kernel
theorem dX12_often_20 : decode cX12_often 20 = .ok (.invokevirtual 174, 3) := by decide +kernel
theorem dX12_often_23 : decode cX12_often 23 = .ok (.ifCond .ne 5, 3) := by decide +kernel
theorem dX12_often_26 : decode cX12_often 26 = .ok (.iconst (-1), 1) := by decide +kernel
theorem dX12_often_27 : decode cX12_often 27 = .ok (.ireturn, 1) := by decide +kernel
theorem dX12_often_28 : decode cX12_often 28 = .ok (.iconst 1, 1) := by decide +kernel
theorem dX12_often_29 : decode cX12_often 29 = .ok (.istore_n 3, 1) := by decide +kernel
theorem dX12_often_30 : decode cX12_often 30 = .ok (.aload_n 0, 1) := by decide +kernel
theorem dX12_often_31 : decode cX12_often 31 = .ok (.iconst 1, 1) := by decide +kernel
theorem dX12_often_32 : decode cX12_often 32 = .ok (.iload_n 2, 1) := by decide +kernel
theorem dX12_often_33 : decode cX12_often 33 = .ok (.ifCond .ne 7, 3) := by decide +kernel
theorem dX12_often_36 : decode cX12_often 36 = .ok (.iconst 1, 1) := by decide +kernel
theorem dX12_often_37 : decode cX12_often 37 = .ok (.goto 9, 3) := by decide +kernel
theorem dX12_often_40 : decode cX12_often 40 = .ok (.aload_n 0, 1) := by decide +kernel
theorem dX12_often_41 : decode cX12_often 41 = .ok (.getfield 38, 3) := by decide +kernel
theorem dX12_often_44 : decode cX12_often 44 = .ok (.iconst 3, 1) := by decide +kernel
theorem dX12_often_45 : decode cX12_often 45 = .ok (.iaload, 1) := by decide +kernel
theorem dX12_often_46 : decode cX12_often 46 = .ok (.iload_n 1, 1) := by decide +kernel
theorem dX12_often_47 : decode cX12_often 47 = .ok (.invokevirtual 463, 3) := by decide +kernel
theorem dX12_often_50 : decode cX12_often 50 = .ok (.aload_n 0, 1) := by decide +kernel
theorem dX12_often_51 : decode cX12_often 51 = .ok (.getfield 454, 3) := by decide +kernel
theorem dX12_often_54 : decode cX12_often 54 = .ok (.istore 4, 2) := by decide +kernel
theorem dX12_often_56 : decode cX12_often 56 = .ok (.iload_n 2, 1) := by decide +kernel
theorem dX12_often_57 : decode cX12_often 57 = .ok (.iconst 1, 1) := by decide +kernel
theorem dX12_often_58 : decode cX12_often 58 = .ok (.if_icmp .ne 30, 3) := by decide +kernel
theorem dX12_often_61 : decode cX12_often 61 = .ok (.aload_n 0, 1) := by decide +kernel
theorem dX12_often_62 : decode cX12_often 62 = .ok (.iconst 2, 1) := by decide +kernel
theorem dX12_often_63 : decode cX12_often 63 = .ok (.aload_n 0, 1) := by decide +kernel
theorem dX12_often_64 : decode cX12_often 64 = .ok (.getfield 38, 3) := by decide +kernel
theorem dX12_often_67 : decode cX12_often 67 = .ok (.iconst 3, 1) := by decide +kernel
theorem dX12_often_68 : decode cX12_often 68 = .ok (.iaload, 1) := by decide +kernel
theorem dX12_often_69 : decode cX12_often 69 = .ok (.iload_n 1, 1) := by decide +kernel
theorem dX12_often_70 : decode cX12_often 70 = .ok (.invokevirtual 463, 3) := by decide +kernel
theorem dX12_often_73 : decode cX12_often 73 = .ok (.aload_n 0, 1) := by decide +kernel
theorem dX12_often_74 : decode cX12_often 74 = .ok (.getfield 454, 3) := by decide +kernel
theorem dX12_often_77 : decode cX12_often 77 = .ok (.iload 4, 2) := by decide +kernel
theorem dX12_often_79 : decode cX12_often 79 = .ok (.if_icmp .ge 7, 3) := by decide +kernel
theorem dX12_often_82 : decode cX12_often 82 = .ok (.iconst 2, 1) := by decide +kernel
theorem dX12_often_83 : decode cX12_often 83 = .ok (.goto 4, 3) := by decide +kernel
theorem dX12_often_86 : decode cX12_often 86 = .ok (.iconst 1, 1) := by decide +kernel
theorem dX12_often_87 : decode cX12_often 87 = .ok (.ireturn, 1) := by decide +kernel
theorem dX12_often_88 : decode cX12_often 88 = .ok (.iconst 2, 1) := by decide +kernel
theorem dX12_often_89 : decode cX12_often 89 = .ok (.istore 5, 2) := by decide +kernel
theorem dX12_often_91 : decode cX12_often 91 = .ok (.iload 5, 2) := by decide +kernel
theorem dX12_often_93 : decode cX12_often 93 = .ok (.bipush 9, 2) := by decide +kernel
theorem dX12_often_95 : decode cX12_often 95 = .ok (.if_icmp .gt 38, 3) := by decide +kernel
theorem dX12_often_98 : decode cX12_often 98 = .ok (.aload_n 0, 1) := by decide +kernel
theorem dX12_often_99 : decode cX12_often 99 = .ok (.iconst 1, 1) := by decide +kernel
theorem dX12_often_100 : decode cX12_often 100 = .ok (.iload 5, 2) := by decide +kernel
theorem dX12_often_102 : decode cX12_often 102 = .ok (.iload_n 1, 1) := by decide +kernel
theorem dX12_often_103 : decode cX12_often 103 = .ok (.invokevirtual 463, 3) := by decide +kernel
theorem dX12_often_106 : decode cX12_often 106 = .ok (.aload_n 0, 1) := by decide +kernel
theorem dX12_often_107 : decode cX12_often 107 = .ok (.getfield 454, 3) := by decide +kernel
theorem dX12_often_110 : decode cX12_often 110 = .ok (.iload 4, 2) := by decide +kernel
theorem dX12_often_112 : decode cX12_often 112 = .ok (.if_icmp .le 6, 3) := by decide +kernel
theorem dX12_often_115 : decode cX12_often 115 = .ok (.goto 12, 3) := by decide +kernel
theorem dX12_often_118 : decode cX12_often 118 = .ok (.iload 5, 2) := by decide +kernel
theorem dX12_often_120 : decode cX12_often 120 = .ok (.istore_n 3, 1) := by decide +kernel
theorem dX12_often_121 : decode cX12_often 121 = .ok (.aload_n 0, 1) := by decide +kernel
theorem dX12_often_122 : decode cX12_often 122 = .ok (.getfield 454, 3) := by decide +kernel
theorem dX12_often_125 : decode cX12_often 125 = .ok (.istore 4, 2) := by decide +kernel
theorem dX12_often_127 : decode cX12_often 127 = .ok (.iinc 5 1, 3) := by decide +kernel
theorem dX12_often_130 : decode cX12_often 130 = .ok (.goto (-39), 3) := by decide +kernel
theorem dX12_often_133 : decode cX12_often 133 = .ok (.iload_n 3, 1) := by decide +kernel
theorem dX12_often_134 : decode cX12_often 134 = .ok (.ireturn, 1) := by decide +kernel
theorem dX12_nine_0 : decode cX12_nine 0 = .ok (.aload_n 0, 1) := by decide +kernel
theorem dX12_nine_1 : decode cX12_nine 1 = .ok (.iconst 0, 1) := by decide +kernel
theorem dX12_nine_2 : decode cX12_nine 2 = .ok (.putfield 166, 3) := by decide +kernel
theorem dX12_nine_5 : decode cX12_nine 5 = .ok (.aload_n 0, 1) := by decide +kernel
theorem dX12_nine_6 : decode cX12_nine 6 = .ok (.iload_n 1, 1) := by decide +kernel
theorem dX12_nine_7 : decode cX12_nine 7 = .ok (.iconst 1, 1) := by decide +kernel
theorem dX12_nine_8 : decode cX12_nine 8 = .ok (.bipush 99, 2) := by decide +kernel
theorem dX12_nine_10 : decode cX12_nine 10 = .ok (.invokevirtual 174, 3) := by decide +kernel
theorem dX12_nine_13 : decode cX12_nine 13 = .ok (.ifCond .ne 5, 3) := by decide +kernel
theorem dX12_nine_16 : decode cX12_nine 16 = .ok (.iconst (-1), 1) := by decide +kernel
theorem dX12_nine_17 : decode cX12_nine 17 = .ok (.ireturn, 1) := by decide +kernel
theorem dX12_nine_18 : decode cX12_nine 18 = .ok (.aload_n 0, 1) := by decide +kernel
theorem dX12_nine_19 : decode cX12_nine 19 = .ok (.invokevirtual 406, 3) := by decide +kernel
theorem dX12_nine_22 : decode cX12_nine 22 = .ok (.ldc2_w 467, 3) := by decide +kernel
theorem dX12_nine_25 : decode cX12_nine 25 = .ok (.ldiv, 1) := by decide +kernel
theorem dX12_nine_26 : decode cX12_nine 26 = .ok (.lstore_n 2, 1) := by decide +kernel
theorem dX12_nine_27 : decode cX12_nine 27 = .ok (.ldc2_w 467, 3) := by decide +kernel
theorem dX12_nine_30 : decode cX12_nine 30 = .ok (.lstore 4, 2) := by decide +kernel
theorem dX12_nine_32 : decode cX12_nine 32 = .ok (.iconst 0, 1) := by decide +kernel
theorem dX12_nine_33 : decode cX12_nine 33 = .ok (.istore 6, 2) := by decide +kernel
theorem dX12_nine_35 : decode cX12_nine 35 = .ok (.iload 6, 2) := by decide +kernel
theorem dX12_nine_37 : decode cX12_nine 37 = .ok (.iload_n 1, 1) := by decide +kernel
theorem dX12_nine_38 : decode cX12_nine 38 = .ok (.if_icmp .ge 23, 3) := by decide +kernel
theorem dX12_nine_41 : decode cX12_nine 41 = .ok (.lload 4, 2) := by decide +kernel
theorem dX12_nine_43 : decode cX12_nine 43 = .ok (.ldc2_w 467, 3) := by decide +kernel
theorem dX12_nine_46 : decode cX12_nine 46 = .ok (.lload_n 2, 1) := by decide +kernel
theorem dX12_nine_47 : decode cX12_nine 47 = .ok (.lsub, 1) := by decide +kernel
theorem dX12_nine_48 : decode cX12_nine 48 = .ok (.lmul, 1) := by decide +kernel
theorem dX12_nine_49 : decode cX12_nine 49 = .ok (.ldc2_w 467, 3) := by decide +kernel
theorem dX12_nine_52 : decode cX12_nine 52 = .ok (.ldiv, 1) := by decide +kernel
theorem dX12_nine_53 : decode cX12_nine 53 = .ok (.lstore 4, 2) := by decide +kernel
theorem dX12_nine_55 : decode cX12_nine 55 = .ok (.iinc 6 1, 3) := by decide +kernel
theorem dX12_nine_58 : decode cX12_nine 58 = .ok (.goto (-23), 3) := by decide +kernel
theorem dX12_nine_61 : decode cX12_nine 61 = .ok (.lload 4, 2) := by decide +kernel
theorem dX12_nine_63 : decode cX12_nine 63 = .ok (.l2i, 1) := by decide +kernel
theorem dX12_nine_64 : decode cX12_nine 64 = .ok (.ireturn, 1) := by decide +kernel
theorem dX12_keptText_0 : decode cX12_keptText 0 = .ok (.aload_n 0, 1) := by decide +kernel
theorem dX12_keptText_1 : decode cX12_keptText 1 = .ok (.aload_n 0, 1) := by decide +kernel
theorem dX12_keptText_2 : decode cX12_keptText 2 = .ok (.getfield 469, 3) := by decide +kernel
theorem dX12_keptText_5 : decode cX12_keptText 5 = .ok (.iconst 1, 1) := by decide +kernel
theorem dX12_keptText_6 : decode cX12_keptText 6 = .ok (.iadd, 1) := by decide +kernel
theorem dX12_keptText_7 : decode cX12_keptText 7 = .ok (.putfield 469, 3) := by decide +kernel
theorem dX12_keptText_10 : decode cX12_keptText 10 = .ok (.aload_n 0, 1) := by decide +kernel
theorem dX12_keptText_11 : decode cX12_keptText 11 = .ok (.getfield 444, 3) := by decide +kernel
theorem dX12_keptText_14 : decode cX12_keptText 14 = .ok (.ifCond .ne 15, 3) := by decide +kernel
theorem dX12_keptText_17 : decode cX12_keptText 17 = .ok (.aload_n 0, 1) := by decide +kernel
theorem dX12_keptText_18 : decode cX12_keptText 18 = .ok (.getfield 163, 3) := by decide +kernel
theorem dX12_keptText_21 : decode cX12_keptText 21 = .ok (.aload_n 0, 1) := by decide +kernel
theorem dX12_keptText_22 : decode cX12_keptText 22 = .ok (.getfield 469, 3) := by decide +kernel
theorem dX12_keptText_25 : decode cX12_keptText 25 = .ok (.iconst 1, 1) := by decide +kernel
theorem dX12_keptText_26 : decode cX12_keptText 26 = .ok (.isub, 1) := by decide +kernel
theorem dX12_keptText_27 : decode cX12_keptText 27 = .ok (.iaload, 1) := by decide +kernel
theorem dX12_keptText_28 : decode cX12_keptText 28 = .ok (.ireturn, 1) := by decide +kernel
theorem dX12_keptText_29 : decode cX12_keptText 29 = .ok (.aload_n 0, 1) := by decide +kernel
theorem dX12_keptText_30 : decode cX12_keptText 30 = .ok (.getfield 163, 3) := by decide +kernel
theorem dX12_keptText_33 : decode cX12_keptText 33 = .ok (.aload_n 0, 1) := by decide +kernel
theorem dX12_keptText_34 : decode cX12_keptText 34 = .ok (.getfield 469, 3) := by decide +kernel
theorem dX12_keptText_37 : decode cX12_keptText 37 = .ok (.iconst 1, 1) := by decide +kernel
theorem dX12_keptText_38 : decode cX12_keptText 38 = .ok (.isub, 1) := by decide +kernel
theorem dX12_keptText_39 : decode cX12_keptText 39 = .ok (.iload_n 1, 1) := by decide +kernel
theorem dX12_keptText_40 : decode cX12_keptText 40 = .ok (.iastore, 1) := by decide +kernel
theorem dX12_keptText_41 : decode cX12_keptText 41 = .ok (.iload_n 1, 1) := by decide +kernel
theorem dX12_keptText_42 : decode cX12_keptText 42 = .ok (.ireturn, 1) := by decide +kernel
theorem dX12_keepsTexts_0 : decode cX12_keepsTexts 0 = .ok (.aload_n 0, 1) := by decide +kernel
theorem dX12_keepsTexts_1 : decode cX12_keepsTexts 1 = .ok (.iconst 0, 1) := by decide +kernel
theorem dX12_keepsTexts_2 : decode cX12_keepsTexts 2 = .ok (.putfield 469, 3) := by decide +kernel
theorem dX12_keepsTexts_5 : decode cX12_keepsTexts 5 = .ok (.iconst 0, 1) := by decide +kernel
theorem dX12_keepsTexts_6 : decode cX12_keepsTexts 6 = .ok (.istore_n 1, 1) := by decide +kernel
theorem dX12_keepsTexts_7 : decode cX12_keepsTexts 7 = .ok (.iload_n 1, 1) := by decide +kernel
theorem dX12_keepsTexts_8 : decode cX12_keepsTexts 8 = .ok (.iconst 3, 1) := by decide +kernel
theorem dX12_keepsTexts_9 : decode cX12_keepsTexts 9 = .ok (.if_icmp .ge 25, 3) := by decide +kernel
theorem dX12_keepsTexts_12 : decode cX12_keepsTexts 12 = .ok (.aload_n 0, 1) := by decide +kernel
theorem dX12_keepsTexts_13 : decode cX12_keepsTexts 13 = .ok (.getfield 50, 3) := by decide +kernel
theorem dX12_keepsTexts_16 : decode cX12_keepsTexts 16 = .ok (.iload_n 1, 1) := by decide +kernel
theorem dX12_keepsTexts_17 : decode cX12_keepsTexts 17 = .ok (.aload_n 0, 1) := by decide +kernel
theorem dX12_keepsTexts_18 : decode cX12_keepsTexts 18 = .ok (.aload_n 0, 1) := by decide +kernel
theorem dX12_keepsTexts_19 : decode cX12_keepsTexts 19 = .ok (.getfield 50, 3) := by decide +kernel
theorem dX12_keepsTexts_22 : decode cX12_keepsTexts 22 = .ok (.iload_n 1, 1) := by decide +kernel
theorem dX12_keepsTexts_23 : decode cX12_keepsTexts 23 = .ok (.iaload, 1) := by decide +kernel
theorem dX12_keepsTexts_24 : decode cX12_keepsTexts 24 = .ok (.invokevirtual 472, 3) := by decide +kernel
theorem dX12_keepsTexts_27 : decode cX12_keepsTexts 27 = .ok (.iastore, 1) := by decide +kernel
theorem dX12_keepsTexts_28 : decode cX12_keepsTexts 28 = .ok (.iinc 1 1, 3) := by decide +kernel
theorem dX12_keepsTexts_31 : decode cX12_keepsTexts 31 = .ok (.goto (-24), 3) := by decide +kernel
theorem dX12_keepsTexts_34 : decode cX12_keepsTexts 34 = .ok (.iconst 0, 1) := by decide +kernel
theorem dX12_keepsTexts_35 : decode cX12_keepsTexts 35 = .ok (.istore_n 1, 1) := by decide +kernel
theorem dX12_keepsTexts_36 : decode cX12_keepsTexts 36 = .ok (.iload_n 1, 1) := by decide +kernel
theorem dX12_keepsTexts_37 : decode cX12_keepsTexts 37 = .ok (.bipush 48, 2) := by decide +kernel
theorem dX12_keepsTexts_39 : decode cX12_keepsTexts 39 = .ok (.if_icmp .ge 57, 3) := by decide +kernel
theorem dX12_keepsTexts_42 : decode cX12_keepsTexts 42 = .ok (.aload_n 0, 1) := by decide +kernel
theorem dX12_keepsTexts_43 : decode cX12_keepsTexts 43 = .ok (.getfield 53, 3) := by decide +kernel
theorem dX12_keepsTexts_46 : decode cX12_keepsTexts 46 = .ok (.iload_n 1, 1) := by decide +kernel
theorem dX12_keepsTexts_47 : decode cX12_keepsTexts 47 = .ok (.aload_n 0, 1) := by decide +kernel
theorem dX12_keepsTexts_48 : decode cX12_keepsTexts 48 = .ok (.aload_n 0, 1) := by decide +kernel
theorem dX12_keepsTexts_49 : decode cX12_keepsTexts 49 = .ok (.getfield 53, 3) := by decide +kernel
theorem dX12_keepsTexts_52 : decode cX12_keepsTexts 52 = .ok (.iload_n 1, 1) := by decide +kernel
theorem dX12_keepsTexts_53 : decode cX12_keepsTexts 53 = .ok (.iaload, 1) := by decide +kernel
theorem dX12_keepsTexts_54 : decode cX12_keepsTexts 54 = .ok (.invokevirtual 472, 3) := by decide +kernel
theorem dX12_keepsTexts_57 : decode cX12_keepsTexts 57 = .ok (.iastore, 1) := by decide +kernel
theorem dX12_keepsTexts_58 : decode cX12_keepsTexts 58 = .ok (.aload_n 0, 1) := by decide +kernel
theorem dX12_keepsTexts_59 : decode cX12_keepsTexts 59 = .ok (.getfield 56, 3) := by decide +kernel
theorem dX12_keepsTexts_62 : decode cX12_keepsTexts 62 = .ok (.iload_n 1, 1) := by decide +kernel
theorem dX12_keepsTexts_63 : decode cX12_keepsTexts 63 = .ok (.aload_n 0, 1) := by decide +kernel
theorem dX12_keepsTexts_64 : decode cX12_keepsTexts 64 = .ok (.aload_n 0, 1) := by decide +kernel
theorem dX12_keepsTexts_65 : decode cX12_keepsTexts 65 = .ok (.getfield 56, 3) := by decide +kernel
theorem dX12_keepsTexts_68 : decode cX12_keepsTexts 68 = .ok (.iload_n 1, 1) := by decide +kernel
theorem dX12_keepsTexts_69 : decode cX12_keepsTexts 69 = .ok (.iaload, 1) := by decide +kernel
theorem dX12_keepsTexts_70 : decode cX12_keepsTexts 70 = .ok (.invokevirtual 472, 3) := by decide +kernel
theorem dX12_keepsTexts_73 : decode cX12_keepsTexts 73 = .ok (.iastore, 1) := by decide +kernel
theorem dX12_keepsTexts_74 : decode cX12_keepsTexts 74 = .ok (.aload_n 0, 1) := by decide +kernel
theorem dX12_keepsTexts_75 : decode cX12_keepsTexts 75 = .ok (.getfield 59, 3) := by decide +kernel
theorem dX12_keepsTexts_78 : decode cX12_keepsTexts 78 = .ok (.iload_n 1, 1) := by decide +kernel
theorem dX12_keepsTexts_79 : decode cX12_keepsTexts 79 = .ok (.aload_n 0, 1) := by decide +kernel
theorem dX12_keepsTexts_80 : decode cX12_keepsTexts 80 = .ok (.aload_n 0, 1) := by decide +kernel
theorem dX12_keepsTexts_81 : decode cX12_keepsTexts 81 = .ok (.getfield 59, 3) := by decide +kernel
theorem dX12_keepsTexts_84 : decode cX12_keepsTexts 84 = .ok (.iload_n 1, 1) := by decide +kernel
theorem dX12_keepsTexts_85 : decode cX12_keepsTexts 85 = .ok (.iaload, 1) := by decide +kernel
theorem dX12_keepsTexts_86 : decode cX12_keepsTexts 86 = .ok (.invokevirtual 472, 3) := by decide +kernel
theorem dX12_keepsTexts_89 : decode cX12_keepsTexts 89 = .ok (.iastore, 1) := by decide +kernel
theorem dX12_keepsTexts_90 : decode cX12_keepsTexts 90 = .ok (.iinc 1 1, 3) := by decide +kernel
theorem dX12_keepsTexts_93 : decode cX12_keepsTexts 93 = .ok (.goto (-57), 3) := by decide +kernel
theorem dX12_keepsTexts_96 : decode cX12_keepsTexts 96 = .ok (.iconst 0, 1) := by decide +kernel
theorem dX12_keepsTexts_97 : decode cX12_keepsTexts 97 = .ok (.istore_n 1, 1) := by decide +kernel
theorem dX12_keepsTexts_98 : decode cX12_keepsTexts 98 = .ok (.iload_n 1, 1) := by decide +kernel
theorem dX12_keepsTexts_99 : decode cX12_keepsTexts 99 = .ok (.sipush 1500, 3) := by decide +kernel
theorem dX12_keepsTexts_102 : decode cX12_keepsTexts 102 = .ok (.if_icmp .ge 41, 3) := by decide +kernel
theorem dX12_keepsTexts_105 : decode cX12_keepsTexts 105 = .ok (.aload_n 0, 1) := by decide +kernel
theorem dX12_keepsTexts_106 : decode cX12_keepsTexts 106 = .ok (.getfield 62, 3) := by decide +kernel
theorem dX12_keepsTexts_109 : decode cX12_keepsTexts 109 = .ok (.iload_n 1, 1) := by decide +kernel
theorem dX12_keepsTexts_110 : decode cX12_keepsTexts 110 = .ok (.aload_n 0, 1) := by decide +kernel
theorem dX12_keepsTexts_111 : decode cX12_keepsTexts 111 = .ok (.aload_n 0, 1) := by decide +kernel
theorem dX12_keepsTexts_112 : decode cX12_keepsTexts 112 = .ok (.getfield 62, 3) := by decide +kernel
theorem dX12_keepsTexts_115 : decode cX12_keepsTexts 115 = .ok (.iload_n 1, 1) := by decide +kernel
theorem dX12_keepsTexts_116 : decode cX12_keepsTexts 116 = .ok (.iaload, 1) := by decide +kernel
theorem dX12_keepsTexts_117 : decode cX12_keepsTexts 117 = .ok (.invokevirtual 472, 3) := by decide +kernel
theorem dX12_keepsTexts_120 : decode cX12_keepsTexts 120 = .ok (.iastore, 1) := by decide +kernel
theorem dX12_keepsTexts_121 : decode cX12_keepsTexts 121 = .ok (.aload_n 0, 1) := by decide +kernel
theorem dX12_keepsTexts_122 : decode cX12_keepsTexts 122 = .ok (.getfield 65, 3) := by decide +kernel
theorem dX12_keepsTexts_125 : decode cX12_keepsTexts 125 = .ok (.iload_n 1, 1) := by decide +kernel
theorem dX12_keepsTexts_126 : decode cX12_keepsTexts 126 = .ok (.aload_n 0, 1) := by decide +kernel
theorem dX12_keepsTexts_127 : decode cX12_keepsTexts 127 = .ok (.aload_n 0, 1) := by decide +kernel
theorem dX12_keepsTexts_128 : decode cX12_keepsTexts 128 = .ok (.getfield 65, 3) := by decide +kernel
theorem dX12_keepsTexts_131 : decode cX12_keepsTexts 131 = .ok (.iload_n 1, 1) := by decide +kernel
theorem dX12_keepsTexts_132 : decode cX12_keepsTexts 132 = .ok (.iaload, 1) := by decide +kernel
theorem dX12_keepsTexts_133 : decode cX12_keepsTexts 133 = .ok (.invokevirtual 472, 3) := by decide +kernel
theorem dX12_keepsTexts_136 : decode cX12_keepsTexts 136 = .ok (.iastore, 1) := by decide +kernel
theorem dX12_keepsTexts_137 : decode cX12_keepsTexts 137 = .ok (.iinc 1 1, 3) := by decide +kernel
theorem dX12_keepsTexts_140 : decode cX12_keepsTexts 140 = .ok (.goto (-42), 3) := by decide +kernel
theorem dX12_keepsTexts_143 : decode cX12_keepsTexts 143 = .ok (.aload_n 0, 1) := by decide +kernel
theorem dX12_keepsTexts_144 : decode cX12_keepsTexts 144 = .ok (.aload_n 0, 1) := by decide +kernel
theorem dX12_keepsTexts_145 : decode cX12_keepsTexts 145 = .ok (.aload_n 0, 1) := by decide +kernel
theorem dX12_keepsTexts_146 : decode cX12_keepsTexts 146 = .ok (.getfield 300, 3) := by decide +kernel
theorem dX12_keepsTexts_149 : decode cX12_keepsTexts 149 = .ok (.invokevirtual 472, 3) := by decide +kernel
theorem dX12_keepsTexts_152 : decode cX12_keepsTexts 152 = .ok (.putfield 300, 3) := by decide +kernel
theorem dX12_keepsTexts_155 : decode cX12_keepsTexts 155 = .ok (.iconst 0, 1) := by decide +kernel
theorem dX12_keepsTexts_156 : decode cX12_keepsTexts 156 = .ok (.istore_n 1, 1) := by decide +kernel
theorem dX12_keepsTexts_157 : decode cX12_keepsTexts 157 = .ok (.iload_n 1, 1) := by decide +kernel
theorem dX12_keepsTexts_158 : decode cX12_keepsTexts 158 = .ok (.bipush 8, 2) := by decide +kernel
theorem dX12_keepsTexts_160 : decode cX12_keepsTexts 160 = .ok (.if_icmp .ge 57, 3) := by decide +kernel
theorem dX12_keepsTexts_163 : decode cX12_keepsTexts 163 = .ok (.aload_n 0, 1) := by decide +kernel
theorem dX12_keepsTexts_164 : decode cX12_keepsTexts 164 = .ok (.getfield 74, 3) := by decide +kernel
theorem dX12_keepsTexts_167 : decode cX12_keepsTexts 167 = .ok (.iload_n 1, 1) := by decide +kernel
theorem dX12_keepsTexts_168 : decode cX12_keepsTexts 168 = .ok (.aload_n 0, 1) := by decide +kernel
theorem dX12_keepsTexts_169 : decode cX12_keepsTexts 169 = .ok (.aload_n 0, 1) := by decide +kernel
theorem dX12_keepsTexts_170 : decode cX12_keepsTexts 170 = .ok (.getfield 74, 3) := by decide +kernel
theorem dX12_keepsTexts_173 : decode cX12_keepsTexts 173 = .ok (.iload_n 1, 1) := by decide +kernel
theorem dX12_keepsTexts_174 : decode cX12_keepsTexts 174 = .ok (.iaload, 1) := by decide +kernel
theorem dX12_keepsTexts_175 : decode cX12_keepsTexts 175 = .ok (.invokevirtual 472, 3) := by decide +kernel
theorem dX12_keepsTexts_178 : decode cX12_keepsTexts 178 = .ok (.iastore, 1) := by decide +kernel
theorem dX12_keepsTexts_179 : decode cX12_keepsTexts 179 = .ok (.aload_n 0, 1) := by decide +kernel
theorem dX12_keepsTexts_180 : decode cX12_keepsTexts 180 = .ok (.getfield 77, 3) := by decide +kernel
theorem dX12_keepsTexts_183 : decode cX12_keepsTexts 183 = .ok (.iload_n 1, 1) := by decide +kernel
theorem dX12_keepsTexts_184 : decode cX12_keepsTexts 184 = .ok (.aload_n 0, 1) := by decide +kernel
theorem dX12_keepsTexts_185 : decode cX12_keepsTexts 185 = .ok (.aload_n 0, 1) := by decide +kernel
theorem dX12_keepsTexts_186 : decode cX12_keepsTexts 186 = .ok (.getfield 77, 3) := by decide +kernel
theorem dX12_keepsTexts_189 : decode cX12_keepsTexts 189 = .ok (.iload_n 1, 1) := by decide +kernel
theorem dX12_keepsTexts_190 : decode cX12_keepsTexts 190 = .ok (.iaload, 1) := by decide +kernel
theorem dX12_keepsTexts_191 : decode cX12_keepsTexts 191 = .ok (.invokevirtual 472, 3) := by decide +kernel
theorem dX12_keepsTexts_194 : decode cX12_keepsTexts 194 = .ok (.iastore, 1) := by decide +kernel
theorem dX12_keepsTexts_195 : decode cX12_keepsTexts 195 = .ok (.aload_n 0, 1) := by decide +kernel
theorem dX12_keepsTexts_196 : decode cX12_keepsTexts 196 = .ok (.getfield 80, 3) := by decide +kernel
theorem dX12_keepsTexts_199 : decode cX12_keepsTexts 199 = .ok (.iload_n 1, 1) := by decide +kernel
theorem dX12_keepsTexts_200 : decode cX12_keepsTexts 200 = .ok (.aload_n 0, 1) := by decide +kernel
theorem dX12_keepsTexts_201 : decode cX12_keepsTexts 201 = .ok (.aload_n 0, 1) := by decide +kernel
theorem dX12_keepsTexts_202 : decode cX12_keepsTexts 202 = .ok (.getfield 80, 3) := by decide +kernel
theorem dX12_keepsTexts_205 : decode cX12_keepsTexts 205 = .ok (.iload_n 1, 1) := by decide +kernel
theorem dX12_keepsTexts_206 : decode cX12_keepsTexts 206 = .ok (.iaload, 1) := by decide +kernel
theorem dX12_keepsTexts_207 : decode cX12_keepsTexts 207 = .ok (.invokevirtual 472, 3) := by decide +kernel
theorem dX12_keepsTexts_210 : decode cX12_keepsTexts 210 = .ok (.iastore, 1) := by decide +kernel
theorem dX12_keepsTexts_211 : decode cX12_keepsTexts 211 = .ok (.iinc 1 1, 3) := by decide +kernel
theorem dX12_keepsTexts_214 : decode cX12_keepsTexts 214 = .ok (.goto (-57), 3) := by decide +kernel
theorem dX12_keepsTexts_217 : decode cX12_keepsTexts 217 = .ok (.iconst 0, 1) := by decide +kernel
theorem dX12_keepsTexts_218 : decode cX12_keepsTexts 218 = .ok (.istore_n 1, 1) := by decide +kernel
theorem dX12_keepsTexts_219 : decode cX12_keepsTexts 219 = .ok (.iload_n 1, 1) := by decide +kernel
theorem dX12_keepsTexts_220 : decode cX12_keepsTexts 220 = .ok (.bipush 64, 2) := by decide +kernel
theorem dX12_keepsTexts_222 : decode cX12_keepsTexts 222 = .ok (.if_icmp .ge 25, 3) := by decide +kernel
theorem dX12_keepsTexts_225 : decode cX12_keepsTexts 225 = .ok (.aload_n 0, 1) := by decide +kernel
theorem dX12_keepsTexts_226 : decode cX12_keepsTexts 226 = .ok (.getfield 83, 3) := by decide +kernel
theorem dX12_keepsTexts_229 : decode cX12_keepsTexts 229 = .ok (.iload_n 1, 1) := by decide +kernel
theorem dX12_keepsTexts_230 : decode cX12_keepsTexts 230 = .ok (.aload_n 0, 1) := by decide +kernel
theorem dX12_keepsTexts_231 : decode cX12_keepsTexts 231 = .ok (.aload_n 0, 1) := by decide +kernel
theorem dX12_keepsTexts_232 : decode cX12_keepsTexts 232 = .ok (.getfield 83, 3) := by decide +kernel
theorem dX12_keepsTexts_235 : decode cX12_keepsTexts 235 = .ok (.iload_n 1, 1) := by decide +kernel
theorem dX12_keepsTexts_236 : decode cX12_keepsTexts 236 = .ok (.iaload, 1) := by decide +kernel
theorem dX12_keepsTexts_237 : decode cX12_keepsTexts 237 = .ok (.invokevirtual 472, 3) := by decide +kernel
theorem dX12_keepsTexts_240 : decode cX12_keepsTexts 240 = .ok (.iastore, 1) := by decide +kernel
theorem dX12_keepsTexts_241 : decode cX12_keepsTexts 241 = .ok (.iinc 1 1, 3) := by decide +kernel
theorem dX12_keepsTexts_244 : decode cX12_keepsTexts 244 = .ok (.goto (-25), 3) := by decide +kernel
theorem dX12_keepsTexts_247 : decode cX12_keepsTexts 247 = .ok (.iconst 0, 1) := by decide +kernel
theorem dX12_keepsTexts_248 : decode cX12_keepsTexts 248 = .ok (.istore_n 1, 1) := by decide +kernel
theorem dX12_keepsTexts_249 : decode cX12_keepsTexts 249 = .ok (.iload_n 1, 1) := by decide +kernel
theorem dX12_keepsTexts_250 : decode cX12_keepsTexts 250 = .ok (.bipush 6, 2) := by decide +kernel
theorem dX12_keepsTexts_252 : decode cX12_keepsTexts 252 = .ok (.if_icmp .ge 41, 3) := by decide +kernel
theorem dX12_keepsTexts_255 : decode cX12_keepsTexts 255 = .ok (.aload_n 0, 1) := by decide +kernel
theorem dX12_keepsTexts_256 : decode cX12_keepsTexts 256 = .ok (.getfield 32, 3) := by decide +kernel
theorem dX12_keepsTexts_259 : decode cX12_keepsTexts 259 = .ok (.iload_n 1, 1) := by decide +kernel
theorem dX12_keepsTexts_260 : decode cX12_keepsTexts 260 = .ok (.aload_n 0, 1) := by decide +kernel
theorem dX12_keepsTexts_261 : decode cX12_keepsTexts 261 = .ok (.aload_n 0, 1) := by decide +kernel
theorem dX12_keepsTexts_262 : decode cX12_keepsTexts 262 = .ok (.getfield 32, 3) := by decide +kernel
theorem dX12_keepsTexts_265 : decode cX12_keepsTexts 265 = .ok (.iload_n 1, 1) := by decide +kernel
theorem dX12_keepsTexts_266 : decode cX12_keepsTexts 266 = .ok (.iaload, 1) := by decide +kernel
theorem dX12_keepsTexts_267 : decode cX12_keepsTexts 267 = .ok (.invokevirtual 472, 3) := by decide +kernel
theorem dX12_keepsTexts_270 : decode cX12_keepsTexts 270 = .ok (.iastore, 1) := by decide +kernel
theorem dX12_keepsTexts_271 : decode cX12_keepsTexts 271 = .ok (.aload_n 0, 1) := by decide +kernel
theorem dX12_keepsTexts_272 : decode cX12_keepsTexts 272 = .ok (.getfield 35, 3) := by decide +kernel
theorem dX12_keepsTexts_275 : decode cX12_keepsTexts 275 = .ok (.iload_n 1, 1) := by decide +kernel
theorem dX12_keepsTexts_276 : decode cX12_keepsTexts 276 = .ok (.aload_n 0, 1) := by decide +kernel
theorem dX12_keepsTexts_277 : decode cX12_keepsTexts 277 = .ok (.aload_n 0, 1) := by decide +kernel
theorem dX12_keepsTexts_278 : decode cX12_keepsTexts 278 = .ok (.getfield 35, 3) := by decide +kernel
theorem dX12_keepsTexts_281 : decode cX12_keepsTexts 281 = .ok (.iload_n 1, 1) := by decide +kernel
theorem dX12_keepsTexts_282 : decode cX12_keepsTexts 282 = .ok (.iaload, 1) := by decide +kernel
theorem dX12_keepsTexts_283 : decode cX12_keepsTexts 283 = .ok (.invokevirtual 472, 3) := by decide +kernel
theorem dX12_keepsTexts_286 : decode cX12_keepsTexts 286 = .ok (.iastore, 1) := by decide +kernel
theorem dX12_keepsTexts_287 : decode cX12_keepsTexts 287 = .ok (.iinc 1 1, 3) := by decide +kernel
theorem dX12_keepsTexts_290 : decode cX12_keepsTexts 290 = .ok (.goto (-41), 3) := by decide +kernel
theorem dX12_keepsTexts_293 : decode cX12_keepsTexts 293 = .ok (.return_, 1) := by decide +kernel
theorem dX12_image_0 : decode cX12_image 0 = .ok (.aload_n 0, 1) := by decide +kernel
theorem dX12_image_1 : decode cX12_image 1 = .ok (.iconst 0, 1) := by decide +kernel
theorem dX12_image_2 : decode cX12_image 2 = .ok (.putfield 166, 3) := by decide +kernel
theorem dX12_image_5 : decode cX12_image 5 = .ok (.iload_n 1, 1) := by decide +kernel
theorem dX12_image_6 : decode cX12_image 6 = .ok (.ifCond .ne 12, 3) := by decide +kernel
theorem dX12_image_9 : decode cX12_image 9 = .ok (.aload_n 0, 1) := by decide +kernel
theorem dX12_image_10 : decode cX12_image 10 = .ok (.getfield 475, 3) := by decide +kernel
theorem dX12_image_13 : decode cX12_image 13 = .ok (.ifCond .ne 5, 3) := by decide +kernel
theorem dX12_image_16 : decode cX12_image 16 = .ok (.iconst 0, 1) := by decide +kernel
theorem dX12_image_17 : decode cX12_image 17 = .ok (.ireturn, 1) := by decide +kernel
theorem dX12_image_18 : decode cX12_image 18 = .ok (.aload_n 0, 1) := by decide +kernel
theorem dX12_image_19 : decode cX12_image 19 = .ok (.iconst 1, 1) := by decide +kernel
theorem dX12_image_20 : decode cX12_image 20 = .ok (.putfield 475, 3) := by decide +kernel
theorem dX12_image_23 : decode cX12_image 23 = .ok (.iload_n 1, 1) := by decide +kernel
theorem dX12_image_24 : decode cX12_image 24 = .ok (.ifCond .ne 30, 3) := by decide +kernel
theorem dX12_image_27 : decode cX12_image 27 = .ok (.iconst 0, 1) := by decide +kernel
theorem dX12_image_28 : decode cX12_image 28 = .ok (.istore_n 2, 1) := by decide +kernel
theorem dX12_image_29 : decode cX12_image 29 = .ok (.iload_n 2, 1) := by decide +kernel
theorem dX12_image_30 : decode cX12_image 30 = .ok (.sipush 400, 3) := by decide +kernel
theorem dX12_image_33 : decode cX12_image 33 = .ok (.if_icmp .ge 21, 3) := by decide +kernel
theorem dX12_image_36 : decode cX12_image 36 = .ok (.aload_n 0, 1) := by decide +kernel
theorem dX12_image_37 : decode cX12_image 37 = .ok (.getfield 157, 3) := by decide +kernel
theorem dX12_image_40 : decode cX12_image 40 = .ok (.iload_n 2, 1) := by decide +kernel
theorem dX12_image_41 : decode cX12_image 41 = .ok (.aload_n 0, 1) := by decide +kernel
theorem dX12_image_42 : decode cX12_image 42 = .ok (.getfield 160, 3) := by decide +kernel
theorem dX12_image_45 : decode cX12_image 45 = .ok (.iload_n 2, 1) := by decide +kernel
theorem dX12_image_46 : decode cX12_image 46 = .ok (.iaload, 1) := by decide +kernel
theorem dX12_image_47 : decode cX12_image 47 = .ok (.iastore, 1) := by decide +kernel
theorem dX12_image_48 : decode cX12_image 48 = .ok (.iinc 2 1, 3) := by decide +kernel
theorem dX12_image_51 : decode cX12_image 51 = .ok (.goto (-22), 3) := by decide +kernel
theorem dX12_image_54 : decode cX12_image 54 = .ok (.aload_n 0, 1) := by decide +kernel
theorem dX12_image_55 : decode cX12_image 55 = .ok (.iload_n 1, 1) := by decide +kernel
theorem dX12_image_56 : decode cX12_image 56 = .ok (.invokevirtual 450, 3) := by decide +kernel
theorem dX12_image_59 : decode cX12_image 59 = .ok (.iload_n 1, 1) := by decide +kernel
theorem dX12_image_60 : decode cX12_image 60 = .ok (.ifCond .eq 30, 3) := by decide +kernel
theorem dX12_image_63 : decode cX12_image 63 = .ok (.iconst 0, 1) := by decide +kernel
theorem dX12_image_64 : decode cX12_image 64 = .ok (.istore_n 2, 1) := by decide +kernel
theorem dX12_image_65 : decode cX12_image 65 = .ok (.iload_n 2, 1) := by decide +kernel
theorem dX12_image_66 : decode cX12_image 66 = .ok (.sipush 400, 3) := by decide +kernel
theorem dX12_image_69 : decode cX12_image 69 = .ok (.if_icmp .ge 21, 3) := by decide +kernel
theorem dX12_image_72 : decode cX12_image 72 = .ok (.aload_n 0, 1) := by decide +kernel
theorem dX12_image_73 : decode cX12_image 73 = .ok (.getfield 160, 3) := by decide +kernel
theorem dX12_image_76 : decode cX12_image 76 = .ok (.iload_n 2, 1) := by decide +kernel
theorem dX12_image_77 : decode cX12_image 77 = .ok (.aload_n 0, 1) := by decide +kernel
theorem dX12_image_78 : decode cX12_image 78 = .ok (.getfield 157, 3) := by decide +kernel
theorem dX12_image_81 : decode cX12_image 81 = .ok (.iload_n 2, 1) := by decide +kernel
theorem dX12_image_82 : decode cX12_image 82 = .ok (.iaload, 1) := by decide +kernel
theorem dX12_image_83 : decode cX12_image 83 = .ok (.iastore, 1) := by decide +kernel
theorem dX12_image_84 : decode cX12_image 84 = .ok (.iinc 2 1, 3) := by decide +kernel
theorem dX12_image_87 : decode cX12_image 87 = .ok (.goto (-22), 3) := by decide +kernel
theorem dX12_image_90 : decode cX12_image 90 = .ok (.aload_n 0, 1) := by decide +kernel
theorem dX12_image_91 : decode cX12_image 91 = .ok (.invokevirtual 478, 3) := by decide +kernel
theorem dX12_image_94 : decode cX12_image 94 = .ok (.iconst 1, 1) := by decide +kernel
theorem dX12_image_95 : decode cX12_image 95 = .ok (.ireturn, 1) := by decide +kernel
theorem dX12_look_0 : decode cX12_look 0 = .ok (.aload_n 0, 1) := by decide +kernel
theorem dX12_look_1 : decode cX12_look 1 = .ok (.iconst 0, 1) := by decide +kernel
theorem dX12_look_2 : decode cX12_look 2 = .ok (.putfield 166, 3) := by decide +kernel
theorem dX12_look_5 : decode cX12_look 5 = .ok (.iload_n 1, 1) := by decide +kernel
theorem dX12_look_6 : decode cX12_look 6 = .ok (.ifCond .ne 8, 3) := by decide +kernel
theorem dX12_look_9 : decode cX12_look 9 = .ok (.aload_n 0, 1) := by decide +kernel
theorem dX12_look_10 : decode cX12_look 10 = .ok (.getfield 7, 3) := by decide +kernel
theorem dX12_look_13 : decode cX12_look 13 = .ok (.ireturn, 1) := by decide +kernel
theorem dX12_look_14 : decode cX12_look 14 = .ok (.iload_n 1, 1) := by decide +kernel
theorem dX12_look_15 : decode cX12_look 15 = .ok (.iconst 1, 1) := by decide +kernel
theorem dX12_look_16 : decode cX12_look 16 = .ok (.if_icmp .ne 8, 3) := by decide +kernel
theorem dX12_look_19 : decode cX12_look 19 = .ok (.aload_n 0, 1) := by decide +kernel
theorem dX12_look_20 : decode cX12_look 20 = .ok (.getfield 334, 3) := by decide +kernel
theorem dX12_look_23 : decode cX12_look 23 = .ok (.ireturn, 1) := by decide +kernel
theorem dX12_look_24 : decode cX12_look 24 = .ok (.iload_n 1, 1) := by decide +kernel
theorem dX12_look_25 : decode cX12_look 25 = .ok (.iconst 2, 1) := by decide +kernel
theorem dX12_look_26 : decode cX12_look 26 = .ok (.if_icmp .ne 8, 3) := by decide +kernel
theorem dX12_look_29 : decode cX12_look 29 = .ok (.aload_n 0, 1) := by decide +kernel
theorem dX12_look_30 : decode cX12_look 30 = .ok (.getfield 382, 3) := by decide +kernel
theorem dX12_look_33 : decode cX12_look 33 = .ok (.ireturn, 1) := by decide +kernel
theorem dX12_look_34 : decode cX12_look 34 = .ok (.iload_n 1, 1) := by decide +kernel
theorem dX12_look_35 : decode cX12_look 35 = .ok (.iconst 3, 1) := by decide +kernel
theorem dX12_look_36 : decode cX12_look 36 = .ok (.if_icmp .ne 8, 3) := by decide +kernel
theorem dX12_look_39 : decode cX12_look 39 = .ok (.aload_n 0, 1) := by decide +kernel
theorem dX12_look_40 : decode cX12_look 40 = .ok (.getfield 358, 3) := by decide +kernel
theorem dX12_look_43 : decode cX12_look 43 = .ok (.ireturn, 1) := by decide +kernel
theorem dX12_look_44 : decode cX12_look 44 = .ok (.iload_n 1, 1) := by decide +kernel
theorem dX12_look_45 : decode cX12_look 45 = .ok (.iconst 4, 1) := by decide +kernel
theorem dX12_look_46 : decode cX12_look 46 = .ok (.if_icmp .ne 8, 3) := by decide +kernel
theorem dX12_look_49 : decode cX12_look 49 = .ok (.aload_n 0, 1) := by decide +kernel
theorem dX12_look_50 : decode cX12_look 50 = .ok (.getfield 361, 3) := by decide +kernel
theorem dX12_look_53 : decode cX12_look 53 = .ok (.ireturn, 1) := by decide +kernel
theorem dX12_look_54 : decode cX12_look 54 = .ok (.iload_n 1, 1) := by decide +kernel
theorem dX12_look_55 : decode cX12_look 55 = .ok (.bipush 6, 2) := by decide +kernel
theorem dX12_look_57 : decode cX12_look 57 = .ok (.if_icmp .ne 16, 3) := by decide +kernel
theorem dX12_look_60 : decode cX12_look 60 = .ok (.aload_n 0, 1) := by decide +kernel
theorem dX12_look_61 : decode cX12_look 61 = .ok (.invokevirtual 379, 3) := by decide +kernel
theorem dX12_look_64 : decode cX12_look 64 = .ok (.ifCond .eq 7, 3) := by decide +kernel
theorem dX12_look_67 : decode cX12_look 67 = .ok (.iconst 1, 1) := by decide +kernel
theorem dX12_look_68 : decode cX12_look 68 = .ok (.goto 4, 3) := by decide +kernel
theorem dX12_look_71 : decode cX12_look 71 = .ok (.iconst 0, 1) := by decide +kernel
theorem dX12_look_72 : decode cX12_look 72 = .ok (.ireturn, 1) := by decide +kernel
theorem dX12_look_73 : decode cX12_look 73 = .ok (.iload_n 1, 1) := by decide +kernel
theorem dX12_look_74 : decode cX12_look 74 = .ok (.bipush 7, 2) := by decide +kernel
theorem dX12_look_76 : decode cX12_look 76 = .ok (.if_icmp .ne 8, 3) := by decide +kernel
theorem dX12_look_79 : decode cX12_look 79 = .ok (.aload_n 0, 1) := by decide +kernel
theorem dX12_look_80 : decode cX12_look 80 = .ok (.getfield 178, 3) := by decide +kernel
theorem dX12_look_83 : decode cX12_look 83 = .ok (.ireturn, 1) := by decide +kernel
theorem dX12_look_84 : decode cX12_look 84 = .ok (.iload_n 1, 1) := by decide +kernel
theorem dX12_look_85 : decode cX12_look 85 = .ok (.bipush 8, 2) := by decide +kernel
theorem dX12_look_87 : decode cX12_look 87 = .ok (.if_icmp .ne 8, 3) := by decide +kernel
theorem dX12_look_90 : decode cX12_look 90 = .ok (.aload_n 0, 1) := by decide +kernel
theorem dX12_look_91 : decode cX12_look 91 = .ok (.getfield 41, 3) := by decide +kernel
theorem dX12_look_94 : decode cX12_look 94 = .ok (.ireturn, 1) := by decide +kernel
theorem dX12_look_95 : decode cX12_look 95 = .ok (.aload_n 0, 1) := by decide +kernel
theorem dX12_look_96 : decode cX12_look 96 = .ok (.iload_n 1, 1) := by decide +kernel
theorem dX12_look_97 : decode cX12_look 97 = .ok (.bipush 9, 2) := by decide +kernel
theorem dX12_look_99 : decode cX12_look 99 = .ok (.bipush 16, 2) := by decide +kernel
theorem dX12_look_101 : decode cX12_look 101 = .ok (.invokevirtual 174, 3) := by decide +kernel
theorem dX12_look_104 : decode cX12_look 104 = .ok (.ifCond .eq 13, 3) := by decide +kernel
theorem dX12_look_107 : decode cX12_look 107 = .ok (.aload_n 0, 1) := by decide +kernel
theorem dX12_look_108 : decode cX12_look 108 = .ok (.getfield 38, 3) := by decide +kernel
theorem dX12_look_111 : decode cX12_look 111 = .ok (.iload_n 1, 1) := by decide +kernel
theorem dX12_look_112 : decode cX12_look 112 = .ok (.bipush 9, 2) := by decide +kernel
theorem dX12_look_114 : decode cX12_look 114 = .ok (.isub, 1) := by decide +kernel
theorem dX12_look_115 : decode cX12_look 115 = .ok (.iaload, 1) := by decide +kernel
theorem dX12_look_116 : decode cX12_look 116 = .ok (.ireturn, 1) := by decide +kernel
theorem dX12_look_117 : decode cX12_look 117 = .ok (.iload_n 1, 1) := by decide +kernel
theorem dX12_look_118 : decode cX12_look 118 = .ok (.iconst 5, 1) := by decide +kernel
theorem dX12_look_119 : decode cX12_look 119 = .ok (.if_icmp .eq 5, 3) := by decide +kernel
theorem dX12_look_122 : decode cX12_look 122 = .ok (.iconst (-1), 1) := by decide +kernel
theorem dX12_look_123 : decode cX12_look 123 = .ok (.ireturn, 1) := by decide +kernel
theorem dX12_look_124 : decode cX12_look 124 = .ok (.iconst 0, 1) := by decide +kernel
theorem dX12_look_125 : decode cX12_look 125 = .ok (.istore_n 2, 1) := by decide +kernel
theorem dX12_look_126 : decode cX12_look 126 = .ok (.iconst 0, 1) := by decide +kernel
theorem dX12_look_127 : decode cX12_look 127 = .ok (.istore_n 3, 1) := by decide +kernel
theorem dX12_look_128 : decode cX12_look 128 = .ok (.iload_n 3, 1) := by decide +kernel
theorem dX12_look_129 : decode cX12_look 129 = .ok (.aload_n 0, 1) := by decide +kernel
theorem dX12_look_130 : decode cX12_look 130 = .ok (.getfield 7, 3) := by decide +kernel
theorem dX12_look_133 : decode cX12_look 133 = .ok (.if_icmp .ge 18, 3) := by decide +kernel
theorem dX12_look_136 : decode cX12_look 136 = .ok (.iload_n 2, 1) := by decide +kernel
theorem dX12_look_137 : decode cX12_look 137 = .ok (.aload_n 0, 1) := by decide +kernel
theorem dX12_look_138 : decode cX12_look 138 = .ok (.getfield 20, 3) := by decide +kernel
theorem dX12_look_141 : decode cX12_look 141 = .ok (.iload_n 3, 1) := by decide +kernel
theorem dX12_look_142 : decode cX12_look 142 = .ok (.iaload, 1) := by decide +kernel
theorem dX12_look_143 : decode cX12_look 143 = .ok (.iadd, 1) := by decide +kernel
theorem dX12_look_144 : decode cX12_look 144 = .ok (.istore_n 2, 1) := by decide +kernel
theorem dX12_look_145 : decode cX12_look 145 = .ok (.iinc 3 1, 3) := by decide +kernel
theorem dX12_look_148 : decode cX12_look 148 = .ok (.goto (-20), 3) := by decide +kernel
theorem dX12_look_151 : decode cX12_look 151 = .ok (.iload_n 2, 1) := by decide +kernel
theorem dX12_look_152 : decode cX12_look 152 = .ok (.ireturn, 1) := by decide +kernel
theorem dJ6_bitCount_0f7a4_0 : decode cJ6_bitCount_0f7a4 0 = .ok (.iload_n 0, 1) := by decide +kernel
theorem dJ6_bitCount_0f7a4_1 : decode cJ6_bitCount_0f7a4 1 = .ok (.iload_n 0, 1) := by decide +kernel
theorem dJ6_bitCount_0f7a4_2 : decode cJ6_bitCount_0f7a4 2 = .ok (.iconst 1, 1) := by decide +kernel
theorem dJ6_bitCount_0f7a4_3 : decode cJ6_bitCount_0f7a4 3 = .ok (.iushr, 1) := by decide +kernel
theorem dJ6_bitCount_0f7a4_4 : decode cJ6_bitCount_0f7a4 4 = .ok (.ldc_w 265, 3) := by decide +kernel
theorem dJ6_bitCount_0f7a4_7 : decode cJ6_bitCount_0f7a4 7 = .ok (.iand, 1) := by decide +kernel
theorem dJ6_bitCount_0f7a4_8 : decode cJ6_bitCount_0f7a4 8 = .ok (.isub, 1) := by decide +kernel
theorem dJ6_bitCount_0f7a4_9 : decode cJ6_bitCount_0f7a4 9 = .ok (.istore_n 0, 1) := by decide +kernel
theorem dJ6_bitCount_0f7a4_10 : decode cJ6_bitCount_0f7a4 10 = .ok (.iload_n 0, 1) := by decide +kernel
theorem dJ6_bitCount_0f7a4_11 : decode cJ6_bitCount_0f7a4 11 = .ok (.ldc_w 266, 3) := by decide +kernel
theorem dJ6_bitCount_0f7a4_14 : decode cJ6_bitCount_0f7a4 14 = .ok (.iand, 1) := by decide +kernel
theorem dJ6_bitCount_0f7a4_15 : decode cJ6_bitCount_0f7a4 15 = .ok (.iload_n 0, 1) := by decide +kernel
theorem dJ6_bitCount_0f7a4_16 : decode cJ6_bitCount_0f7a4 16 = .ok (.iconst 2, 1) := by decide +kernel
theorem dJ6_bitCount_0f7a4_17 : decode cJ6_bitCount_0f7a4 17 = .ok (.iushr, 1) := by decide +kernel
theorem dJ6_bitCount_0f7a4_18 : decode cJ6_bitCount_0f7a4 18 = .ok (.ldc_w 266, 3) := by decide +kernel
theorem dJ6_bitCount_0f7a4_21 : decode cJ6_bitCount_0f7a4 21 = .ok (.iand, 1) := by decide +kernel
theorem dJ6_bitCount_0f7a4_22 : decode cJ6_bitCount_0f7a4 22 = .ok (.iadd, 1) := by decide +kernel
theorem dJ6_bitCount_0f7a4_23 : decode cJ6_bitCount_0f7a4 23 = .ok (.istore_n 0, 1) := by decide +kernel
theorem dJ6_bitCount_0f7a4_24 : decode cJ6_bitCount_0f7a4 24 = .ok (.iload_n 0, 1) := by decide +kernel
theorem dJ6_bitCount_0f7a4_25 : decode cJ6_bitCount_0f7a4 25 = .ok (.iload_n 0, 1) := by decide +kernel
theorem dJ6_bitCount_0f7a4_26 : decode cJ6_bitCount_0f7a4 26 = .ok (.iconst 4, 1) := by decide +kernel
theorem dJ6_bitCount_0f7a4_27 : decode cJ6_bitCount_0f7a4 27 = .ok (.iushr, 1) := by decide +kernel
theorem dJ6_bitCount_0f7a4_28 : decode cJ6_bitCount_0f7a4 28 = .ok (.iadd, 1) := by decide +kernel
theorem dJ6_bitCount_0f7a4_29 : decode cJ6_bitCount_0f7a4 29 = .ok (.ldc_w 267, 3) := by decide +kernel
theorem dJ6_bitCount_0f7a4_32 : decode cJ6_bitCount_0f7a4 32 = .ok (.iand, 1) := by decide +kernel
theorem dJ6_bitCount_0f7a4_33 : decode cJ6_bitCount_0f7a4 33 = .ok (.istore_n 0, 1) := by decide +kernel
theorem dJ6_bitCount_0f7a4_34 : decode cJ6_bitCount_0f7a4 34 = .ok (.iload_n 0, 1) := by decide +kernel
theorem dJ6_bitCount_0f7a4_35 : decode cJ6_bitCount_0f7a4 35 = .ok (.iload_n 0, 1) := by decide +kernel
theorem dJ6_bitCount_0f7a4_36 : decode cJ6_bitCount_0f7a4 36 = .ok (.bipush 8, 2) := by decide +kernel
theorem dJ6_bitCount_0f7a4_38 : decode cJ6_bitCount_0f7a4 38 = .ok (.iushr, 1) := by decide +kernel
theorem dJ6_bitCount_0f7a4_39 : decode cJ6_bitCount_0f7a4 39 = .ok (.iadd, 1) := by decide +kernel
theorem dJ6_bitCount_0f7a4_40 : decode cJ6_bitCount_0f7a4 40 = .ok (.istore_n 0, 1) := by decide +kernel
theorem dJ6_bitCount_0f7a4_41 : decode cJ6_bitCount_0f7a4 41 = .ok (.iload_n 0, 1) := by decide +kernel
theorem dJ6_bitCount_0f7a4_42 : decode cJ6_bitCount_0f7a4 42 = .ok (.iload_n 0, 1) := by decide +kernel
theorem dJ6_bitCount_0f7a4_43 : decode cJ6_bitCount_0f7a4 43 = .ok (.bipush 16, 2) := by decide +kernel
theorem dJ6_bitCount_0f7a4_45 : decode cJ6_bitCount_0f7a4 45 = .ok (.iushr, 1) := by decide +kernel
theorem dJ6_bitCount_0f7a4_46 : decode cJ6_bitCount_0f7a4 46 = .ok (.iadd, 1) := by decide +kernel
theorem dJ6_bitCount_0f7a4_47 : decode cJ6_bitCount_0f7a4 47 = .ok (.istore_n 0, 1) := by decide +kernel
theorem dJ6_bitCount_0f7a4_48 : decode cJ6_bitCount_0f7a4 48 = .ok (.iload_n 0, 1) := by decide +kernel
theorem dJ6_bitCount_0f7a4_49 : decode cJ6_bitCount_0f7a4 49 = .ok (.bipush 63, 2) := by decide +kernel
theorem dJ6_bitCount_0f7a4_51 : decode cJ6_bitCount_0f7a4 51 = .ok (.iand, 1) := by decide +kernel
theorem dJ6_bitCount_0f7a4_52 : decode cJ6_bitCount_0f7a4 52 = .ok (.ireturn, 1) := by decide +kernel
theorem dJ13_bitCount_95d88_0 : decode cJ13_bitCount_95d88 0 = .ok (.lload_n 0, 1) := by decide +kernel
theorem dJ13_bitCount_95d88_1 : decode cJ13_bitCount_95d88 1 = .ok (.lload_n 0, 1) := by decide +kernel
theorem dJ13_bitCount_95d88_2 : decode cJ13_bitCount_95d88 2 = .ok (.iconst 1, 1) := by decide +kernel
theorem dJ13_bitCount_95d88_3 : decode cJ13_bitCount_95d88 3 = .ok (.lushr, 1) := by decide +kernel
theorem dJ13_bitCount_95d88_4 : decode cJ13_bitCount_95d88 4 = .ok (.ldc2_w 314, 3) := by decide +kernel
theorem dJ13_bitCount_95d88_7 : decode cJ13_bitCount_95d88 7 = .ok (.land, 1) := by decide +kernel
theorem dJ13_bitCount_95d88_8 : decode cJ13_bitCount_95d88 8 = .ok (.lsub, 1) := by decide +kernel
theorem dJ13_bitCount_95d88_9 : decode cJ13_bitCount_95d88 9 = .ok (.lstore_n 0, 1) := by decide +kernel
theorem dJ13_bitCount_95d88_10 : decode cJ13_bitCount_95d88 10 = .ok (.lload_n 0, 1) := by decide +kernel
theorem dJ13_bitCount_95d88_11 : decode cJ13_bitCount_95d88 11 = .ok (.ldc2_w 316, 3) := by decide +kernel
theorem dJ13_bitCount_95d88_14 : decode cJ13_bitCount_95d88 14 = .ok (.land, 1) := by decide +kernel
theorem dJ13_bitCount_95d88_15 : decode cJ13_bitCount_95d88 15 = .ok (.lload_n 0, 1) := by decide +kernel
theorem dJ13_bitCount_95d88_16 : decode cJ13_bitCount_95d88 16 = .ok (.iconst 2, 1) := by decide +kernel
theorem dJ13_bitCount_95d88_17 : decode cJ13_bitCount_95d88 17 = .ok (.lushr, 1) := by decide +kernel
theorem dJ13_bitCount_95d88_18 : decode cJ13_bitCount_95d88 18 = .ok (.ldc2_w 316, 3) := by decide +kernel
theorem dJ13_bitCount_95d88_21 : decode cJ13_bitCount_95d88 21 = .ok (.land, 1) := by decide +kernel
theorem dJ13_bitCount_95d88_22 : decode cJ13_bitCount_95d88 22 = .ok (.ladd, 1) := by decide +kernel
theorem dJ13_bitCount_95d88_23 : decode cJ13_bitCount_95d88 23 = .ok (.lstore_n 0, 1) := by decide +kernel
theorem dJ13_bitCount_95d88_24 : decode cJ13_bitCount_95d88 24 = .ok (.lload_n 0, 1) := by decide +kernel
theorem dJ13_bitCount_95d88_25 : decode cJ13_bitCount_95d88 25 = .ok (.lload_n 0, 1) := by decide +kernel
theorem dJ13_bitCount_95d88_26 : decode cJ13_bitCount_95d88 26 = .ok (.iconst 4, 1) := by decide +kernel
theorem dJ13_bitCount_95d88_27 : decode cJ13_bitCount_95d88 27 = .ok (.lushr, 1) := by decide +kernel
theorem dJ13_bitCount_95d88_28 : decode cJ13_bitCount_95d88 28 = .ok (.ladd, 1) := by decide +kernel
theorem dJ13_bitCount_95d88_29 : decode cJ13_bitCount_95d88 29 = .ok (.ldc2_w 318, 3) := by decide +kernel
theorem dJ13_bitCount_95d88_32 : decode cJ13_bitCount_95d88 32 = .ok (.land, 1) := by decide +kernel
theorem dJ13_bitCount_95d88_33 : decode cJ13_bitCount_95d88 33 = .ok (.lstore_n 0, 1) := by decide +kernel
theorem dJ13_bitCount_95d88_34 : decode cJ13_bitCount_95d88 34 = .ok (.lload_n 0, 1) := by decide +kernel
theorem dJ13_bitCount_95d88_35 : decode cJ13_bitCount_95d88 35 = .ok (.lload_n 0, 1) := by decide +kernel
theorem dJ13_bitCount_95d88_36 : decode cJ13_bitCount_95d88 36 = .ok (.bipush 8, 2) := by decide +kernel
theorem dJ13_bitCount_95d88_38 : decode cJ13_bitCount_95d88 38 = .ok (.lushr, 1) := by decide +kernel
theorem dJ13_bitCount_95d88_39 : decode cJ13_bitCount_95d88 39 = .ok (.ladd, 1) := by decide +kernel
theorem dJ13_bitCount_95d88_40 : decode cJ13_bitCount_95d88 40 = .ok (.lstore_n 0, 1) := by decide +kernel
theorem dJ13_bitCount_95d88_41 : decode cJ13_bitCount_95d88 41 = .ok (.lload_n 0, 1) := by decide +kernel
theorem dJ13_bitCount_95d88_42 : decode cJ13_bitCount_95d88 42 = .ok (.lload_n 0, 1) := by decide +kernel
theorem dJ13_bitCount_95d88_43 : decode cJ13_bitCount_95d88 43 = .ok (.bipush 16, 2) := by decide +kernel
theorem dJ13_bitCount_95d88_45 : decode cJ13_bitCount_95d88 45 = .ok (.lushr, 1) := by decide +kernel
theorem dJ13_bitCount_95d88_46 : decode cJ13_bitCount_95d88 46 = .ok (.ladd, 1) := by decide +kernel
theorem dJ13_bitCount_95d88_47 : decode cJ13_bitCount_95d88 47 = .ok (.lstore_n 0, 1) := by decide +kernel
theorem dJ13_bitCount_95d88_48 : decode cJ13_bitCount_95d88 48 = .ok (.lload_n 0, 1) := by decide +kernel
theorem dJ13_bitCount_95d88_49 : decode cJ13_bitCount_95d88 49 = .ok (.lload_n 0, 1) := by decide +kernel
theorem dJ13_bitCount_95d88_50 : decode cJ13_bitCount_95d88 50 = .ok (.bipush 32, 2) := by decide +kernel
theorem dJ13_bitCount_95d88_52 : decode cJ13_bitCount_95d88 52 = .ok (.lushr, 1) := by decide +kernel
theorem dJ13_bitCount_95d88_53 : decode cJ13_bitCount_95d88 53 = .ok (.ladd, 1) := by decide +kernel
theorem dJ13_bitCount_95d88_54 : decode cJ13_bitCount_95d88 54 = .ok (.lstore_n 0, 1) := by decide +kernel
theorem dJ13_bitCount_95d88_55 : decode cJ13_bitCount_95d88 55 = .ok (.lload_n 0, 1) := by decide +kernel
theorem dJ13_bitCount_95d88_56 : decode cJ13_bitCount_95d88 56 = .ok (.l2i, 1) := by decide +kernel
theorem dJ13_bitCount_95d88_57 : decode cJ13_bitCount_95d88 57 = .ok (.bipush 127, 2) := by decide +kernel
theorem dJ13_bitCount_95d88_59 : decode cJ13_bitCount_95d88 59 = .ok (.iand, 1) := by decide +kernel
theorem dJ13_bitCount_95d88_60 : decode cJ13_bitCount_95d88 60 = .ok (.ireturn, 1) := by decide +kernel
theorem dJ0_length_8abf5_0 : decode cJ0_length_8abf5 0 = .ok (.aload_n 0, 1) := by decide +kernel
theorem dJ0_length_8abf5_1 : decode cJ0_length_8abf5 1 = .ok (.getfield 9, 3) := by decide +kernel
theorem dJ0_length_8abf5_4 : decode cJ0_length_8abf5 4 = .ok (.arraylength, 1) := by decide +kernel
theorem dJ0_length_8abf5_5 : decode cJ0_length_8abf5 5 = .ok (.aload_n 0, 1) := by decide +kernel
theorem dJ0_length_8abf5_6 : decode cJ0_length_8abf5 6 = .ok (.invokevirtual 335, 3) := by decide +kernel
theorem dJ0_length_8abf5_9 : decode cJ0_length_8abf5 9 = .ok (.ishr, 1) := by decide +kernel
theorem dJ0_length_8abf5_10 : decode cJ0_length_8abf5 10 = .ok (.ireturn, 1) := by decide +kernel
theorem dJ0_charAt_5068e_0 : decode cJ0_charAt_5068e 0 = .ok (.aload_n 0, 1) := by decide +kernel
theorem dJ0_charAt_5068e_1 : decode cJ0_charAt_5068e 1 = .ok (.invokevirtual 492, 3) := by decide +kernel
theorem dJ0_charAt_5068e_4 : decode cJ0_charAt_5068e 4 = .ok (.ifCond .eq 12, 3) := by decide +kernel
theorem dJ0_charAt_5068e_7 : decode cJ0_charAt_5068e 7 = .ok (.aload_n 0, 1) := by decide +kernel
theorem dJ0_charAt_5068e_8 : decode cJ0_charAt_5068e 8 = .ok (.getfield 9, 3) := by decide +kernel
theorem dJ0_charAt_5068e_11 : decode cJ0_charAt_5068e 11 = .ok (.iload_n 1, 1) := by decide +kernel
theorem dJ0_charAt_5068e_12 : decode cJ0_charAt_5068e 12 = .ok (.invokestatic 495, 3) := by decide +kernel
theorem dJ0_charAt_5068e_15 : decode cJ0_charAt_5068e 15 = .ok (.ireturn, 1) := by decide +kernel
theorem dJ0_charAt_5068e_16 : decode cJ0_charAt_5068e 16 = .ok (.aload_n 0, 1) := by decide +kernel
theorem dJ0_charAt_5068e_17 : decode cJ0_charAt_5068e 17 = .ok (.getfield 9, 3) := by decide +kernel
theorem dJ0_charAt_5068e_20 : decode cJ0_charAt_5068e 20 = .ok (.iload_n 1, 1) := by decide +kernel
theorem dJ0_charAt_5068e_21 : decode cJ0_charAt_5068e 21 = .ok (.invokestatic 498, 3) := by decide +kernel
theorem dJ0_charAt_5068e_24 : decode cJ0_charAt_5068e 24 = .ok (.ireturn, 1) := by decide +kernel
theorem dJ0_coder_7d493_0 : decode cJ0_coder_7d493 0 = .ok (.getstatic 38, 3) := by decide +kernel
theorem dJ0_coder_7d493_3 : decode cJ0_coder_7d493 3 = .ok (.ifCond .eq 10, 3) := by decide +kernel
theorem dJ0_coder_7d493_6 : decode cJ0_coder_7d493 6 = .ok (.aload_n 0, 1) := by decide +kernel
theorem dJ0_coder_7d493_7 : decode cJ0_coder_7d493 7 = .ok (.getfield 15, 3) := by decide +kernel
theorem dJ0_coder_7d493_10 : decode cJ0_coder_7d493 10 = .ok (.goto 4, 3) := by decide +kernel
theorem dJ0_coder_7d493_13 : decode cJ0_coder_7d493 13 = .ok (.iconst 1, 1) := by decide +kernel
theorem dJ0_coder_7d493_14 : decode cJ0_coder_7d493 14 = .ok (.ireturn, 1) := by decide +kernel
theorem dJ0_isLatin1_aae02_0 : decode cJ0_isLatin1_aae02 0 = .ok (.getstatic 38, 3) := by decide +kernel
theorem dJ0_isLatin1_aae02_3 : decode cJ0_isLatin1_aae02 3 = .ok (.ifCond .eq 14, 3) := by decide +kernel
theorem dJ0_isLatin1_aae02_6 : decode cJ0_isLatin1_aae02 6 = .ok (.aload_n 0, 1) := by decide +kernel
theorem dJ0_isLatin1_aae02_7 : decode cJ0_isLatin1_aae02 7 = .ok (.getfield 15, 3) := by decide +kernel
theorem dJ0_isLatin1_aae02_10 : decode cJ0_isLatin1_aae02 10 = .ok (.ifCond .ne 7, 3) := by decide +kernel
theorem dJ0_isLatin1_aae02_13 : decode cJ0_isLatin1_aae02 13 = .ok (.iconst 1, 1) := by decide +kernel
theorem dJ0_isLatin1_aae02_14 : decode cJ0_isLatin1_aae02 14 = .ok (.goto 4, 3) := by decide +kernel
theorem dJ0_isLatin1_aae02_17 : decode cJ0_isLatin1_aae02 17 = .ok (.iconst 0, 1) := by decide +kernel
theorem dJ0_isLatin1_aae02_18 : decode cJ0_isLatin1_aae02 18 = .ok (.ireturn, 1) := by decide +kernel
theorem dJ0_checkIndex_df160_0 : decode cJ0_checkIndex_df160 0 = .ok (.iload_n 0, 1) := by decide +kernel
theorem dJ0_checkIndex_df160_1 : decode cJ0_checkIndex_df160 1 = .ok (.iload_n 1, 1) := by decide +kernel
theorem dJ0_checkIndex_df160_2 : decode cJ0_checkIndex_df160 2 = .ok (.getstatic 1053, 3) := by decide +kernel
theorem dJ0_checkIndex_df160_5 : decode cJ0_checkIndex_df160 5 = .ok (.invokestatic 1059, 3) := by decide +kernel
theorem dJ0_checkIndex_df160_8 : decode cJ0_checkIndex_df160 8 = .ok (.pop, 1) := by decide +kernel
theorem dJ0_checkIndex_df160_9 : decode cJ0_checkIndex_df160 9 = .ok (.return_, 1) := by decide +kernel
theorem dJ1_charAt_3b067_0 : decode cJ1_charAt_3b067 0 = .ok (.iload_n 1, 1) := by decide +kernel
theorem dJ1_charAt_3b067_1 : decode cJ1_charAt_3b067 1 = .ok (.aload_n 0, 1) := by decide +kernel
theorem dJ1_charAt_3b067_2 : decode cJ1_charAt_3b067 2 = .ok (.arraylength, 1) := by decide +kernel
theorem dJ1_charAt_3b067_3 : decode cJ1_charAt_3b067 3 = .ok (.invokestatic 9, 3) := by decide +kernel
theorem dJ1_charAt_3b067_6 : decode cJ1_charAt_3b067 6 = .ok (.aload_n 0, 1) := by decide +kernel
theorem dJ1_charAt_3b067_7 : decode cJ1_charAt_3b067 7 = .ok (.iload_n 1, 1) := by decide +kernel
theorem dJ1_charAt_3b067_8 : decode cJ1_charAt_3b067 8 = .ok (.baload, 1) := by decide +kernel
theorem dJ1_charAt_3b067_9 : decode cJ1_charAt_3b067 9 = .ok (.sipush 255, 3) := by decide +kernel
theorem dJ1_charAt_3b067_12 : decode cJ1_charAt_3b067 12 = .ok (.iand, 1) := by decide +kernel
theorem dJ1_charAt_3b067_13 : decode cJ1_charAt_3b067 13 = .ok (.i2c, 1) := by decide +kernel
theorem dJ1_charAt_3b067_14 : decode cJ1_charAt_3b067 14 = .ok (.ireturn, 1) := by decide +kernel
theorem dJ2_length_9d52b_0 : decode cJ2_length_9d52b 0 = .ok (.aload_n 0, 1) := by decide +kernel
theorem dJ2_length_9d52b_1 : decode cJ2_length_9d52b 1 = .ok (.arraylength, 1) := by decide +kernel
theorem dJ2_length_9d52b_2 : decode cJ2_length_9d52b 2 = .ok (.iconst 1, 1) := by decide +kernel
theorem dJ2_length_9d52b_3 : decode cJ2_length_9d52b 3 = .ok (.ishr, 1) := by decide +kernel
theorem dJ2_length_9d52b_4 : decode cJ2_length_9d52b 4 = .ok (.ireturn, 1) := by decide +kernel
theorem dJ2_charAt_3b067_0 : decode cJ2_charAt_3b067 0 = .ok (.iload_n 1, 1) := by decide +kernel
theorem dJ2_charAt_3b067_1 : decode cJ2_charAt_3b067 1 = .ok (.aload_n 0, 1) := by decide +kernel
theorem dJ2_charAt_3b067_2 : decode cJ2_charAt_3b067 2 = .ok (.invokestatic 67, 3) := by decide +kernel
theorem dJ2_charAt_3b067_5 : decode cJ2_charAt_3b067 5 = .ok (.aload_n 0, 1) := by decide +kernel
theorem dJ2_charAt_3b067_6 : decode cJ2_charAt_3b067 6 = .ok (.iload_n 1, 1) := by decide +kernel
theorem dJ2_charAt_3b067_7 : decode cJ2_charAt_3b067 7 = .ok (.invokestatic 71, 3) := by decide +kernel
theorem dJ2_charAt_3b067_10 : decode cJ2_charAt_3b067 10 = .ok (.ireturn, 1) := by decide +kernel
theorem dJ2_checkIndex_2214a_0 : decode cJ2_checkIndex_2214a 0 = .ok (.iload_n 0, 1) := by decide +kernel
theorem dJ2_checkIndex_2214a_1 : decode cJ2_checkIndex_2214a 1 = .ok (.aload_n 1, 1) := by decide +kernel
theorem dJ2_checkIndex_2214a_2 : decode cJ2_checkIndex_2214a 2 = .ok (.invokestatic 48, 3) := by decide +kernel
theorem dJ2_checkIndex_2214a_5 : decode cJ2_checkIndex_2214a 5 = .ok (.invokestatic 414, 3) := by decide +kernel
theorem dJ2_checkIndex_2214a_8 : decode cJ2_checkIndex_2214a 8 = .ok (.return_, 1) := by decide +kernel
theorem dJ7_fill_d0a16_0 : decode cJ7_fill_d0a16 0 = .ok (.iconst 0, 1) := by decide +kernel
theorem dJ7_fill_d0a16_1 : decode cJ7_fill_d0a16 1 = .ok (.istore_n 3, 1) := by decide +kernel
theorem dJ7_fill_d0a16_2 : decode cJ7_fill_d0a16 2 = .ok (.aload_n 0, 1) := by decide +kernel
theorem dJ7_fill_d0a16_3 : decode cJ7_fill_d0a16 3 = .ok (.arraylength, 1) := by decide +kernel
theorem dJ7_fill_d0a16_4 : decode cJ7_fill_d0a16 4 = .ok (.istore 4, 2) := by decide +kernel
theorem dJ7_fill_d0a16_6 : decode cJ7_fill_d0a16 6 = .ok (.iload_n 3, 1) := by decide +kernel
theorem dJ7_fill_d0a16_7 : decode cJ7_fill_d0a16 7 = .ok (.iload 4, 2) := by decide +kernel
theorem dJ7_fill_d0a16_9 : decode cJ7_fill_d0a16 9 = .ok (.if_icmp .ge 13, 3) := by decide +kernel
theorem dJ7_fill_d0a16_12 : decode cJ7_fill_d0a16 12 = .ok (.aload_n 0, 1) := by decide +kernel
theorem dJ7_fill_d0a16_13 : decode cJ7_fill_d0a16 13 = .ok (.iload_n 3, 1) := by decide +kernel
theorem dJ7_fill_d0a16_14 : decode cJ7_fill_d0a16 14 = .ok (.lload_n 1, 1) := by decide +kernel
theorem dJ7_fill_d0a16_15 : decode cJ7_fill_d0a16 15 = .ok (.lastore, 1) := by decide +kernel
theorem dJ7_fill_d0a16_16 : decode cJ7_fill_d0a16 16 = .ok (.iinc 3 1, 3) := by decide +kernel
theorem dJ7_fill_d0a16_19 : decode cJ7_fill_d0a16 19 = .ok (.goto (-13), 3) := by decide +kernel
theorem dJ7_fill_d0a16_22 : decode cJ7_fill_d0a16 22 = .ok (.return_, 1) := by decide +kernel
theorem dJ7_fill_53178_0 : decode cJ7_fill_53178 0 = .ok (.iconst 0, 1) := by decide +kernel
theorem dJ7_fill_53178_1 : decode cJ7_fill_53178 1 = .ok (.istore_n 2, 1) := by decide +kernel
theorem dJ7_fill_53178_2 : decode cJ7_fill_53178 2 = .ok (.aload_n 0, 1) := by decide +kernel
theorem dJ7_fill_53178_3 : decode cJ7_fill_53178 3 = .ok (.arraylength, 1) := by decide +kernel
theorem dJ7_fill_53178_4 : decode cJ7_fill_53178 4 = .ok (.istore_n 3, 1) := by decide +kernel
theorem dJ7_fill_53178_5 : decode cJ7_fill_53178 5 = .ok (.iload_n 2, 1) := by decide +kernel
theorem dJ7_fill_53178_6 : decode cJ7_fill_53178 6 = .ok (.iload_n 3, 1) := by decide +kernel
theorem dJ7_fill_53178_7 : decode cJ7_fill_53178 7 = .ok (.if_icmp .ge 13, 3) := by decide +kernel
theorem dJ7_fill_53178_10 : decode cJ7_fill_53178 10 = .ok (.aload_n 0, 1) := by decide +kernel
theorem dJ7_fill_53178_11 : decode cJ7_fill_53178 11 = .ok (.iload_n 2, 1) := by decide +kernel
theorem dJ7_fill_53178_12 : decode cJ7_fill_53178 12 = .ok (.iload_n 1, 1) := by decide +kernel
theorem dJ7_fill_53178_13 : decode cJ7_fill_53178 13 = .ok (.iastore, 1) := by decide +kernel
theorem dJ7_fill_53178_14 : decode cJ7_fill_53178 14 = .ok (.iinc 2 1, 3) := by decide +kernel
theorem dJ7_fill_53178_17 : decode cJ7_fill_53178 17 = .ok (.goto (-12), 3) := by decide +kernel
theorem dJ7_fill_53178_20 : decode cJ7_fill_53178 20 = .ok (.return_, 1) := by decide +kernel
theorem dJ3_checkIndex_8e157_0 : decode cJ3_checkIndex_8e157 0 = .ok (.iload_n 0, 1) := by decide +kernel
theorem dJ3_checkIndex_8e157_1 : decode cJ3_checkIndex_8e157 1 = .ok (.ifCond .lt 8, 3) := by decide +kernel
theorem dJ3_checkIndex_8e157_4 : decode cJ3_checkIndex_8e157 4 = .ok (.iload_n 0, 1) := by decide +kernel
theorem dJ3_checkIndex_8e157_5 : decode cJ3_checkIndex_8e157 5 = .ok (.iload_n 1, 1) := by decide +kernel
theorem dJ3_checkIndex_8e157_6 : decode cJ3_checkIndex_8e157 6 = .ok (.if_icmp .lt 10, 3) := by decide +kernel
theorem dJ3_checkIndex_8e157_9 : decode cJ3_checkIndex_8e157 9 = .ok (.aload_n 2, 1) := by decide +kernel
theorem dJ3_checkIndex_8e157_10 : decode cJ3_checkIndex_8e157 10 = .ok (.iload_n 0, 1) := by decide +kernel
theorem dJ3_checkIndex_8e157_11 : decode cJ3_checkIndex_8e157 11 = .ok (.iload_n 1, 1) := by decide +kernel
theorem dJ3_checkIndex_8e157_12 : decode cJ3_checkIndex_8e157 12 = .ok (.invokestatic 95, 3) := by decide +kernel
theorem dJ3_checkIndex_8e157_15 : decode cJ3_checkIndex_8e157 15 = .ok (.athrow, 1) := by decide +kernel
theorem dJ3_checkIndex_8e157_16 : decode cJ3_checkIndex_8e157 16 = .ok (.iload_n 0, 1) := by decide +kernel
theorem dJ3_checkIndex_8e157_17 : decode cJ3_checkIndex_8e157 17 = .ok (.ireturn, 1) := by decide +kernel
theorem dL_law_0 : decode cL_law 0 = .ok (.new 7, 3) := by decide +kernel
theorem dL_law_3 : decode cL_law 3 = .ok (.dup, 1) := by decide +kernel
theorem dL_law_4 : decode cL_law 4 = .ok (.invokespecial 9, 3) := by decide +kernel
theorem dL_law_7 : decode cL_law 7 = .ok (.astore_n 1, 1) := by decide +kernel
theorem dL_law_8 : decode cL_law 8 = .ok (.new 10, 3) := by decide +kernel
theorem dL_law_11 : decode cL_law 11 = .ok (.dup, 1) := by decide +kernel
theorem dL_law_12 : decode cL_law 12 = .ok (.invokespecial 12, 3) := by decide +kernel
theorem dL_law_15 : decode cL_law 15 = .ok (.astore_n 2, 1) := by decide +kernel
theorem dL_law_16 : decode cL_law 16 = .ok (.iconst 0, 1) := by decide +kernel
theorem dL_law_17 : decode cL_law 17 = .ok (.istore_n 3, 1) := by decide +kernel
theorem dL_law_18 : decode cL_law 18 = .ok (.iload_n 3, 1) := by decide +kernel
theorem dL_law_19 : decode cL_law 19 = .ok (.aload_n 0, 1) := by decide +kernel
theorem dL_law_20 : decode cL_law 20 = .ok (.arraylength, 1) := by decide +kernel
theorem dL_law_21 : decode cL_law 21 = .ok (.bipush 6, 2) := by decide +kernel
theorem dL_law_23 : decode cL_law 23 = .ok (.isub, 1) := by decide +kernel
theorem dL_law_24 : decode cL_law 24 = .ok (.if_icmp .gt 920, 3) := by decide +kernel
theorem dL_law_27 : decode cL_law 27 = .ok (.aload_n 0, 1) := by decide +kernel
theorem dL_law_28 : decode cL_law 28 = .ok (.iload_n 3, 1) := by decide +kernel
theorem dL_law_29 : decode cL_law 29 = .ok (.iaload, 1) := by decide +kernel
theorem dL_law_30 : decode cL_law 30 = .ok (.bipush 31, 2) := by decide +kernel
theorem dL_law_32 : decode cL_law 32 = .ok (.iand, 1) := by decide +kernel
theorem dL_law_33 : decode cL_law 33 = .ok (.tableswitch 905 0 24 #[115, 138, 161, 230, 273, 306, 369, 392, 415, 438, 471, 494, 527, 550, 574, 598, 631, 655, 678, 701, 734, 787, 820, 843, 882], 115) := by decide +kernel
theorem dL_law_148 : decode cL_law 148 = .ok (.aload_n 1, 1) := by decide +kernel
theorem dL_law_149 : decode cL_law 149 = .ok (.aload_n 0, 1) := by decide +kernel
theorem dL_law_150 : decode cL_law 150 = .ok (.iload_n 3, 1) := by decide +kernel
theorem dL_law_151 : decode cL_law 151 = .ok (.iconst 1, 1) := by decide +kernel
theorem dL_law_152 : decode cL_law 152 = .ok (.iadd, 1) := by decide +kernel
theorem dL_law_153 : decode cL_law 153 = .ok (.iaload, 1) := by decide +kernel
theorem dL_law_154 : decode cL_law 154 = .ok (.invokevirtual 13, 3) := by decide +kernel
theorem dL_law_157 : decode cL_law 157 = .ok (.aload_n 2, 1) := by decide +kernel
theorem dL_law_158 : decode cL_law 158 = .ok (.aload_n 0, 1) := by decide +kernel
theorem dL_law_159 : decode cL_law 159 = .ok (.iload_n 3, 1) := by decide +kernel
theorem dL_law_160 : decode cL_law 160 = .ok (.iconst 1, 1) := by decide +kernel
theorem dL_law_161 : decode cL_law 161 = .ok (.iadd, 1) := by decide +kernel
theorem dL_law_162 : decode cL_law 162 = .ok (.iaload, 1) := by decide +kernel
theorem dL_law_163 : decode cL_law 163 = .ok (.invokevirtual 17, 3) := by decide +kernel
theorem dL_law_166 : decode cL_law 166 = .ok (.if_icmp .eq 772, 3) := by decide +kernel
theorem dL_law_169 : decode cL_law 169 = .ok (.iconst 0, 1) := by decide +kernel
theorem dL_law_170 : decode cL_law 170 = .ok (.ireturn, 1) := by decide +kernel
theorem dL_law_171 : decode cL_law 171 = .ok (.aload_n 1, 1) := by decide +kernel
theorem dL_law_172 : decode cL_law 172 = .ok (.aload_n 0, 1) := by decide +kernel
theorem dL_law_173 : decode cL_law 173 = .ok (.iload_n 3, 1) := by decide +kernel
theorem dL_law_174 : decode cL_law 174 = .ok (.iconst 1, 1) := by decide +kernel
theorem dL_law_175 : decode cL_law 175 = .ok (.iadd, 1) := by decide +kernel
theorem dL_law_176 : decode cL_law 176 = .ok (.iaload, 1) := by decide +kernel
theorem dL_law_177 : decode cL_law 177 = .ok (.invokevirtual 18, 3) := by decide +kernel
theorem dL_law_180 : decode cL_law 180 = .ok (.aload_n 2, 1) := by decide +kernel
theorem dL_law_181 : decode cL_law 181 = .ok (.aload_n 0, 1) := by decide +kernel
theorem dL_law_182 : decode cL_law 182 = .ok (.iload_n 3, 1) := by decide +kernel
theorem dL_law_183 : decode cL_law 183 = .ok (.iconst 1, 1) := by decide +kernel
theorem dL_law_184 : decode cL_law 184 = .ok (.iadd, 1) := by decide +kernel
theorem dL_law_185 : decode cL_law 185 = .ok (.iaload, 1) := by decide +kernel
theorem dL_law_186 : decode cL_law 186 = .ok (.invokevirtual 22, 3) := by decide +kernel
theorem dL_law_189 : decode cL_law 189 = .ok (.if_icmp .eq 749, 3) := by decide +kernel
theorem dL_law_192 : decode cL_law 192 = .ok (.iconst 0, 1) := by decide +kernel
theorem dL_law_193 : decode cL_law 193 = .ok (.ireturn, 1) := by decide +kernel
theorem dL_law_194 : decode cL_law 194 = .ok (.aload_n 1, 1) := by decide +kernel
theorem dL_law_195 : decode cL_law 195 = .ok (.aload_n 0, 1) := by decide +kernel
theorem dL_law_196 : decode cL_law 196 = .ok (.iload_n 3, 1) := by decide +kernel
theorem dL_law_197 : decode cL_law 197 = .ok (.iconst 1, 1) := by decide +kernel
theorem dL_law_198 : decode cL_law 198 = .ok (.iadd, 1) := by decide +kernel
theorem dL_law_199 : decode cL_law 199 = .ok (.iaload, 1) := by decide +kernel
theorem dL_law_200 : decode cL_law 200 = .ok (.aload_n 0, 1) := by decide +kernel
theorem dL_law_201 : decode cL_law 201 = .ok (.iload_n 3, 1) := by decide +kernel
theorem dL_law_202 : decode cL_law 202 = .ok (.iconst 2, 1) := by decide +kernel
theorem dL_law_203 : decode cL_law 203 = .ok (.iadd, 1) := by decide +kernel
theorem dL_law_204 : decode cL_law 204 = .ok (.iaload, 1) := by decide +kernel
theorem dL_law_205 : decode cL_law 205 = .ok (.aload_n 0, 1) := by decide +kernel
theorem dL_law_206 : decode cL_law 206 = .ok (.iload_n 3, 1) := by decide +kernel
theorem dL_law_207 : decode cL_law 207 = .ok (.iconst 3, 1) := by decide +kernel
theorem dL_law_208 : decode cL_law 208 = .ok (.iadd, 1) := by decide +kernel
theorem dL_law_209 : decode cL_law 209 = .ok (.iaload, 1) := by decide +kernel
theorem dL_law_210 : decode cL_law 210 = .ok (.aload_n 0, 1) := by decide +kernel
theorem dL_law_211 : decode cL_law 211 = .ok (.iload_n 3, 1) := by decide +kernel
theorem dL_law_212 : decode cL_law 212 = .ok (.iconst 4, 1) := by decide +kernel
theorem dL_law_213 : decode cL_law 213 = .ok (.iadd, 1) := by decide +kernel
theorem dL_law_214 : decode cL_law 214 = .ok (.iaload, 1) := by decide +kernel
theorem dL_law_215 : decode cL_law 215 = .ok (.ifCond .eq 7, 3) := by decide +kernel
theorem dL_law_218 : decode cL_law 218 = .ok (.iconst 1, 1) := by decide +kernel
theorem dL_law_219 : decode cL_law 219 = .ok (.goto 4, 3) := by decide +kernel
theorem dL_law_222 : decode cL_law 222 = .ok (.iconst 0, 1) := by decide +kernel
theorem dL_law_223 : decode cL_law 223 = .ok (.invokevirtual 23, 3) := by decide +kernel
theorem dL_law_226 : decode cL_law 226 = .ok (.aload_n 2, 1) := by decide +kernel
theorem dL_law_227 : decode cL_law 227 = .ok (.aload_n 0, 1) := by decide +kernel
theorem dL_law_228 : decode cL_law 228 = .ok (.iload_n 3, 1) := by decide +kernel
theorem dL_law_229 : decode cL_law 229 = .ok (.iconst 1, 1) := by decide +kernel
theorem dL_law_230 : decode cL_law 230 = .ok (.iadd, 1) := by decide +kernel
theorem dL_law_231 : decode cL_law 231 = .ok (.iaload, 1) := by decide +kernel
theorem dL_law_232 : decode cL_law 232 = .ok (.aload_n 0, 1) := by decide +kernel
theorem dL_law_233 : decode cL_law 233 = .ok (.iload_n 3, 1) := by decide +kernel
theorem dL_law_234 : decode cL_law 234 = .ok (.iconst 2, 1) := by decide +kernel
theorem dL_law_235 : decode cL_law 235 = .ok (.iadd, 1) := by decide +kernel
theorem dL_law_236 : decode cL_law 236 = .ok (.iaload, 1) := by decide +kernel
theorem dL_law_237 : decode cL_law 237 = .ok (.aload_n 0, 1) := by decide +kernel
theorem dL_law_238 : decode cL_law 238 = .ok (.iload_n 3, 1) := by decide +kernel
theorem dL_law_239 : decode cL_law 239 = .ok (.iconst 3, 1) := by decide +kernel
theorem dL_law_240 : decode cL_law 240 = .ok (.iadd, 1) := by decide +kernel
theorem dL_law_241 : decode cL_law 241 = .ok (.iaload, 1) := by decide +kernel
theorem dL_law_242 : decode cL_law 242 = .ok (.aload_n 0, 1) := by decide +kernel
theorem dL_law_243 : decode cL_law 243 = .ok (.iload_n 3, 1) := by decide +kernel
theorem dL_law_244 : decode cL_law 244 = .ok (.iconst 4, 1) := by decide +kernel
theorem dL_law_245 : decode cL_law 245 = .ok (.iadd, 1) := by decide +kernel
theorem dL_law_246 : decode cL_law 246 = .ok (.iaload, 1) := by decide +kernel
theorem dL_law_247 : decode cL_law 247 = .ok (.ifCond .eq 7, 3) := by decide +kernel
theorem dL_law_250 : decode cL_law 250 = .ok (.iconst 1, 1) := by decide +kernel
theorem dL_law_251 : decode cL_law 251 = .ok (.goto 4, 3) := by decide +kernel
theorem dL_law_254 : decode cL_law 254 = .ok (.iconst 0, 1) := by decide +kernel
theorem dL_law_255 : decode cL_law 255 = .ok (.invokevirtual 27, 3) := by decide +kernel
theorem dL_law_258 : decode cL_law 258 = .ok (.if_icmp .eq 680, 3) := by decide +kernel
theorem dL_law_261 : decode cL_law 261 = .ok (.iconst 0, 1) := by decide +kernel
theorem dL_law_262 : decode cL_law 262 = .ok (.ireturn, 1) := by decide +kernel
theorem dL_law_263 : decode cL_law 263 = .ok (.aload_n 1, 1) := by decide +kernel
theorem dL_law_264 : decode cL_law 264 = .ok (.aload_n 0, 1) := by decide +kernel
theorem dL_law_265 : decode cL_law 265 = .ok (.iload_n 3, 1) := by decide +kernel
theorem dL_law_266 : decode cL_law 266 = .ok (.iconst 1, 1) := by decide +kernel
theorem dL_law_267 : decode cL_law 267 = .ok (.iadd, 1) := by decide +kernel
theorem dL_law_268 : decode cL_law 268 = .ok (.iaload, 1) := by decide +kernel
theorem dL_law_269 : decode cL_law 269 = .ok (.aload_n 0, 1) := by decide +kernel
theorem dL_law_270 : decode cL_law 270 = .ok (.iload_n 3, 1) := by decide +kernel
theorem dL_law_271 : decode cL_law 271 = .ok (.iconst 2, 1) := by decide +kernel
theorem dL_law_272 : decode cL_law 272 = .ok (.iadd, 1) := by decide +kernel
theorem dL_law_273 : decode cL_law 273 = .ok (.iaload, 1) := by decide +kernel
theorem dL_law_274 : decode cL_law 274 = .ok (.aload_n 0, 1) := by decide +kernel
theorem dL_law_275 : decode cL_law 275 = .ok (.iload_n 3, 1) := by decide +kernel
theorem dL_law_276 : decode cL_law 276 = .ok (.iconst 3, 1) := by decide +kernel
theorem dL_law_277 : decode cL_law 277 = .ok (.iadd, 1) := by decide +kernel
theorem dL_law_278 : decode cL_law 278 = .ok (.iaload, 1) := by decide +kernel
theorem dL_law_279 : decode cL_law 279 = .ok (.invokevirtual 28, 3) := by decide +kernel
theorem dL_law_282 : decode cL_law 282 = .ok (.aload_n 2, 1) := by decide +kernel
theorem dL_law_283 : decode cL_law 283 = .ok (.aload_n 0, 1) := by decide +kernel
theorem dL_law_284 : decode cL_law 284 = .ok (.iload_n 3, 1) := by decide +kernel
theorem dL_law_285 : decode cL_law 285 = .ok (.iconst 1, 1) := by decide +kernel
theorem dL_law_286 : decode cL_law 286 = .ok (.iadd, 1) := by decide +kernel
theorem dL_law_287 : decode cL_law 287 = .ok (.iaload, 1) := by decide +kernel
theorem dL_law_288 : decode cL_law 288 = .ok (.aload_n 0, 1) := by decide +kernel
theorem dL_law_289 : decode cL_law 289 = .ok (.iload_n 3, 1) := by decide +kernel
theorem dL_law_290 : decode cL_law 290 = .ok (.iconst 2, 1) := by decide +kernel
theorem dL_law_291 : decode cL_law 291 = .ok (.iadd, 1) := by decide +kernel
theorem dL_law_292 : decode cL_law 292 = .ok (.iaload, 1) := by decide +kernel
theorem dL_law_293 : decode cL_law 293 = .ok (.aload_n 0, 1) := by decide +kernel
theorem dL_law_294 : decode cL_law 294 = .ok (.iload_n 3, 1) := by decide +kernel
theorem dL_law_295 : decode cL_law 295 = .ok (.iconst 3, 1) := by decide +kernel
theorem dL_law_296 : decode cL_law 296 = .ok (.iadd, 1) := by decide +kernel
theorem dL_law_297 : decode cL_law 297 = .ok (.iaload, 1) := by decide +kernel
theorem dL_law_298 : decode cL_law 298 = .ok (.invokevirtual 32, 3) := by decide +kernel
theorem dL_law_301 : decode cL_law 301 = .ok (.if_icmp .eq 637, 3) := by decide +kernel
theorem dL_law_304 : decode cL_law 304 = .ok (.iconst 0, 1) := by decide +kernel
theorem dL_law_305 : decode cL_law 305 = .ok (.ireturn, 1) := by decide +kernel
theorem dL_law_306 : decode cL_law 306 = .ok (.aload_n 1, 1) := by decide +kernel
theorem dL_law_307 : decode cL_law 307 = .ok (.aload_n 0, 1) := by decide +kernel
theorem dL_law_308 : decode cL_law 308 = .ok (.iload_n 3, 1) := by decide +kernel
theorem dL_law_309 : decode cL_law 309 = .ok (.iconst 1, 1) := by decide +kernel
theorem dL_law_310 : decode cL_law 310 = .ok (.iadd, 1) := by decide +kernel
theorem dL_law_311 : decode cL_law 311 = .ok (.iaload, 1) := by decide +kernel
theorem dL_law_312 : decode cL_law 312 = .ok (.aload_n 0, 1) := by decide +kernel
theorem dL_law_313 : decode cL_law 313 = .ok (.iload_n 3, 1) := by decide +kernel
theorem dL_law_314 : decode cL_law 314 = .ok (.iconst 2, 1) := by decide +kernel
theorem dL_law_315 : decode cL_law 315 = .ok (.iadd, 1) := by decide +kernel
theorem dL_law_316 : decode cL_law 316 = .ok (.iaload, 1) := by decide +kernel
theorem dL_law_317 : decode cL_law 317 = .ok (.invokevirtual 33, 3) := by decide +kernel
theorem dL_law_320 : decode cL_law 320 = .ok (.aload_n 2, 1) := by decide +kernel
theorem dL_law_321 : decode cL_law 321 = .ok (.aload_n 0, 1) := by decide +kernel
theorem dL_law_322 : decode cL_law 322 = .ok (.iload_n 3, 1) := by decide +kernel
theorem dL_law_323 : decode cL_law 323 = .ok (.iconst 1, 1) := by decide +kernel
theorem dL_law_324 : decode cL_law 324 = .ok (.iadd, 1) := by decide +kernel
theorem dL_law_325 : decode cL_law 325 = .ok (.iaload, 1) := by decide +kernel
theorem dL_law_326 : decode cL_law 326 = .ok (.aload_n 0, 1) := by decide +kernel
theorem dL_law_327 : decode cL_law 327 = .ok (.iload_n 3, 1) := by decide +kernel
theorem dL_law_328 : decode cL_law 328 = .ok (.iconst 2, 1) := by decide +kernel
theorem dL_law_329 : decode cL_law 329 = .ok (.iadd, 1) := by decide +kernel
theorem dL_law_330 : decode cL_law 330 = .ok (.iaload, 1) := by decide +kernel
theorem dL_law_331 : decode cL_law 331 = .ok (.invokevirtual 37, 3) := by decide +kernel
theorem dL_law_334 : decode cL_law 334 = .ok (.if_icmp .eq 604, 3) := by decide +kernel
theorem dL_law_337 : decode cL_law 337 = .ok (.iconst 0, 1) := by decide +kernel
theorem dL_law_338 : decode cL_law 338 = .ok (.ireturn, 1) := by decide +kernel
theorem dL_law_339 : decode cL_law 339 = .ok (.aload_n 1, 1) := by decide +kernel
theorem dL_law_340 : decode cL_law 340 = .ok (.aload_n 0, 1) := by decide +kernel
theorem dL_law_341 : decode cL_law 341 = .ok (.iload_n 3, 1) := by decide +kernel
theorem dL_law_342 : decode cL_law 342 = .ok (.iconst 1, 1) := by decide +kernel
theorem dL_law_343 : decode cL_law 343 = .ok (.iadd, 1) := by decide +kernel
theorem dL_law_344 : decode cL_law 344 = .ok (.iaload, 1) := by decide +kernel
theorem dL_law_345 : decode cL_law 345 = .ok (.aload_n 0, 1) := by decide +kernel
theorem dL_law_346 : decode cL_law 346 = .ok (.iload_n 3, 1) := by decide +kernel
theorem dL_law_347 : decode cL_law 347 = .ok (.iconst 2, 1) := by decide +kernel
theorem dL_law_348 : decode cL_law 348 = .ok (.iadd, 1) := by decide +kernel
theorem dL_law_349 : decode cL_law 349 = .ok (.iaload, 1) := by decide +kernel
theorem dL_law_350 : decode cL_law 350 = .ok (.aload_n 0, 1) := by decide +kernel
theorem dL_law_351 : decode cL_law 351 = .ok (.iload_n 3, 1) := by decide +kernel
theorem dL_law_352 : decode cL_law 352 = .ok (.iconst 3, 1) := by decide +kernel
theorem dL_law_353 : decode cL_law 353 = .ok (.iadd, 1) := by decide +kernel
theorem dL_law_354 : decode cL_law 354 = .ok (.iaload, 1) := by decide +kernel
theorem dL_law_355 : decode cL_law 355 = .ok (.aload_n 0, 1) := by decide +kernel
theorem dL_law_356 : decode cL_law 356 = .ok (.iload_n 3, 1) := by decide +kernel
theorem dL_law_357 : decode cL_law 357 = .ok (.iconst 4, 1) := by decide +kernel
theorem dL_law_358 : decode cL_law 358 = .ok (.iadd, 1) := by decide +kernel
theorem dL_law_359 : decode cL_law 359 = .ok (.iaload, 1) := by decide +kernel
theorem dL_law_360 : decode cL_law 360 = .ok (.aload_n 0, 1) := by decide +kernel
theorem dL_law_361 : decode cL_law 361 = .ok (.iload_n 3, 1) := by decide +kernel
theorem dL_law_362 : decode cL_law 362 = .ok (.iconst 5, 1) := by decide +kernel
theorem dL_law_363 : decode cL_law 363 = .ok (.iadd, 1) := by decide +kernel
theorem dL_law_364 : decode cL_law 364 = .ok (.iaload, 1) := by decide +kernel
theorem dL_law_365 : decode cL_law 365 = .ok (.invokevirtual 38, 3) := by decide +kernel
theorem dL_law_368 : decode cL_law 368 = .ok (.aload_n 2, 1) := by decide +kernel
theorem dL_law_369 : decode cL_law 369 = .ok (.aload_n 0, 1) := by decide +kernel
theorem dL_law_370 : decode cL_law 370 = .ok (.iload_n 3, 1) := by decide +kernel
theorem dL_law_371 : decode cL_law 371 = .ok (.iconst 1, 1) := by decide +kernel
theorem dL_law_372 : decode cL_law 372 = .ok (.iadd, 1) := by decide +kernel
theorem dL_law_373 : decode cL_law 373 = .ok (.iaload, 1) := by decide +kernel
theorem dL_law_374 : decode cL_law 374 = .ok (.aload_n 0, 1) := by decide +kernel
theorem dL_law_375 : decode cL_law 375 = .ok (.iload_n 3, 1) := by decide +kernel
theorem dL_law_376 : decode cL_law 376 = .ok (.iconst 2, 1) := by decide +kernel
theorem dL_law_377 : decode cL_law 377 = .ok (.iadd, 1) := by decide +kernel
theorem dL_law_378 : decode cL_law 378 = .ok (.iaload, 1) := by decide +kernel
theorem dL_law_379 : decode cL_law 379 = .ok (.aload_n 0, 1) := by decide +kernel
theorem dL_law_380 : decode cL_law 380 = .ok (.iload_n 3, 1) := by decide +kernel
theorem dL_law_381 : decode cL_law 381 = .ok (.iconst 3, 1) := by decide +kernel
theorem dL_law_382 : decode cL_law 382 = .ok (.iadd, 1) := by decide +kernel
theorem dL_law_383 : decode cL_law 383 = .ok (.iaload, 1) := by decide +kernel
theorem dL_law_384 : decode cL_law 384 = .ok (.aload_n 0, 1) := by decide +kernel
theorem dL_law_385 : decode cL_law 385 = .ok (.iload_n 3, 1) := by decide +kernel
theorem dL_law_386 : decode cL_law 386 = .ok (.iconst 4, 1) := by decide +kernel
theorem dL_law_387 : decode cL_law 387 = .ok (.iadd, 1) := by decide +kernel
theorem dL_law_388 : decode cL_law 388 = .ok (.iaload, 1) := by decide +kernel
theorem dL_law_389 : decode cL_law 389 = .ok (.aload_n 0, 1) := by decide +kernel
theorem dL_law_390 : decode cL_law 390 = .ok (.iload_n 3, 1) := by decide +kernel
theorem dL_law_391 : decode cL_law 391 = .ok (.iconst 5, 1) := by decide +kernel
theorem dL_law_392 : decode cL_law 392 = .ok (.iadd, 1) := by decide +kernel
theorem dL_law_393 : decode cL_law 393 = .ok (.iaload, 1) := by decide +kernel
theorem dL_law_394 : decode cL_law 394 = .ok (.invokevirtual 42, 3) := by decide +kernel
theorem dL_law_397 : decode cL_law 397 = .ok (.if_icmp .eq 541, 3) := by decide +kernel
theorem dL_law_400 : decode cL_law 400 = .ok (.iconst 0, 1) := by decide +kernel
theorem dL_law_401 : decode cL_law 401 = .ok (.ireturn, 1) := by decide +kernel
theorem dL_law_402 : decode cL_law 402 = .ok (.aload_n 1, 1) := by decide +kernel
theorem dL_law_403 : decode cL_law 403 = .ok (.aload_n 0, 1) := by decide +kernel
theorem dL_law_404 : decode cL_law 404 = .ok (.iload_n 3, 1) := by decide +kernel
theorem dL_law_405 : decode cL_law 405 = .ok (.iconst 1, 1) := by decide +kernel
theorem dL_law_406 : decode cL_law 406 = .ok (.iadd, 1) := by decide +kernel
theorem dL_law_407 : decode cL_law 407 = .ok (.iaload, 1) := by decide +kernel
theorem dL_law_408 : decode cL_law 408 = .ok (.invokevirtual 43, 3) := by decide +kernel
theorem dL_law_411 : decode cL_law 411 = .ok (.aload_n 2, 1) := by decide +kernel
theorem dL_law_412 : decode cL_law 412 = .ok (.aload_n 0, 1) := by decide +kernel
theorem dL_law_413 : decode cL_law 413 = .ok (.iload_n 3, 1) := by decide +kernel
theorem dL_law_414 : decode cL_law 414 = .ok (.iconst 1, 1) := by decide +kernel
theorem dL_law_415 : decode cL_law 415 = .ok (.iadd, 1) := by decide +kernel
theorem dL_law_416 : decode cL_law 416 = .ok (.iaload, 1) := by decide +kernel
theorem dL_law_417 : decode cL_law 417 = .ok (.invokevirtual 46, 3) := by decide +kernel
theorem dL_law_420 : decode cL_law 420 = .ok (.if_icmp .eq 518, 3) := by decide +kernel
theorem dL_law_423 : decode cL_law 423 = .ok (.iconst 0, 1) := by decide +kernel
theorem dL_law_424 : decode cL_law 424 = .ok (.ireturn, 1) := by decide +kernel
theorem dL_law_425 : decode cL_law 425 = .ok (.aload_n 1, 1) := by decide +kernel
theorem dL_law_426 : decode cL_law 426 = .ok (.aload_n 0, 1) := by decide +kernel
theorem dL_law_427 : decode cL_law 427 = .ok (.iload_n 3, 1) := by decide +kernel
theorem dL_law_428 : decode cL_law 428 = .ok (.iconst 1, 1) := by decide +kernel
theorem dL_law_429 : decode cL_law 429 = .ok (.iadd, 1) := by decide +kernel
theorem dL_law_430 : decode cL_law 430 = .ok (.iaload, 1) := by decide +kernel
theorem dL_law_431 : decode cL_law 431 = .ok (.invokevirtual 47, 3) := by decide +kernel
theorem dL_law_434 : decode cL_law 434 = .ok (.aload_n 2, 1) := by decide +kernel
theorem dL_law_435 : decode cL_law 435 = .ok (.aload_n 0, 1) := by decide +kernel
theorem dL_law_436 : decode cL_law 436 = .ok (.iload_n 3, 1) := by decide +kernel
theorem dL_law_437 : decode cL_law 437 = .ok (.iconst 1, 1) := by decide +kernel
theorem dL_law_438 : decode cL_law 438 = .ok (.iadd, 1) := by decide +kernel
theorem dL_law_439 : decode cL_law 439 = .ok (.iaload, 1) := by decide +kernel
theorem dL_law_440 : decode cL_law 440 = .ok (.invokevirtual 50, 3) := by decide +kernel
theorem dL_law_443 : decode cL_law 443 = .ok (.if_icmp .eq 495, 3) := by decide +kernel
theorem dL_law_446 : decode cL_law 446 = .ok (.iconst 0, 1) := by decide +kernel
theorem dL_law_447 : decode cL_law 447 = .ok (.ireturn, 1) := by decide +kernel
theorem dL_law_448 : decode cL_law 448 = .ok (.aload_n 1, 1) := by decide +kernel
theorem dL_law_449 : decode cL_law 449 = .ok (.aload_n 0, 1) := by decide +kernel
theorem dL_law_450 : decode cL_law 450 = .ok (.iload_n 3, 1) := by decide +kernel
theorem dL_law_451 : decode cL_law 451 = .ok (.iconst 1, 1) := by decide +kernel
theorem dL_law_452 : decode cL_law 452 = .ok (.iadd, 1) := by decide +kernel
theorem dL_law_453 : decode cL_law 453 = .ok (.iaload, 1) := by decide +kernel
theorem dL_law_454 : decode cL_law 454 = .ok (.invokevirtual 51, 3) := by decide +kernel
theorem dL_law_457 : decode cL_law 457 = .ok (.aload_n 2, 1) := by decide +kernel
theorem dL_law_458 : decode cL_law 458 = .ok (.aload_n 0, 1) := by decide +kernel
theorem dL_law_459 : decode cL_law 459 = .ok (.iload_n 3, 1) := by decide +kernel
theorem dL_law_460 : decode cL_law 460 = .ok (.iconst 1, 1) := by decide +kernel
theorem dL_law_461 : decode cL_law 461 = .ok (.iadd, 1) := by decide +kernel
theorem dL_law_462 : decode cL_law 462 = .ok (.iaload, 1) := by decide +kernel
theorem dL_law_463 : decode cL_law 463 = .ok (.invokevirtual 54, 3) := by decide +kernel
theorem dL_law_466 : decode cL_law 466 = .ok (.if_icmp .eq 472, 3) := by decide +kernel
theorem dL_law_469 : decode cL_law 469 = .ok (.iconst 0, 1) := by decide +kernel
theorem dL_law_470 : decode cL_law 470 = .ok (.ireturn, 1) := by decide +kernel
theorem dL_law_471 : decode cL_law 471 = .ok (.aload_n 1, 1) := by decide +kernel
theorem dL_law_472 : decode cL_law 472 = .ok (.aload_n 0, 1) := by decide +kernel
theorem dL_law_473 : decode cL_law 473 = .ok (.iload_n 3, 1) := by decide +kernel
theorem dL_law_474 : decode cL_law 474 = .ok (.iconst 1, 1) := by decide +kernel
theorem dL_law_475 : decode cL_law 475 = .ok (.iadd, 1) := by decide +kernel
theorem dL_law_476 : decode cL_law 476 = .ok (.iaload, 1) := by decide +kernel
theorem dL_law_477 : decode cL_law 477 = .ok (.aload_n 0, 1) := by decide +kernel
theorem dL_law_478 : decode cL_law 478 = .ok (.iload_n 3, 1) := by decide +kernel
theorem dL_law_479 : decode cL_law 479 = .ok (.iconst 2, 1) := by decide +kernel
theorem dL_law_480 : decode cL_law 480 = .ok (.iadd, 1) := by decide +kernel
theorem dL_law_481 : decode cL_law 481 = .ok (.iaload, 1) := by decide +kernel
theorem dL_law_482 : decode cL_law 482 = .ok (.invokevirtual 55, 3) := by decide +kernel
theorem dL_law_485 : decode cL_law 485 = .ok (.aload_n 2, 1) := by decide +kernel
theorem dL_law_486 : decode cL_law 486 = .ok (.aload_n 0, 1) := by decide +kernel
theorem dL_law_487 : decode cL_law 487 = .ok (.iload_n 3, 1) := by decide +kernel
theorem dL_law_488 : decode cL_law 488 = .ok (.iconst 1, 1) := by decide +kernel
theorem dL_law_489 : decode cL_law 489 = .ok (.iadd, 1) := by decide +kernel
theorem dL_law_490 : decode cL_law 490 = .ok (.iaload, 1) := by decide +kernel
theorem dL_law_491 : decode cL_law 491 = .ok (.aload_n 0, 1) := by decide +kernel
theorem dL_law_492 : decode cL_law 492 = .ok (.iload_n 3, 1) := by decide +kernel
theorem dL_law_493 : decode cL_law 493 = .ok (.iconst 2, 1) := by decide +kernel
theorem dL_law_494 : decode cL_law 494 = .ok (.iadd, 1) := by decide +kernel
theorem dL_law_495 : decode cL_law 495 = .ok (.iaload, 1) := by decide +kernel
theorem dL_law_496 : decode cL_law 496 = .ok (.invokevirtual 59, 3) := by decide +kernel
theorem dL_law_499 : decode cL_law 499 = .ok (.if_icmp .eq 439, 3) := by decide +kernel
theorem dL_law_502 : decode cL_law 502 = .ok (.iconst 0, 1) := by decide +kernel
theorem dL_law_503 : decode cL_law 503 = .ok (.ireturn, 1) := by decide +kernel
theorem dL_law_504 : decode cL_law 504 = .ok (.aload_n 1, 1) := by decide +kernel
theorem dL_law_505 : decode cL_law 505 = .ok (.aload_n 0, 1) := by decide +kernel
theorem dL_law_506 : decode cL_law 506 = .ok (.iload_n 3, 1) := by decide +kernel
theorem dL_law_507 : decode cL_law 507 = .ok (.iconst 1, 1) := by decide +kernel
theorem dL_law_508 : decode cL_law 508 = .ok (.iadd, 1) := by decide +kernel
theorem dL_law_509 : decode cL_law 509 = .ok (.iaload, 1) := by decide +kernel
theorem dL_law_510 : decode cL_law 510 = .ok (.invokevirtual 60, 3) := by decide +kernel
theorem dL_law_513 : decode cL_law 513 = .ok (.aload_n 2, 1) := by decide +kernel
theorem dL_law_514 : decode cL_law 514 = .ok (.aload_n 0, 1) := by decide +kernel
theorem dL_law_515 : decode cL_law 515 = .ok (.iload_n 3, 1) := by decide +kernel
theorem dL_law_516 : decode cL_law 516 = .ok (.iconst 1, 1) := by decide +kernel
theorem dL_law_517 : decode cL_law 517 = .ok (.iadd, 1) := by decide +kernel
theorem dL_law_518 : decode cL_law 518 = .ok (.iaload, 1) := by decide +kernel
theorem dL_law_519 : decode cL_law 519 = .ok (.invokevirtual 63, 3) := by decide +kernel
theorem dL_law_522 : decode cL_law 522 = .ok (.if_icmp .eq 416, 3) := by decide +kernel
theorem dL_law_525 : decode cL_law 525 = .ok (.iconst 0, 1) := by decide +kernel
theorem dL_law_526 : decode cL_law 526 = .ok (.ireturn, 1) := by decide +kernel
theorem dL_law_527 : decode cL_law 527 = .ok (.aload_n 1, 1) := by decide +kernel
theorem dL_law_528 : decode cL_law 528 = .ok (.aload_n 0, 1) := by decide +kernel
theorem dL_law_529 : decode cL_law 529 = .ok (.iload_n 3, 1) := by decide +kernel
theorem dL_law_530 : decode cL_law 530 = .ok (.iconst 1, 1) := by decide +kernel
theorem dL_law_531 : decode cL_law 531 = .ok (.iadd, 1) := by decide +kernel
theorem dL_law_532 : decode cL_law 532 = .ok (.iaload, 1) := by decide +kernel
theorem dL_law_533 : decode cL_law 533 = .ok (.aload_n 0, 1) := by decide +kernel
theorem dL_law_534 : decode cL_law 534 = .ok (.iload_n 3, 1) := by decide +kernel
theorem dL_law_535 : decode cL_law 535 = .ok (.iconst 2, 1) := by decide +kernel
theorem dL_law_536 : decode cL_law 536 = .ok (.iadd, 1) := by decide +kernel
theorem dL_law_537 : decode cL_law 537 = .ok (.iaload, 1) := by decide +kernel
theorem dL_law_538 : decode cL_law 538 = .ok (.invokevirtual 64, 3) := by decide +kernel
theorem dL_law_541 : decode cL_law 541 = .ok (.aload_n 2, 1) := by decide +kernel
theorem dL_law_542 : decode cL_law 542 = .ok (.aload_n 0, 1) := by decide +kernel
theorem dL_law_543 : decode cL_law 543 = .ok (.iload_n 3, 1) := by decide +kernel
theorem dL_law_544 : decode cL_law 544 = .ok (.iconst 1, 1) := by decide +kernel
theorem dL_law_545 : decode cL_law 545 = .ok (.iadd, 1) := by decide +kernel
theorem dL_law_546 : decode cL_law 546 = .ok (.iaload, 1) := by decide +kernel
theorem dL_law_547 : decode cL_law 547 = .ok (.aload_n 0, 1) := by decide +kernel
theorem dL_law_548 : decode cL_law 548 = .ok (.iload_n 3, 1) := by decide +kernel
theorem dL_law_549 : decode cL_law 549 = .ok (.iconst 2, 1) := by decide +kernel
theorem dL_law_550 : decode cL_law 550 = .ok (.iadd, 1) := by decide +kernel
theorem dL_law_551 : decode cL_law 551 = .ok (.iaload, 1) := by decide +kernel
theorem dL_law_552 : decode cL_law 552 = .ok (.invokevirtual 67, 3) := by decide +kernel
theorem dL_law_555 : decode cL_law 555 = .ok (.if_icmp .eq 383, 3) := by decide +kernel
theorem dL_law_558 : decode cL_law 558 = .ok (.iconst 0, 1) := by decide +kernel
theorem dL_law_559 : decode cL_law 559 = .ok (.ireturn, 1) := by decide +kernel
theorem dL_law_560 : decode cL_law 560 = .ok (.aload_n 1, 1) := by decide +kernel
theorem dL_law_561 : decode cL_law 561 = .ok (.aload_n 0, 1) := by decide +kernel
theorem dL_law_562 : decode cL_law 562 = .ok (.iload_n 3, 1) := by decide +kernel
theorem dL_law_563 : decode cL_law 563 = .ok (.iconst 1, 1) := by decide +kernel
theorem dL_law_564 : decode cL_law 564 = .ok (.iadd, 1) := by decide +kernel
theorem dL_law_565 : decode cL_law 565 = .ok (.iaload, 1) := by decide +kernel
theorem dL_law_566 : decode cL_law 566 = .ok (.invokevirtual 68, 3) := by decide +kernel
theorem dL_law_569 : decode cL_law 569 = .ok (.aload_n 2, 1) := by decide +kernel
theorem dL_law_570 : decode cL_law 570 = .ok (.aload_n 0, 1) := by decide +kernel
theorem dL_law_571 : decode cL_law 571 = .ok (.iload_n 3, 1) := by decide +kernel
theorem dL_law_572 : decode cL_law 572 = .ok (.iconst 1, 1) := by decide +kernel
theorem dL_law_573 : decode cL_law 573 = .ok (.iadd, 1) := by decide +kernel
theorem dL_law_574 : decode cL_law 574 = .ok (.iaload, 1) := by decide +kernel
theorem dL_law_575 : decode cL_law 575 = .ok (.invokevirtual 71, 3) := by decide +kernel
theorem dL_law_578 : decode cL_law 578 = .ok (.if_icmp .eq 360, 3) := by decide +kernel
theorem dL_law_581 : decode cL_law 581 = .ok (.iconst 0, 1) := by decide +kernel
theorem dL_law_582 : decode cL_law 582 = .ok (.ireturn, 1) := by decide +kernel
theorem dL_law_583 : decode cL_law 583 = .ok (.aload_n 1, 1) := by decide +kernel
theorem dL_law_584 : decode cL_law 584 = .ok (.aload_n 0, 1) := by decide +kernel
theorem dL_law_585 : decode cL_law 585 = .ok (.iload_n 3, 1) := by decide +kernel
theorem dL_law_586 : decode cL_law 586 = .ok (.iconst 1, 1) := by decide +kernel
theorem dL_law_587 : decode cL_law 587 = .ok (.iadd, 1) := by decide +kernel
theorem dL_law_588 : decode cL_law 588 = .ok (.iaload, 1) := by decide +kernel
theorem dL_law_589 : decode cL_law 589 = .ok (.invokevirtual 72, 3) := by decide +kernel
theorem dL_law_592 : decode cL_law 592 = .ok (.aload_n 2, 1) := by decide +kernel
theorem dL_law_593 : decode cL_law 593 = .ok (.aload_n 0, 1) := by decide +kernel
theorem dL_law_594 : decode cL_law 594 = .ok (.iload_n 3, 1) := by decide +kernel
theorem dL_law_595 : decode cL_law 595 = .ok (.iconst 1, 1) := by decide +kernel
theorem dL_law_596 : decode cL_law 596 = .ok (.iadd, 1) := by decide +kernel
theorem dL_law_597 : decode cL_law 597 = .ok (.iaload, 1) := by decide +kernel
theorem dL_law_598 : decode cL_law 598 = .ok (.invokevirtual 76, 3) := by decide +kernel
theorem dL_law_601 : decode cL_law 601 = .ok (.lcmp, 1) := by decide +kernel
theorem dL_law_602 : decode cL_law 602 = .ok (.ifCond .eq 336, 3) := by decide +kernel
theorem dL_law_605 : decode cL_law 605 = .ok (.iconst 0, 1) := by decide +kernel
theorem dL_law_606 : decode cL_law 606 = .ok (.ireturn, 1) := by decide +kernel
theorem dL_law_607 : decode cL_law 607 = .ok (.aload_n 1, 1) := by decide +kernel
theorem dL_law_608 : decode cL_law 608 = .ok (.aload_n 0, 1) := by decide +kernel
theorem dL_law_609 : decode cL_law 609 = .ok (.iload_n 3, 1) := by decide +kernel
theorem dL_law_610 : decode cL_law 610 = .ok (.iconst 1, 1) := by decide +kernel
theorem dL_law_611 : decode cL_law 611 = .ok (.iadd, 1) := by decide +kernel
theorem dL_law_612 : decode cL_law 612 = .ok (.iaload, 1) := by decide +kernel
theorem dL_law_613 : decode cL_law 613 = .ok (.invokevirtual 77, 3) := by decide +kernel
theorem dL_law_616 : decode cL_law 616 = .ok (.aload_n 2, 1) := by decide +kernel
theorem dL_law_617 : decode cL_law 617 = .ok (.aload_n 0, 1) := by decide +kernel
theorem dL_law_618 : decode cL_law 618 = .ok (.iload_n 3, 1) := by decide +kernel
theorem dL_law_619 : decode cL_law 619 = .ok (.iconst 1, 1) := by decide +kernel
theorem dL_law_620 : decode cL_law 620 = .ok (.iadd, 1) := by decide +kernel
theorem dL_law_621 : decode cL_law 621 = .ok (.iaload, 1) := by decide +kernel
theorem dL_law_622 : decode cL_law 622 = .ok (.invokevirtual 80, 3) := by decide +kernel
theorem dL_law_625 : decode cL_law 625 = .ok (.lcmp, 1) := by decide +kernel
theorem dL_law_626 : decode cL_law 626 = .ok (.ifCond .eq 312, 3) := by decide +kernel
theorem dL_law_629 : decode cL_law 629 = .ok (.iconst 0, 1) := by decide +kernel
theorem dL_law_630 : decode cL_law 630 = .ok (.ireturn, 1) := by decide +kernel
theorem dL_law_631 : decode cL_law 631 = .ok (.aload_n 1, 1) := by decide +kernel
theorem dL_law_632 : decode cL_law 632 = .ok (.aload_n 0, 1) := by decide +kernel
theorem dL_law_633 : decode cL_law 633 = .ok (.iload_n 3, 1) := by decide +kernel
theorem dL_law_634 : decode cL_law 634 = .ok (.iconst 1, 1) := by decide +kernel
theorem dL_law_635 : decode cL_law 635 = .ok (.iadd, 1) := by decide +kernel
theorem dL_law_636 : decode cL_law 636 = .ok (.iaload, 1) := by decide +kernel
theorem dL_law_637 : decode cL_law 637 = .ok (.aload_n 0, 1) := by decide +kernel
theorem dL_law_638 : decode cL_law 638 = .ok (.iload_n 3, 1) := by decide +kernel
theorem dL_law_639 : decode cL_law 639 = .ok (.iconst 2, 1) := by decide +kernel
theorem dL_law_640 : decode cL_law 640 = .ok (.iadd, 1) := by decide +kernel
theorem dL_law_641 : decode cL_law 641 = .ok (.iaload, 1) := by decide +kernel
theorem dL_law_642 : decode cL_law 642 = .ok (.invokevirtual 81, 3) := by decide +kernel
theorem dL_law_645 : decode cL_law 645 = .ok (.aload_n 2, 1) := by decide +kernel
theorem dL_law_646 : decode cL_law 646 = .ok (.aload_n 0, 1) := by decide +kernel
theorem dL_law_647 : decode cL_law 647 = .ok (.iload_n 3, 1) := by decide +kernel
theorem dL_law_648 : decode cL_law 648 = .ok (.iconst 1, 1) := by decide +kernel
theorem dL_law_649 : decode cL_law 649 = .ok (.iadd, 1) := by decide +kernel
theorem dL_law_650 : decode cL_law 650 = .ok (.iaload, 1) := by decide +kernel
theorem dL_law_651 : decode cL_law 651 = .ok (.aload_n 0, 1) := by decide +kernel
theorem dL_law_652 : decode cL_law 652 = .ok (.iload_n 3, 1) := by decide +kernel
theorem dL_law_653 : decode cL_law 653 = .ok (.iconst 2, 1) := by decide +kernel
theorem dL_law_654 : decode cL_law 654 = .ok (.iadd, 1) := by decide +kernel
theorem dL_law_655 : decode cL_law 655 = .ok (.iaload, 1) := by decide +kernel
theorem dL_law_656 : decode cL_law 656 = .ok (.invokevirtual 84, 3) := by decide +kernel
theorem dL_law_659 : decode cL_law 659 = .ok (.if_icmp .eq 279, 3) := by decide +kernel
theorem dL_law_662 : decode cL_law 662 = .ok (.iconst 0, 1) := by decide +kernel
theorem dL_law_663 : decode cL_law 663 = .ok (.ireturn, 1) := by decide +kernel
theorem dL_law_664 : decode cL_law 664 = .ok (.aload_n 1, 1) := by decide +kernel
theorem dL_law_665 : decode cL_law 665 = .ok (.aload_n 0, 1) := by decide +kernel
theorem dL_law_666 : decode cL_law 666 = .ok (.iload_n 3, 1) := by decide +kernel
theorem dL_law_667 : decode cL_law 667 = .ok (.iconst 1, 1) := by decide +kernel
theorem dL_law_668 : decode cL_law 668 = .ok (.iadd, 1) := by decide +kernel
theorem dL_law_669 : decode cL_law 669 = .ok (.iaload, 1) := by decide +kernel
theorem dL_law_670 : decode cL_law 670 = .ok (.invokevirtual 85, 3) := by decide +kernel
theorem dL_law_673 : decode cL_law 673 = .ok (.aload_n 2, 1) := by decide +kernel
theorem dL_law_674 : decode cL_law 674 = .ok (.aload_n 0, 1) := by decide +kernel
theorem dL_law_675 : decode cL_law 675 = .ok (.iload_n 3, 1) := by decide +kernel
theorem dL_law_676 : decode cL_law 676 = .ok (.iconst 1, 1) := by decide +kernel
theorem dL_law_677 : decode cL_law 677 = .ok (.iadd, 1) := by decide +kernel
theorem dL_law_678 : decode cL_law 678 = .ok (.iaload, 1) := by decide +kernel
theorem dL_law_679 : decode cL_law 679 = .ok (.invokevirtual 88, 3) := by decide +kernel
theorem dL_law_682 : decode cL_law 682 = .ok (.lcmp, 1) := by decide +kernel
theorem dL_law_683 : decode cL_law 683 = .ok (.ifCond .eq 255, 3) := by decide +kernel
theorem dL_law_686 : decode cL_law 686 = .ok (.iconst 0, 1) := by decide +kernel
theorem dL_law_687 : decode cL_law 687 = .ok (.ireturn, 1) := by decide +kernel
theorem dL_law_688 : decode cL_law 688 = .ok (.aload_n 1, 1) := by decide +kernel
theorem dL_law_689 : decode cL_law 689 = .ok (.aload_n 0, 1) := by decide +kernel
theorem dL_law_690 : decode cL_law 690 = .ok (.iload_n 3, 1) := by decide +kernel
theorem dL_law_691 : decode cL_law 691 = .ok (.iconst 1, 1) := by decide +kernel
theorem dL_law_692 : decode cL_law 692 = .ok (.iadd, 1) := by decide +kernel
theorem dL_law_693 : decode cL_law 693 = .ok (.iaload, 1) := by decide +kernel
theorem dL_law_694 : decode cL_law 694 = .ok (.invokevirtual 89, 3) := by decide +kernel
theorem dL_law_697 : decode cL_law 697 = .ok (.aload_n 2, 1) := by decide +kernel
theorem dL_law_698 : decode cL_law 698 = .ok (.aload_n 0, 1) := by decide +kernel
theorem dL_law_699 : decode cL_law 699 = .ok (.iload_n 3, 1) := by decide +kernel
theorem dL_law_700 : decode cL_law 700 = .ok (.iconst 1, 1) := by decide +kernel
theorem dL_law_701 : decode cL_law 701 = .ok (.iadd, 1) := by decide +kernel
theorem dL_law_702 : decode cL_law 702 = .ok (.iaload, 1) := by decide +kernel
theorem dL_law_703 : decode cL_law 703 = .ok (.invokevirtual 92, 3) := by decide +kernel
theorem dL_law_706 : decode cL_law 706 = .ok (.if_icmp .eq 232, 3) := by decide +kernel
theorem dL_law_709 : decode cL_law 709 = .ok (.iconst 0, 1) := by decide +kernel
theorem dL_law_710 : decode cL_law 710 = .ok (.ireturn, 1) := by decide +kernel
theorem dL_law_711 : decode cL_law 711 = .ok (.aload_n 1, 1) := by decide +kernel
theorem dL_law_712 : decode cL_law 712 = .ok (.aload_n 0, 1) := by decide +kernel
theorem dL_law_713 : decode cL_law 713 = .ok (.iload_n 3, 1) := by decide +kernel
theorem dL_law_714 : decode cL_law 714 = .ok (.iconst 1, 1) := by decide +kernel
theorem dL_law_715 : decode cL_law 715 = .ok (.iadd, 1) := by decide +kernel
theorem dL_law_716 : decode cL_law 716 = .ok (.iaload, 1) := by decide +kernel
theorem dL_law_717 : decode cL_law 717 = .ok (.invokevirtual 93, 3) := by decide +kernel
theorem dL_law_720 : decode cL_law 720 = .ok (.aload_n 2, 1) := by decide +kernel
theorem dL_law_721 : decode cL_law 721 = .ok (.aload_n 0, 1) := by decide +kernel
theorem dL_law_722 : decode cL_law 722 = .ok (.iload_n 3, 1) := by decide +kernel
theorem dL_law_723 : decode cL_law 723 = .ok (.iconst 1, 1) := by decide +kernel
theorem dL_law_724 : decode cL_law 724 = .ok (.iadd, 1) := by decide +kernel
theorem dL_law_725 : decode cL_law 725 = .ok (.iaload, 1) := by decide +kernel
theorem dL_law_726 : decode cL_law 726 = .ok (.invokevirtual 96, 3) := by decide +kernel
theorem dL_law_729 : decode cL_law 729 = .ok (.if_icmp .eq 209, 3) := by decide +kernel
theorem dL_law_732 : decode cL_law 732 = .ok (.iconst 0, 1) := by decide +kernel
theorem dL_law_733 : decode cL_law 733 = .ok (.ireturn, 1) := by decide +kernel
theorem dL_law_734 : decode cL_law 734 = .ok (.aload_n 1, 1) := by decide +kernel
theorem dL_law_735 : decode cL_law 735 = .ok (.aload_n 0, 1) := by decide +kernel
theorem dL_law_736 : decode cL_law 736 = .ok (.iload_n 3, 1) := by decide +kernel
theorem dL_law_737 : decode cL_law 737 = .ok (.iconst 1, 1) := by decide +kernel
theorem dL_law_738 : decode cL_law 738 = .ok (.iadd, 1) := by decide +kernel
theorem dL_law_739 : decode cL_law 739 = .ok (.iaload, 1) := by decide +kernel
theorem dL_law_740 : decode cL_law 740 = .ok (.aload_n 0, 1) := by decide +kernel
theorem dL_law_741 : decode cL_law 741 = .ok (.iload_n 3, 1) := by decide +kernel
theorem dL_law_742 : decode cL_law 742 = .ok (.iconst 2, 1) := by decide +kernel
theorem dL_law_743 : decode cL_law 743 = .ok (.iadd, 1) := by decide +kernel
theorem dL_law_744 : decode cL_law 744 = .ok (.iaload, 1) := by decide +kernel
theorem dL_law_745 : decode cL_law 745 = .ok (.invokevirtual 97, 3) := by decide +kernel
theorem dL_law_748 : decode cL_law 748 = .ok (.aload_n 2, 1) := by decide +kernel
theorem dL_law_749 : decode cL_law 749 = .ok (.aload_n 0, 1) := by decide +kernel
theorem dL_law_750 : decode cL_law 750 = .ok (.iload_n 3, 1) := by decide +kernel
theorem dL_law_751 : decode cL_law 751 = .ok (.iconst 1, 1) := by decide +kernel
theorem dL_law_752 : decode cL_law 752 = .ok (.iadd, 1) := by decide +kernel
theorem dL_law_753 : decode cL_law 753 = .ok (.iaload, 1) := by decide +kernel
theorem dL_law_754 : decode cL_law 754 = .ok (.aload_n 0, 1) := by decide +kernel
theorem dL_law_755 : decode cL_law 755 = .ok (.iload_n 3, 1) := by decide +kernel
theorem dL_law_756 : decode cL_law 756 = .ok (.iconst 2, 1) := by decide +kernel
theorem dL_law_757 : decode cL_law 757 = .ok (.iadd, 1) := by decide +kernel
theorem dL_law_758 : decode cL_law 758 = .ok (.iaload, 1) := by decide +kernel
theorem dL_law_759 : decode cL_law 759 = .ok (.invokevirtual 100, 3) := by decide +kernel
theorem dL_law_762 : decode cL_law 762 = .ok (.if_icmp .eq 176, 3) := by decide +kernel
theorem dL_law_765 : decode cL_law 765 = .ok (.iconst 0, 1) := by decide +kernel
theorem dL_law_766 : decode cL_law 766 = .ok (.ireturn, 1) := by decide +kernel
theorem dL_law_767 : decode cL_law 767 = .ok (.aload_n 1, 1) := by decide +kernel
theorem dL_law_768 : decode cL_law 768 = .ok (.aload_n 0, 1) := by decide +kernel
theorem dL_law_769 : decode cL_law 769 = .ok (.iload_n 3, 1) := by decide +kernel
theorem dL_law_770 : decode cL_law 770 = .ok (.iconst 1, 1) := by decide +kernel
theorem dL_law_771 : decode cL_law 771 = .ok (.iadd, 1) := by decide +kernel
theorem dL_law_772 : decode cL_law 772 = .ok (.iaload, 1) := by decide +kernel
theorem dL_law_773 : decode cL_law 773 = .ok (.aload_n 0, 1) := by decide +kernel
theorem dL_law_774 : decode cL_law 774 = .ok (.iload_n 3, 1) := by decide +kernel
theorem dL_law_775 : decode cL_law 775 = .ok (.iconst 2, 1) := by decide +kernel
theorem dL_law_776 : decode cL_law 776 = .ok (.iadd, 1) := by decide +kernel
theorem dL_law_777 : decode cL_law 777 = .ok (.iaload, 1) := by decide +kernel
theorem dL_law_778 : decode cL_law 778 = .ok (.aload_n 0, 1) := by decide +kernel
theorem dL_law_779 : decode cL_law 779 = .ok (.iload_n 3, 1) := by decide +kernel
theorem dL_law_780 : decode cL_law 780 = .ok (.iconst 3, 1) := by decide +kernel
theorem dL_law_781 : decode cL_law 781 = .ok (.iadd, 1) := by decide +kernel
theorem dL_law_782 : decode cL_law 782 = .ok (.iaload, 1) := by decide +kernel
theorem dL_law_783 : decode cL_law 783 = .ok (.aload_n 0, 1) := by decide +kernel
theorem dL_law_784 : decode cL_law 784 = .ok (.iload_n 3, 1) := by decide +kernel
theorem dL_law_785 : decode cL_law 785 = .ok (.iconst 4, 1) := by decide +kernel
theorem dL_law_786 : decode cL_law 786 = .ok (.iadd, 1) := by decide +kernel
theorem dL_law_787 : decode cL_law 787 = .ok (.iaload, 1) := by decide +kernel
theorem dL_law_788 : decode cL_law 788 = .ok (.invokevirtual 101, 3) := by decide +kernel
theorem dL_law_791 : decode cL_law 791 = .ok (.aload_n 2, 1) := by decide +kernel
theorem dL_law_792 : decode cL_law 792 = .ok (.aload_n 0, 1) := by decide +kernel
theorem dL_law_793 : decode cL_law 793 = .ok (.iload_n 3, 1) := by decide +kernel
theorem dL_law_794 : decode cL_law 794 = .ok (.iconst 1, 1) := by decide +kernel
theorem dL_law_795 : decode cL_law 795 = .ok (.iadd, 1) := by decide +kernel
theorem dL_law_796 : decode cL_law 796 = .ok (.iaload, 1) := by decide +kernel
theorem dL_law_797 : decode cL_law 797 = .ok (.aload_n 0, 1) := by decide +kernel
theorem dL_law_798 : decode cL_law 798 = .ok (.iload_n 3, 1) := by decide +kernel
theorem dL_law_799 : decode cL_law 799 = .ok (.iconst 2, 1) := by decide +kernel
theorem dL_law_800 : decode cL_law 800 = .ok (.iadd, 1) := by decide +kernel
theorem dL_law_801 : decode cL_law 801 = .ok (.iaload, 1) := by decide +kernel
theorem dL_law_802 : decode cL_law 802 = .ok (.aload_n 0, 1) := by decide +kernel
theorem dL_law_803 : decode cL_law 803 = .ok (.iload_n 3, 1) := by decide +kernel
theorem dL_law_804 : decode cL_law 804 = .ok (.iconst 3, 1) := by decide +kernel
theorem dL_law_805 : decode cL_law 805 = .ok (.iadd, 1) := by decide +kernel
theorem dL_law_806 : decode cL_law 806 = .ok (.iaload, 1) := by decide +kernel
theorem dL_law_807 : decode cL_law 807 = .ok (.aload_n 0, 1) := by decide +kernel
theorem dL_law_808 : decode cL_law 808 = .ok (.iload_n 3, 1) := by decide +kernel
theorem dL_law_809 : decode cL_law 809 = .ok (.iconst 4, 1) := by decide +kernel
theorem dL_law_810 : decode cL_law 810 = .ok (.iadd, 1) := by decide +kernel
theorem dL_law_811 : decode cL_law 811 = .ok (.iaload, 1) := by decide +kernel
theorem dL_law_812 : decode cL_law 812 = .ok (.invokevirtual 105, 3) := by decide +kernel
theorem dL_law_815 : decode cL_law 815 = .ok (.if_icmp .eq 123, 3) := by decide +kernel
theorem dL_law_818 : decode cL_law 818 = .ok (.iconst 0, 1) := by decide +kernel
theorem dL_law_819 : decode cL_law 819 = .ok (.ireturn, 1) := by decide +kernel
theorem dL_law_820 : decode cL_law 820 = .ok (.aload_n 1, 1) := by decide +kernel
theorem dL_law_821 : decode cL_law 821 = .ok (.aload_n 0, 1) := by decide +kernel
theorem dL_law_822 : decode cL_law 822 = .ok (.iload_n 3, 1) := by decide +kernel
theorem dL_law_823 : decode cL_law 823 = .ok (.iconst 1, 1) := by decide +kernel
theorem dL_law_824 : decode cL_law 824 = .ok (.iadd, 1) := by decide +kernel
theorem dL_law_825 : decode cL_law 825 = .ok (.iaload, 1) := by decide +kernel
theorem dL_law_826 : decode cL_law 826 = .ok (.aload_n 0, 1) := by decide +kernel
theorem dL_law_827 : decode cL_law 827 = .ok (.iload_n 3, 1) := by decide +kernel
theorem dL_law_828 : decode cL_law 828 = .ok (.iconst 2, 1) := by decide +kernel
theorem dL_law_829 : decode cL_law 829 = .ok (.iadd, 1) := by decide +kernel
theorem dL_law_830 : decode cL_law 830 = .ok (.iaload, 1) := by decide +kernel
theorem dL_law_831 : decode cL_law 831 = .ok (.invokevirtual 106, 3) := by decide +kernel
theorem dL_law_834 : decode cL_law 834 = .ok (.aload_n 2, 1) := by decide +kernel
theorem dL_law_835 : decode cL_law 835 = .ok (.aload_n 0, 1) := by decide +kernel
theorem dL_law_836 : decode cL_law 836 = .ok (.iload_n 3, 1) := by decide +kernel
theorem dL_law_837 : decode cL_law 837 = .ok (.iconst 1, 1) := by decide +kernel
theorem dL_law_838 : decode cL_law 838 = .ok (.iadd, 1) := by decide +kernel
theorem dL_law_839 : decode cL_law 839 = .ok (.iaload, 1) := by decide +kernel
theorem dL_law_840 : decode cL_law 840 = .ok (.aload_n 0, 1) := by decide +kernel
theorem dL_law_841 : decode cL_law 841 = .ok (.iload_n 3, 1) := by decide +kernel
theorem dL_law_842 : decode cL_law 842 = .ok (.iconst 2, 1) := by decide +kernel
theorem dL_law_843 : decode cL_law 843 = .ok (.iadd, 1) := by decide +kernel
theorem dL_law_844 : decode cL_law 844 = .ok (.iaload, 1) := by decide +kernel
theorem dL_law_845 : decode cL_law 845 = .ok (.invokevirtual 109, 3) := by decide +kernel
theorem dL_law_848 : decode cL_law 848 = .ok (.if_icmp .eq 90, 3) := by decide +kernel
theorem dL_law_851 : decode cL_law 851 = .ok (.iconst 0, 1) := by decide +kernel
theorem dL_law_852 : decode cL_law 852 = .ok (.ireturn, 1) := by decide +kernel
theorem dL_law_853 : decode cL_law 853 = .ok (.aload_n 1, 1) := by decide +kernel
theorem dL_law_854 : decode cL_law 854 = .ok (.aload_n 0, 1) := by decide +kernel
theorem dL_law_855 : decode cL_law 855 = .ok (.iload_n 3, 1) := by decide +kernel
theorem dL_law_856 : decode cL_law 856 = .ok (.iconst 1, 1) := by decide +kernel
theorem dL_law_857 : decode cL_law 857 = .ok (.iadd, 1) := by decide +kernel
theorem dL_law_858 : decode cL_law 858 = .ok (.iaload, 1) := by decide +kernel
theorem dL_law_859 : decode cL_law 859 = .ok (.invokevirtual 110, 3) := by decide +kernel
theorem dL_law_862 : decode cL_law 862 = .ok (.aload_n 2, 1) := by decide +kernel
theorem dL_law_863 : decode cL_law 863 = .ok (.aload_n 0, 1) := by decide +kernel
theorem dL_law_864 : decode cL_law 864 = .ok (.iload_n 3, 1) := by decide +kernel
theorem dL_law_865 : decode cL_law 865 = .ok (.iconst 1, 1) := by decide +kernel
theorem dL_law_866 : decode cL_law 866 = .ok (.iadd, 1) := by decide +kernel
theorem dL_law_867 : decode cL_law 867 = .ok (.iaload, 1) := by decide +kernel
theorem dL_law_868 : decode cL_law 868 = .ok (.invokevirtual 113, 3) := by decide +kernel
theorem dL_law_871 : decode cL_law 871 = .ok (.if_icmp .eq 67, 3) := by decide +kernel
theorem dL_law_874 : decode cL_law 874 = .ok (.iconst 0, 1) := by decide +kernel
theorem dL_law_875 : decode cL_law 875 = .ok (.ireturn, 1) := by decide +kernel
theorem dL_law_876 : decode cL_law 876 = .ok (.aload_n 1, 1) := by decide +kernel
theorem dL_law_877 : decode cL_law 877 = .ok (.aload_n 0, 1) := by decide +kernel
theorem dL_law_878 : decode cL_law 878 = .ok (.iload_n 3, 1) := by decide +kernel
theorem dL_law_879 : decode cL_law 879 = .ok (.iconst 1, 1) := by decide +kernel
theorem dL_law_880 : decode cL_law 880 = .ok (.iadd, 1) := by decide +kernel
theorem dL_law_881 : decode cL_law 881 = .ok (.iaload, 1) := by decide +kernel
theorem dL_law_882 : decode cL_law 882 = .ok (.ifCond .eq 7, 3) := by decide +kernel
theorem dL_law_885 : decode cL_law 885 = .ok (.iconst 1, 1) := by decide +kernel
theorem dL_law_886 : decode cL_law 886 = .ok (.goto 4, 3) := by decide +kernel
theorem dL_law_889 : decode cL_law 889 = .ok (.iconst 0, 1) := by decide +kernel
theorem dL_law_890 : decode cL_law 890 = .ok (.invokevirtual 114, 3) := by decide +kernel
theorem dL_law_893 : decode cL_law 893 = .ok (.aload_n 2, 1) := by decide +kernel
theorem dL_law_894 : decode cL_law 894 = .ok (.aload_n 0, 1) := by decide +kernel
theorem dL_law_895 : decode cL_law 895 = .ok (.iload_n 3, 1) := by decide +kernel
theorem dL_law_896 : decode cL_law 896 = .ok (.iconst 1, 1) := by decide +kernel
theorem dL_law_897 : decode cL_law 897 = .ok (.iadd, 1) := by decide +kernel
theorem dL_law_898 : decode cL_law 898 = .ok (.iaload, 1) := by decide +kernel
theorem dL_law_899 : decode cL_law 899 = .ok (.ifCond .eq 7, 3) := by decide +kernel
theorem dL_law_902 : decode cL_law 902 = .ok (.iconst 1, 1) := by decide +kernel
theorem dL_law_903 : decode cL_law 903 = .ok (.goto 4, 3) := by decide +kernel
theorem dL_law_906 : decode cL_law 906 = .ok (.iconst 0, 1) := by decide +kernel
theorem dL_law_907 : decode cL_law 907 = .ok (.invokevirtual 118, 3) := by decide +kernel
theorem dL_law_910 : decode cL_law 910 = .ok (.if_icmp .eq 28, 3) := by decide +kernel
theorem dL_law_913 : decode cL_law 913 = .ok (.iconst 0, 1) := by decide +kernel
theorem dL_law_914 : decode cL_law 914 = .ok (.ireturn, 1) := by decide +kernel
theorem dL_law_915 : decode cL_law 915 = .ok (.aload_n 1, 1) := by decide +kernel
theorem dL_law_916 : decode cL_law 916 = .ok (.aload_n 0, 1) := by decide +kernel
theorem dL_law_917 : decode cL_law 917 = .ok (.iload_n 3, 1) := by decide +kernel
theorem dL_law_918 : decode cL_law 918 = .ok (.iconst 1, 1) := by decide +kernel
theorem dL_law_919 : decode cL_law 919 = .ok (.iadd, 1) := by decide +kernel
theorem dL_law_920 : decode cL_law 920 = .ok (.iaload, 1) := by decide +kernel
theorem dL_law_921 : decode cL_law 921 = .ok (.invokevirtual 119, 3) := by decide +kernel
theorem dL_law_924 : decode cL_law 924 = .ok (.aload_n 2, 1) := by decide +kernel
theorem dL_law_925 : decode cL_law 925 = .ok (.aload_n 0, 1) := by decide +kernel
theorem dL_law_926 : decode cL_law 926 = .ok (.iload_n 3, 1) := by decide +kernel
theorem dL_law_927 : decode cL_law 927 = .ok (.iconst 1, 1) := by decide +kernel
theorem dL_law_928 : decode cL_law 928 = .ok (.iadd, 1) := by decide +kernel
theorem dL_law_929 : decode cL_law 929 = .ok (.iaload, 1) := by decide +kernel
theorem dL_law_930 : decode cL_law 930 = .ok (.invokevirtual 122, 3) := by decide +kernel
theorem dL_law_933 : decode cL_law 933 = .ok (.if_icmp .eq 5, 3) := by decide +kernel
theorem dL_law_936 : decode cL_law 936 = .ok (.iconst 0, 1) := by decide +kernel
theorem dL_law_937 : decode cL_law 937 = .ok (.ireturn, 1) := by decide +kernel
theorem dL_law_938 : decode cL_law 938 = .ok (.iinc 3 6, 3) := by decide +kernel
theorem dL_law_941 : decode cL_law 941 = .ok (.goto (-923), 3) := by decide +kernel
theorem dL_law_944 : decode cL_law 944 = .ok (.iconst 1, 1) := by decide +kernel
theorem dL_law_945 : decode cL_law 945 = .ok (.ireturn, 1) := by decide +kernel
