theorem dX12_apart_110 : decode cX12_apart 110 = .ok (.ifCond .eq 7, 3) := by decide +kernel
theorem dX12_apart_113 : decode cX12_apart 113 = .ok (.iconst 1, 1) := by decide +kernel
theorem dX12_apart_114 : decode cX12_apart 114 = .ok (.goto 4, 3) := by decide +kernel
theorem dX12_apart_117 : decode cX12_apart 117 = .ok (.iconst 0, 1) := by decide +kernel
theorem dX12_apart_118 : decode cX12_apart 118 = .ok (.iadd, 1) := by decide +kernel
theorem dX12_apart_119 : decode cX12_apart 119 = .ok (.ireturn, 1) := by decide +kernel
theorem dX12_like_0 : decode cX12_like 0 = .ok (.iload_n 1, 1) := by decide +kernel
theorem dX12_like_1 : decode cX12_like 1 = .ok (.i2l, 1) := by decide +kernel
theorem dX12_like_2 : decode cX12_like 2 = .ok (.lconst 0, 1) := by decide +kernel
theorem dX12_like_3 : decode cX12_like 3 = .ok (.ldc2_w 187, 3) := by decide +kernel
theorem dX12_like_6 : decode cX12_like 6 = .ok (.invokestatic 109, 3) := by decide +kernel
theorem dX12_like_9 : decode cX12_like 9 = .ok (.ifCond .eq 15, 3) := by decide +kernel
theorem dX12_like_12 : decode cX12_like 12 = .ok (.iload_n 2, 1) := by decide +kernel
theorem dX12_like_13 : decode cX12_like 13 = .ok (.i2l, 1) := by decide +kernel
theorem dX12_like_14 : decode cX12_like 14 = .ok (.lconst 0, 1) := by decide +kernel
theorem dX12_like_15 : decode cX12_like 15 = .ok (.ldc2_w 187, 3) := by decide +kernel
theorem dX12_like_18 : decode cX12_like 18 = .ok (.invokestatic 109, 3) := by decide +kernel
theorem dX12_like_21 : decode cX12_like 21 = .ok (.ifCond .ne 6, 3) := by decide +kernel
theorem dX12_like_24 : decode cX12_like 24 = .ok (.bipush (-2), 2) := by decide +kernel
theorem dX12_like_26 : decode cX12_like 26 = .ok (.ireturn, 1) := by decide +kernel
theorem dX12_like_27 : decode cX12_like 27 = .ok (.aload_n 0, 1) := by decide +kernel
theorem dX12_like_28 : decode cX12_like 28 = .ok (.getfield 7, 3) := by decide +kernel
theorem dX12_like_31 : decode cX12_like 31 = .ok (.sipush 150, 3) := by decide +kernel
theorem dX12_like_34 : decode cX12_like 34 = .ok (.iload_n 1, 1) := by decide +kernel
theorem dX12_like_35 : decode cX12_like 35 = .ok (.iadd, 1) := by decide +kernel
theorem dX12_like_36 : decode cX12_like 36 = .ok (.iaload, 1) := by decide +kernel
theorem dX12_like_37 : decode cX12_like 37 = .ok (.istore_n 3, 1) := by decide +kernel
theorem dX12_like_38 : decode cX12_like 38 = .ok (.aload_n 0, 1) := by decide +kernel
theorem dX12_like_39 : decode cX12_like 39 = .ok (.getfield 7, 3) := by decide +kernel
theorem dX12_like_42 : decode cX12_like 42 = .ok (.sipush 150, 3) := by decide +kernel
theorem dX12_like_45 : decode cX12_like 45 = .ok (.iload_n 2, 1) := by decide +kernel
theorem dX12_like_46 : decode cX12_like 46 = .ok (.iadd, 1) := by decide +kernel
theorem dX12_like_47 : decode cX12_like 47 = .ok (.iaload, 1) := by decide +kernel
theorem dX12_like_48 : decode cX12_like 48 = .ok (.istore 4, 2) := by decide +kernel
theorem dX12_like_50 : decode cX12_like 50 = .ok (.iload_n 3, 1) := by decide +kernel
theorem dX12_like_51 : decode cX12_like 51 = .ok (.iload 4, 2) := by decide +kernel
theorem dX12_like_53 : decode cX12_like 53 = .ok (.if_icmp .ne 6, 3) := by decide +kernel
theorem dX12_like_56 : decode cX12_like 56 = .ok (.bipush (-3), 2) := by decide +kernel
theorem dX12_like_58 : decode cX12_like 58 = .ok (.ireturn, 1) := by decide +kernel
theorem dX12_like_59 : decode cX12_like 59 = .ok (.iconst 0, 1) := by decide +kernel
theorem dX12_like_60 : decode cX12_like 60 = .ok (.istore 5, 2) := by decide +kernel
theorem dX12_like_62 : decode cX12_like 62 = .ok (.iload 5, 2) := by decide +kernel
theorem dX12_like_64 : decode cX12_like 64 = .ok (.bipush 6, 2) := by decide +kernel
theorem dX12_like_66 : decode cX12_like 66 = .ok (.if_icmp .ge 63, 3) := by decide +kernel
theorem dX12_like_69 : decode cX12_like 69 = .ok (.aload_n 0, 1) := by decide +kernel
theorem dX12_like_70 : decode cX12_like 70 = .ok (.getfield 7, 3) := by decide +kernel
theorem dX12_like_73 : decode cX12_like 73 = .ok (.sipush 150, 3) := by decide +kernel
theorem dX12_like_76 : decode cX12_like 76 = .ok (.iload 5, 2) := by decide +kernel
theorem dX12_like_78 : decode cX12_like 78 = .ok (.iadd, 1) := by decide +kernel
theorem dX12_like_79 : decode cX12_like 79 = .ok (.iaload, 1) := by decide +kernel
theorem dX12_like_80 : decode cX12_like 80 = .ok (.iload_n 3, 1) := by decide +kernel
theorem dX12_like_81 : decode cX12_like 81 = .ok (.if_icmp .eq 19, 3) := by decide +kernel
theorem dX12_like_84 : decode cX12_like 84 = .ok (.aload_n 0, 1) := by decide +kernel
theorem dX12_like_85 : decode cX12_like 85 = .ok (.getfield 7, 3) := by decide +kernel
theorem dX12_like_88 : decode cX12_like 88 = .ok (.sipush 150, 3) := by decide +kernel
theorem dX12_like_91 : decode cX12_like 91 = .ok (.iload 5, 2) := by decide +kernel
theorem dX12_like_93 : decode cX12_like 93 = .ok (.iadd, 1) := by decide +kernel
theorem dX12_like_94 : decode cX12_like 94 = .ok (.iaload, 1) := by decide +kernel
theorem dX12_like_95 : decode cX12_like 95 = .ok (.iload 4, 2) := by decide +kernel
theorem dX12_like_97 : decode cX12_like 97 = .ok (.if_icmp .ne 26, 3) := by decide +kernel
theorem dX12_like_100 : decode cX12_like 100 = .ok (.aload_n 0, 1) := by decide +kernel
theorem dX12_like_101 : decode cX12_like 101 = .ok (.getfield 7, 3) := by decide +kernel
theorem dX12_like_104 : decode cX12_like 104 = .ok (.sipush 150, 3) := by decide +kernel
theorem dX12_like_107 : decode cX12_like 107 = .ok (.iload 5, 2) := by decide +kernel
theorem dX12_like_109 : decode cX12_like 109 = .ok (.iadd, 1) := by decide +kernel
theorem dX12_like_110 : decode cX12_like 110 = .ok (.iload_n 3, 1) := by decide +kernel
theorem dX12_like_111 : decode cX12_like 111 = .ok (.iload 4, 2) := by decide +kernel
theorem dX12_like_113 : decode cX12_like 113 = .ok (.if_icmp .ge 7, 3) := by decide +kernel
theorem dX12_like_116 : decode cX12_like 116 = .ok (.iload_n 3, 1) := by decide +kernel
theorem dX12_like_117 : decode cX12_like 117 = .ok (.goto 5, 3) := by decide +kernel
theorem dX12_like_120 : decode cX12_like 120 = .ok (.iload 4, 2) := by decide +kernel
theorem dX12_like_122 : decode cX12_like 122 = .ok (.iastore, 1) := by decide +kernel
theorem dX12_like_123 : decode cX12_like 123 = .ok (.iinc 5 1, 3) := by decide +kernel
theorem dX12_like_126 : decode cX12_like 126 = .ok (.goto (-64), 3) := by decide +kernel
theorem dX12_like_129 : decode cX12_like 129 = .ok (.iconst 1, 1) := by decide +kernel
theorem dX12_like_130 : decode cX12_like 130 = .ok (.ireturn, 1) := by decide +kernel
theorem dX12_power_0 : decode cX12_power 0 = .ok (.iconst 1, 1) := by decide +kernel
theorem dX12_power_1 : decode cX12_power 1 = .ok (.istore_n 1, 1) := by decide +kernel
theorem dX12_power_2 : decode cX12_power 2 = .ok (.iconst 0, 1) := by decide +kernel
theorem dX12_power_3 : decode cX12_power 3 = .ok (.istore_n 2, 1) := by decide +kernel
theorem dX12_power_4 : decode cX12_power 4 = .ok (.iload_n 2, 1) := by decide +kernel
theorem dX12_power_5 : decode cX12_power 5 = .ok (.iload_n 0, 1) := by decide +kernel
theorem dX12_power_6 : decode cX12_power 6 = .ok (.if_icmp .ge 14, 3) := by decide +kernel
theorem dX12_power_9 : decode cX12_power 9 = .ok (.iload_n 1, 1) := by decide +kernel
theorem dX12_power_10 : decode cX12_power 10 = .ok (.bipush 6, 2) := by decide +kernel
theorem dX12_power_12 : decode cX12_power 12 = .ok (.imul, 1) := by decide +kernel
theorem dX12_power_13 : decode cX12_power 13 = .ok (.istore_n 1, 1) := by decide +kernel
theorem dX12_power_14 : decode cX12_power 14 = .ok (.iinc 2 1, 3) := by decide +kernel
theorem dX12_power_17 : decode cX12_power 17 = .ok (.goto (-13), 3) := by decide +kernel
theorem dX12_power_20 : decode cX12_power 20 = .ok (.iload_n 1, 1) := by decide +kernel
theorem dX12_power_21 : decode cX12_power 21 = .ok (.ireturn, 1) := by decide +kernel
theorem dX12_word_0 : decode cX12_word 0 = .ok (.iload_n 1, 1) := by decide +kernel
theorem dX12_word_1 : decode cX12_word 1 = .ok (.i2l, 1) := by decide +kernel
theorem dX12_word_2 : decode cX12_word 2 = .ok (.lconst 1, 1) := by decide +kernel
theorem dX12_word_3 : decode cX12_word 3 = .ok (.ldc2_w 189, 3) := by decide +kernel
theorem dX12_word_6 : decode cX12_word 6 = .ok (.invokestatic 109, 3) := by decide +kernel
theorem dX12_word_9 : decode cX12_word 9 = .ok (.ifCond .eq 31, 3) := by decide +kernel
theorem dX12_word_12 : decode cX12_word 12 = .ok (.iload_n 2, 1) := by decide +kernel
theorem dX12_word_13 : decode cX12_word 13 = .ok (.i2l, 1) := by decide +kernel
theorem dX12_word_14 : decode cX12_word 14 = .ok (.lconst 0, 1) := by decide +kernel
theorem dX12_word_15 : decode cX12_word 15 = .ok (.iload_n 1, 1) := by decide +kernel
theorem dX12_word_16 : decode cX12_word 16 = .ok (.invokestatic 191, 3) := by decide +kernel
theorem dX12_word_19 : decode cX12_word 19 = .ok (.iconst 1, 1) := by decide +kernel
theorem dX12_word_20 : decode cX12_word 20 = .ok (.isub, 1) := by decide +kernel
theorem dX12_word_21 : decode cX12_word 21 = .ok (.i2l, 1) := by decide +kernel
theorem dX12_word_22 : decode cX12_word 22 = .ok (.invokestatic 109, 3) := by decide +kernel
theorem dX12_word_25 : decode cX12_word 25 = .ok (.ifCond .eq 15, 3) := by decide +kernel
theorem dX12_word_28 : decode cX12_word 28 = .ok (.iload_n 3, 1) := by decide +kernel
theorem dX12_word_29 : decode cX12_word 29 = .ok (.i2l, 1) := by decide +kernel
theorem dX12_word_30 : decode cX12_word 30 = .ok (.lconst 1, 1) := by decide +kernel
theorem dX12_word_31 : decode cX12_word 31 = .ok (.ldc2_w 194, 3) := by decide +kernel
theorem dX12_word_34 : decode cX12_word 34 = .ok (.invokestatic 109, 3) := by decide +kernel
theorem dX12_word_37 : decode cX12_word 37 = .ok (.ifCond .ne 6, 3) := by decide +kernel
theorem dX12_word_40 : decode cX12_word 40 = .ok (.bipush (-2), 2) := by decide +kernel
theorem dX12_word_42 : decode cX12_word 42 = .ok (.ireturn, 1) := by decide +kernel
theorem dX12_word_43 : decode cX12_word 43 = .ok (.aload_n 0, 1) := by decide +kernel
theorem dX12_word_44 : decode cX12_word 44 = .ok (.getfield 7, 3) := by decide +kernel
theorem dX12_word_47 : decode cX12_word 47 = .ok (.iconst 3, 1) := by decide +kernel
theorem dX12_word_48 : decode cX12_word 48 = .ok (.iaload, 1) := by decide +kernel
theorem dX12_word_49 : decode cX12_word 49 = .ok (.bipush 10, 2) := by decide +kernel
theorem dX12_word_51 : decode cX12_word 51 = .ok (.if_icmp .ne 6, 3) := by decide +kernel
theorem dX12_word_54 : decode cX12_word 54 = .ok (.bipush (-4), 2) := by decide +kernel
theorem dX12_word_56 : decode cX12_word 56 = .ok (.ireturn, 1) := by decide +kernel
theorem dX12_word_57 : decode cX12_word 57 = .ok (.sipush 160, 3) := by decide +kernel
theorem dX12_word_60 : decode cX12_word 60 = .ok (.iconst 3, 1) := by decide +kernel
theorem dX12_word_61 : decode cX12_word 61 = .ok (.aload_n 0, 1) := by decide +kernel
theorem dX12_word_62 : decode cX12_word 62 = .ok (.getfield 7, 3) := by decide +kernel
theorem dX12_word_65 : decode cX12_word 65 = .ok (.iconst 3, 1) := by decide +kernel
theorem dX12_word_66 : decode cX12_word 66 = .ok (.iaload, 1) := by decide +kernel
theorem dX12_word_67 : decode cX12_word 67 = .ok (.imul, 1) := by decide +kernel
theorem dX12_word_68 : decode cX12_word 68 = .ok (.iadd, 1) := by decide +kernel
theorem dX12_word_69 : decode cX12_word 69 = .ok (.istore 4, 2) := by decide +kernel
theorem dX12_word_71 : decode cX12_word 71 = .ok (.aload_n 0, 1) := by decide +kernel
theorem dX12_word_72 : decode cX12_word 72 = .ok (.getfield 7, 3) := by decide +kernel
theorem dX12_word_75 : decode cX12_word 75 = .ok (.iload 4, 2) := by decide +kernel
theorem dX12_word_77 : decode cX12_word 77 = .ok (.iload_n 1, 1) := by decide +kernel
theorem dX12_word_78 : decode cX12_word 78 = .ok (.iastore, 1) := by decide +kernel
theorem dX12_word_79 : decode cX12_word 79 = .ok (.aload_n 0, 1) := by decide +kernel
theorem dX12_word_80 : decode cX12_word 80 = .ok (.getfield 7, 3) := by decide +kernel
theorem dX12_word_83 : decode cX12_word 83 = .ok (.iload 4, 2) := by decide +kernel
theorem dX12_word_85 : decode cX12_word 85 = .ok (.iconst 1, 1) := by decide +kernel
theorem dX12_word_86 : decode cX12_word 86 = .ok (.iadd, 1) := by decide +kernel
theorem dX12_word_87 : decode cX12_word 87 = .ok (.iload_n 2, 1) := by decide +kernel
theorem dX12_word_88 : decode cX12_word 88 = .ok (.iastore, 1) := by decide +kernel
theorem dX12_word_89 : decode cX12_word 89 = .ok (.aload_n 0, 1) := by decide +kernel
theorem dX12_word_90 : decode cX12_word 90 = .ok (.getfield 7, 3) := by decide +kernel
theorem dX12_word_93 : decode cX12_word 93 = .ok (.iload 4, 2) := by decide +kernel
theorem dX12_word_95 : decode cX12_word 95 = .ok (.iconst 2, 1) := by decide +kernel
theorem dX12_word_96 : decode cX12_word 96 = .ok (.iadd, 1) := by decide +kernel
theorem dX12_word_97 : decode cX12_word 97 = .ok (.iload_n 3, 1) := by decide +kernel
theorem dX12_word_98 : decode cX12_word 98 = .ok (.iastore, 1) := by decide +kernel
theorem dX12_word_99 : decode cX12_word 99 = .ok (.aload_n 0, 1) := by decide +kernel
theorem dX12_word_100 : decode cX12_word 100 = .ok (.getfield 7, 3) := by decide +kernel
theorem dX12_word_103 : decode cX12_word 103 = .ok (.iconst 3, 1) := by decide +kernel
theorem dX12_word_104 : decode cX12_word 104 = .ok (.dup2, 1) := by decide +kernel
theorem dX12_word_105 : decode cX12_word 105 = .ok (.iaload, 1) := by decide +kernel
theorem dX12_word_106 : decode cX12_word 106 = .ok (.iconst 1, 1) := by decide +kernel
theorem dX12_word_107 : decode cX12_word 107 = .ok (.iadd, 1) := by decide +kernel
theorem dX12_word_108 : decode cX12_word 108 = .ok (.iastore, 1) := by decide +kernel
theorem dX12_word_109 : decode cX12_word 109 = .ok (.aload_n 0, 1) := by decide +kernel
theorem dX12_word_110 : decode cX12_word 110 = .ok (.getfield 7, 3) := by decide +kernel
theorem dX12_word_113 : decode cX12_word 113 = .ok (.iconst 3, 1) := by decide +kernel
theorem dX12_word_114 : decode cX12_word 114 = .ok (.iaload, 1) := by decide +kernel
theorem dX12_word_115 : decode cX12_word 115 = .ok (.iconst 1, 1) := by decide +kernel
theorem dX12_word_116 : decode cX12_word 116 = .ok (.isub, 1) := by decide +kernel
theorem dX12_word_117 : decode cX12_word 117 = .ok (.ireturn, 1) := by decide +kernel
theorem dX12_isWord_0 : decode cX12_isWord 0 = .ok (.iload_n 1, 1) := by decide +kernel
theorem dX12_isWord_1 : decode cX12_isWord 1 = .ok (.i2l, 1) := by decide +kernel
theorem dX12_isWord_2 : decode cX12_isWord 2 = .ok (.lconst 0, 1) := by decide +kernel
theorem dX12_isWord_3 : decode cX12_isWord 3 = .ok (.aload_n 0, 1) := by decide +kernel
theorem dX12_isWord_4 : decode cX12_isWord 4 = .ok (.getfield 7, 3) := by decide +kernel
theorem dX12_isWord_7 : decode cX12_isWord 7 = .ok (.iconst 3, 1) := by decide +kernel
theorem dX12_isWord_8 : decode cX12_isWord 8 = .ok (.iaload, 1) := by decide +kernel
theorem dX12_isWord_9 : decode cX12_isWord 9 = .ok (.iconst 1, 1) := by decide +kernel
theorem dX12_isWord_10 : decode cX12_isWord 10 = .ok (.isub, 1) := by decide +kernel
theorem dX12_isWord_11 : decode cX12_isWord 11 = .ok (.i2l, 1) := by decide +kernel
theorem dX12_isWord_12 : decode cX12_isWord 12 = .ok (.invokestatic 109, 3) := by decide +kernel
theorem dX12_isWord_15 : decode cX12_isWord 15 = .ok (.ireturn, 1) := by decide +kernel
theorem dX12_lengthOf_0 : decode cX12_lengthOf 0 = .ok (.aload_n 0, 1) := by decide +kernel
theorem dX12_lengthOf_1 : decode cX12_lengthOf 1 = .ok (.getfield 7, 3) := by decide +kernel
theorem dX12_lengthOf_4 : decode cX12_lengthOf 4 = .ok (.sipush 160, 3) := by decide +kernel
theorem dX12_lengthOf_7 : decode cX12_lengthOf 7 = .ok (.iconst 3, 1) := by decide +kernel
theorem dX12_lengthOf_8 : decode cX12_lengthOf 8 = .ok (.iload_n 1, 1) := by decide +kernel
theorem dX12_lengthOf_9 : decode cX12_lengthOf 9 = .ok (.imul, 1) := by decide +kernel
theorem dX12_lengthOf_10 : decode cX12_lengthOf 10 = .ok (.iadd, 1) := by decide +kernel
theorem dX12_lengthOf_11 : decode cX12_lengthOf 11 = .ok (.iaload, 1) := by decide +kernel
theorem dX12_lengthOf_12 : decode cX12_lengthOf 12 = .ok (.ireturn, 1) := by decide +kernel
theorem dX12_weightOf_0 : decode cX12_weightOf 0 = .ok (.aload_n 0, 1) := by decide +kernel
theorem dX12_weightOf_1 : decode cX12_weightOf 1 = .ok (.getfield 7, 3) := by decide +kernel
theorem dX12_weightOf_4 : decode cX12_weightOf 4 = .ok (.sipush 160, 3) := by decide +kernel
theorem dX12_weightOf_7 : decode cX12_weightOf 7 = .ok (.iconst 3, 1) := by decide +kernel
theorem dX12_weightOf_8 : decode cX12_weightOf 8 = .ok (.iload_n 1, 1) := by decide +kernel
theorem dX12_weightOf_9 : decode cX12_weightOf 9 = .ok (.imul, 1) := by decide +kernel
theorem dX12_weightOf_10 : decode cX12_weightOf 10 = .ok (.iadd, 1) := by decide +kernel
theorem dX12_weightOf_11 : decode cX12_weightOf 11 = .ok (.iconst 2, 1) := by decide +kernel
theorem dX12_weightOf_12 : decode cX12_weightOf 12 = .ok (.iadd, 1) := by decide +kernel
theorem dX12_weightOf_13 : decode cX12_weightOf 13 = .ok (.iaload, 1) := by decide +kernel
theorem dX12_weightOf_14 : decode cX12_weightOf 14 = .ok (.ireturn, 1) := by decide +kernel
theorem dX12_lipOf_0 : decode cX12_lipOf 0 = .ok (.aload_n 0, 1) := by decide +kernel
theorem dX12_lipOf_1 : decode cX12_lipOf 1 = .ok (.getfield 7, 3) := by decide +kernel
theorem dX12_lipOf_4 : decode cX12_lipOf 4 = .ok (.sipush 150, 3) := by decide +kernel
theorem dX12_lipOf_7 : decode cX12_lipOf 7 = .ok (.aload_n 0, 1) := by decide +kernel
theorem dX12_lipOf_8 : decode cX12_lipOf 8 = .ok (.getfield 7, 3) := by decide +kernel
theorem dX12_lipOf_11 : decode cX12_lipOf 11 = .ok (.sipush 160, 3) := by decide +kernel
theorem dX12_lipOf_14 : decode cX12_lipOf 14 = .ok (.iconst 3, 1) := by decide +kernel
theorem dX12_lipOf_15 : decode cX12_lipOf 15 = .ok (.iload_n 1, 1) := by decide +kernel
theorem dX12_lipOf_16 : decode cX12_lipOf 16 = .ok (.imul, 1) := by decide +kernel
theorem dX12_lipOf_17 : decode cX12_lipOf 17 = .ok (.iadd, 1) := by decide +kernel
theorem dX12_lipOf_18 : decode cX12_lipOf 18 = .ok (.iconst 1, 1) := by decide +kernel
theorem dX12_lipOf_19 : decode cX12_lipOf 19 = .ok (.iadd, 1) := by decide +kernel
theorem dX12_lipOf_20 : decode cX12_lipOf 20 = .ok (.iaload, 1) := by decide +kernel
theorem dX12_lipOf_21 : decode cX12_lipOf 21 = .ok (.aload_n 0, 1) := by decide +kernel
theorem dX12_lipOf_22 : decode cX12_lipOf 22 = .ok (.iload_n 1, 1) := by decide +kernel
theorem dX12_lipOf_23 : decode cX12_lipOf 23 = .ok (.invokevirtual 196, 3) := by decide +kernel
theorem dX12_lipOf_26 : decode cX12_lipOf 26 = .ok (.iconst 1, 1) := by decide +kernel
theorem dX12_lipOf_27 : decode cX12_lipOf 27 = .ok (.isub, 1) := by decide +kernel
theorem dX12_lipOf_28 : decode cX12_lipOf 28 = .ok (.iload_n 2, 1) := by decide +kernel
theorem dX12_lipOf_29 : decode cX12_lipOf 29 = .ok (.isub, 1) := by decide +kernel
theorem dX12_lipOf_30 : decode cX12_lipOf 30 = .ok (.invokestatic 191, 3) := by decide +kernel
theorem dX12_lipOf_33 : decode cX12_lipOf 33 = .ok (.idiv, 1) := by decide +kernel
theorem dX12_lipOf_34 : decode cX12_lipOf 34 = .ok (.bipush 6, 2) := by decide +kernel
theorem dX12_lipOf_36 : decode cX12_lipOf 36 = .ok (.irem, 1) := by decide +kernel
theorem dX12_lipOf_37 : decode cX12_lipOf 37 = .ok (.iadd, 1) := by decide +kernel
theorem dX12_lipOf_38 : decode cX12_lipOf 38 = .ok (.iaload, 1) := by decide +kernel
theorem dX12_lipOf_39 : decode cX12_lipOf 39 = .ok (.ireturn, 1) := by decide +kernel
theorem dX12_unlike_0 : decode cX12_unlike 0 = .ok (.iconst 0, 1) := by decide +kernel
theorem dX12_unlike_1 : decode cX12_unlike 1 = .ok (.istore_n 3, 1) := by decide +kernel
theorem dX12_unlike_2 : decode cX12_unlike 2 = .ok (.iconst 0, 1) := by decide +kernel
theorem dX12_unlike_3 : decode cX12_unlike 3 = .ok (.istore 4, 2) := by decide +kernel
theorem dX12_unlike_5 : decode cX12_unlike 5 = .ok (.iload 4, 2) := by decide +kernel
theorem dX12_unlike_7 : decode cX12_unlike 7 = .ok (.aload_n 0, 1) := by decide +kernel
theorem dX12_unlike_8 : decode cX12_unlike 8 = .ok (.iload_n 1, 1) := by decide +kernel
theorem dX12_unlike_9 : decode cX12_unlike 9 = .ok (.invokevirtual 196, 3) := by decide +kernel
theorem dX12_unlike_12 : decode cX12_unlike 12 = .ok (.if_icmp .ge 34, 3) := by decide +kernel
theorem dX12_unlike_15 : decode cX12_unlike 15 = .ok (.iload_n 3, 1) := by decide +kernel
theorem dX12_unlike_16 : decode cX12_unlike 16 = .ok (.aload_n 0, 1) := by decide +kernel
theorem dX12_unlike_17 : decode cX12_unlike 17 = .ok (.iload_n 1, 1) := by decide +kernel
theorem dX12_unlike_18 : decode cX12_unlike 18 = .ok (.iload 4, 2) := by decide +kernel
theorem dX12_unlike_20 : decode cX12_unlike 20 = .ok (.invokevirtual 199, 3) := by decide +kernel
theorem dX12_unlike_23 : decode cX12_unlike 23 = .ok (.aload_n 0, 1) := by decide +kernel
theorem dX12_unlike_24 : decode cX12_unlike 24 = .ok (.iload_n 2, 1) := by decide +kernel
theorem dX12_unlike_25 : decode cX12_unlike 25 = .ok (.iload 4, 2) := by decide +kernel
theorem dX12_unlike_27 : decode cX12_unlike 27 = .ok (.invokevirtual 199, 3) := by decide +kernel
theorem dX12_unlike_30 : decode cX12_unlike 30 = .ok (.if_icmp .eq 7, 3) := by decide +kernel
theorem dX12_unlike_33 : decode cX12_unlike 33 = .ok (.iconst 1, 1) := by decide +kernel
theorem dX12_unlike_34 : decode cX12_unlike 34 = .ok (.goto 4, 3) := by decide +kernel
theorem dX12_unlike_37 : decode cX12_unlike 37 = .ok (.iconst 0, 1) := by decide +kernel
theorem dX12_unlike_38 : decode cX12_unlike 38 = .ok (.iadd, 1) := by decide +kernel
theorem dX12_unlike_39 : decode cX12_unlike 39 = .ok (.istore_n 3, 1) := by decide +kernel
theorem dX12_unlike_40 : decode cX12_unlike 40 = .ok (.iinc 4 1, 3) := by decide +kernel
theorem dX12_unlike_43 : decode cX12_unlike 43 = .ok (.goto (-38), 3) := by decide +kernel
theorem dX12_unlike_46 : decode cX12_unlike 46 = .ok (.iload_n 3, 1) := by decide +kernel
theorem dX12_unlike_47 : decode cX12_unlike 47 = .ok (.ireturn, 1) := by decide +kernel
theorem dX12_areAlike_0 : decode cX12_areAlike 0 = .ok (.aload_n 0, 1) := by decide +kernel
theorem dX12_areAlike_1 : decode cX12_areAlike 1 = .ok (.iload_n 1, 1) := by decide +kernel
theorem dX12_areAlike_2 : decode cX12_areAlike 2 = .ok (.invokevirtual 196, 3) := by decide +kernel
theorem dX12_areAlike_5 : decode cX12_areAlike 5 = .ok (.aload_n 0, 1) := by decide +kernel
theorem dX12_areAlike_6 : decode cX12_areAlike 6 = .ok (.iload_n 2, 1) := by decide +kernel
theorem dX12_areAlike_7 : decode cX12_areAlike 7 = .ok (.invokevirtual 196, 3) := by decide +kernel
theorem dX12_areAlike_10 : decode cX12_areAlike 10 = .ok (.if_icmp .ne 16, 3) := by decide +kernel
theorem dX12_areAlike_13 : decode cX12_areAlike 13 = .ok (.aload_n 0, 1) := by decide +kernel
theorem dX12_areAlike_14 : decode cX12_areAlike 14 = .ok (.iload_n 1, 1) := by decide +kernel
theorem dX12_areAlike_15 : decode cX12_areAlike 15 = .ok (.iload_n 2, 1) := by decide +kernel
theorem dX12_areAlike_16 : decode cX12_areAlike 16 = .ok (.invokevirtual 202, 3) := by decide +kernel
theorem dX12_areAlike_19 : decode cX12_areAlike 19 = .ok (.ifCond .ne 7, 3) := by decide +kernel
theorem dX12_areAlike_22 : decode cX12_areAlike 22 = .ok (.iconst 1, 1) := by decide +kernel
theorem dX12_areAlike_23 : decode cX12_areAlike 23 = .ok (.goto 4, 3) := by decide +kernel
theorem dX12_areAlike_26 : decode cX12_areAlike 26 = .ok (.iconst 0, 1) := by decide +kernel
theorem dX12_areAlike_27 : decode cX12_areAlike 27 = .ok (.ireturn, 1) := by decide +kernel
theorem dX12_alike_0 : decode cX12_alike 0 = .ok (.aload_n 0, 1) := by decide +kernel
theorem dX12_alike_1 : decode cX12_alike 1 = .ok (.iload_n 1, 1) := by decide +kernel
theorem dX12_alike_2 : decode cX12_alike 2 = .ok (.invokevirtual 205, 3) := by decide +kernel
theorem dX12_alike_5 : decode cX12_alike 5 = .ok (.ifCond .eq 11, 3) := by decide +kernel
theorem dX12_alike_8 : decode cX12_alike 8 = .ok (.aload_n 0, 1) := by decide +kernel
theorem dX12_alike_9 : decode cX12_alike 9 = .ok (.iload_n 2, 1) := by decide +kernel
theorem dX12_alike_10 : decode cX12_alike 10 = .ok (.invokevirtual 205, 3) := by decide +kernel
theorem dX12_alike_13 : decode cX12_alike 13 = .ok (.ifCond .ne 8, 3) := by decide +kernel
theorem dX12_alike_16 : decode cX12_alike 16 = .ok (.bipush (-2), 2) := by decide +kernel
theorem dX12_alike_18 : decode cX12_alike 18 = .ok (.goto 17, 3) := by decide +kernel
theorem dX12_alike_21 : decode cX12_alike 21 = .ok (.aload_n 0, 1) := by decide +kernel
theorem dX12_alike_22 : decode cX12_alike 22 = .ok (.iload_n 1, 1) := by decide +kernel
theorem dX12_alike_23 : decode cX12_alike 23 = .ok (.iload_n 2, 1) := by decide +kernel
theorem dX12_alike_24 : decode cX12_alike 24 = .ok (.invokevirtual 208, 3) := by decide +kernel
theorem dX12_alike_27 : decode cX12_alike 27 = .ok (.ifCond .eq 7, 3) := by decide +kernel
theorem dX12_alike_30 : decode cX12_alike 30 = .ok (.iconst 1, 1) := by decide +kernel
theorem dX12_alike_31 : decode cX12_alike 31 = .ok (.goto 4, 3) := by decide +kernel
theorem dX12_alike_34 : decode cX12_alike 34 = .ok (.iconst 0, 1) := by decide +kernel
theorem dX12_alike_35 : decode cX12_alike 35 = .ok (.ireturn, 1) := by decide +kernel
theorem dX12_lip_0 : decode cX12_lip 0 = .ok (.iload_n 1, 1) := by decide +kernel
theorem dX12_lip_1 : decode cX12_lip 1 = .ok (.i2l, 1) := by decide +kernel
theorem dX12_lip_2 : decode cX12_lip 2 = .ok (.lconst 0, 1) := by decide +kernel
theorem dX12_lip_3 : decode cX12_lip 3 = .ok (.ldc2_w 187, 3) := by decide +kernel
theorem dX12_lip_6 : decode cX12_lip 6 = .ok (.invokestatic 109, 3) := by decide +kernel
theorem dX12_lip_9 : decode cX12_lip 9 = .ok (.ifCond .ne 6, 3) := by decide +kernel
theorem dX12_lip_12 : decode cX12_lip 12 = .ok (.bipush (-2), 2) := by decide +kernel
theorem dX12_lip_14 : decode cX12_lip 14 = .ok (.ireturn, 1) := by decide +kernel
theorem dX12_lip_15 : decode cX12_lip 15 = .ok (.aload_n 0, 1) := by decide +kernel
theorem dX12_lip_16 : decode cX12_lip 16 = .ok (.getfield 7, 3) := by decide +kernel
theorem dX12_lip_19 : decode cX12_lip 19 = .ok (.iconst 4, 1) := by decide +kernel
theorem dX12_lip_20 : decode cX12_lip 20 = .ok (.iaload, 1) := by decide +kernel
theorem dX12_lip_21 : decode cX12_lip 21 = .ok (.bipush 24, 2) := by decide +kernel
theorem dX12_lip_23 : decode cX12_lip 23 = .ok (.if_icmp .ne 6, 3) := by decide +kernel
theorem dX12_lip_26 : decode cX12_lip 26 = .ok (.bipush (-4), 2) := by decide +kernel
theorem dX12_lip_28 : decode cX12_lip 28 = .ok (.ireturn, 1) := by decide +kernel
theorem dX12_lip_29 : decode cX12_lip 29 = .ok (.aload_n 0, 1) := by decide +kernel
theorem dX12_lip_30 : decode cX12_lip 30 = .ok (.getfield 7, 3) := by decide +kernel
theorem dX12_lip_33 : decode cX12_lip 33 = .ok (.sipush 190, 3) := by decide +kernel
theorem dX12_lip_36 : decode cX12_lip 36 = .ok (.aload_n 0, 1) := by decide +kernel
theorem dX12_lip_37 : decode cX12_lip 37 = .ok (.getfield 7, 3) := by decide +kernel
theorem dX12_lip_40 : decode cX12_lip 40 = .ok (.iconst 4, 1) := by decide +kernel
theorem dX12_lip_41 : decode cX12_lip 41 = .ok (.iaload, 1) := by decide +kernel
theorem dX12_lip_42 : decode cX12_lip 42 = .ok (.iadd, 1) := by decide +kernel
theorem dX12_lip_43 : decode cX12_lip 43 = .ok (.iload_n 1, 1) := by decide +kernel
theorem dX12_lip_44 : decode cX12_lip 44 = .ok (.iastore, 1) := by decide +kernel
theorem dX12_lip_45 : decode cX12_lip 45 = .ok (.aload_n 0, 1) := by decide +kernel
theorem dX12_lip_46 : decode cX12_lip 46 = .ok (.getfield 7, 3) := by decide +kernel
theorem dX12_lip_49 : decode cX12_lip 49 = .ok (.iconst 4, 1) := by decide +kernel
theorem dX12_lip_50 : decode cX12_lip 50 = .ok (.dup2, 1) := by decide +kernel
theorem dX12_lip_51 : decode cX12_lip 51 = .ok (.iaload, 1) := by decide +kernel
theorem dX12_lip_52 : decode cX12_lip 52 = .ok (.iconst 1, 1) := by decide +kernel
theorem dX12_lip_53 : decode cX12_lip 53 = .ok (.iadd, 1) := by decide +kernel
theorem dX12_lip_54 : decode cX12_lip 54 = .ok (.iastore, 1) := by decide +kernel
theorem dX12_lip_55 : decode cX12_lip 55 = .ok (.aload_n 0, 1) := by decide +kernel
theorem dX12_lip_56 : decode cX12_lip 56 = .ok (.getfield 7, 3) := by decide +kernel
theorem dX12_lip_59 : decode cX12_lip 59 = .ok (.iconst 4, 1) := by decide +kernel
theorem dX12_lip_60 : decode cX12_lip 60 = .ok (.iaload, 1) := by decide +kernel
theorem dX12_lip_61 : decode cX12_lip 61 = .ok (.ireturn, 1) := by decide +kernel
theorem dX12_hush_0 : decode cX12_hush 0 = .ok (.aload_n 0, 1) := by decide +kernel
theorem dX12_hush_1 : decode cX12_hush 1 = .ok (.iconst 4, 1) := by decide +kernel
theorem dX12_hush_2 : decode cX12_hush 2 = .ok (.iconst 0, 1) := by decide +kernel
theorem dX12_hush_3 : decode cX12_hush 3 = .ok (.invokevirtual 130, 3) := by decide +kernel
theorem dX12_hush_6 : decode cX12_hush 6 = .ok (.ireturn, 1) := by decide +kernel
theorem dX12_isAtRow_0 : decode cX12_isAtRow 0 = .ok (.iload_n 2, 1) := by decide +kernel
theorem dX12_isAtRow_1 : decode cX12_isAtRow 1 = .ok (.aload_n 0, 1) := by decide +kernel
theorem dX12_isAtRow_2 : decode cX12_isAtRow 2 = .ok (.iload_n 1, 1) := by decide +kernel
theorem dX12_isAtRow_3 : decode cX12_isAtRow 3 = .ok (.invokevirtual 196, 3) := by decide +kernel
theorem dX12_isAtRow_6 : decode cX12_isAtRow 6 = .ok (.iadd, 1) := by decide +kernel
theorem dX12_isAtRow_7 : decode cX12_isAtRow 7 = .ok (.aload_n 0, 1) := by decide +kernel
theorem dX12_isAtRow_8 : decode cX12_isAtRow 8 = .ok (.getfield 7, 3) := by decide +kernel
theorem dX12_isAtRow_11 : decode cX12_isAtRow 11 = .ok (.iconst 4, 1) := by decide +kernel
theorem dX12_isAtRow_12 : decode cX12_isAtRow 12 = .ok (.iaload, 1) := by decide +kernel
theorem dX12_isAtRow_13 : decode cX12_isAtRow 13 = .ok (.if_icmp .gt 7, 3) := by decide +kernel
theorem dX12_isAtRow_16 : decode cX12_isAtRow 16 = .ok (.iconst 1, 1) := by decide +kernel
theorem dX12_isAtRow_17 : decode cX12_isAtRow 17 = .ok (.goto 4, 3) := by decide +kernel
theorem dX12_isAtRow_20 : decode cX12_isAtRow 20 = .ok (.iconst 0, 1) := by decide +kernel
theorem dX12_isAtRow_21 : decode cX12_isAtRow 21 = .ok (.istore_n 3, 1) := by decide +kernel
theorem dX12_isAtRow_22 : decode cX12_isAtRow 22 = .ok (.iconst 0, 1) := by decide +kernel
theorem dX12_isAtRow_23 : decode cX12_isAtRow 23 = .ok (.istore 4, 2) := by decide +kernel
theorem dX12_isAtRow_25 : decode cX12_isAtRow 25 = .ok (.iload 4, 2) := by decide +kernel
theorem dX12_isAtRow_27 : decode cX12_isAtRow 27 = .ok (.aload_n 0, 1) := by decide +kernel
theorem dX12_isAtRow_28 : decode cX12_isAtRow 28 = .ok (.iload_n 1, 1) := by decide +kernel
theorem dX12_isAtRow_29 : decode cX12_isAtRow 29 = .ok (.invokevirtual 196, 3) := by decide +kernel
theorem dX12_isAtRow_32 : decode cX12_isAtRow 32 = .ok (.if_icmp .ge 51, 3) := by decide +kernel
theorem dX12_isAtRow_35 : decode cX12_isAtRow 35 = .ok (.iload_n 3, 1) := by decide +kernel
theorem dX12_isAtRow_36 : decode cX12_isAtRow 36 = .ok (.ifCond .eq 47, 3) := by decide +kernel
theorem dX12_isAtRow_39 : decode cX12_isAtRow 39 = .ok (.aload_n 0, 1) := by decide +kernel
theorem dX12_isAtRow_40 : decode cX12_isAtRow 40 = .ok (.iload_n 1, 1) := by decide +kernel
theorem dX12_isAtRow_41 : decode cX12_isAtRow 41 = .ok (.iload 4, 2) := by decide +kernel
theorem dX12_isAtRow_43 : decode cX12_isAtRow 43 = .ok (.invokevirtual 199, 3) := by decide +kernel
theorem dX12_isAtRow_46 : decode cX12_isAtRow 46 = .ok (.aload_n 0, 1) := by decide +kernel
theorem dX12_isAtRow_47 : decode cX12_isAtRow 47 = .ok (.getfield 7, 3) := by decide +kernel
theorem dX12_isAtRow_50 : decode cX12_isAtRow 50 = .ok (.sipush 150, 3) := by decide +kernel
theorem dX12_isAtRow_53 : decode cX12_isAtRow 53 = .ok (.aload_n 0, 1) := by decide +kernel
theorem dX12_isAtRow_54 : decode cX12_isAtRow 54 = .ok (.getfield 7, 3) := by decide +kernel
theorem dX12_isAtRow_57 : decode cX12_isAtRow 57 = .ok (.sipush 190, 3) := by decide +kernel
theorem dX12_isAtRow_60 : decode cX12_isAtRow 60 = .ok (.iload_n 2, 1) := by decide +kernel
theorem dX12_isAtRow_61 : decode cX12_isAtRow 61 = .ok (.iadd, 1) := by decide +kernel
theorem dX12_isAtRow_62 : decode cX12_isAtRow 62 = .ok (.iload 4, 2) := by decide +kernel
theorem dX12_isAtRow_64 : decode cX12_isAtRow 64 = .ok (.iadd, 1) := by decide +kernel
theorem dX12_isAtRow_65 : decode cX12_isAtRow 65 = .ok (.iaload, 1) := by decide +kernel
theorem dX12_isAtRow_66 : decode cX12_isAtRow 66 = .ok (.iadd, 1) := by decide +kernel
theorem dX12_isAtRow_67 : decode cX12_isAtRow 67 = .ok (.iaload, 1) := by decide +kernel
theorem dX12_isAtRow_68 : decode cX12_isAtRow 68 = .ok (.if_icmp .ne 7, 3) := by decide +kernel
theorem dX12_isAtRow_71 : decode cX12_isAtRow 71 = .ok (.iconst 1, 1) := by decide +kernel
theorem dX12_isAtRow_72 : decode cX12_isAtRow 72 = .ok (.goto 4, 3) := by decide +kernel
theorem dX12_isAtRow_75 : decode cX12_isAtRow 75 = .ok (.iconst 0, 1) := by decide +kernel
theorem dX12_isAtRow_76 : decode cX12_isAtRow 76 = .ok (.istore_n 3, 1) := by decide +kernel
theorem dX12_isAtRow_77 : decode cX12_isAtRow 77 = .ok (.iinc 4 1, 3) := by decide +kernel
theorem dX12_isAtRow_80 : decode cX12_isAtRow 80 = .ok (.goto (-55), 3) := by decide +kernel
theorem dX12_isAtRow_83 : decode cX12_isAtRow 83 = .ok (.iload_n 3, 1) := by decide +kernel
theorem dX12_isAtRow_84 : decode cX12_isAtRow 84 = .ok (.ireturn, 1) := by decide +kernel
theorem dX12_readsRow_0 : decode cX12_readsRow 0 = .ok (.aload_n 0, 1) := by decide +kernel
theorem dX12_readsRow_1 : decode cX12_readsRow 1 = .ok (.getfield 7, 3) := by decide +kernel
theorem dX12_readsRow_4 : decode cX12_readsRow 4 = .ok (.iconst 4, 1) := by decide +kernel
theorem dX12_readsRow_5 : decode cX12_readsRow 5 = .ok (.iaload, 1) := by decide +kernel
theorem dX12_readsRow_6 : decode cX12_readsRow 6 = .ok (.istore_n 1, 1) := by decide +kernel
theorem dX12_readsRow_7 : decode cX12_readsRow 7 = .ok (.iload_n 1, 1) := by decide +kernel
theorem dX12_readsRow_8 : decode cX12_readsRow 8 = .ok (.istore_n 2, 1) := by decide +kernel
theorem dX12_readsRow_9 : decode cX12_readsRow 9 = .ok (.iload_n 2, 1) := by decide +kernel
theorem dX12_readsRow_10 : decode cX12_readsRow 10 = .ok (.ifCond .lt 188, 3) := by decide +kernel
theorem dX12_readsRow_13 : decode cX12_readsRow 13 = .ok (.aload_n 0, 1) := by decide +kernel
theorem dX12_readsRow_14 : decode cX12_readsRow 14 = .ok (.getfield 41, 3) := by decide +kernel
theorem dX12_readsRow_17 : decode cX12_readsRow 17 = .ok (.iload_n 2, 1) := by decide +kernel
theorem dX12_readsRow_18 : decode cX12_readsRow 18 = .ok (.iload_n 2, 1) := by decide +kernel
theorem dX12_readsRow_19 : decode cX12_readsRow 19 = .ok (.iload_n 1, 1) := by decide +kernel
theorem dX12_readsRow_20 : decode cX12_readsRow 20 = .ok (.if_icmp .ne 7, 3) := by decide +kernel
theorem dX12_readsRow_23 : decode cX12_readsRow 23 = .ok (.iconst 1, 1) := by decide +kernel
theorem dX12_readsRow_24 : decode cX12_readsRow 24 = .ok (.goto 4, 3) := by decide +kernel
theorem dX12_readsRow_27 : decode cX12_readsRow 27 = .ok (.iconst 0, 1) := by decide +kernel
theorem dX12_readsRow_28 : decode cX12_readsRow 28 = .ok (.iastore, 1) := by decide +kernel
theorem dX12_readsRow_29 : decode cX12_readsRow 29 = .ok (.aload_n 0, 1) := by decide +kernel
theorem dX12_readsRow_30 : decode cX12_readsRow 30 = .ok (.getfield 44, 3) := by decide +kernel
theorem dX12_readsRow_33 : decode cX12_readsRow 33 = .ok (.iload_n 2, 1) := by decide +kernel
theorem dX12_readsRow_34 : decode cX12_readsRow 34 = .ok (.iload_n 2, 1) := by decide +kernel
theorem dX12_readsRow_35 : decode cX12_readsRow 35 = .ok (.iload_n 1, 1) := by decide +kernel
theorem dX12_readsRow_36 : decode cX12_readsRow 36 = .ok (.if_icmp .ne 7, 3) := by decide +kernel
theorem dX12_readsRow_39 : decode cX12_readsRow 39 = .ok (.iconst 0, 1) := by decide +kernel
theorem dX12_readsRow_40 : decode cX12_readsRow 40 = .ok (.goto 5, 3) := by decide +kernel
theorem dX12_readsRow_43 : decode cX12_readsRow 43 = .ok (.ldc 167, 2) := by decide +kernel
theorem dX12_readsRow_45 : decode cX12_readsRow 45 = .ok (.iastore, 1) := by decide +kernel
theorem dX12_readsRow_46 : decode cX12_readsRow 46 = .ok (.aload_n 0, 1) := by decide +kernel
theorem dX12_readsRow_47 : decode cX12_readsRow 47 = .ok (.getfield 47, 3) := by decide +kernel
theorem dX12_readsRow_50 : decode cX12_readsRow 50 = .ok (.iload_n 2, 1) := by decide +kernel
theorem dX12_readsRow_51 : decode cX12_readsRow 51 = .ok (.iconst 0, 1) := by decide +kernel
theorem dX12_readsRow_52 : decode cX12_readsRow 52 = .ok (.iastore, 1) := by decide +kernel
theorem dX12_readsRow_53 : decode cX12_readsRow 53 = .ok (.iconst 0, 1) := by decide +kernel
theorem dX12_readsRow_54 : decode cX12_readsRow 54 = .ok (.istore_n 3, 1) := by decide +kernel
theorem dX12_readsRow_55 : decode cX12_readsRow 55 = .ok (.iload_n 3, 1) := by decide +kernel
theorem dX12_readsRow_56 : decode cX12_readsRow 56 = .ok (.aload_n 0, 1) := by decide +kernel
theorem dX12_readsRow_57 : decode cX12_readsRow 57 = .ok (.getfield 7, 3) := by decide +kernel
theorem dX12_readsRow_60 : decode cX12_readsRow 60 = .ok (.iconst 3, 1) := by decide +kernel
theorem dX12_readsRow_61 : decode cX12_readsRow 61 = .ok (.iaload, 1) := by decide +kernel
theorem dX12_readsRow_62 : decode cX12_readsRow 62 = .ok (.if_icmp .ge 130, 3) := by decide +kernel
theorem dX12_readsRow_65 : decode cX12_readsRow 65 = .ok (.iload_n 2, 1) := by decide +kernel
theorem dX12_readsRow_66 : decode cX12_readsRow 66 = .ok (.iload_n 1, 1) := by decide +kernel
theorem dX12_readsRow_67 : decode cX12_readsRow 67 = .ok (.if_icmp .ge 119, 3) := by decide +kernel
theorem dX12_readsRow_70 : decode cX12_readsRow 70 = .ok (.aload_n 0, 1) := by decide +kernel
theorem dX12_readsRow_71 : decode cX12_readsRow 71 = .ok (.iload_n 3, 1) := by decide +kernel
theorem dX12_readsRow_72 : decode cX12_readsRow 72 = .ok (.iload_n 2, 1) := by decide +kernel
theorem dX12_readsRow_73 : decode cX12_readsRow 73 = .ok (.invokevirtual 211, 3) := by decide +kernel
theorem dX12_readsRow_76 : decode cX12_readsRow 76 = .ok (.ifCond .eq 110, 3) := by decide +kernel
theorem dX12_readsRow_79 : decode cX12_readsRow 79 = .ok (.iload_n 2, 1) := by decide +kernel
theorem dX12_readsRow_80 : decode cX12_readsRow 80 = .ok (.aload_n 0, 1) := by decide +kernel
theorem dX12_readsRow_81 : decode cX12_readsRow 81 = .ok (.iload_n 3, 1) := by decide +kernel
theorem dX12_readsRow_82 : decode cX12_readsRow 82 = .ok (.invokevirtual 196, 3) := by decide +kernel
theorem dX12_readsRow_85 : decode cX12_readsRow 85 = .ok (.iadd, 1) := by decide +kernel
theorem dX12_readsRow_86 : decode cX12_readsRow 86 = .ok (.istore 4, 2) := by decide +kernel
theorem dX12_readsRow_88 : decode cX12_readsRow 88 = .ok (.aload_n 0, 1) := by decide +kernel
theorem dX12_readsRow_89 : decode cX12_readsRow 89 = .ok (.getfield 41, 3) := by decide +kernel
theorem dX12_readsRow_92 : decode cX12_readsRow 92 = .ok (.iload_n 2, 1) := by decide +kernel
theorem dX12_readsRow_93 : decode cX12_readsRow 93 = .ok (.aload_n 0, 1) := by decide +kernel
theorem dX12_readsRow_94 : decode cX12_readsRow 94 = .ok (.getfield 41, 3) := by decide +kernel
theorem dX12_readsRow_97 : decode cX12_readsRow 97 = .ok (.iload_n 2, 1) := by decide +kernel
theorem dX12_readsRow_98 : decode cX12_readsRow 98 = .ok (.iaload, 1) := by decide +kernel
theorem dX12_readsRow_99 : decode cX12_readsRow 99 = .ok (.aload_n 0, 1) := by decide +kernel
theorem dX12_readsRow_100 : decode cX12_readsRow 100 = .ok (.getfield 41, 3) := by decide +kernel
theorem dX12_readsRow_103 : decode cX12_readsRow 103 = .ok (.iload 4, 2) := by decide +kernel
theorem dX12_readsRow_105 : decode cX12_readsRow 105 = .ok (.iaload, 1) := by decide +kernel
theorem dX12_readsRow_106 : decode cX12_readsRow 106 = .ok (.iadd, 1) := by decide +kernel
theorem dX12_readsRow_107 : decode cX12_readsRow 107 = .ok (.ldc 214, 2) := by decide +kernel
theorem dX12_readsRow_109 : decode cX12_readsRow 109 = .ok (.irem, 1) := by decide +kernel
theorem dX12_readsRow_110 : decode cX12_readsRow 110 = .ok (.iastore, 1) := by decide +kernel
theorem dX12_readsRow_111 : decode cX12_readsRow 111 = .ok (.aload_n 0, 1) := by decide +kernel
theorem dX12_readsRow_112 : decode cX12_readsRow 112 = .ok (.getfield 44, 3) := by decide +kernel
theorem dX12_readsRow_115 : decode cX12_readsRow 115 = .ok (.iload 4, 2) := by decide +kernel
theorem dX12_readsRow_117 : decode cX12_readsRow 117 = .ok (.iaload, 1) := by decide +kernel
theorem dX12_readsRow_118 : decode cX12_readsRow 118 = .ok (.iconst 1, 1) := by decide +kernel
theorem dX12_readsRow_119 : decode cX12_readsRow 119 = .ok (.iadd, 1) := by decide +kernel
theorem dX12_readsRow_120 : decode cX12_readsRow 120 = .ok (.istore 5, 2) := by decide +kernel
theorem dX12_readsRow_122 : decode cX12_readsRow 122 = .ok (.aload_n 0, 1) := by decide +kernel
theorem dX12_readsRow_123 : decode cX12_readsRow 123 = .ok (.getfield 47, 3) := by decide +kernel
theorem dX12_readsRow_126 : decode cX12_readsRow 126 = .ok (.iload 4, 2) := by decide +kernel
theorem dX12_readsRow_128 : decode cX12_readsRow 128 = .ok (.iaload, 1) := by decide +kernel
theorem dX12_readsRow_129 : decode cX12_readsRow 129 = .ok (.aload_n 0, 1) := by decide +kernel
theorem dX12_readsRow_130 : decode cX12_readsRow 130 = .ok (.iload_n 3, 1) := by decide +kernel
theorem dX12_readsRow_131 : decode cX12_readsRow 131 = .ok (.invokevirtual 215, 3) := by decide +kernel
theorem dX12_readsRow_134 : decode cX12_readsRow 134 = .ok (.iadd, 1) := by decide +kernel
theorem dX12_readsRow_135 : decode cX12_readsRow 135 = .ok (.istore 6, 2) := by decide +kernel
theorem dX12_readsRow_137 : decode cX12_readsRow 137 = .ok (.iload 5, 2) := by decide +kernel
theorem dX12_readsRow_139 : decode cX12_readsRow 139 = .ok (.aload_n 0, 1) := by decide +kernel
theorem dX12_readsRow_140 : decode cX12_readsRow 140 = .ok (.getfield 44, 3) := by decide +kernel
theorem dX12_readsRow_143 : decode cX12_readsRow 143 = .ok (.iload_n 2, 1) := by decide +kernel
theorem dX12_readsRow_144 : decode cX12_readsRow 144 = .ok (.iaload, 1) := by decide +kernel
theorem dX12_readsRow_145 : decode cX12_readsRow 145 = .ok (.if_icmp .lt 25, 3) := by decide +kernel
theorem dX12_readsRow_148 : decode cX12_readsRow 148 = .ok (.iload 5, 2) := by decide +kernel
theorem dX12_readsRow_150 : decode cX12_readsRow 150 = .ok (.aload_n 0, 1) := by decide +kernel
theorem dX12_readsRow_151 : decode cX12_readsRow 151 = .ok (.getfield 44, 3) := by decide +kernel
theorem dX12_readsRow_154 : decode cX12_readsRow 154 = .ok (.iload_n 2, 1) := by decide +kernel
theorem dX12_readsRow_155 : decode cX12_readsRow 155 = .ok (.iaload, 1) := by decide +kernel
theorem dX12_readsRow_156 : decode cX12_readsRow 156 = .ok (.if_icmp .ne 30, 3) := by decide +kernel
theorem dX12_readsRow_159 : decode cX12_readsRow 159 = .ok (.iload 6, 2) := by decide +kernel
theorem dX12_readsRow_161 : decode cX12_readsRow 161 = .ok (.aload_n 0, 1) := by decide +kernel
theorem dX12_readsRow_162 : decode cX12_readsRow 162 = .ok (.getfield 47, 3) := by decide +kernel
theorem dX12_readsRow_165 : decode cX12_readsRow 165 = .ok (.iload_n 2, 1) := by decide +kernel
theorem dX12_readsRow_166 : decode cX12_readsRow 166 = .ok (.iaload, 1) := by decide +kernel
theorem dX12_readsRow_167 : decode cX12_readsRow 167 = .ok (.if_icmp .le 19, 3) := by decide +kernel
theorem dX12_readsRow_170 : decode cX12_readsRow 170 = .ok (.aload_n 0, 1) := by decide +kernel
theorem dX12_readsRow_171 : decode cX12_readsRow 171 = .ok (.getfield 44, 3) := by decide +kernel
theorem dX12_readsRow_174 : decode cX12_readsRow 174 = .ok (.iload_n 2, 1) := by decide +kernel
theorem dX12_readsRow_175 : decode cX12_readsRow 175 = .ok (.iload 5, 2) := by decide +kernel
theorem dX12_readsRow_177 : decode cX12_readsRow 177 = .ok (.iastore, 1) := by decide +kernel
theorem dX12_readsRow_178 : decode cX12_readsRow 178 = .ok (.aload_n 0, 1) := by decide +kernel
theorem dX12_readsRow_179 : decode cX12_readsRow 179 = .ok (.getfield 47, 3) := by decide +kernel
theorem dX12_readsRow_182 : decode cX12_readsRow 182 = .ok (.iload_n 2, 1) := by decide +kernel
theorem dX12_readsRow_183 : decode cX12_readsRow 183 = .ok (.iload 6, 2) := by decide +kernel
theorem dX12_readsRow_185 : decode cX12_readsRow 185 = .ok (.iastore, 1) := by decide +kernel
theorem dX12_readsRow_186 : decode cX12_readsRow 186 = .ok (.iinc 3 1, 3) := by decide +kernel
theorem dX12_readsRow_189 : decode cX12_readsRow 189 = .ok (.goto (-134), 3) := by decide +kernel
theorem dX12_readsRow_192 : decode cX12_readsRow 192 = .ok (.iinc 2 (-1), 3) := by decide +kernel
theorem dX12_readsRow_195 : decode cX12_readsRow 195 = .ok (.goto (-186), 3) := by decide +kernel
theorem dX12_readsRow_198 : decode cX12_readsRow 198 = .ok (.return_, 1) := by decide +kernel
theorem dX12_reads_0 : decode cX12_reads 0 = .ok (.iload_n 1, 1) := by decide +kernel
theorem dX12_reads_1 : decode cX12_reads 1 = .ok (.i2l, 1) := by decide +kernel
theorem dX12_reads_2 : decode cX12_reads 2 = .ok (.ldc2_w 218, 3) := by decide +kernel
theorem dX12_reads_5 : decode cX12_reads 5 = .ok (.ldc2_w 220, 3) := by decide +kernel
theorem dX12_reads_8 : decode cX12_reads 8 = .ok (.invokestatic 109, 3) := by decide +kernel
theorem dX12_reads_11 : decode cX12_reads 11 = .ok (.ifCond .ne 6, 3) := by decide +kernel
theorem dX12_reads_14 : decode cX12_reads 14 = .ok (.bipush (-10), 2) := by decide +kernel
theorem dX12_reads_16 : decode cX12_reads 16 = .ok (.ireturn, 1) := by decide +kernel
theorem dX12_reads_17 : decode cX12_reads 17 = .ok (.aload_n 0, 1) := by decide +kernel
theorem dX12_reads_18 : decode cX12_reads 18 = .ok (.invokevirtual 222, 3) := by decide +kernel
theorem dX12_reads_21 : decode cX12_reads 21 = .ok (.iload_n 1, 1) := by decide +kernel
theorem dX12_reads_22 : decode cX12_reads 22 = .ok (.iconst (-1), 1) := by decide +kernel
theorem dX12_reads_23 : decode cX12_reads 23 = .ok (.if_icmp .ne 10, 3) := by decide +kernel
theorem dX12_reads_26 : decode cX12_reads 26 = .ok (.aload_n 0, 1) := by decide +kernel
theorem dX12_reads_27 : decode cX12_reads 27 = .ok (.getfield 41, 3) := by decide +kernel
theorem dX12_reads_30 : decode cX12_reads 30 = .ok (.iconst 0, 1) := by decide +kernel
theorem dX12_reads_31 : decode cX12_reads 31 = .ok (.iaload, 1) := by decide +kernel
theorem dX12_reads_32 : decode cX12_reads 32 = .ok (.ireturn, 1) := by decide +kernel
theorem dX12_reads_33 : decode cX12_reads 33 = .ok (.aload_n 0, 1) := by decide +kernel
theorem dX12_reads_34 : decode cX12_reads 34 = .ok (.getfield 44, 3) := by decide +kernel
theorem dX12_reads_37 : decode cX12_reads 37 = .ok (.iconst 0, 1) := by decide +kernel
theorem dX12_reads_38 : decode cX12_reads 38 = .ok (.iaload, 1) := by decide +kernel
theorem dX12_reads_39 : decode cX12_reads 39 = .ok (.ldc 167, 2) := by decide +kernel
theorem dX12_reads_41 : decode cX12_reads 41 = .ok (.if_icmp .lt 6, 3) := by decide +kernel
theorem dX12_reads_44 : decode cX12_reads 44 = .ok (.bipush (-5), 2) := by decide +kernel
theorem dX12_reads_46 : decode cX12_reads 46 = .ok (.ireturn, 1) := by decide +kernel
theorem dX12_reads_47 : decode cX12_reads 47 = .ok (.iload_n 1, 1) := by decide +kernel
theorem dX12_reads_48 : decode cX12_reads 48 = .ok (.bipush 24, 2) := by decide +kernel
theorem dX12_reads_50 : decode cX12_reads 50 = .ok (.if_icmp .ne 10, 3) := by decide +kernel
theorem dX12_reads_53 : decode cX12_reads 53 = .ok (.aload_n 0, 1) := by decide +kernel
theorem dX12_reads_54 : decode cX12_reads 54 = .ok (.getfield 44, 3) := by decide +kernel
theorem dX12_reads_57 : decode cX12_reads 57 = .ok (.iconst 0, 1) := by decide +kernel
theorem dX12_reads_58 : decode cX12_reads 58 = .ok (.iaload, 1) := by decide +kernel
theorem dX12_reads_59 : decode cX12_reads 59 = .ok (.ireturn, 1) := by decide +kernel
theorem dX12_reads_60 : decode cX12_reads 60 = .ok (.iconst 0, 1) := by decide +kernel
theorem dX12_reads_61 : decode cX12_reads 61 = .ok (.istore_n 2, 1) := by decide +kernel
theorem dX12_reads_62 : decode cX12_reads 62 = .ok (.bipush (-5), 2) := by decide +kernel
theorem dX12_reads_64 : decode cX12_reads 64 = .ok (.istore_n 3, 1) := by decide +kernel
theorem dX12_reads_65 : decode cX12_reads 65 = .ok (.iconst 0, 1) := by decide +kernel
theorem dX12_reads_66 : decode cX12_reads 66 = .ok (.istore 4, 2) := by decide +kernel
theorem dX12_reads_68 : decode cX12_reads 68 = .ok (.iload 4, 2) := by decide +kernel
theorem dX12_reads_70 : decode cX12_reads 70 = .ok (.iload_n 1, 1) := by decide +kernel
theorem dX12_reads_71 : decode cX12_reads 71 = .ok (.if_icmp .gt 140, 3) := by decide +kernel
theorem dX12_reads_74 : decode cX12_reads 74 = .ok (.bipush (-5), 2) := by decide +kernel
theorem dX12_reads_76 : decode cX12_reads 76 = .ok (.istore_n 3, 1) := by decide +kernel
theorem dX12_reads_77 : decode cX12_reads 77 = .ok (.aload_n 0, 1) := by decide +kernel
theorem dX12_reads_78 : decode cX12_reads 78 = .ok (.getfield 7, 3) := by decide +kernel
theorem dX12_reads_81 : decode cX12_reads 81 = .ok (.iconst 3, 1) := by decide +kernel
theorem dX12_reads_82 : decode cX12_reads 82 = .ok (.iaload, 1) := by decide +kernel
theorem dX12_reads_83 : decode cX12_reads 83 = .ok (.iconst 1, 1) := by decide +kernel
theorem dX12_reads_84 : decode cX12_reads 84 = .ok (.isub, 1) := by decide +kernel
theorem dX12_reads_85 : decode cX12_reads 85 = .ok (.istore 5, 2) := by decide +kernel
theorem dX12_reads_87 : decode cX12_reads 87 = .ok (.iload 5, 2) := by decide +kernel
theorem dX12_reads_89 : decode cX12_reads 89 = .ok (.ifCond .lt 101, 3) := by decide +kernel
theorem dX12_reads_92 : decode cX12_reads 92 = .ok (.iload_n 2, 1) := by decide +kernel
theorem dX12_reads_93 : decode cX12_reads 93 = .ok (.aload_n 0, 1) := by decide +kernel
theorem dX12_reads_94 : decode cX12_reads 94 = .ok (.getfield 7, 3) := by decide +kernel
theorem dX12_reads_97 : decode cX12_reads 97 = .ok (.iconst 4, 1) := by decide +kernel
theorem dX12_reads_98 : decode cX12_reads 98 = .ok (.iaload, 1) := by decide +kernel
theorem dX12_reads_99 : decode cX12_reads 99 = .ok (.if_icmp .ge 91, 3) := by decide +kernel
theorem dX12_reads_102 : decode cX12_reads 102 = .ok (.aload_n 0, 1) := by decide +kernel
theorem dX12_reads_103 : decode cX12_reads 103 = .ok (.iload 5, 2) := by decide +kernel
theorem dX12_reads_105 : decode cX12_reads 105 = .ok (.iload_n 2, 1) := by decide +kernel
theorem dX12_reads_106 : decode cX12_reads 106 = .ok (.invokevirtual 211, 3) := by decide +kernel
theorem dX12_reads_109 : decode cX12_reads 109 = .ok (.ifCond .eq 60, 3) := by decide +kernel
theorem dX12_reads_112 : decode cX12_reads 112 = .ok (.aload_n 0, 1) := by decide +kernel
theorem dX12_reads_113 : decode cX12_reads 113 = .ok (.getfield 44, 3) := by decide +kernel
theorem dX12_reads_116 : decode cX12_reads 116 = .ok (.iload_n 2, 1) := by decide +kernel
theorem dX12_reads_117 : decode cX12_reads 117 = .ok (.aload_n 0, 1) := by decide +kernel
theorem dX12_reads_118 : decode cX12_reads 118 = .ok (.iload 5, 2) := by decide +kernel
theorem dX12_reads_120 : decode cX12_reads 120 = .ok (.invokevirtual 196, 3) := by decide +kernel
theorem dX12_reads_123 : decode cX12_reads 123 = .ok (.iadd, 1) := by decide +kernel
theorem dX12_reads_124 : decode cX12_reads 124 = .ok (.iaload, 1) := by decide +kernel
theorem dX12_reads_125 : decode cX12_reads 125 = .ok (.iconst 1, 1) := by decide +kernel
theorem dX12_reads_126 : decode cX12_reads 126 = .ok (.iadd, 1) := by decide +kernel
theorem dX12_reads_127 : decode cX12_reads 127 = .ok (.aload_n 0, 1) := by decide +kernel
theorem dX12_reads_128 : decode cX12_reads 128 = .ok (.getfield 44, 3) := by decide +kernel
theorem dX12_reads_131 : decode cX12_reads 131 = .ok (.iload_n 2, 1) := by decide +kernel
theorem dX12_reads_132 : decode cX12_reads 132 = .ok (.iaload, 1) := by decide +kernel
theorem dX12_reads_133 : decode cX12_reads 133 = .ok (.if_icmp .ne 36, 3) := by decide +kernel
theorem dX12_reads_136 : decode cX12_reads 136 = .ok (.aload_n 0, 1) := by decide +kernel
theorem dX12_reads_137 : decode cX12_reads 137 = .ok (.getfield 47, 3) := by decide +kernel
theorem dX12_reads_140 : decode cX12_reads 140 = .ok (.iload_n 2, 1) := by decide +kernel
theorem dX12_reads_141 : decode cX12_reads 141 = .ok (.aload_n 0, 1) := by decide +kernel
theorem dX12_reads_142 : decode cX12_reads 142 = .ok (.iload 5, 2) := by decide +kernel
theorem dX12_reads_144 : decode cX12_reads 144 = .ok (.invokevirtual 196, 3) := by decide +kernel
theorem dX12_reads_147 : decode cX12_reads 147 = .ok (.iadd, 1) := by decide +kernel
theorem dX12_reads_148 : decode cX12_reads 148 = .ok (.iaload, 1) := by decide +kernel
theorem dX12_reads_149 : decode cX12_reads 149 = .ok (.aload_n 0, 1) := by decide +kernel
theorem dX12_reads_150 : decode cX12_reads 150 = .ok (.iload 5, 2) := by decide +kernel
theorem dX12_reads_152 : decode cX12_reads 152 = .ok (.invokevirtual 215, 3) := by decide +kernel
theorem dX12_reads_155 : decode cX12_reads 155 = .ok (.iadd, 1) := by decide +kernel
theorem dX12_reads_156 : decode cX12_reads 156 = .ok (.aload_n 0, 1) := by decide +kernel
theorem dX12_reads_157 : decode cX12_reads 157 = .ok (.getfield 47, 3) := by decide +kernel
theorem dX12_reads_160 : decode cX12_reads 160 = .ok (.iload_n 2, 1) := by decide +kernel
theorem dX12_reads_161 : decode cX12_reads 161 = .ok (.iaload, 1) := by decide +kernel
theorem dX12_reads_162 : decode cX12_reads 162 = .ok (.if_icmp .ne 7, 3) := by decide +kernel
theorem dX12_reads_165 : decode cX12_reads 165 = .ok (.iconst 1, 1) := by decide +kernel
theorem dX12_reads_166 : decode cX12_reads 166 = .ok (.goto 4, 3) := by decide +kernel
theorem dX12_reads_169 : decode cX12_reads 169 = .ok (.iconst 0, 1) := by decide +kernel
theorem dX12_reads_170 : decode cX12_reads 170 = .ok (.istore 6, 2) := by decide +kernel
theorem dX12_reads_172 : decode cX12_reads 172 = .ok (.iload 6, 2) := by decide +kernel
theorem dX12_reads_174 : decode cX12_reads 174 = .ok (.ifCond .eq 8, 3) := by decide +kernel
theorem dX12_reads_177 : decode cX12_reads 177 = .ok (.iload 5, 2) := by decide +kernel
theorem dX12_reads_179 : decode cX12_reads 179 = .ok (.goto 4, 3) := by decide +kernel
theorem dX12_reads_182 : decode cX12_reads 182 = .ok (.iload_n 3, 1) := by decide +kernel
theorem dX12_reads_183 : decode cX12_reads 183 = .ok (.istore_n 3, 1) := by decide +kernel
theorem dX12_reads_184 : decode cX12_reads 184 = .ok (.iinc 5 (-1), 3) := by decide +kernel
theorem dX12_reads_187 : decode cX12_reads 187 = .ok (.goto (-100), 3) := by decide +kernel
theorem dX12_reads_190 : decode cX12_reads 190 = .ok (.iload_n 3, 1) := by decide +kernel
theorem dX12_reads_191 : decode cX12_reads 191 = .ok (.ifCond .ge 6, 3) := by decide +kernel
theorem dX12_reads_194 : decode cX12_reads 194 = .ok (.bipush (-5), 2) := by decide +kernel
theorem dX12_reads_196 : decode cX12_reads 196 = .ok (.ireturn, 1) := by decide +kernel
theorem dX12_reads_197 : decode cX12_reads 197 = .ok (.iload_n 2, 1) := by decide +kernel
theorem dX12_reads_198 : decode cX12_reads 198 = .ok (.aload_n 0, 1) := by decide +kernel
theorem dX12_reads_199 : decode cX12_reads 199 = .ok (.iload_n 3, 1) := by decide +kernel
theorem dX12_reads_200 : decode cX12_reads 200 = .ok (.invokevirtual 196, 3) := by decide +kernel
theorem dX12_reads_203 : decode cX12_reads 203 = .ok (.iadd, 1) := by decide +kernel
theorem dX12_reads_204 : decode cX12_reads 204 = .ok (.istore_n 2, 1) := by decide +kernel
theorem dX12_reads_205 : decode cX12_reads 205 = .ok (.iinc 4 1, 3) := by decide +kernel
theorem dX12_reads_208 : decode cX12_reads 208 = .ok (.goto (-140), 3) := by decide +kernel
theorem dX12_reads_211 : decode cX12_reads 211 = .ok (.iload_n 3, 1) := by decide +kernel
theorem dX12_reads_212 : decode cX12_reads 212 = .ok (.ireturn, 1) := by decide +kernel
theorem dX12_allWords_0 : decode cX12_allWords 0 = .ok (.iconst 1, 1) := by decide +kernel
theorem dX12_allWords_1 : decode cX12_allWords 1 = .ok (.aload_n 0, 1) := by decide +kernel
theorem dX12_allWords_2 : decode cX12_allWords 2 = .ok (.getfield 7, 3) := by decide +kernel
theorem dX12_allWords_5 : decode cX12_allWords 5 = .ok (.iconst 3, 1) := by decide +kernel
theorem dX12_allWords_6 : decode cX12_allWords 6 = .ok (.iaload, 1) := by decide +kernel
theorem dX12_allWords_7 : decode cX12_allWords 7 = .ok (.ishl, 1) := by decide +kernel
theorem dX12_allWords_8 : decode cX12_allWords 8 = .ok (.iconst 1, 1) := by decide +kernel
theorem dX12_allWords_9 : decode cX12_allWords 9 = .ok (.isub, 1) := by decide +kernel
theorem dX12_allWords_10 : decode cX12_allWords 10 = .ok (.ireturn, 1) := by decide +kernel
theorem dX12_mistakes_0 : decode cX12_mistakes 0 = .ok (.iconst 0, 1) := by decide +kernel
theorem dX12_mistakes_1 : decode cX12_mistakes 1 = .ok (.istore_n 2, 1) := by decide +kernel
theorem dX12_mistakes_2 : decode cX12_mistakes 2 = .ok (.iconst 0, 1) := by decide +kernel
theorem dX12_mistakes_3 : decode cX12_mistakes 3 = .ok (.istore_n 3, 1) := by decide +kernel
theorem dX12_mistakes_4 : decode cX12_mistakes 4 = .ok (.iload_n 3, 1) := by decide +kernel
theorem dX12_mistakes_5 : decode cX12_mistakes 5 = .ok (.aload_n 0, 1) := by decide +kernel
theorem dX12_mistakes_6 : decode cX12_mistakes 6 = .ok (.getfield 7, 3) := by decide +kernel
theorem dX12_mistakes_9 : decode cX12_mistakes 9 = .ok (.iconst 3, 1) := by decide +kernel
theorem dX12_mistakes_10 : decode cX12_mistakes 10 = .ok (.iaload, 1) := by decide +kernel
theorem dX12_mistakes_11 : decode cX12_mistakes 11 = .ok (.if_icmp .ge 82, 3) := by decide +kernel
theorem dX12_mistakes_14 : decode cX12_mistakes 14 = .ok (.iconst 0, 1) := by decide +kernel
theorem dX12_mistakes_15 : decode cX12_mistakes 15 = .ok (.istore 4, 2) := by decide +kernel
theorem dX12_mistakes_17 : decode cX12_mistakes 17 = .ok (.iload 4, 2) := by decide +kernel
theorem dX12_mistakes_19 : decode cX12_mistakes 19 = .ok (.iload_n 3, 1) := by decide +kernel
theorem dX12_mistakes_20 : decode cX12_mistakes 20 = .ok (.if_icmp .ge 67, 3) := by decide +kernel
theorem dX12_mistakes_23 : decode cX12_mistakes 23 = .ok (.iload_n 1, 1) := by decide +kernel
theorem dX12_mistakes_24 : decode cX12_mistakes 24 = .ok (.iload_n 3, 1) := by decide +kernel
theorem dX12_mistakes_25 : decode cX12_mistakes 25 = .ok (.ishr, 1) := by decide +kernel
theorem dX12_mistakes_26 : decode cX12_mistakes 26 = .ok (.iconst 1, 1) := by decide +kernel
theorem dX12_mistakes_27 : decode cX12_mistakes 27 = .ok (.iand, 1) := by decide +kernel
theorem dX12_mistakes_28 : decode cX12_mistakes 28 = .ok (.ifCond .ne 16, 3) := by decide +kernel
theorem dX12_mistakes_31 : decode cX12_mistakes 31 = .ok (.iload_n 1, 1) := by decide +kernel
theorem dX12_mistakes_32 : decode cX12_mistakes 32 = .ok (.iload 4, 2) := by decide +kernel
theorem dX12_mistakes_34 : decode cX12_mistakes 34 = .ok (.ishr, 1) := by decide +kernel
theorem dX12_mistakes_35 : decode cX12_mistakes 35 = .ok (.iconst 1, 1) := by decide +kernel
theorem dX12_mistakes_36 : decode cX12_mistakes 36 = .ok (.iand, 1) := by decide +kernel
theorem dX12_mistakes_37 : decode cX12_mistakes 37 = .ok (.ifCond .ne 7, 3) := by decide +kernel
theorem dX12_mistakes_40 : decode cX12_mistakes 40 = .ok (.iconst 1, 1) := by decide +kernel
theorem dX12_mistakes_41 : decode cX12_mistakes 41 = .ok (.goto 4, 3) := by decide +kernel
theorem dX12_mistakes_44 : decode cX12_mistakes 44 = .ok (.iconst 0, 1) := by decide +kernel
theorem dX12_mistakes_45 : decode cX12_mistakes 45 = .ok (.istore 5, 2) := by decide +kernel
theorem dX12_mistakes_47 : decode cX12_mistakes 47 = .ok (.iload_n 2, 1) := by decide +kernel
theorem dX12_mistakes_48 : decode cX12_mistakes 48 = .ok (.iload 5, 2) := by decide +kernel
theorem dX12_mistakes_50 : decode cX12_mistakes 50 = .ok (.ifCond .eq 28, 3) := by decide +kernel
theorem dX12_mistakes_53 : decode cX12_mistakes 53 = .ok (.aload_n 0, 1) := by decide +kernel
theorem dX12_mistakes_54 : decode cX12_mistakes 54 = .ok (.iload_n 3, 1) := by decide +kernel
theorem dX12_mistakes_55 : decode cX12_mistakes 55 = .ok (.iload 4, 2) := by decide +kernel
theorem dX12_mistakes_57 : decode cX12_mistakes 57 = .ok (.invokevirtual 208, 3) := by decide +kernel
theorem dX12_mistakes_60 : decode cX12_mistakes 60 = .ok (.ifCond .eq 18, 3) := by decide +kernel
theorem dX12_mistakes_63 : decode cX12_mistakes 63 = .ok (.aload_n 0, 1) := by decide +kernel
theorem dX12_mistakes_64 : decode cX12_mistakes 64 = .ok (.iload_n 3, 1) := by decide +kernel
theorem dX12_mistakes_65 : decode cX12_mistakes 65 = .ok (.invokevirtual 215, 3) := by decide +kernel
theorem dX12_mistakes_68 : decode cX12_mistakes 68 = .ok (.aload_n 0, 1) := by decide +kernel
theorem dX12_mistakes_69 : decode cX12_mistakes 69 = .ok (.iload 4, 2) := by decide +kernel
theorem dX12_mistakes_71 : decode cX12_mistakes 71 = .ok (.invokevirtual 215, 3) := by decide +kernel
theorem dX12_mistakes_74 : decode cX12_mistakes 74 = .ok (.imul, 1) := by decide +kernel
theorem dX12_mistakes_75 : decode cX12_mistakes 75 = .ok (.goto 4, 3) := by decide +kernel
theorem dX12_mistakes_78 : decode cX12_mistakes 78 = .ok (.iconst 0, 1) := by decide +kernel
theorem dX12_mistakes_79 : decode cX12_mistakes 79 = .ok (.iadd, 1) := by decide +kernel
theorem dX12_mistakes_80 : decode cX12_mistakes 80 = .ok (.istore_n 2, 1) := by decide +kernel
theorem dX12_mistakes_81 : decode cX12_mistakes 81 = .ok (.iinc 4 1, 3) := by decide +kernel
theorem dX12_mistakes_84 : decode cX12_mistakes 84 = .ok (.goto (-67), 3) := by decide +kernel
theorem dX12_mistakes_87 : decode cX12_mistakes 87 = .ok (.iinc 3 1, 3) := by decide +kernel
theorem dX12_mistakes_90 : decode cX12_mistakes 90 = .ok (.goto (-86), 3) := by decide +kernel
theorem dX12_mistakes_93 : decode cX12_mistakes 93 = .ok (.iload_n 2, 1) := by decide +kernel
theorem dX12_mistakes_94 : decode cX12_mistakes 94 = .ok (.ireturn, 1) := by decide +kernel
theorem dX12_mistaken_0 : decode cX12_mistaken 0 = .ok (.iload_n 1, 1) := by decide +kernel
theorem dX12_mistaken_1 : decode cX12_mistaken 1 = .ok (.i2l, 1) := by decide +kernel
theorem dX12_mistaken_2 : decode cX12_mistaken 2 = .ok (.lconst 0, 1) := by decide +kernel
theorem dX12_mistaken_3 : decode cX12_mistaken 3 = .ok (.aload_n 0, 1) := by decide +kernel
theorem dX12_mistaken_4 : decode cX12_mistaken 4 = .ok (.invokevirtual 225, 3) := by decide +kernel
theorem dX12_mistaken_7 : decode cX12_mistaken 7 = .ok (.i2l, 1) := by decide +kernel
theorem dX12_mistaken_8 : decode cX12_mistaken 8 = .ok (.invokestatic 109, 3) := by decide +kernel
theorem dX12_mistaken_11 : decode cX12_mistaken 11 = .ok (.ifCond .eq 11, 3) := by decide +kernel
theorem dX12_mistaken_14 : decode cX12_mistaken 14 = .ok (.aload_n 0, 1) := by decide +kernel
theorem dX12_mistaken_15 : decode cX12_mistaken 15 = .ok (.iload_n 1, 1) := by decide +kernel
theorem dX12_mistaken_16 : decode cX12_mistaken 16 = .ok (.invokevirtual 229, 3) := by decide +kernel
theorem dX12_mistaken_19 : decode cX12_mistaken 19 = .ok (.goto 5, 3) := by decide +kernel
theorem dX12_mistaken_22 : decode cX12_mistaken 22 = .ok (.bipush (-2), 2) := by decide +kernel
theorem dX12_mistaken_24 : decode cX12_mistaken 24 = .ok (.ireturn, 1) := by decide +kernel
theorem dX12_signs_0 : decode cX12_signs 0 = .ok (.iload_n 1, 1) := by decide +kernel
theorem dX12_signs_1 : decode cX12_signs 1 = .ok (.i2l, 1) := by decide +kernel
theorem dX12_signs_2 : decode cX12_signs 2 = .ok (.lconst 0, 1) := by decide +kernel
theorem dX12_signs_3 : decode cX12_signs 3 = .ok (.aload_n 0, 1) := by decide +kernel
theorem dX12_signs_4 : decode cX12_signs 4 = .ok (.getfield 7, 3) := by decide +kernel
theorem dX12_signs_7 : decode cX12_signs 7 = .ok (.iconst 3, 1) := by decide +kernel
theorem dX12_signs_8 : decode cX12_signs 8 = .ok (.iaload, 1) := by decide +kernel
theorem dX12_signs_9 : decode cX12_signs 9 = .ok (.i2l, 1) := by decide +kernel
theorem dX12_signs_10 : decode cX12_signs 10 = .ok (.invokestatic 109, 3) := by decide +kernel
theorem dX12_signs_13 : decode cX12_signs 13 = .ok (.ifCond .ne 6, 3) := by decide +kernel
theorem dX12_signs_16 : decode cX12_signs 16 = .ok (.bipush (-2), 2) := by decide +kernel
theorem dX12_signs_18 : decode cX12_signs 18 = .ok (.ireturn, 1) := by decide +kernel
theorem dX12_signs_19 : decode cX12_signs 19 = .ok (.iconst (-1), 1) := by decide +kernel
theorem dX12_signs_20 : decode cX12_signs 20 = .ok (.istore_n 2, 1) := by decide +kernel
theorem dX12_signs_21 : decode cX12_signs 21 = .ok (.ldc 167, 2) := by decide +kernel
theorem dX12_signs_23 : decode cX12_signs 23 = .ok (.istore_n 3, 1) := by decide +kernel
theorem dX12_signs_24 : decode cX12_signs 24 = .ok (.iconst 0, 1) := by decide +kernel
theorem dX12_signs_25 : decode cX12_signs 25 = .ok (.istore 4, 2) := by decide +kernel
theorem dX12_signs_27 : decode cX12_signs 27 = .ok (.iload 4, 2) := by decide +kernel
theorem dX12_signs_29 : decode cX12_signs 29 = .ok (.aload_n 0, 1) := by decide +kernel
theorem dX12_signs_30 : decode cX12_signs 30 = .ok (.invokevirtual 225, 3) := by decide +kernel
theorem dX12_signs_33 : decode cX12_signs 33 = .ok (.if_icmp .gt 38, 3) := by decide +kernel
theorem dX12_signs_36 : decode cX12_signs 36 = .ok (.iload 4, 2) := by decide +kernel
theorem dX12_signs_38 : decode cX12_signs 38 = .ok (.invokestatic 181, 3) := by decide +kernel
theorem dX12_signs_41 : decode cX12_signs 41 = .ok (.iload_n 1, 1) := by decide +kernel
theorem dX12_signs_42 : decode cX12_signs 42 = .ok (.if_icmp .ne 23, 3) := by decide +kernel
theorem dX12_signs_45 : decode cX12_signs 45 = .ok (.aload_n 0, 1) := by decide +kernel
theorem dX12_signs_46 : decode cX12_signs 46 = .ok (.iload 4, 2) := by decide +kernel
theorem dX12_signs_48 : decode cX12_signs 48 = .ok (.invokevirtual 229, 3) := by decide +kernel
theorem dX12_signs_51 : decode cX12_signs 51 = .ok (.iload_n 3, 1) := by decide +kernel
theorem dX12_signs_52 : decode cX12_signs 52 = .ok (.if_icmp .ge 13, 3) := by decide +kernel
theorem dX12_signs_55 : decode cX12_signs 55 = .ok (.iload 4, 2) := by decide +kernel
theorem dX12_signs_57 : decode cX12_signs 57 = .ok (.istore_n 2, 1) := by decide +kernel
theorem dX12_signs_58 : decode cX12_signs 58 = .ok (.aload_n 0, 1) := by decide +kernel
theorem dX12_signs_59 : decode cX12_signs 59 = .ok (.iload 4, 2) := by decide +kernel
theorem dX12_signs_61 : decode cX12_signs 61 = .ok (.invokevirtual 229, 3) := by decide +kernel
theorem dX12_signs_64 : decode cX12_signs 64 = .ok (.istore_n 3, 1) := by decide +kernel
theorem dX12_signs_65 : decode cX12_signs 65 = .ok (.iinc 4 1, 3) := by decide +kernel
theorem dX12_signs_68 : decode cX12_signs 68 = .ok (.goto (-41), 3) := by decide +kernel
theorem dX12_signs_71 : decode cX12_signs 71 = .ok (.iload_n 2, 1) := by decide +kernel
theorem dX12_signs_72 : decode cX12_signs 72 = .ok (.ireturn, 1) := by decide +kernel
theorem dX12_plain_0 : decode cX12_plain 0 = .ok (.iload_n 1, 1) := by decide +kernel
theorem dX12_plain_1 : decode cX12_plain 1 = .ok (.i2l, 1) := by decide +kernel
theorem dX12_plain_2 : decode cX12_plain 2 = .ok (.lconst 1, 1) := by decide +kernel
theorem dX12_plain_3 : decode cX12_plain 3 = .ok (.ldc2_w 232, 3) := by decide +kernel
theorem dX12_plain_6 : decode cX12_plain 6 = .ok (.invokestatic 109, 3) := by decide +kernel
theorem dX12_plain_9 : decode cX12_plain 9 = .ok (.ifCond .eq 13, 3) := by decide +kernel
theorem dX12_plain_12 : decode cX12_plain 12 = .ok (.aload_n 0, 1) := by decide +kernel
theorem dX12_plain_13 : decode cX12_plain 13 = .ok (.bipush 8, 2) := by decide +kernel
theorem dX12_plain_15 : decode cX12_plain 15 = .ok (.iload_n 1, 1) := by decide +kernel
theorem dX12_plain_16 : decode cX12_plain 16 = .ok (.invokevirtual 130, 3) := by decide +kernel
theorem dX12_plain_19 : decode cX12_plain 19 = .ok (.goto 5, 3) := by decide +kernel
theorem dX12_plain_22 : decode cX12_plain 22 = .ok (.bipush (-2), 2) := by decide +kernel
theorem dX12_plain_24 : decode cX12_plain 24 = .ok (.ireturn, 1) := by decide +kernel
theorem dX12_hearing_0 : decode cX12_hearing 0 = .ok (.aload_n 0, 1) := by decide +kernel
theorem dX12_hearing_1 : decode cX12_hearing 1 = .ok (.iload_n 1, 1) := by decide +kernel
theorem dX12_hearing_2 : decode cX12_hearing 2 = .ok (.invokevirtual 196, 3) := by decide +kernel
theorem dX12_hearing_5 : decode cX12_hearing 5 = .ok (.aload_n 0, 1) := by decide +kernel
theorem dX12_hearing_6 : decode cX12_hearing 6 = .ok (.iload_n 2, 1) := by decide +kernel
theorem dX12_hearing_7 : decode cX12_hearing 7 = .ok (.invokevirtual 196, 3) := by decide +kernel
theorem dX12_hearing_10 : decode cX12_hearing 10 = .ok (.if_icmp .eq 5, 3) := by decide +kernel
theorem dX12_hearing_13 : decode cX12_hearing 13 = .ok (.iconst 0, 1) := by decide +kernel
theorem dX12_hearing_14 : decode cX12_hearing 14 = .ok (.ireturn, 1) := by decide +kernel
theorem dX12_hearing_15 : decode cX12_hearing 15 = .ok (.iload_n 1, 1) := by decide +kernel
theorem dX12_hearing_16 : decode cX12_hearing 16 = .ok (.iload_n 2, 1) := by decide +kernel
theorem dX12_hearing_17 : decode cX12_hearing 17 = .ok (.if_icmp .ne 13, 3) := by decide +kernel
theorem dX12_hearing_20 : decode cX12_hearing 20 = .ok (.aload_n 0, 1) := by decide +kernel
theorem dX12_hearing_21 : decode cX12_hearing 21 = .ok (.getfield 7, 3) := by decide +kernel
theorem dX12_hearing_24 : decode cX12_hearing 24 = .ok (.bipush 8, 2) := by decide +kernel
theorem dX12_hearing_26 : decode cX12_hearing 26 = .ok (.iaload, 1) := by decide +kernel
theorem dX12_hearing_27 : decode cX12_hearing 27 = .ok (.goto 15, 3) := by decide +kernel
theorem dX12_hearing_30 : decode cX12_hearing 30 = .ok (.aload_n 0, 1) := by decide +kernel
theorem dX12_hearing_31 : decode cX12_hearing 31 = .ok (.iload_n 2, 1) := by decide +kernel
theorem dX12_hearing_32 : decode cX12_hearing 32 = .ok (.invokevirtual 215, 3) := by decide +kernel
theorem dX12_hearing_35 : decode cX12_hearing 35 = .ok (.aload_n 0, 1) := by decide +kernel
theorem dX12_hearing_36 : decode cX12_hearing 36 = .ok (.iload_n 1, 1) := by decide +kernel
theorem dX12_hearing_37 : decode cX12_hearing 37 = .ok (.iload_n 2, 1) := by decide +kernel
theorem dX12_hearing_38 : decode cX12_hearing 38 = .ok (.invokevirtual 202, 3) := by decide +kernel
theorem dX12_hearing_41 : decode cX12_hearing 41 = .ok (.ishr, 1) := by decide +kernel
theorem dX12_hearing_42 : decode cX12_hearing 42 = .ok (.ireturn, 1) := by decide +kernel
theorem dX12_beginHearing_0 : decode cX12_beginHearing 0 = .ok (.iconst 0, 1) := by decide +kernel
theorem dX12_beginHearing_1 : decode cX12_beginHearing 1 = .ok (.istore_n 2, 1) := by decide +kernel
theorem dX12_beginHearing_2 : decode cX12_beginHearing 2 = .ok (.iload_n 2, 1) := by decide +kernel
theorem dX12_beginHearing_3 : decode cX12_beginHearing 3 = .ok (.aload_n 0, 1) := by decide +kernel
theorem dX12_beginHearing_4 : decode cX12_beginHearing 4 = .ok (.getfield 7, 3) := by decide +kernel
theorem dX12_beginHearing_7 : decode cX12_beginHearing 7 = .ok (.iconst 3, 1) := by decide +kernel
theorem dX12_beginHearing_8 : decode cX12_beginHearing 8 = .ok (.iaload, 1) := by decide +kernel
theorem dX12_beginHearing_9 : decode cX12_beginHearing 9 = .ok (.if_icmp .ge 67, 3) := by decide +kernel
theorem dX12_beginHearing_12 : decode cX12_beginHearing 12 = .ok (.aload_n 0, 1) := by decide +kernel
theorem dX12_beginHearing_13 : decode cX12_beginHearing 13 = .ok (.getfield 50, 3) := by decide +kernel
theorem dX12_beginHearing_16 : decode cX12_beginHearing 16 = .ok (.iload_n 2, 1) := by decide +kernel
theorem dX12_beginHearing_17 : decode cX12_beginHearing 17 = .ok (.iconst 0, 1) := by decide +kernel
theorem dX12_beginHearing_18 : decode cX12_beginHearing 18 = .ok (.iastore, 1) := by decide +kernel
theorem dX12_beginHearing_19 : decode cX12_beginHearing 19 = .ok (.iconst 0, 1) := by decide +kernel
theorem dX12_beginHearing_20 : decode cX12_beginHearing 20 = .ok (.istore_n 3, 1) := by decide +kernel
theorem dX12_beginHearing_21 : decode cX12_beginHearing 21 = .ok (.iload_n 3, 1) := by decide +kernel
theorem dX12_beginHearing_22 : decode cX12_beginHearing 22 = .ok (.aload_n 0, 1) := by decide +kernel
theorem dX12_beginHearing_23 : decode cX12_beginHearing 23 = .ok (.getfield 7, 3) := by decide +kernel
theorem dX12_beginHearing_26 : decode cX12_beginHearing 26 = .ok (.iconst 3, 1) := by decide +kernel
theorem dX12_beginHearing_27 : decode cX12_beginHearing 27 = .ok (.iaload, 1) := by decide +kernel
theorem dX12_beginHearing_28 : decode cX12_beginHearing 28 = .ok (.if_icmp .ge 24, 3) := by decide +kernel
theorem dX12_beginHearing_31 : decode cX12_beginHearing 31 = .ok (.aload_n 0, 1) := by decide +kernel
theorem dX12_beginHearing_32 : decode cX12_beginHearing 32 = .ok (.getfield 50, 3) := by decide +kernel
theorem dX12_beginHearing_35 : decode cX12_beginHearing 35 = .ok (.iload_n 2, 1) := by decide +kernel
theorem dX12_beginHearing_36 : decode cX12_beginHearing 36 = .ok (.dup2, 1) := by decide +kernel
theorem dX12_beginHearing_37 : decode cX12_beginHearing 37 = .ok (.iaload, 1) := by decide +kernel
theorem dX12_beginHearing_38 : decode cX12_beginHearing 38 = .ok (.aload_n 0, 1) := by decide +kernel
theorem dX12_beginHearing_39 : decode cX12_beginHearing 39 = .ok (.iload_n 2, 1) := by decide +kernel
theorem dX12_beginHearing_40 : decode cX12_beginHearing 40 = .ok (.iload_n 3, 1) := by decide +kernel
theorem dX12_beginHearing_41 : decode cX12_beginHearing 41 = .ok (.invokevirtual 234, 3) := by decide +kernel
theorem dX12_beginHearing_44 : decode cX12_beginHearing 44 = .ok (.iadd, 1) := by decide +kernel
theorem dX12_beginHearing_45 : decode cX12_beginHearing 45 = .ok (.iastore, 1) := by decide +kernel
theorem dX12_beginHearing_46 : decode cX12_beginHearing 46 = .ok (.iinc 3 1, 3) := by decide +kernel
theorem dX12_beginHearing_49 : decode cX12_beginHearing 49 = .ok (.goto (-28), 3) := by decide +kernel
theorem dX12_beginHearing_52 : decode cX12_beginHearing 52 = .ok (.aload_n 0, 1) := by decide +kernel
theorem dX12_beginHearing_53 : decode cX12_beginHearing 53 = .ok (.bipush 7, 2) := by decide +kernel
theorem dX12_beginHearing_55 : decode cX12_beginHearing 55 = .ok (.iload_n 2, 1) := by decide +kernel
theorem dX12_beginHearing_56 : decode cX12_beginHearing 56 = .ok (.iadd, 1) := by decide +kernel
theorem dX12_beginHearing_57 : decode cX12_beginHearing 57 = .ok (.iload_n 2, 1) := by decide +kernel
theorem dX12_beginHearing_58 : decode cX12_beginHearing 58 = .ok (.iload_n 1, 1) := by decide +kernel
theorem dX12_beginHearing_59 : decode cX12_beginHearing 59 = .ok (.if_icmp .ne 7, 3) := by decide +kernel
theorem dX12_beginHearing_62 : decode cX12_beginHearing 62 = .ok (.lconst 1, 1) := by decide +kernel
theorem dX12_beginHearing_63 : decode cX12_beginHearing 63 = .ok (.goto 4, 3) := by decide +kernel
theorem dX12_beginHearing_66 : decode cX12_beginHearing 66 = .ok (.lconst 0, 1) := by decide +kernel
theorem dX12_beginHearing_67 : decode cX12_beginHearing 67 = .ok (.invokevirtual 74, 3) := by decide +kernel
theorem dX12_beginHearing_70 : decode cX12_beginHearing 70 = .ok (.iinc 2 1, 3) := by decide +kernel
theorem dX12_beginHearing_73 : decode cX12_beginHearing 73 = .ok (.goto (-71), 3) := by decide +kernel
theorem dX12_beginHearing_76 : decode cX12_beginHearing 76 = .ok (.aload_n 0, 1) := by decide +kernel
theorem dX12_beginHearing_77 : decode cX12_beginHearing 77 = .ok (.bipush 6, 2) := by decide +kernel
theorem dX12_beginHearing_79 : decode cX12_beginHearing 79 = .ok (.lconst 1, 1) := by decide +kernel
theorem dX12_beginHearing_80 : decode cX12_beginHearing 80 = .ok (.invokevirtual 74, 3) := by decide +kernel
theorem dX12_beginHearing_83 : decode cX12_beginHearing 83 = .ok (.return_, 1) := by decide +kernel
theorem dX12_hearsOn_0 : decode cX12_hearsOn 0 = .ok (.iconst 0, 1) := by decide +kernel
theorem dX12_hearsOn_1 : decode cX12_hearsOn 1 = .ok (.istore_n 2, 1) := by decide +kernel
theorem dX12_hearsOn_2 : decode cX12_hearsOn 2 = .ok (.iload_n 2, 1) := by decide +kernel
theorem dX12_hearsOn_3 : decode cX12_hearsOn 3 = .ok (.aload_n 0, 1) := by decide +kernel
theorem dX12_hearsOn_4 : decode cX12_hearsOn 4 = .ok (.getfield 7, 3) := by decide +kernel
theorem dX12_hearsOn_7 : decode cX12_hearsOn 7 = .ok (.iconst 3, 1) := by decide +kernel
theorem dX12_hearsOn_8 : decode cX12_hearsOn 8 = .ok (.iaload, 1) := by decide +kernel
theorem dX12_hearsOn_9 : decode cX12_hearsOn 9 = .ok (.if_icmp .ge 138, 3) := by decide +kernel
theorem dX12_hearsOn_12 : decode cX12_hearsOn 12 = .ok (.aload_n 0, 1) := by decide +kernel
theorem dX12_hearsOn_13 : decode cX12_hearsOn 13 = .ok (.bipush 17, 2) := by decide +kernel
theorem dX12_hearsOn_15 : decode cX12_hearsOn 15 = .ok (.iload_n 2, 1) := by decide +kernel
theorem dX12_hearsOn_16 : decode cX12_hearsOn 16 = .ok (.iadd, 1) := by decide +kernel
theorem dX12_hearsOn_17 : decode cX12_hearsOn 17 = .ok (.lconst 0, 1) := by decide +kernel
theorem dX12_hearsOn_18 : decode cX12_hearsOn 18 = .ok (.invokevirtual 74, 3) := by decide +kernel
theorem dX12_hearsOn_21 : decode cX12_hearsOn 21 = .ok (.iconst 0, 1) := by decide +kernel
theorem dX12_hearsOn_22 : decode cX12_hearsOn 22 = .ok (.istore_n 3, 1) := by decide +kernel
theorem dX12_hearsOn_23 : decode cX12_hearsOn 23 = .ok (.iload_n 3, 1) := by decide +kernel
theorem dX12_hearsOn_24 : decode cX12_hearsOn 24 = .ok (.aload_n 0, 1) := by decide +kernel
theorem dX12_hearsOn_25 : decode cX12_hearsOn 25 = .ok (.getfield 7, 3) := by decide +kernel
theorem dX12_hearsOn_28 : decode cX12_hearsOn 28 = .ok (.iconst 3, 1) := by decide +kernel
theorem dX12_hearsOn_29 : decode cX12_hearsOn 29 = .ok (.iaload, 1) := by decide +kernel
theorem dX12_hearsOn_30 : decode cX12_hearsOn 30 = .ok (.if_icmp .ge 111, 3) := by decide +kernel
theorem dX12_hearsOn_33 : decode cX12_hearsOn 33 = .ok (.aload_n 0, 1) := by decide +kernel
theorem dX12_hearsOn_34 : decode cX12_hearsOn 34 = .ok (.getfield 26, 3) := by decide +kernel
theorem dX12_hearsOn_37 : decode cX12_hearsOn 37 = .ok (.bipush 7, 2) := by decide +kernel
theorem dX12_hearsOn_39 : decode cX12_hearsOn 39 = .ok (.iload_n 3, 1) := by decide +kernel
theorem dX12_hearsOn_40 : decode cX12_hearsOn 40 = .ok (.iadd, 1) := by decide +kernel
theorem dX12_hearsOn_41 : decode cX12_hearsOn 41 = .ok (.iaload, 1) := by decide +kernel
theorem dX12_hearsOn_42 : decode cX12_hearsOn 42 = .ok (.ifCond .le 93, 3) := by decide +kernel
theorem dX12_hearsOn_45 : decode cX12_hearsOn 45 = .ok (.aload_n 0, 1) := by decide +kernel
theorem dX12_hearsOn_46 : decode cX12_hearsOn 46 = .ok (.iload_n 3, 1) := by decide +kernel
theorem dX12_hearsOn_47 : decode cX12_hearsOn 47 = .ok (.iload_n 2, 1) := by decide +kernel
theorem dX12_hearsOn_48 : decode cX12_hearsOn 48 = .ok (.invokevirtual 234, 3) := by decide +kernel
theorem dX12_hearsOn_51 : decode cX12_hearsOn 51 = .ok (.ifCond .le 84, 3) := by decide +kernel
theorem dX12_hearsOn_54 : decode cX12_hearsOn 54 = .ok (.aload_n 0, 1) := by decide +kernel
theorem dX12_hearsOn_55 : decode cX12_hearsOn 55 = .ok (.iconst 5, 1) := by decide +kernel
theorem dX12_hearsOn_56 : decode cX12_hearsOn 56 = .ok (.bipush 7, 2) := by decide +kernel
theorem dX12_hearsOn_58 : decode cX12_hearsOn 58 = .ok (.iload_n 3, 1) := by decide +kernel
theorem dX12_hearsOn_59 : decode cX12_hearsOn 59 = .ok (.iadd, 1) := by decide +kernel
theorem dX12_hearsOn_60 : decode cX12_hearsOn 60 = .ok (.invokevirtual 84, 3) := by decide +kernel
theorem dX12_hearsOn_63 : decode cX12_hearsOn 63 = .ok (.aload_n 0, 1) := by decide +kernel
theorem dX12_hearsOn_64 : decode cX12_hearsOn 64 = .ok (.iconst 5, 1) := by decide +kernel
theorem dX12_hearsOn_65 : decode cX12_hearsOn 65 = .ok (.aload_n 0, 1) := by decide +kernel
theorem dX12_hearsOn_66 : decode cX12_hearsOn 66 = .ok (.iload_n 3, 1) := by decide +kernel
theorem dX12_hearsOn_67 : decode cX12_hearsOn 67 = .ok (.iload_n 2, 1) := by decide +kernel
theorem dX12_hearsOn_68 : decode cX12_hearsOn 68 = .ok (.invokevirtual 234, 3) := by decide +kernel
theorem dX12_hearsOn_71 : decode cX12_hearsOn 71 = .ok (.invokevirtual 237, 3) := by decide +kernel
theorem dX12_hearsOn_74 : decode cX12_hearsOn 74 = .ok (.iconst 0, 1) := by decide +kernel
theorem dX12_hearsOn_75 : decode cX12_hearsOn 75 = .ok (.istore 4, 2) := by decide +kernel
theorem dX12_hearsOn_77 : decode cX12_hearsOn 77 = .ok (.iload 4, 2) := by decide +kernel
theorem dX12_hearsOn_79 : decode cX12_hearsOn 79 = .ok (.aload_n 0, 1) := by decide +kernel
theorem dX12_hearsOn_80 : decode cX12_hearsOn 80 = .ok (.getfield 7, 3) := by decide +kernel
theorem dX12_hearsOn_83 : decode cX12_hearsOn 83 = .ok (.iconst 3, 1) := by decide +kernel
theorem dX12_hearsOn_84 : decode cX12_hearsOn 84 = .ok (.iaload, 1) := by decide +kernel
theorem dX12_hearsOn_85 : decode cX12_hearsOn 85 = .ok (.if_icmp .ge 41, 3) := by decide +kernel
theorem dX12_hearsOn_88 : decode cX12_hearsOn 88 = .ok (.iload 4, 2) := by decide +kernel
theorem dX12_hearsOn_90 : decode cX12_hearsOn 90 = .ok (.iload_n 3, 1) := by decide +kernel
theorem dX12_hearsOn_91 : decode cX12_hearsOn 91 = .ok (.if_icmp .eq 29, 3) := by decide +kernel
theorem dX12_hearsOn_94 : decode cX12_hearsOn 94 = .ok (.aload_n 0, 1) := by decide +kernel
theorem dX12_hearsOn_95 : decode cX12_hearsOn 95 = .ok (.iload 4, 2) := by decide +kernel
theorem dX12_hearsOn_97 : decode cX12_hearsOn 97 = .ok (.invokevirtual 196, 3) := by decide +kernel
theorem dX12_hearsOn_100 : decode cX12_hearsOn 100 = .ok (.aload_n 0, 1) := by decide +kernel
theorem dX12_hearsOn_101 : decode cX12_hearsOn 101 = .ok (.iload_n 1, 1) := by decide +kernel
theorem dX12_hearsOn_102 : decode cX12_hearsOn 102 = .ok (.invokevirtual 196, 3) := by decide +kernel
theorem dX12_hearsOn_105 : decode cX12_hearsOn 105 = .ok (.if_icmp .ne 15, 3) := by decide +kernel
theorem dX12_hearsOn_108 : decode cX12_hearsOn 108 = .ok (.aload_n 0, 1) := by decide +kernel
theorem dX12_hearsOn_109 : decode cX12_hearsOn 109 = .ok (.iconst 5, 1) := by decide +kernel
theorem dX12_hearsOn_110 : decode cX12_hearsOn 110 = .ok (.aload_n 0, 1) := by decide +kernel
theorem dX12_hearsOn_111 : decode cX12_hearsOn 111 = .ok (.getfield 50, 3) := by decide +kernel
theorem dX12_hearsOn_114 : decode cX12_hearsOn 114 = .ok (.iload 4, 2) := by decide +kernel
theorem dX12_hearsOn_116 : decode cX12_hearsOn 116 = .ok (.iaload, 1) := by decide +kernel
theorem dX12_hearsOn_117 : decode cX12_hearsOn 117 = .ok (.invokevirtual 237, 3) := by decide +kernel
theorem dX12_hearsOn_120 : decode cX12_hearsOn 120 = .ok (.iinc 4 1, 3) := by decide +kernel
theorem dX12_hearsOn_123 : decode cX12_hearsOn 123 = .ok (.goto (-46), 3) := by decide +kernel
theorem dX12_hearsOn_126 : decode cX12_hearsOn 126 = .ok (.aload_n 0, 1) := by decide +kernel
theorem dX12_hearsOn_127 : decode cX12_hearsOn 127 = .ok (.bipush 17, 2) := by decide +kernel
theorem dX12_hearsOn_129 : decode cX12_hearsOn 129 = .ok (.iload_n 2, 1) := by decide +kernel
theorem dX12_hearsOn_130 : decode cX12_hearsOn 130 = .ok (.iadd, 1) := by decide +kernel
theorem dX12_hearsOn_131 : decode cX12_hearsOn 131 = .ok (.iconst 5, 1) := by decide +kernel
theorem dX12_hearsOn_132 : decode cX12_hearsOn 132 = .ok (.invokevirtual 240, 3) := by decide +kernel
theorem dX12_hearsOn_135 : decode cX12_hearsOn 135 = .ok (.iinc 3 1, 3) := by decide +kernel
theorem dX12_hearsOn_138 : decode cX12_hearsOn 138 = .ok (.goto (-115), 3) := by decide +kernel
theorem dX12_hearsOn_141 : decode cX12_hearsOn 141 = .ok (.iinc 2 1, 3) := by decide +kernel
theorem dX12_hearsOn_144 : decode cX12_hearsOn 144 = .ok (.goto (-142), 3) := by decide +kernel
theorem dX12_hearsOn_147 : decode cX12_hearsOn 147 = .ok (.iconst 0, 1) := by decide +kernel
theorem dX12_hearsOn_148 : decode cX12_hearsOn 148 = .ok (.istore_n 2, 1) := by decide +kernel
theorem dX12_hearsOn_149 : decode cX12_hearsOn 149 = .ok (.iload_n 2, 1) := by decide +kernel
theorem dX12_hearsOn_150 : decode cX12_hearsOn 150 = .ok (.aload_n 0, 1) := by decide +kernel
theorem dX12_hearsOn_151 : decode cX12_hearsOn 151 = .ok (.getfield 7, 3) := by decide +kernel
theorem dX12_hearsOn_154 : decode cX12_hearsOn 154 = .ok (.iconst 3, 1) := by decide +kernel
theorem dX12_hearsOn_155 : decode cX12_hearsOn 155 = .ok (.iaload, 1) := by decide +kernel
theorem dX12_hearsOn_156 : decode cX12_hearsOn 156 = .ok (.if_icmp .ge 46, 3) := by decide +kernel
theorem dX12_hearsOn_159 : decode cX12_hearsOn 159 = .ok (.aload_n 0, 1) := by decide +kernel
theorem dX12_hearsOn_160 : decode cX12_hearsOn 160 = .ok (.bipush 7, 2) := by decide +kernel
theorem dX12_hearsOn_162 : decode cX12_hearsOn 162 = .ok (.iload_n 2, 1) := by decide +kernel
theorem dX12_hearsOn_163 : decode cX12_hearsOn 163 = .ok (.iadd, 1) := by decide +kernel
theorem dX12_hearsOn_164 : decode cX12_hearsOn 164 = .ok (.bipush 17, 2) := by decide +kernel
theorem dX12_hearsOn_166 : decode cX12_hearsOn 166 = .ok (.iload_n 2, 1) := by decide +kernel
theorem dX12_hearsOn_167 : decode cX12_hearsOn 167 = .ok (.iadd, 1) := by decide +kernel
theorem dX12_hearsOn_168 : decode cX12_hearsOn 168 = .ok (.invokevirtual 84, 3) := by decide +kernel
theorem dX12_hearsOn_171 : decode cX12_hearsOn 171 = .ok (.aload_n 0, 1) := by decide +kernel
theorem dX12_hearsOn_172 : decode cX12_hearsOn 172 = .ok (.iload_n 2, 1) := by decide +kernel
theorem dX12_hearsOn_173 : decode cX12_hearsOn 173 = .ok (.invokevirtual 196, 3) := by decide +kernel
theorem dX12_hearsOn_176 : decode cX12_hearsOn 176 = .ok (.aload_n 0, 1) := by decide +kernel
theorem dX12_hearsOn_177 : decode cX12_hearsOn 177 = .ok (.iload_n 1, 1) := by decide +kernel
theorem dX12_hearsOn_178 : decode cX12_hearsOn 178 = .ok (.invokevirtual 196, 3) := by decide +kernel
theorem dX12_hearsOn_181 : decode cX12_hearsOn 181 = .ok (.if_icmp .ne 15, 3) := by decide +kernel
theorem dX12_hearsOn_184 : decode cX12_hearsOn 184 = .ok (.aload_n 0, 1) := by decide +kernel
theorem dX12_hearsOn_185 : decode cX12_hearsOn 185 = .ok (.bipush 6, 2) := by decide +kernel
theorem dX12_hearsOn_187 : decode cX12_hearsOn 187 = .ok (.aload_n 0, 1) := by decide +kernel
theorem dX12_hearsOn_188 : decode cX12_hearsOn 188 = .ok (.getfield 50, 3) := by decide +kernel
theorem dX12_hearsOn_191 : decode cX12_hearsOn 191 = .ok (.iload_n 2, 1) := by decide +kernel
theorem dX12_hearsOn_192 : decode cX12_hearsOn 192 = .ok (.iaload, 1) := by decide +kernel
theorem dX12_hearsOn_193 : decode cX12_hearsOn 193 = .ok (.invokevirtual 237, 3) := by decide +kernel
theorem dX12_hearsOn_196 : decode cX12_hearsOn 196 = .ok (.iinc 2 1, 3) := by decide +kernel
theorem dX12_hearsOn_199 : decode cX12_hearsOn 199 = .ok (.goto (-50), 3) := by decide +kernel
theorem dX12_hearsOn_202 : decode cX12_hearsOn 202 = .ok (.return_, 1) := by decide +kernel
theorem dX12_arrives_0 : decode cX12_arrives 0 = .ok (.aload_n 0, 1) := by decide +kernel
theorem dX12_arrives_1 : decode cX12_arrives 1 = .ok (.iload_n 1, 1) := by decide +kernel
theorem dX12_arrives_2 : decode cX12_arrives 2 = .ok (.invokevirtual 205, 3) := by decide +kernel
theorem dX12_arrives_5 : decode cX12_arrives 5 = .ok (.ifCond .eq 23, 3) := by decide +kernel
theorem dX12_arrives_8 : decode cX12_arrives 8 = .ok (.aload_n 0, 1) := by decide +kernel
theorem dX12_arrives_9 : decode cX12_arrives 9 = .ok (.iload_n 2, 1) := by decide +kernel
theorem dX12_arrives_10 : decode cX12_arrives 10 = .ok (.invokevirtual 205, 3) := by decide +kernel
theorem dX12_arrives_13 : decode cX12_arrives 13 = .ok (.ifCond .eq 15, 3) := by decide +kernel
theorem dX12_arrives_16 : decode cX12_arrives 16 = .ok (.iload_n 3, 1) := by decide +kernel
theorem dX12_arrives_17 : decode cX12_arrives 17 = .ok (.i2l, 1) := by decide +kernel
theorem dX12_arrives_18 : decode cX12_arrives 18 = .ok (.lconst 1, 1) := by decide +kernel
theorem dX12_arrives_19 : decode cX12_arrives 19 = .ok (.ldc2_w 243, 3) := by decide +kernel
theorem dX12_arrives_22 : decode cX12_arrives 22 = .ok (.invokestatic 109, 3) := by decide +kernel
theorem dX12_arrives_25 : decode cX12_arrives 25 = .ok (.ifCond .ne 6, 3) := by decide +kernel
theorem dX12_arrives_28 : decode cX12_arrives 28 = .ok (.bipush (-2), 2) := by decide +kernel
theorem dX12_arrives_30 : decode cX12_arrives 30 = .ok (.ireturn, 1) := by decide +kernel
theorem dX12_arrives_31 : decode cX12_arrives 31 = .ok (.aload_n 0, 1) := by decide +kernel
theorem dX12_arrives_32 : decode cX12_arrives 32 = .ok (.iload_n 1, 1) := by decide +kernel
theorem dX12_arrives_33 : decode cX12_arrives 33 = .ok (.invokevirtual 245, 3) := by decide +kernel
theorem dX12_arrives_36 : decode cX12_arrives 36 = .ok (.iconst 0, 1) := by decide +kernel
theorem dX12_arrives_37 : decode cX12_arrives 37 = .ok (.istore 4, 2) := by decide +kernel
theorem dX12_arrives_39 : decode cX12_arrives 39 = .ok (.iload 4, 2) := by decide +kernel
theorem dX12_arrives_41 : decode cX12_arrives 41 = .ok (.iload_n 3, 1) := by decide +kernel
theorem dX12_arrives_42 : decode cX12_arrives 42 = .ok (.if_icmp .ge 14, 3) := by decide +kernel
theorem dX12_arrives_45 : decode cX12_arrives 45 = .ok (.aload_n 0, 1) := by decide +kernel
theorem dX12_arrives_46 : decode cX12_arrives 46 = .ok (.iload_n 1, 1) := by decide +kernel
theorem dX12_arrives_47 : decode cX12_arrives 47 = .ok (.invokevirtual 248, 3) := by decide +kernel
theorem dX12_arrives_50 : decode cX12_arrives 50 = .ok (.iinc 4 1, 3) := by decide +kernel
theorem dX12_arrives_53 : decode cX12_arrives 53 = .ok (.goto (-14), 3) := by decide +kernel
theorem dX12_arrives_56 : decode cX12_arrives 56 = .ok (.aload_n 0, 1) := by decide +kernel
theorem dX12_arrives_57 : decode cX12_arrives 57 = .ok (.iconst 0, 1) := by decide +kernel
theorem dX12_arrives_58 : decode cX12_arrives 58 = .ok (.bipush 7, 2) := by decide +kernel
theorem dX12_arrives_60 : decode cX12_arrives 60 = .ok (.iload_n 2, 1) := by decide +kernel
theorem dX12_arrives_61 : decode cX12_arrives 61 = .ok (.iadd, 1) := by decide +kernel
theorem dX12_arrives_62 : decode cX12_arrives 62 = .ok (.invokevirtual 84, 3) := by decide +kernel
theorem dX12_arrives_65 : decode cX12_arrives 65 = .ok (.aload_n 0, 1) := by decide +kernel
theorem dX12_arrives_66 : decode cX12_arrives 66 = .ok (.iconst 1, 1) := by decide +kernel
theorem dX12_arrives_67 : decode cX12_arrives 67 = .ok (.bipush 6, 2) := by decide +kernel
theorem dX12_arrives_69 : decode cX12_arrives 69 = .ok (.invokevirtual 84, 3) := by decide +kernel
theorem dX12_arrives_72 : decode cX12_arrives 72 = .ok (.aload_n 0, 1) := by decide +kernel
theorem dX12_arrives_73 : decode cX12_arrives 73 = .ok (.invokevirtual 106, 3) := by decide +kernel
theorem dX12_arrives_76 : decode cX12_arrives 76 = .ok (.iconst 1, 1) := by decide +kernel
theorem dX12_arrives_77 : decode cX12_arrives 77 = .ok (.ireturn, 1) := by decide +kernel
theorem dX12_turns_0 : decode cX12_turns 0 = .ok (.aload_n 0, 1) := by decide +kernel
theorem dX12_turns_1 : decode cX12_turns 1 = .ok (.iload_n 1, 1) := by decide +kernel
theorem dX12_turns_2 : decode cX12_turns 2 = .ok (.invokevirtual 205, 3) := by decide +kernel
theorem dX12_turns_5 : decode cX12_turns 5 = .ok (.ifCond .eq 27, 3) := by decide +kernel
theorem dX12_turns_8 : decode cX12_turns 8 = .ok (.iload_n 2, 1) := by decide +kernel
theorem dX12_turns_9 : decode cX12_turns 9 = .ok (.i2l, 1) := by decide +kernel
theorem dX12_turns_10 : decode cX12_turns 10 = .ok (.lconst 0, 1) := by decide +kernel
theorem dX12_turns_11 : decode cX12_turns 11 = .ok (.ldc2_w 232, 3) := by decide +kernel
theorem dX12_turns_14 : decode cX12_turns 14 = .ok (.invokestatic 109, 3) := by decide +kernel
theorem dX12_turns_17 : decode cX12_turns 17 = .ok (.ifCond .eq 15, 3) := by decide +kernel
theorem dX12_turns_20 : decode cX12_turns 20 = .ok (.iload_n 3, 1) := by decide +kernel
theorem dX12_turns_21 : decode cX12_turns 21 = .ok (.i2l, 1) := by decide +kernel
theorem dX12_turns_22 : decode cX12_turns 22 = .ok (.lconst 1, 1) := by decide +kernel
theorem dX12_turns_23 : decode cX12_turns 23 = .ok (.ldc2_w 232, 3) := by decide +kernel
theorem dX12_turns_26 : decode cX12_turns 26 = .ok (.invokestatic 109, 3) := by decide +kernel
theorem dX12_turns_29 : decode cX12_turns 29 = .ok (.ifCond .ne 6, 3) := by decide +kernel
theorem dX12_turns_32 : decode cX12_turns 32 = .ok (.bipush (-10), 2) := by decide +kernel
theorem dX12_turns_34 : decode cX12_turns 34 = .ok (.ireturn, 1) := by decide +kernel
theorem dX12_turns_35 : decode cX12_turns 35 = .ok (.aload_n 0, 1) := by decide +kernel
theorem dX12_turns_36 : decode cX12_turns 36 = .ok (.iload_n 1, 1) := by decide +kernel
theorem dX12_turns_37 : decode cX12_turns 37 = .ok (.invokevirtual 245, 3) := by decide +kernel
theorem dX12_turns_40 : decode cX12_turns 40 = .ok (.iconst 1, 1) := by decide +kernel
theorem dX12_turns_41 : decode cX12_turns 41 = .ok (.istore 4, 2) := by decide +kernel
theorem dX12_turns_43 : decode cX12_turns 43 = .ok (.iload 4, 2) := by decide +kernel
theorem dX12_turns_45 : decode cX12_turns 45 = .ok (.bipush 13, 2) := by decide +kernel
theorem dX12_turns_47 : decode cX12_turns 47 = .ok (.if_icmp .ge 54, 3) := by decide +kernel
theorem dX12_turns_50 : decode cX12_turns 50 = .ok (.aload_n 0, 1) := by decide +kernel
theorem dX12_turns_51 : decode cX12_turns 51 = .ok (.iload_n 1, 1) := by decide +kernel
theorem dX12_turns_52 : decode cX12_turns 52 = .ok (.invokevirtual 248, 3) := by decide +kernel
theorem dX12_turns_55 : decode cX12_turns 55 = .ok (.aload_n 0, 1) := by decide +kernel
theorem dX12_turns_56 : decode cX12_turns 56 = .ok (.iconst 2, 1) := by decide +kernel
theorem dX12_turns_57 : decode cX12_turns 57 = .ok (.bipush 7, 2) := by decide +kernel
theorem dX12_turns_59 : decode cX12_turns 59 = .ok (.iload_n 1, 1) := by decide +kernel
theorem dX12_turns_60 : decode cX12_turns 60 = .ok (.iadd, 1) := by decide +kernel
theorem dX12_turns_61 : decode cX12_turns 61 = .ok (.invokevirtual 84, 3) := by decide +kernel
theorem dX12_turns_64 : decode cX12_turns 64 = .ok (.aload_n 0, 1) := by decide +kernel
theorem dX12_turns_65 : decode cX12_turns 65 = .ok (.iconst 2, 1) := by decide +kernel
theorem dX12_turns_66 : decode cX12_turns 66 = .ok (.iload_n 3, 1) := by decide +kernel
theorem dX12_turns_67 : decode cX12_turns 67 = .ok (.invokevirtual 237, 3) := by decide +kernel
theorem dX12_turns_70 : decode cX12_turns 70 = .ok (.aload_n 0, 1) := by decide +kernel
theorem dX12_turns_71 : decode cX12_turns 71 = .ok (.iconst 3, 1) := by decide +kernel
theorem dX12_turns_72 : decode cX12_turns 72 = .ok (.bipush 6, 2) := by decide +kernel
theorem dX12_turns_74 : decode cX12_turns 74 = .ok (.invokevirtual 84, 3) := by decide +kernel
theorem dX12_turns_77 : decode cX12_turns 77 = .ok (.aload_n 0, 1) := by decide +kernel
theorem dX12_turns_78 : decode cX12_turns 78 = .ok (.iconst 3, 1) := by decide +kernel
theorem dX12_turns_79 : decode cX12_turns 79 = .ok (.iload_n 2, 1) := by decide +kernel
theorem dX12_turns_80 : decode cX12_turns 80 = .ok (.invokevirtual 237, 3) := by decide +kernel
theorem dX12_turns_83 : decode cX12_turns 83 = .ok (.aload_n 0, 1) := by decide +kernel
theorem dX12_turns_84 : decode cX12_turns 84 = .ok (.iconst 2, 1) := by decide +kernel
theorem dX12_turns_85 : decode cX12_turns 85 = .ok (.iconst 3, 1) := by decide +kernel
theorem dX12_turns_86 : decode cX12_turns 86 = .ok (.invokevirtual 96, 3) := by decide +kernel
theorem dX12_turns_89 : decode cX12_turns 89 = .ok (.ifCond .ge 6, 3) := by decide +kernel
theorem dX12_turns_92 : decode cX12_turns 92 = .ok (.iload 4, 2) := by decide +kernel
theorem dX12_turns_94 : decode cX12_turns 94 = .ok (.ireturn, 1) := by decide +kernel
theorem dX12_turns_95 : decode cX12_turns 95 = .ok (.iinc 4 1, 3) := by decide +kernel
theorem dX12_turns_98 : decode cX12_turns 98 = .ok (.goto (-55), 3) := by decide +kernel
theorem dX12_turns_101 : decode cX12_turns 101 = .ok (.iconst (-1), 1) := by decide +kernel
theorem dX12_turns_102 : decode cX12_turns 102 = .ok (.ireturn, 1) := by decide +kernel
theorem dX12_girl_0 : decode cX12_girl 0 = .ok (.iload_n 1, 1) := by decide +kernel
theorem dX12_girl_1 : decode cX12_girl 1 = .ok (.i2l, 1) := by decide +kernel
theorem dX12_girl_2 : decode cX12_girl 2 = .ok (.lconst 0, 1) := by decide +kernel
theorem dX12_girl_3 : decode cX12_girl 3 = .ok (.aload_n 0, 1) := by decide +kernel
theorem dX12_girl_4 : decode cX12_girl 4 = .ok (.invokevirtual 225, 3) := by decide +kernel
theorem dX12_girl_7 : decode cX12_girl 7 = .ok (.i2l, 1) := by decide +kernel
theorem dX12_girl_8 : decode cX12_girl 8 = .ok (.invokestatic 109, 3) := by decide +kernel
theorem dX12_girl_11 : decode cX12_girl 11 = .ok (.ifCond .eq 13, 3) := by decide +kernel
theorem dX12_girl_14 : decode cX12_girl 14 = .ok (.aload_n 0, 1) := by decide +kernel
theorem dX12_girl_15 : decode cX12_girl 15 = .ok (.bipush 9, 2) := by decide +kernel
theorem dX12_girl_17 : decode cX12_girl 17 = .ok (.iload_n 1, 1) := by decide +kernel
theorem dX12_girl_18 : decode cX12_girl 18 = .ok (.invokevirtual 130, 3) := by decide +kernel
theorem dX12_girl_21 : decode cX12_girl 21 = .ok (.goto 5, 3) := by decide +kernel
theorem dX12_girl_24 : decode cX12_girl 24 = .ok (.bipush (-2), 2) := by decide +kernel
theorem dX12_girl_26 : decode cX12_girl 26 = .ok (.ireturn, 1) := by decide +kernel
theorem dX12_getsOf_0 : decode cX12_getsOf 0 = .ok (.iconst 0, 1) := by decide +kernel
theorem dX12_getsOf_1 : decode cX12_getsOf 1 = .ok (.istore_n 2, 1) := by decide +kernel
theorem dX12_getsOf_2 : decode cX12_getsOf 2 = .ok (.iconst 0, 1) := by decide +kernel
theorem dX12_getsOf_3 : decode cX12_getsOf 3 = .ok (.istore_n 3, 1) := by decide +kernel
theorem dX12_getsOf_4 : decode cX12_getsOf 4 = .ok (.iload_n 3, 1) := by decide +kernel
theorem dX12_getsOf_5 : decode cX12_getsOf 5 = .ok (.aload_n 0, 1) := by decide +kernel
theorem dX12_getsOf_6 : decode cX12_getsOf 6 = .ok (.getfield 7, 3) := by decide +kernel
theorem dX12_getsOf_9 : decode cX12_getsOf 9 = .ok (.iconst 3, 1) := by decide +kernel
theorem dX12_getsOf_10 : decode cX12_getsOf 10 = .ok (.iaload, 1) := by decide +kernel
theorem dX12_getsOf_11 : decode cX12_getsOf 11 = .ok (.if_icmp .ge 137, 3) := by decide +kernel
theorem dX12_getsOf_14 : decode cX12_getsOf 14 = .ok (.iload_n 1, 1) := by decide +kernel
theorem dX12_getsOf_15 : decode cX12_getsOf 15 = .ok (.iload_n 3, 1) := by decide +kernel
theorem dX12_getsOf_16 : decode cX12_getsOf 16 = .ok (.ishr, 1) := by decide +kernel
theorem dX12_getsOf_17 : decode cX12_getsOf 17 = .ok (.iconst 1, 1) := by decide +kernel
theorem dX12_getsOf_18 : decode cX12_getsOf 18 = .ok (.iand, 1) := by decide +kernel
theorem dX12_getsOf_19 : decode cX12_getsOf 19 = .ok (.iconst 1, 1) := by decide +kernel
theorem dX12_getsOf_20 : decode cX12_getsOf 20 = .ok (.if_icmp .ne 7, 3) := by decide +kernel
theorem dX12_getsOf_23 : decode cX12_getsOf 23 = .ok (.iconst 1, 1) := by decide +kernel
theorem dX12_getsOf_24 : decode cX12_getsOf 24 = .ok (.goto 4, 3) := by decide +kernel
theorem dX12_getsOf_27 : decode cX12_getsOf 27 = .ok (.iconst 0, 1) := by decide +kernel
theorem dX12_getsOf_28 : decode cX12_getsOf 28 = .ok (.istore 4, 2) := by decide +kernel
theorem dX12_getsOf_30 : decode cX12_getsOf 30 = .ok (.iconst 0, 1) := by decide +kernel
theorem dX12_getsOf_31 : decode cX12_getsOf 31 = .ok (.istore 5, 2) := by decide +kernel
theorem dX12_getsOf_33 : decode cX12_getsOf 33 = .ok (.iload 5, 2) := by decide +kernel
theorem dX12_getsOf_35 : decode cX12_getsOf 35 = .ok (.aload_n 0, 1) := by decide +kernel
theorem dX12_getsOf_36 : decode cX12_getsOf 36 = .ok (.getfield 7, 3) := by decide +kernel
theorem dX12_getsOf_39 : decode cX12_getsOf 39 = .ok (.iconst 3, 1) := by decide +kernel
theorem dX12_getsOf_40 : decode cX12_getsOf 40 = .ok (.iaload, 1) := by decide +kernel
theorem dX12_getsOf_41 : decode cX12_getsOf 41 = .ok (.if_icmp .ge 86, 3) := by decide +kernel
theorem dX12_getsOf_44 : decode cX12_getsOf 44 = .ok (.iload 4, 2) := by decide +kernel
theorem dX12_getsOf_46 : decode cX12_getsOf 46 = .ok (.ifCond .eq 81, 3) := by decide +kernel
theorem dX12_getsOf_49 : decode cX12_getsOf 49 = .ok (.aload_n 0, 1) := by decide +kernel
theorem dX12_getsOf_50 : decode cX12_getsOf 50 = .ok (.iload 5, 2) := by decide +kernel
theorem dX12_getsOf_52 : decode cX12_getsOf 52 = .ok (.invokevirtual 215, 3) := by decide +kernel
theorem dX12_getsOf_55 : decode cX12_getsOf 55 = .ok (.aload_n 0, 1) := by decide +kernel
theorem dX12_getsOf_56 : decode cX12_getsOf 56 = .ok (.iload_n 3, 1) := by decide +kernel
theorem dX12_getsOf_57 : decode cX12_getsOf 57 = .ok (.invokevirtual 215, 3) := by decide +kernel
theorem dX12_getsOf_60 : decode cX12_getsOf 60 = .ok (.if_icmp .gt 23, 3) := by decide +kernel
theorem dX12_getsOf_63 : decode cX12_getsOf 63 = .ok (.aload_n 0, 1) := by decide +kernel
theorem dX12_getsOf_64 : decode cX12_getsOf 64 = .ok (.iload 5, 2) := by decide +kernel
theorem dX12_getsOf_66 : decode cX12_getsOf 66 = .ok (.invokevirtual 215, 3) := by decide +kernel
theorem dX12_getsOf_69 : decode cX12_getsOf 69 = .ok (.aload_n 0, 1) := by decide +kernel
theorem dX12_getsOf_70 : decode cX12_getsOf 70 = .ok (.iload_n 3, 1) := by decide +kernel
theorem dX12_getsOf_71 : decode cX12_getsOf 71 = .ok (.invokevirtual 215, 3) := by decide +kernel
theorem dX12_getsOf_74 : decode cX12_getsOf 74 = .ok (.if_icmp .ne 13, 3) := by decide +kernel
theorem dX12_getsOf_77 : decode cX12_getsOf 77 = .ok (.iload 5, 2) := by decide +kernel
theorem dX12_getsOf_79 : decode cX12_getsOf 79 = .ok (.iload_n 3, 1) := by decide +kernel
theorem dX12_getsOf_80 : decode cX12_getsOf 80 = .ok (.if_icmp .ge 7, 3) := by decide +kernel
theorem dX12_getsOf_83 : decode cX12_getsOf 83 = .ok (.iconst 1, 1) := by decide +kernel
theorem dX12_getsOf_84 : decode cX12_getsOf 84 = .ok (.goto 4, 3) := by decide +kernel
theorem dX12_getsOf_87 : decode cX12_getsOf 87 = .ok (.iconst 0, 1) := by decide +kernel
theorem dX12_getsOf_88 : decode cX12_getsOf 88 = .ok (.istore 6, 2) := by decide +kernel
theorem dX12_getsOf_90 : decode cX12_getsOf 90 = .ok (.iload_n 1, 1) := by decide +kernel
theorem dX12_getsOf_91 : decode cX12_getsOf 91 = .ok (.iload 5, 2) := by decide +kernel
theorem dX12_getsOf_93 : decode cX12_getsOf 93 = .ok (.ishr, 1) := by decide +kernel
theorem dX12_getsOf_94 : decode cX12_getsOf 94 = .ok (.iconst 1, 1) := by decide +kernel
theorem dX12_getsOf_95 : decode cX12_getsOf 95 = .ok (.iand, 1) := by decide +kernel
theorem dX12_getsOf_96 : decode cX12_getsOf 96 = .ok (.ifCond .eq 18, 3) := by decide +kernel
theorem dX12_getsOf_99 : decode cX12_getsOf 99 = .ok (.iload 6, 2) := by decide +kernel
theorem dX12_getsOf_101 : decode cX12_getsOf 101 = .ok (.ifCond .eq 13, 3) := by decide +kernel
theorem dX12_getsOf_104 : decode cX12_getsOf 104 = .ok (.aload_n 0, 1) := by decide +kernel
theorem dX12_getsOf_105 : decode cX12_getsOf 105 = .ok (.iload_n 3, 1) := by decide +kernel
theorem dX12_getsOf_106 : decode cX12_getsOf 106 = .ok (.iload 5, 2) := by decide +kernel
theorem dX12_getsOf_108 : decode cX12_getsOf 108 = .ok (.invokevirtual 208, 3) := by decide +kernel
theorem dX12_getsOf_111 : decode cX12_getsOf 111 = .ok (.ifCond .ne 7, 3) := by decide +kernel
theorem dX12_getsOf_114 : decode cX12_getsOf 114 = .ok (.iconst 1, 1) := by decide +kernel
theorem dX12_getsOf_115 : decode cX12_getsOf 115 = .ok (.goto 4, 3) := by decide +kernel
theorem dX12_getsOf_118 : decode cX12_getsOf 118 = .ok (.iconst 0, 1) := by decide +kernel
theorem dX12_getsOf_119 : decode cX12_getsOf 119 = .ok (.istore 4, 2) := by decide +kernel
theorem dX12_getsOf_121 : decode cX12_getsOf 121 = .ok (.iinc 5 1, 3) := by decide +kernel
theorem dX12_getsOf_124 : decode cX12_getsOf 124 = .ok (.goto (-91), 3) := by decide +kernel
theorem dX12_getsOf_127 : decode cX12_getsOf 127 = .ok (.iload_n 2, 1) := by decide +kernel
theorem dX12_getsOf_128 : decode cX12_getsOf 128 = .ok (.iload 4, 2) := by decide +kernel
theorem dX12_getsOf_130 : decode cX12_getsOf 130 = .ok (.ifCond .eq 9, 3) := by decide +kernel
theorem dX12_getsOf_133 : decode cX12_getsOf 133 = .ok (.iconst 1, 1) := by decide +kernel
theorem dX12_getsOf_134 : decode cX12_getsOf 134 = .ok (.iload_n 3, 1) := by decide +kernel
theorem dX12_getsOf_135 : decode cX12_getsOf 135 = .ok (.ishl, 1) := by decide +kernel
theorem dX12_getsOf_136 : decode cX12_getsOf 136 = .ok (.goto 4, 3) := by decide +kernel
theorem dX12_getsOf_139 : decode cX12_getsOf 139 = .ok (.iconst 0, 1) := by decide +kernel
theorem dX12_getsOf_140 : decode cX12_getsOf 140 = .ok (.ior, 1) := by decide +kernel
theorem dX12_getsOf_141 : decode cX12_getsOf 141 = .ok (.istore_n 2, 1) := by decide +kernel
theorem dX12_getsOf_142 : decode cX12_getsOf 142 = .ok (.iinc 3 1, 3) := by decide +kernel
theorem dX12_getsOf_145 : decode cX12_getsOf 145 = .ok (.goto (-141), 3) := by decide +kernel
theorem dX12_getsOf_148 : decode cX12_getsOf 148 = .ok (.iload_n 2, 1) := by decide +kernel
theorem dX12_getsOf_149 : decode cX12_getsOf 149 = .ok (.ireturn, 1) := by decide +kernel
theorem dX12_gets_0 : decode cX12_gets 0 = .ok (.aload_n 0, 1) := by decide +kernel
theorem dX12_gets_1 : decode cX12_gets 1 = .ok (.aload_n 0, 1) := by decide +kernel
theorem dX12_gets_2 : decode cX12_gets 2 = .ok (.getfield 7, 3) := by decide +kernel
theorem dX12_gets_5 : decode cX12_gets 5 = .ok (.bipush 9, 2) := by decide +kernel
theorem dX12_gets_7 : decode cX12_gets 7 = .ok (.iaload, 1) := by decide +kernel
theorem dX12_gets_8 : decode cX12_gets 8 = .ok (.invokevirtual 251, 3) := by decide +kernel
theorem dX12_gets_11 : decode cX12_gets 11 = .ok (.ireturn, 1) := by decide +kernel
theorem dX12_weights_0 : decode cX12_weights 0 = .ok (.iconst 0, 1) := by decide +kernel
theorem dX12_weights_1 : decode cX12_weights 1 = .ok (.istore_n 2, 1) := by decide +kernel
theorem dX12_weights_2 : decode cX12_weights 2 = .ok (.iconst 0, 1) := by decide +kernel
theorem dX12_weights_3 : decode cX12_weights 3 = .ok (.istore_n 3, 1) := by decide +kernel
theorem dX12_weights_4 : decode cX12_weights 4 = .ok (.iload_n 3, 1) := by decide +kernel
theorem dX12_weights_5 : decode cX12_weights 5 = .ok (.aload_n 0, 1) := by decide +kernel
theorem dX12_weights_6 : decode cX12_weights 6 = .ok (.getfield 7, 3) := by decide +kernel
theorem dX12_weights_9 : decode cX12_weights 9 = .ok (.iconst 3, 1) := by decide +kernel
theorem dX12_weights_10 : decode cX12_weights 10 = .ok (.iaload, 1) := by decide +kernel
theorem dX12_weights_11 : decode cX12_weights 11 = .ok (.if_icmp .ge 30, 3) := by decide +kernel
theorem dX12_weights_14 : decode cX12_weights 14 = .ok (.iload_n 2, 1) := by decide +kernel
theorem dX12_weights_15 : decode cX12_weights 15 = .ok (.iload_n 1, 1) := by decide +kernel
theorem dX12_weights_16 : decode cX12_weights 16 = .ok (.iload_n 3, 1) := by decide +kernel
theorem dX12_weights_17 : decode cX12_weights 17 = .ok (.ishr, 1) := by decide +kernel
theorem dX12_weights_18 : decode cX12_weights 18 = .ok (.iconst 1, 1) := by decide +kernel
theorem dX12_weights_19 : decode cX12_weights 19 = .ok (.iand, 1) := by decide +kernel
theorem dX12_weights_20 : decode cX12_weights 20 = .ok (.iconst 1, 1) := by decide +kernel
theorem dX12_weights_21 : decode cX12_weights 21 = .ok (.if_icmp .ne 11, 3) := by decide +kernel
theorem dX12_weights_24 : decode cX12_weights 24 = .ok (.aload_n 0, 1) := by decide +kernel
theorem dX12_weights_25 : decode cX12_weights 25 = .ok (.iload_n 3, 1) := by decide +kernel
theorem dX12_weights_26 : decode cX12_weights 26 = .ok (.invokevirtual 215, 3) := by decide +kernel
theorem dX12_weights_29 : decode cX12_weights 29 = .ok (.goto 4, 3) := by decide +kernel
theorem dX12_weights_32 : decode cX12_weights 32 = .ok (.iconst 0, 1) := by decide +kernel
theorem dX12_weights_33 : decode cX12_weights 33 = .ok (.iadd, 1) := by decide +kernel
theorem dX12_weights_34 : decode cX12_weights 34 = .ok (.istore_n 2, 1) := by decide +kernel
theorem dX12_weights_35 : decode cX12_weights 35 = .ok (.iinc 3 1, 3) := by decide +kernel
theorem dX12_weights_38 : decode cX12_weights 38 = .ok (.goto (-34), 3) := by decide +kernel
theorem dX12_weights_41 : decode cX12_weights 41 = .ok (.iload_n 2, 1) := by decide +kernel
theorem dX12_weights_42 : decode cX12_weights 42 = .ok (.ireturn, 1) := by decide +kernel
theorem dX12_share_0 : decode cX12_share 0 = .ok (.aload_n 0, 1) := by decide +kernel
theorem dX12_share_1 : decode cX12_share 1 = .ok (.getfield 7, 3) := by decide +kernel
theorem dX12_share_4 : decode cX12_share 4 = .ok (.iconst 3, 1) := by decide +kernel
theorem dX12_share_5 : decode cX12_share 5 = .ok (.iaload, 1) := by decide +kernel
theorem dX12_share_6 : decode cX12_share 6 = .ok (.ifCond .ne 8, 3) := by decide +kernel
theorem dX12_share_9 : decode cX12_share 9 = .ok (.bipush (-3), 2) := by decide +kernel
theorem dX12_share_11 : decode cX12_share 11 = .ok (.goto 25, 3) := by decide +kernel
theorem dX12_share_14 : decode cX12_share 14 = .ok (.aload_n 0, 1) := by decide +kernel
theorem dX12_share_15 : decode cX12_share 15 = .ok (.aload_n 0, 1) := by decide +kernel
theorem dX12_share_16 : decode cX12_share 16 = .ok (.aload_n 0, 1) := by decide +kernel
theorem dX12_share_17 : decode cX12_share 17 = .ok (.invokevirtual 254, 3) := by decide +kernel
theorem dX12_share_20 : decode cX12_share 20 = .ok (.invokevirtual 257, 3) := by decide +kernel
theorem dX12_share_23 : decode cX12_share 23 = .ok (.i2l, 1) := by decide +kernel
theorem dX12_share_24 : decode cX12_share 24 = .ok (.aload_n 0, 1) := by decide +kernel
theorem dX12_share_25 : decode cX12_share 25 = .ok (.aload_n 0, 1) := by decide +kernel
theorem dX12_share_26 : decode cX12_share 26 = .ok (.invokevirtual 225, 3) := by decide +kernel
theorem dX12_share_29 : decode cX12_share 29 = .ok (.invokevirtual 257, 3) := by decide +kernel
theorem dX12_share_32 : decode cX12_share 32 = .ok (.i2l, 1) := by decide +kernel
theorem dX12_share_33 : decode cX12_share 33 = .ok (.invokevirtual 260, 3) := by decide +kernel
theorem dX12_share_36 : decode cX12_share 36 = .ok (.ireturn, 1) := by decide +kernel
theorem dX12_teach_0 : decode cX12_teach 0 = .ok (.iload_n 1, 1) := by decide +kernel
theorem dX12_teach_1 : decode cX12_teach 1 = .ok (.i2l, 1) := by decide +kernel
theorem dX12_teach_2 : decode cX12_teach 2 = .ok (.lconst 0, 1) := by decide +kernel
theorem dX12_teach_3 : decode cX12_teach 3 = .ok (.aload_n 0, 1) := by decide +kernel
theorem dX12_teach_4 : decode cX12_teach 4 = .ok (.invokevirtual 225, 3) := by decide +kernel
theorem dX12_teach_7 : decode cX12_teach 7 = .ok (.aload_n 0, 1) := by decide +kernel
theorem dX12_teach_8 : decode cX12_teach 8 = .ok (.getfield 7, 3) := by decide +kernel
theorem dX12_teach_11 : decode cX12_teach 11 = .ok (.bipush 9, 2) := by decide +kernel
theorem dX12_teach_13 : decode cX12_teach 13 = .ok (.iaload, 1) := by decide +kernel
theorem dX12_teach_14 : decode cX12_teach 14 = .ok (.iconst (-1), 1) := by decide +kernel
theorem dX12_teach_15 : decode cX12_teach 15 = .ok (.ixor, 1) := by decide +kernel
theorem dX12_teach_16 : decode cX12_teach 16 = .ok (.iand, 1) := by decide +kernel
theorem dX12_teach_17 : decode cX12_teach 17 = .ok (.invokestatic 181, 3) := by decide +kernel
theorem dX12_teach_20 : decode cX12_teach 20 = .ok (.i2l, 1) := by decide +kernel
theorem dX12_teach_21 : decode cX12_teach 21 = .ok (.invokestatic 109, 3) := by decide +kernel
theorem dX12_teach_24 : decode cX12_teach 24 = .ok (.ifCond .ne 6, 3) := by decide +kernel
theorem dX12_teach_27 : decode cX12_teach 27 = .ok (.bipush (-2), 2) := by decide +kernel
theorem dX12_teach_29 : decode cX12_teach 29 = .ok (.ireturn, 1) := by decide +kernel
theorem dX12_teach_30 : decode cX12_teach 30 = .ok (.iconst (-1), 1) := by decide +kernel
theorem dX12_teach_31 : decode cX12_teach 31 = .ok (.istore_n 2, 1) := by decide +kernel
theorem dX12_teach_32 : decode cX12_teach 32 = .ok (.iconst (-1), 1) := by decide +kernel
theorem dX12_teach_33 : decode cX12_teach 33 = .ok (.istore_n 3, 1) := by decide +kernel
theorem dX12_teach_34 : decode cX12_teach 34 = .ok (.iconst 0, 1) := by decide +kernel
theorem dX12_teach_35 : decode cX12_teach 35 = .ok (.istore 4, 2) := by decide +kernel
theorem dX12_teach_37 : decode cX12_teach 37 = .ok (.iload 4, 2) := by decide +kernel
theorem dX12_teach_39 : decode cX12_teach 39 = .ok (.aload_n 0, 1) := by decide +kernel
theorem dX12_teach_40 : decode cX12_teach 40 = .ok (.invokevirtual 225, 3) := by decide +kernel
theorem dX12_teach_43 : decode cX12_teach 43 = .ok (.if_icmp .gt 63, 3) := by decide +kernel
theorem dX12_teach_46 : decode cX12_teach 46 = .ok (.iload 4, 2) := by decide +kernel
theorem dX12_teach_48 : decode cX12_teach 48 = .ok (.aload_n 0, 1) := by decide +kernel
theorem dX12_teach_49 : decode cX12_teach 49 = .ok (.getfield 7, 3) := by decide +kernel
theorem dX12_teach_52 : decode cX12_teach 52 = .ok (.bipush 9, 2) := by decide +kernel
theorem dX12_teach_54 : decode cX12_teach 54 = .ok (.iaload, 1) := by decide +kernel
theorem dX12_teach_55 : decode cX12_teach 55 = .ok (.iand, 1) := by decide +kernel
theorem dX12_teach_56 : decode cX12_teach 56 = .ok (.ifCond .ne 44, 3) := by decide +kernel
theorem dX12_teach_59 : decode cX12_teach 59 = .ok (.iload 4, 2) := by decide +kernel
theorem dX12_teach_61 : decode cX12_teach 61 = .ok (.invokestatic 181, 3) := by decide +kernel
theorem dX12_teach_64 : decode cX12_teach 64 = .ok (.iload_n 1, 1) := by decide +kernel
theorem dX12_teach_65 : decode cX12_teach 65 = .ok (.if_icmp .ne 35, 3) := by decide +kernel
theorem dX12_teach_68 : decode cX12_teach 68 = .ok (.aload_n 0, 1) := by decide +kernel
theorem dX12_teach_69 : decode cX12_teach 69 = .ok (.aload_n 0, 1) := by decide +kernel
theorem dX12_teach_70 : decode cX12_teach 70 = .ok (.aload_n 0, 1) := by decide +kernel
theorem dX12_teach_71 : decode cX12_teach 71 = .ok (.getfield 7, 3) := by decide +kernel
theorem dX12_teach_74 : decode cX12_teach 74 = .ok (.bipush 9, 2) := by decide +kernel
theorem dX12_teach_76 : decode cX12_teach 76 = .ok (.iaload, 1) := by decide +kernel
theorem dX12_teach_77 : decode cX12_teach 77 = .ok (.iload 4, 2) := by decide +kernel
theorem dX12_teach_79 : decode cX12_teach 79 = .ok (.ior, 1) := by decide +kernel
theorem dX12_teach_80 : decode cX12_teach 80 = .ok (.invokevirtual 251, 3) := by decide +kernel
theorem dX12_teach_83 : decode cX12_teach 83 = .ok (.invokevirtual 257, 3) := by decide +kernel
theorem dX12_teach_86 : decode cX12_teach 86 = .ok (.istore 5, 2) := by decide +kernel
theorem dX12_teach_88 : decode cX12_teach 88 = .ok (.iload 5, 2) := by decide +kernel
theorem dX12_teach_90 : decode cX12_teach 90 = .ok (.iload_n 3, 1) := by decide +kernel
theorem dX12_teach_91 : decode cX12_teach 91 = .ok (.if_icmp .le 9, 3) := by decide +kernel
theorem dX12_teach_94 : decode cX12_teach 94 = .ok (.iload 4, 2) := by decide +kernel
theorem dX12_teach_96 : decode cX12_teach 96 = .ok (.istore_n 2, 1) := by decide +kernel
theorem dX12_teach_97 : decode cX12_teach 97 = .ok (.iload 5, 2) := by decide +kernel
theorem dX12_teach_99 : decode cX12_teach 99 = .ok (.istore_n 3, 1) := by decide +kernel
theorem dX12_teach_100 : decode cX12_teach 100 = .ok (.iinc 4 1, 3) := by decide +kernel
theorem dX12_teach_103 : decode cX12_teach 103 = .ok (.goto (-66), 3) := by decide +kernel
theorem dX12_teach_106 : decode cX12_teach 106 = .ok (.iload_n 2, 1) := by decide +kernel
theorem dX12_teach_107 : decode cX12_teach 107 = .ok (.ireturn, 1) := by decide +kernel
theorem dX12_band_0 : decode cX12_band 0 = .ok (.iload_n 1, 1) := by decide +kernel
theorem dX12_band_1 : decode cX12_band 1 = .ok (.i2l, 1) := by decide +kernel
theorem dX12_band_2 : decode cX12_band 2 = .ok (.lconst 0, 1) := by decide +kernel
theorem dX12_band_3 : decode cX12_band 3 = .ok (.ldc2_w 187, 3) := by decide +kernel
theorem dX12_band_6 : decode cX12_band 6 = .ok (.invokestatic 109, 3) := by decide +kernel
theorem dX12_band_9 : decode cX12_band 9 = .ok (.ifCond .eq 27, 3) := by decide +kernel
theorem dX12_band_12 : decode cX12_band 12 = .ok (.iload_n 2, 1) := by decide +kernel
theorem dX12_band_13 : decode cX12_band 13 = .ok (.i2l, 1) := by decide +kernel
theorem dX12_band_14 : decode cX12_band 14 = .ok (.lconst 0, 1) := by decide +kernel
theorem dX12_band_15 : decode cX12_band 15 = .ok (.ldc2_w 232, 3) := by decide +kernel
theorem dX12_band_18 : decode cX12_band 18 = .ok (.invokestatic 109, 3) := by decide +kernel
theorem dX12_band_21 : decode cX12_band 21 = .ok (.ifCond .eq 15, 3) := by decide +kernel
theorem dX12_band_24 : decode cX12_band 24 = .ok (.iload_n 3, 1) := by decide +kernel
theorem dX12_band_25 : decode cX12_band 25 = .ok (.i2l, 1) := by decide +kernel
theorem dX12_band_26 : decode cX12_band 26 = .ok (.lconst 0, 1) := by decide +kernel
theorem dX12_band_27 : decode cX12_band 27 = .ok (.ldc2_w 194, 3) := by decide +kernel
theorem dX12_band_30 : decode cX12_band 30 = .ok (.invokestatic 109, 3) := by decide +kernel
theorem dX12_band_33 : decode cX12_band 33 = .ok (.ifCond .ne 6, 3) := by decide +kernel
theorem dX12_band_36 : decode cX12_band 36 = .ok (.bipush (-2), 2) := by decide +kernel
theorem dX12_band_38 : decode cX12_band 38 = .ok (.ireturn, 1) := by decide +kernel
theorem dX12_band_39 : decode cX12_band 39 = .ok (.aload_n 0, 1) := by decide +kernel
theorem dX12_band_40 : decode cX12_band 40 = .ok (.getfield 7, 3) := by decide +kernel
theorem dX12_band_43 : decode cX12_band 43 = .ok (.sipush 220, 3) := by decide +kernel
theorem dX12_band_46 : decode cX12_band 46 = .ok (.iconst 2, 1) := by decide +kernel
theorem dX12_band_47 : decode cX12_band 47 = .ok (.iload_n 1, 1) := by decide +kernel
theorem dX12_band_48 : decode cX12_band 48 = .ok (.imul, 1) := by decide +kernel
theorem dX12_band_49 : decode cX12_band 49 = .ok (.iadd, 1) := by decide +kernel
theorem dX12_band_50 : decode cX12_band 50 = .ok (.iload_n 2, 1) := by decide +kernel
theorem dX12_band_51 : decode cX12_band 51 = .ok (.iastore, 1) := by decide +kernel
theorem dX12_band_52 : decode cX12_band 52 = .ok (.aload_n 0, 1) := by decide +kernel
theorem dX12_band_53 : decode cX12_band 53 = .ok (.getfield 7, 3) := by decide +kernel
theorem dX12_band_56 : decode cX12_band 56 = .ok (.sipush 220, 3) := by decide +kernel
theorem dX12_band_59 : decode cX12_band 59 = .ok (.iconst 2, 1) := by decide +kernel
theorem dX12_band_60 : decode cX12_band 60 = .ok (.iload_n 1, 1) := by decide +kernel
theorem dX12_band_61 : decode cX12_band 61 = .ok (.imul, 1) := by decide +kernel
theorem dX12_band_62 : decode cX12_band 62 = .ok (.iadd, 1) := by decide +kernel
theorem dX12_band_63 : decode cX12_band 63 = .ok (.iconst 1, 1) := by decide +kernel
theorem dX12_band_64 : decode cX12_band 64 = .ok (.iadd, 1) := by decide +kernel
theorem dX12_band_65 : decode cX12_band 65 = .ok (.iload_n 3, 1) := by decide +kernel
theorem dX12_band_66 : decode cX12_band 66 = .ok (.iastore, 1) := by decide +kernel
theorem dX12_band_67 : decode cX12_band 67 = .ok (.iconst 1, 1) := by decide +kernel
theorem dX12_band_68 : decode cX12_band 68 = .ok (.ireturn, 1) := by decide +kernel
theorem dX12_heard_0 : decode cX12_heard 0 = .ok (.iload_n 1, 1) := by decide +kernel
theorem dX12_heard_1 : decode cX12_heard 1 = .ok (.i2l, 1) := by decide +kernel
theorem dX12_heard_2 : decode cX12_heard 2 = .ok (.lconst 0, 1) := by decide +kernel
theorem dX12_heard_3 : decode cX12_heard 3 = .ok (.ldc2_w 264, 3) := by decide +kernel
theorem dX12_heard_6 : decode cX12_heard 6 = .ok (.invokestatic 109, 3) := by decide +kernel
theorem dX12_heard_9 : decode cX12_heard 9 = .ok (.ifCond .eq 15, 3) := by decide +kernel
theorem dX12_heard_12 : decode cX12_heard 12 = .ok (.iload_n 2, 1) := by decide +kernel
theorem dX12_heard_13 : decode cX12_heard 13 = .ok (.i2l, 1) := by decide +kernel
theorem dX12_heard_14 : decode cX12_heard 14 = .ok (.lconst 0, 1) := by decide +kernel
theorem dX12_heard_15 : decode cX12_heard 15 = .ok (.ldc2_w 232, 3) := by decide +kernel
theorem dX12_heard_18 : decode cX12_heard 18 = .ok (.invokestatic 109, 3) := by decide +kernel
theorem dX12_heard_21 : decode cX12_heard 21 = .ok (.ifCond .ne 6, 3) := by decide +kernel
theorem dX12_heard_24 : decode cX12_heard 24 = .ok (.bipush (-2), 2) := by decide +kernel
theorem dX12_heard_26 : decode cX12_heard 26 = .ok (.ireturn, 1) := by decide +kernel
theorem dX12_heard_27 : decode cX12_heard 27 = .ok (.iconst 0, 1) := by decide +kernel
theorem dX12_heard_28 : decode cX12_heard 28 = .ok (.istore_n 3, 1) := by decide +kernel
theorem dX12_heard_29 : decode cX12_heard 29 = .ok (.iconst 0, 1) := by decide +kernel
theorem dX12_heard_30 : decode cX12_heard 30 = .ok (.istore 4, 2) := by decide +kernel
theorem dX12_heard_32 : decode cX12_heard 32 = .ok (.iload 4, 2) := by decide +kernel
theorem dX12_heard_34 : decode cX12_heard 34 = .ok (.bipush 6, 2) := by decide +kernel
theorem dX12_heard_36 : decode cX12_heard 36 = .ok (.if_icmp .ge 55, 3) := by decide +kernel
theorem dX12_heard_39 : decode cX12_heard 39 = .ok (.iload_n 3, 1) := by decide +kernel
theorem dX12_heard_40 : decode cX12_heard 40 = .ok (.aload_n 0, 1) := by decide +kernel
theorem dX12_heard_41 : decode cX12_heard 41 = .ok (.getfield 7, 3) := by decide +kernel
theorem dX12_heard_44 : decode cX12_heard 44 = .ok (.sipush 220, 3) := by decide +kernel
theorem dX12_heard_47 : decode cX12_heard 47 = .ok (.iconst 2, 1) := by decide +kernel
theorem dX12_heard_48 : decode cX12_heard 48 = .ok (.iload 4, 2) := by decide +kernel
theorem dX12_heard_50 : decode cX12_heard 50 = .ok (.imul, 1) := by decide +kernel
theorem dX12_heard_51 : decode cX12_heard 51 = .ok (.iadd, 1) := by decide +kernel
theorem dX12_heard_52 : decode cX12_heard 52 = .ok (.iaload, 1) := by decide +kernel
theorem dX12_heard_53 : decode cX12_heard 53 = .ok (.aload_n 0, 1) := by decide +kernel
theorem dX12_heard_54 : decode cX12_heard 54 = .ok (.getfield 7, 3) := by decide +kernel
theorem dX12_heard_57 : decode cX12_heard 57 = .ok (.sipush 220, 3) := by decide +kernel
theorem dX12_heard_60 : decode cX12_heard 60 = .ok (.iconst 2, 1) := by decide +kernel
theorem dX12_heard_61 : decode cX12_heard 61 = .ok (.iload 4, 2) := by decide +kernel
theorem dX12_heard_63 : decode cX12_heard 63 = .ok (.imul, 1) := by decide +kernel
theorem dX12_heard_64 : decode cX12_heard 64 = .ok (.iadd, 1) := by decide +kernel
theorem dX12_heard_65 : decode cX12_heard 65 = .ok (.iconst 1, 1) := by decide +kernel
theorem dX12_heard_66 : decode cX12_heard 66 = .ok (.iadd, 1) := by decide +kernel
theorem dX12_heard_67 : decode cX12_heard 67 = .ok (.iaload, 1) := by decide +kernel
theorem dX12_heard_68 : decode cX12_heard 68 = .ok (.iload_n 1, 1) := by decide +kernel
theorem dX12_heard_69 : decode cX12_heard 69 = .ok (.imul, 1) := by decide +kernel
theorem dX12_heard_70 : decode cX12_heard 70 = .ok (.isub, 1) := by decide +kernel
theorem dX12_heard_71 : decode cX12_heard 71 = .ok (.iload_n 2, 1) := by decide +kernel
theorem dX12_heard_72 : decode cX12_heard 72 = .ok (.if_icmp .le 10, 3) := by decide +kernel
theorem dX12_heard_75 : decode cX12_heard 75 = .ok (.iconst 1, 1) := by decide +kernel
theorem dX12_heard_76 : decode cX12_heard 76 = .ok (.iload 4, 2) := by decide +kernel
theorem dX12_heard_78 : decode cX12_heard 78 = .ok (.ishl, 1) := by decide +kernel
theorem dX12_heard_79 : decode cX12_heard 79 = .ok (.goto 4, 3) := by decide +kernel
theorem dX12_heard_82 : decode cX12_heard 82 = .ok (.iconst 0, 1) := by decide +kernel
theorem dX12_heard_83 : decode cX12_heard 83 = .ok (.ior, 1) := by decide +kernel
theorem dX12_heard_84 : decode cX12_heard 84 = .ok (.istore_n 3, 1) := by decide +kernel
theorem dX12_heard_85 : decode cX12_heard 85 = .ok (.iinc 4 1, 3) := by decide +kernel
theorem dX12_heard_88 : decode cX12_heard 88 = .ok (.goto (-56), 3) := by decide +kernel
theorem dX12_heard_91 : decode cX12_heard 91 = .ok (.iload_n 3, 1) := by decide +kernel
theorem dX12_heard_92 : decode cX12_heard 92 = .ok (.ireturn, 1) := by decide +kernel
theorem dX12_pairs_0 : decode cX12_pairs 0 = .ok (.iconst 0, 1) := by decide +kernel
theorem dX12_pairs_1 : decode cX12_pairs 1 = .ok (.istore_n 1, 1) := by decide +kernel
theorem dX12_pairs_2 : decode cX12_pairs 2 = .ok (.iconst 0, 1) := by decide +kernel
theorem dX12_pairs_3 : decode cX12_pairs 3 = .ok (.istore_n 2, 1) := by decide +kernel
theorem dX12_pairs_4 : decode cX12_pairs 4 = .ok (.iload_n 2, 1) := by decide +kernel
theorem dX12_pairs_5 : decode cX12_pairs 5 = .ok (.aload_n 0, 1) := by decide +kernel
theorem dX12_pairs_6 : decode cX12_pairs 6 = .ok (.getfield 7, 3) := by decide +kernel
theorem dX12_pairs_9 : decode cX12_pairs 9 = .ok (.iconst 1, 1) := by decide +kernel
theorem dX12_pairs_10 : decode cX12_pairs 10 = .ok (.iaload, 1) := by decide +kernel
theorem dX12_pairs_11 : decode cX12_pairs 11 = .ok (.if_icmp .ge 59, 3) := by decide +kernel
theorem dX12_pairs_14 : decode cX12_pairs 14 = .ok (.iconst 0, 1) := by decide +kernel
theorem dX12_pairs_15 : decode cX12_pairs 15 = .ok (.istore_n 3, 1) := by decide +kernel
theorem dX12_pairs_16 : decode cX12_pairs 16 = .ok (.iload_n 3, 1) := by decide +kernel
theorem dX12_pairs_17 : decode cX12_pairs 17 = .ok (.iload_n 2, 1) := by decide +kernel
theorem dX12_pairs_18 : decode cX12_pairs 18 = .ok (.if_icmp .ge 46, 3) := by decide +kernel
theorem dX12_pairs_21 : decode cX12_pairs 21 = .ok (.iload_n 1, 1) := by decide +kernel
theorem dX12_pairs_22 : decode cX12_pairs 22 = .ok (.aload_n 0, 1) := by decide +kernel
theorem dX12_pairs_23 : decode cX12_pairs 23 = .ok (.aload_n 0, 1) := by decide +kernel
theorem dX12_pairs_24 : decode cX12_pairs 24 = .ok (.iload_n 2, 1) := by decide +kernel
theorem dX12_pairs_25 : decode cX12_pairs 25 = .ok (.invokevirtual 115, 3) := by decide +kernel
theorem dX12_pairs_28 : decode cX12_pairs 28 = .ok (.aload_n 0, 1) := by decide +kernel
theorem dX12_pairs_29 : decode cX12_pairs 29 = .ok (.getfield 53, 3) := by decide +kernel
theorem dX12_pairs_32 : decode cX12_pairs 32 = .ok (.iload_n 2, 1) := by decide +kernel
theorem dX12_pairs_33 : decode cX12_pairs 33 = .ok (.iaload, 1) := by decide +kernel
theorem dX12_pairs_34 : decode cX12_pairs 34 = .ok (.aload_n 0, 1) := by decide +kernel
theorem dX12_pairs_35 : decode cX12_pairs 35 = .ok (.iload_n 3, 1) := by decide +kernel
theorem dX12_pairs_36 : decode cX12_pairs 36 = .ok (.invokevirtual 115, 3) := by decide +kernel
theorem dX12_pairs_39 : decode cX12_pairs 39 = .ok (.aload_n 0, 1) := by decide +kernel
theorem dX12_pairs_40 : decode cX12_pairs 40 = .ok (.getfield 53, 3) := by decide +kernel
theorem dX12_pairs_43 : decode cX12_pairs 43 = .ok (.iload_n 3, 1) := by decide +kernel
theorem dX12_pairs_44 : decode cX12_pairs 44 = .ok (.iaload, 1) := by decide +kernel
theorem dX12_pairs_45 : decode cX12_pairs 45 = .ok (.invokevirtual 151, 3) := by decide +kernel
theorem dX12_pairs_48 : decode cX12_pairs 48 = .ok (.ifCond .eq 7, 3) := by decide +kernel
theorem dX12_pairs_51 : decode cX12_pairs 51 = .ok (.iconst 1, 1) := by decide +kernel
theorem dX12_pairs_52 : decode cX12_pairs 52 = .ok (.goto 4, 3) := by decide +kernel
theorem dX12_pairs_55 : decode cX12_pairs 55 = .ok (.iconst 0, 1) := by decide +kernel
theorem dX12_pairs_56 : decode cX12_pairs 56 = .ok (.iadd, 1) := by decide +kernel
theorem dX12_pairs_57 : decode cX12_pairs 57 = .ok (.istore_n 1, 1) := by decide +kernel
theorem dX12_pairs_58 : decode cX12_pairs 58 = .ok (.iinc 3 1, 3) := by decide +kernel
theorem dX12_pairs_61 : decode cX12_pairs 61 = .ok (.goto (-45), 3) := by decide +kernel
theorem dX12_pairs_64 : decode cX12_pairs 64 = .ok (.iinc 2 1, 3) := by decide +kernel
theorem dX12_pairs_67 : decode cX12_pairs 67 = .ok (.goto (-63), 3) := by decide +kernel
theorem dX12_pairs_70 : decode cX12_pairs 70 = .ok (.iload_n 1, 1) := by decide +kernel
theorem dX12_pairs_71 : decode cX12_pairs 71 = .ok (.ireturn, 1) := by decide +kernel
theorem dX12_anew_0 : decode cX12_anew 0 = .ok (.iload_n 1, 1) := by decide +kernel
theorem dX12_anew_1 : decode cX12_anew 1 = .ok (.i2l, 1) := by decide +kernel
theorem dX12_anew_2 : decode cX12_anew 2 = .ok (.lconst 0, 1) := by decide +kernel
theorem dX12_anew_3 : decode cX12_anew 3 = .ok (.lconst 1, 1) := by decide +kernel
theorem dX12_anew_4 : decode cX12_anew 4 = .ok (.invokestatic 109, 3) := by decide +kernel
theorem dX12_anew_7 : decode cX12_anew 7 = .ok (.ifCond .eq 16, 3) := by decide +kernel
theorem dX12_anew_10 : decode cX12_anew 10 = .ok (.iload_n 2, 1) := by decide +kernel
theorem dX12_anew_11 : decode cX12_anew 11 = .ok (.iconst (-1), 1) := by decide +kernel
theorem dX12_anew_12 : decode cX12_anew 12 = .ok (.if_icmp .eq 14, 3) := by decide +kernel
theorem dX12_anew_15 : decode cX12_anew 15 = .ok (.aload_n 0, 1) := by decide +kernel
theorem dX12_anew_16 : decode cX12_anew 16 = .ok (.iload_n 2, 1) := by decide +kernel
theorem dX12_anew_17 : decode cX12_anew 17 = .ok (.invokevirtual 127, 3) := by decide +kernel
theorem dX12_anew_20 : decode cX12_anew 20 = .ok (.ifCond .ne 6, 3) := by decide +kernel
theorem dX12_anew_23 : decode cX12_anew 23 = .ok (.bipush (-10), 2) := by decide +kernel
theorem dX12_anew_25 : decode cX12_anew 25 = .ok (.ireturn, 1) := by decide +kernel
theorem dX12_anew_26 : decode cX12_anew 26 = .ok (.aload_n 0, 1) := by decide +kernel
theorem dX12_anew_27 : decode cX12_anew 27 = .ok (.getfield 7, 3) := by decide +kernel
theorem dX12_anew_30 : decode cX12_anew 30 = .ok (.iconst 1, 1) := by decide +kernel
theorem dX12_anew_31 : decode cX12_anew 31 = .ok (.iaload, 1) := by decide +kernel
theorem dX12_anew_32 : decode cX12_anew 32 = .ok (.bipush 6, 2) := by decide +kernel
theorem dX12_anew_34 : decode cX12_anew 34 = .ok (.if_icmp .le 6, 3) := by decide +kernel
theorem dX12_anew_37 : decode cX12_anew 37 = .ok (.bipush (-20), 2) := by decide +kernel
theorem dX12_anew_39 : decode cX12_anew 39 = .ok (.ireturn, 1) := by decide +kernel
theorem dX12_anew_40 : decode cX12_anew 40 = .ok (.iconst (-1), 1) := by decide +kernel
theorem dX12_anew_41 : decode cX12_anew 41 = .ok (.istore_n 3, 1) := by decide +kernel
theorem dX12_anew_42 : decode cX12_anew 42 = .ok (.iconst 0, 1) := by decide +kernel
theorem dX12_anew_43 : decode cX12_anew 43 = .ok (.istore 4, 2) := by decide +kernel
theorem dX12_anew_45 : decode cX12_anew 45 = .ok (.iload 4, 2) := by decide +kernel
theorem dX12_anew_47 : decode cX12_anew 47 = .ok (.iconst 1, 1) := by decide +kernel
theorem dX12_anew_48 : decode cX12_anew 48 = .ok (.iconst 2, 1) := by decide +kernel
theorem dX12_anew_49 : decode cX12_anew 49 = .ok (.aload_n 0, 1) := by decide +kernel
theorem dX12_anew_50 : decode cX12_anew 50 = .ok (.getfield 7, 3) := by decide +kernel
theorem dX12_anew_53 : decode cX12_anew 53 = .ok (.iconst 1, 1) := by decide +kernel
theorem dX12_anew_54 : decode cX12_anew 54 = .ok (.iaload, 1) := by decide +kernel
theorem dX12_anew_55 : decode cX12_anew 55 = .ok (.imul, 1) := by decide +kernel
theorem dX12_anew_56 : decode cX12_anew 56 = .ok (.ishl, 1) := by decide +kernel
theorem dX12_anew_57 : decode cX12_anew 57 = .ok (.if_icmp .ge 121, 3) := by decide +kernel
theorem dX12_anew_60 : decode cX12_anew 60 = .ok (.iconst 0, 1) := by decide +kernel
theorem dX12_anew_61 : decode cX12_anew 61 = .ok (.istore 5, 2) := by decide +kernel
theorem dX12_anew_63 : decode cX12_anew 63 = .ok (.iload 5, 2) := by decide +kernel
theorem dX12_anew_65 : decode cX12_anew 65 = .ok (.aload_n 0, 1) := by decide +kernel
theorem dX12_anew_66 : decode cX12_anew 66 = .ok (.getfield 7, 3) := by decide +kernel
theorem dX12_anew_69 : decode cX12_anew 69 = .ok (.iconst 1, 1) := by decide +kernel
theorem dX12_anew_70 : decode cX12_anew 70 = .ok (.iaload, 1) := by decide +kernel
theorem dX12_anew_71 : decode cX12_anew 71 = .ok (.if_icmp .ge 34, 3) := by decide +kernel
theorem dX12_anew_74 : decode cX12_anew 74 = .ok (.aload_n 0, 1) := by decide +kernel
theorem dX12_anew_75 : decode cX12_anew 75 = .ok (.getfield 53, 3) := by decide +kernel
theorem dX12_anew_78 : decode cX12_anew 78 = .ok (.iload 5, 2) := by decide +kernel
theorem dX12_anew_80 : decode cX12_anew 80 = .ok (.iload 4, 2) := by decide +kernel
theorem dX12_anew_82 : decode cX12_anew 82 = .ok (.iconst 2, 1) := by decide +kernel
theorem dX12_anew_83 : decode cX12_anew 83 = .ok (.aload_n 0, 1) := by decide +kernel
theorem dX12_anew_84 : decode cX12_anew 84 = .ok (.getfield 7, 3) := by decide +kernel
theorem dX12_anew_87 : decode cX12_anew 87 = .ok (.iconst 1, 1) := by decide +kernel
theorem dX12_anew_88 : decode cX12_anew 88 = .ok (.iaload, 1) := by decide +kernel
theorem dX12_anew_89 : decode cX12_anew 89 = .ok (.iconst 1, 1) := by decide +kernel
theorem dX12_anew_90 : decode cX12_anew 90 = .ok (.isub, 1) := by decide +kernel
theorem dX12_anew_91 : decode cX12_anew 91 = .ok (.iload 5, 2) := by decide +kernel
theorem dX12_anew_93 : decode cX12_anew 93 = .ok (.isub, 1) := by decide +kernel
theorem dX12_anew_94 : decode cX12_anew 94 = .ok (.imul, 1) := by decide +kernel
theorem dX12_anew_95 : decode cX12_anew 95 = .ok (.ishr, 1) := by decide +kernel
theorem dX12_anew_96 : decode cX12_anew 96 = .ok (.iconst 3, 1) := by decide +kernel
theorem dX12_anew_97 : decode cX12_anew 97 = .ok (.iand, 1) := by decide +kernel
theorem dX12_anew_98 : decode cX12_anew 98 = .ok (.iastore, 1) := by decide +kernel
theorem dX12_anew_99 : decode cX12_anew 99 = .ok (.iinc 5 1, 3) := by decide +kernel
theorem dX12_anew_102 : decode cX12_anew 102 = .ok (.goto (-39), 3) := by decide +kernel
theorem dX12_anew_105 : decode cX12_anew 105 = .ok (.aload_n 0, 1) := by decide +kernel
theorem dX12_anew_106 : decode cX12_anew 106 = .ok (.invokevirtual 266, 3) := by decide +kernel
theorem dX12_anew_109 : decode cX12_anew 109 = .ok (.istore 5, 2) := by decide +kernel
theorem dX12_anew_111 : decode cX12_anew 111 = .ok (.iload_n 3, 1) := by decide +kernel
theorem dX12_anew_112 : decode cX12_anew 112 = .ok (.iconst (-1), 1) := by decide +kernel
theorem dX12_anew_113 : decode cX12_anew 113 = .ok (.if_icmp .eq 22, 3) := by decide +kernel
theorem dX12_anew_116 : decode cX12_anew 116 = .ok (.iload_n 1, 1) := by decide +kernel
theorem dX12_anew_117 : decode cX12_anew 117 = .ok (.ifCond .ne 12, 3) := by decide +kernel
theorem dX12_anew_120 : decode cX12_anew 120 = .ok (.iload 5, 2) := by decide +kernel
theorem dX12_anew_122 : decode cX12_anew 122 = .ok (.iload_n 3, 1) := by decide +kernel
theorem dX12_anew_123 : decode cX12_anew 123 = .ok (.if_icmp .le 49, 3) := by decide +kernel
theorem dX12_anew_126 : decode cX12_anew 126 = .ok (.goto 9, 3) := by decide +kernel
theorem dX12_anew_129 : decode cX12_anew 129 = .ok (.iload 5, 2) := by decide +kernel
theorem dX12_anew_131 : decode cX12_anew 131 = .ok (.iload_n 3, 1) := by decide +kernel
theorem dX12_anew_132 : decode cX12_anew 132 = .ok (.if_icmp .ge 40, 3) := by decide +kernel
theorem dX12_anew_135 : decode cX12_anew 135 = .ok (.iload 5, 2) := by decide +kernel
theorem dX12_anew_137 : decode cX12_anew 137 = .ok (.istore_n 3, 1) := by decide +kernel
theorem dX12_anew_138 : decode cX12_anew 138 = .ok (.iconst 0, 1) := by decide +kernel
theorem dX12_anew_139 : decode cX12_anew 139 = .ok (.istore 6, 2) := by decide +kernel
theorem dX12_anew_141 : decode cX12_anew 141 = .ok (.iload 6, 2) := by decide +kernel
theorem dX12_anew_143 : decode cX12_anew 143 = .ok (.aload_n 0, 1) := by decide +kernel
theorem dX12_anew_144 : decode cX12_anew 144 = .ok (.getfield 7, 3) := by decide +kernel
theorem dX12_anew_147 : decode cX12_anew 147 = .ok (.iconst 1, 1) := by decide +kernel
theorem dX12_anew_148 : decode cX12_anew 148 = .ok (.iaload, 1) := by decide +kernel
theorem dX12_anew_149 : decode cX12_anew 149 = .ok (.if_icmp .ge 23, 3) := by decide +kernel
theorem dX12_anew_152 : decode cX12_anew 152 = .ok (.aload_n 0, 1) := by decide +kernel
theorem dX12_anew_153 : decode cX12_anew 153 = .ok (.getfield 56, 3) := by decide +kernel
theorem dX12_anew_156 : decode cX12_anew 156 = .ok (.iload 6, 2) := by decide +kernel
theorem dX12_anew_158 : decode cX12_anew 158 = .ok (.aload_n 0, 1) := by decide +kernel
theorem dX12_anew_159 : decode cX12_anew 159 = .ok (.getfield 53, 3) := by decide +kernel
theorem dX12_anew_162 : decode cX12_anew 162 = .ok (.iload 6, 2) := by decide +kernel
theorem dX12_anew_164 : decode cX12_anew 164 = .ok (.iaload, 1) := by decide +kernel
theorem dX12_anew_165 : decode cX12_anew 165 = .ok (.iastore, 1) := by decide +kernel
theorem dX12_anew_166 : decode cX12_anew 166 = .ok (.iinc 6 1, 3) := by decide +kernel
theorem dX12_anew_169 : decode cX12_anew 169 = .ok (.goto (-28), 3) := by decide +kernel
theorem dX12_anew_172 : decode cX12_anew 172 = .ok (.iinc 4 1, 3) := by decide +kernel
theorem dX12_anew_175 : decode cX12_anew 175 = .ok (.goto (-130), 3) := by decide +kernel
theorem dX12_anew_178 : decode cX12_anew 178 = .ok (.iload_n 2, 1) := by decide +kernel
theorem dX12_anew_179 : decode cX12_anew 179 = .ok (.iconst (-1), 1) := by decide +kernel
theorem dX12_anew_180 : decode cX12_anew 180 = .ok (.if_icmp .ne 7, 3) := by decide +kernel
theorem dX12_anew_183 : decode cX12_anew 183 = .ok (.iload_n 3, 1) := by decide +kernel
theorem dX12_anew_184 : decode cX12_anew 184 = .ok (.goto 9, 3) := by decide +kernel
theorem dX12_anew_187 : decode cX12_anew 187 = .ok (.aload_n 0, 1) := by decide +kernel
theorem dX12_anew_188 : decode cX12_anew 188 = .ok (.getfield 56, 3) := by decide +kernel
theorem dX12_anew_191 : decode cX12_anew 191 = .ok (.iload_n 2, 1) := by decide +kernel
theorem dX12_anew_192 : decode cX12_anew 192 = .ok (.iaload, 1) := by decide +kernel
theorem dX12_anew_193 : decode cX12_anew 193 = .ok (.ireturn, 1) := by decide +kernel
theorem dX12_type_0 : decode cX12_type 0 = .ok (.iload_n 3, 1) := by decide +kernel
theorem dX12_type_1 : decode cX12_type 1 = .ok (.i2l, 1) := by decide +kernel
theorem dX12_type_2 : decode cX12_type 2 = .ok (.lconst 1, 1) := by decide +kernel
theorem dX12_type_3 : decode cX12_type 3 = .ok (.ldc2_w 269, 3) := by decide +kernel
theorem dX12_type_6 : decode cX12_type 6 = .ok (.invokestatic 109, 3) := by decide +kernel
theorem dX12_type_9 : decode cX12_type 9 = .ok (.ifCond .ne 6, 3) := by decide +kernel
theorem dX12_type_12 : decode cX12_type 12 = .ok (.bipush (-2), 2) := by decide +kernel
theorem dX12_type_14 : decode cX12_type 14 = .ok (.ireturn, 1) := by decide +kernel
theorem dX12_type_15 : decode cX12_type 15 = .ok (.aload_n 0, 1) := by decide +kernel
theorem dX12_type_16 : decode cX12_type 16 = .ok (.getfield 271, 3) := by decide +kernel
theorem dX12_type_19 : decode cX12_type 19 = .ok (.iload_n 3, 1) := by decide +kernel
theorem dX12_type_20 : decode cX12_type 20 = .ok (.iadd, 1) := by decide +kernel
theorem dX12_type_21 : decode cX12_type 21 = .ok (.sipush 240, 3) := by decide +kernel
theorem dX12_type_24 : decode cX12_type 24 = .ok (.if_icmp .le 6, 3) := by decide +kernel
theorem dX12_type_27 : decode cX12_type 27 = .ok (.bipush (-4), 2) := by decide +kernel
theorem dX12_type_29 : decode cX12_type 29 = .ok (.ireturn, 1) := by decide +kernel
theorem dX12_type_30 : decode cX12_type 30 = .ok (.iload_n 3, 1) := by decide +kernel
theorem dX12_type_31 : decode cX12_type 31 = .ok (.iconst 1, 1) := by decide +kernel
theorem dX12_type_32 : decode cX12_type 32 = .ok (.isub, 1) := by decide +kernel
theorem dX12_type_33 : decode cX12_type 33 = .ok (.istore 4, 2) := by decide +kernel
theorem dX12_type_35 : decode cX12_type 35 = .ok (.iload 4, 2) := by decide +kernel
theorem dX12_type_37 : decode cX12_type 37 = .ok (.ifCond .lt 40, 3) := by decide +kernel
theorem dX12_type_40 : decode cX12_type 40 = .ok (.aload_n 0, 1) := by decide +kernel
theorem dX12_type_41 : decode cX12_type 41 = .ok (.getfield 59, 3) := by decide +kernel
theorem dX12_type_44 : decode cX12_type 44 = .ok (.aload_n 0, 1) := by decide +kernel
theorem dX12_type_45 : decode cX12_type 45 = .ok (.getfield 271, 3) := by decide +kernel
theorem dX12_type_48 : decode cX12_type 48 = .ok (.lload_n 1, 1) := by decide +kernel
theorem dX12_type_49 : decode cX12_type 49 = .ok (.bipush 8, 2) := by decide +kernel
theorem dX12_type_51 : decode cX12_type 51 = .ok (.iload 4, 2) := by decide +kernel
theorem dX12_type_53 : decode cX12_type 53 = .ok (.imul, 1) := by decide +kernel
theorem dX12_type_54 : decode cX12_type 54 = .ok (.lshr, 1) := by decide +kernel
theorem dX12_type_55 : decode cX12_type 55 = .ok (.ldc2_w 275, 3) := by decide +kernel
theorem dX12_type_58 : decode cX12_type 58 = .ok (.land, 1) := by decide +kernel
theorem dX12_type_59 : decode cX12_type 59 = .ok (.l2i, 1) := by decide +kernel
theorem dX12_type_60 : decode cX12_type 60 = .ok (.iastore, 1) := by decide +kernel
theorem dX12_type_61 : decode cX12_type 61 = .ok (.aload_n 0, 1) := by decide +kernel
theorem dX12_type_62 : decode cX12_type 62 = .ok (.dup, 1) := by decide +kernel
theorem dX12_type_63 : decode cX12_type 63 = .ok (.getfield 271, 3) := by decide +kernel
theorem dX12_type_66 : decode cX12_type 66 = .ok (.iconst 1, 1) := by decide +kernel
theorem dX12_type_67 : decode cX12_type 67 = .ok (.iadd, 1) := by decide +kernel
theorem dX12_type_68 : decode cX12_type 68 = .ok (.putfield 271, 3) := by decide +kernel
theorem dX12_type_71 : decode cX12_type 71 = .ok (.iinc 4 (-1), 3) := by decide +kernel
theorem dX12_type_74 : decode cX12_type 74 = .ok (.goto (-39), 3) := by decide +kernel
theorem dX12_type_77 : decode cX12_type 77 = .ok (.aload_n 0, 1) := by decide +kernel
theorem dX12_type_78 : decode cX12_type 78 = .ok (.getfield 271, 3) := by decide +kernel
theorem dX12_type_81 : decode cX12_type 81 = .ok (.ireturn, 1) := by decide +kernel
theorem dX12_erase_0 : decode cX12_erase 0 = .ok (.aload_n 0, 1) := by decide +kernel
theorem dX12_erase_1 : decode cX12_erase 1 = .ok (.getfield 271, 3) := by decide +kernel
theorem dX12_erase_4 : decode cX12_erase 4 = .ok (.istore_n 1, 1) := by decide +kernel
theorem dX12_erase_5 : decode cX12_erase 5 = .ok (.aload_n 0, 1) := by decide +kernel
theorem dX12_erase_6 : decode cX12_erase 6 = .ok (.iconst 0, 1) := by decide +kernel
theorem dX12_erase_7 : decode cX12_erase 7 = .ok (.putfield 271, 3) := by decide +kernel
theorem dX12_erase_10 : decode cX12_erase 10 = .ok (.iload_n 1, 1) := by decide +kernel
theorem dX12_erase_11 : decode cX12_erase 11 = .ok (.ireturn, 1) := by decide +kernel
theorem dX12_isAt_0 : decode cX12_isAt 0 = .ok (.aload_n 0, 1) := by decide +kernel
theorem dX12_isAt_1 : decode cX12_isAt 1 = .ok (.getfield 277, 3) := by decide +kernel
theorem dX12_isAt_4 : decode cX12_isAt 4 = .ok (.aload_n 0, 1) := by decide +kernel
theorem dX12_isAt_5 : decode cX12_isAt 5 = .ok (.getfield 271, 3) := by decide +kernel
theorem dX12_isAt_8 : decode cX12_isAt 8 = .ok (.if_icmp .ge 27, 3) := by decide +kernel
theorem dX12_isAt_11 : decode cX12_isAt 11 = .ok (.aload_n 0, 1) := by decide +kernel
theorem dX12_isAt_12 : decode cX12_isAt 12 = .ok (.getfield 59, 3) := by decide +kernel
theorem dX12_isAt_15 : decode cX12_isAt 15 = .ok (.aload_n 0, 1) := by decide +kernel
theorem dX12_isAt_16 : decode cX12_isAt 16 = .ok (.getfield 277, 3) := by decide +kernel
theorem dX12_isAt_19 : decode cX12_isAt 19 = .ok (.iaload, 1) := by decide +kernel
theorem dX12_isAt_20 : decode cX12_isAt 20 = .ok (.i2l, 1) := by decide +kernel
theorem dX12_isAt_21 : decode cX12_isAt 21 = .ok (.iload_n 1, 1) := by decide +kernel
theorem dX12_isAt_22 : decode cX12_isAt 22 = .ok (.i2l, 1) := by decide +kernel
theorem dX12_isAt_23 : decode cX12_isAt 23 = .ok (.iload_n 2, 1) := by decide +kernel
theorem dX12_isAt_24 : decode cX12_isAt 24 = .ok (.i2l, 1) := by decide +kernel
theorem dX12_isAt_25 : decode cX12_isAt 25 = .ok (.invokestatic 109, 3) := by decide +kernel
theorem dX12_isAt_28 : decode cX12_isAt 28 = .ok (.ifCond .eq 7, 3) := by decide +kernel
theorem dX12_isAt_31 : decode cX12_isAt 31 = .ok (.iconst 1, 1) := by decide +kernel
theorem dX12_isAt_32 : decode cX12_isAt 32 = .ok (.goto 4, 3) := by decide +kernel
theorem dX12_isAt_35 : decode cX12_isAt 35 = .ok (.iconst 0, 1) := by decide +kernel
theorem dX12_isAt_36 : decode cX12_isAt 36 = .ok (.ireturn, 1) := by decide +kernel
theorem dX12_wordOf_0 : decode cX12_wordOf 0 = .ok (.lload_n 0, 1) := by decide +kernel
theorem dX12_wordOf_1 : decode cX12_wordOf 1 = .ok (.ldc2_w 280, 3) := by decide +kernel
theorem dX12_wordOf_4 : decode cX12_wordOf 4 = .ok (.lcmp, 1) := by decide +kernel
theorem dX12_wordOf_5 : decode cX12_wordOf 5 = .ok (.ifCond .ne 8, 3) := by decide +kernel
theorem dX12_wordOf_8 : decode cX12_wordOf 8 = .ok (.bipush 10, 2) := by decide +kernel
theorem dX12_wordOf_10 : decode cX12_wordOf 10 = .ok (.goto 82, 3) := by decide +kernel
theorem dX12_wordOf_13 : decode cX12_wordOf 13 = .ok (.lload_n 0, 1) := by decide +kernel
theorem dX12_wordOf_14 : decode cX12_wordOf 14 = .ok (.ldc2_w 282, 3) := by decide +kernel
theorem dX12_wordOf_17 : decode cX12_wordOf 17 = .ok (.lcmp, 1) := by decide +kernel
theorem dX12_wordOf_18 : decode cX12_wordOf 18 = .ok (.ifCond .ne 8, 3) := by decide +kernel
theorem dX12_wordOf_21 : decode cX12_wordOf 21 = .ok (.bipush 11, 2) := by decide +kernel
theorem dX12_wordOf_23 : decode cX12_wordOf 23 = .ok (.goto 69, 3) := by decide +kernel
theorem dX12_wordOf_26 : decode cX12_wordOf 26 = .ok (.lload_n 0, 1) := by decide +kernel
theorem dX12_wordOf_27 : decode cX12_wordOf 27 = .ok (.ldc2_w 284, 3) := by decide +kernel
theorem dX12_wordOf_30 : decode cX12_wordOf 30 = .ok (.lcmp, 1) := by decide +kernel
theorem dX12_wordOf_31 : decode cX12_wordOf 31 = .ok (.ifCond .ne 8, 3) := by decide +kernel
theorem dX12_wordOf_34 : decode cX12_wordOf 34 = .ok (.bipush 12, 2) := by decide +kernel
theorem dX12_wordOf_36 : decode cX12_wordOf 36 = .ok (.goto 56, 3) := by decide +kernel
theorem dX12_wordOf_39 : decode cX12_wordOf 39 = .ok (.lload_n 0, 1) := by decide +kernel
theorem dX12_wordOf_40 : decode cX12_wordOf 40 = .ok (.ldc2_w 286, 3) := by decide +kernel
theorem dX12_wordOf_43 : decode cX12_wordOf 43 = .ok (.lcmp, 1) := by decide +kernel
theorem dX12_wordOf_44 : decode cX12_wordOf 44 = .ok (.ifCond .ne 8, 3) := by decide +kernel
theorem dX12_wordOf_47 : decode cX12_wordOf 47 = .ok (.bipush 13, 2) := by decide +kernel
theorem dX12_wordOf_49 : decode cX12_wordOf 49 = .ok (.goto 43, 3) := by decide +kernel
theorem dX12_wordOf_52 : decode cX12_wordOf 52 = .ok (.lload_n 0, 1) := by decide +kernel
theorem dX12_wordOf_53 : decode cX12_wordOf 53 = .ok (.ldc2_w 288, 3) := by decide +kernel
theorem dX12_wordOf_56 : decode cX12_wordOf 56 = .ok (.lcmp, 1) := by decide +kernel
theorem dX12_wordOf_57 : decode cX12_wordOf 57 = .ok (.ifCond .ne 8, 3) := by decide +kernel
theorem dX12_wordOf_60 : decode cX12_wordOf 60 = .ok (.bipush 14, 2) := by decide +kernel
theorem dX12_wordOf_62 : decode cX12_wordOf 62 = .ok (.goto 30, 3) := by decide +kernel
theorem dX12_wordOf_65 : decode cX12_wordOf 65 = .ok (.lload_n 0, 1) := by decide +kernel
theorem dX12_wordOf_66 : decode cX12_wordOf 66 = .ok (.ldc2_w 290, 3) := by decide +kernel
theorem dX12_wordOf_69 : decode cX12_wordOf 69 = .ok (.lcmp, 1) := by decide +kernel
theorem dX12_wordOf_70 : decode cX12_wordOf 70 = .ok (.ifCond .ne 8, 3) := by decide +kernel
theorem dX12_wordOf_73 : decode cX12_wordOf 73 = .ok (.bipush 15, 2) := by decide +kernel
theorem dX12_wordOf_75 : decode cX12_wordOf 75 = .ok (.goto 17, 3) := by decide +kernel
theorem dX12_wordOf_78 : decode cX12_wordOf 78 = .ok (.lload_n 0, 1) := by decide +kernel
theorem dX12_wordOf_79 : decode cX12_wordOf 79 = .ok (.ldc2_w 292, 3) := by decide +kernel
theorem dX12_wordOf_82 : decode cX12_wordOf 82 = .ok (.lcmp, 1) := by decide +kernel
theorem dX12_wordOf_83 : decode cX12_wordOf 83 = .ok (.ifCond .ne 8, 3) := by decide +kernel
theorem dX12_wordOf_86 : decode cX12_wordOf 86 = .ok (.bipush 16, 2) := by decide +kernel
theorem dX12_wordOf_88 : decode cX12_wordOf 88 = .ok (.goto 4, 3) := by decide +kernel
theorem dX12_wordOf_91 : decode cX12_wordOf 91 = .ok (.iconst 1, 1) := by decide +kernel
theorem dX12_wordOf_92 : decode cX12_wordOf 92 = .ok (.ireturn, 1) := by decide +kernel
theorem dX12_scans_0 : decode cX12_scans 0 = .ok (.aload_n 0, 1) := by decide +kernel
theorem dX12_scans_1 : decode cX12_scans 1 = .ok (.bipush 32, 2) := by decide +kernel
theorem dX12_scans_3 : decode cX12_scans 3 = .ok (.bipush 32, 2) := by decide +kernel
theorem dX12_scans_5 : decode cX12_scans 5 = .ok (.invokevirtual 294, 3) := by decide +kernel
theorem dX12_scans_8 : decode cX12_scans 8 = .ok (.ifCond .eq 16, 3) := by decide +kernel
theorem dX12_scans_11 : decode cX12_scans 11 = .ok (.aload_n 0, 1) := by decide +kernel
theorem dX12_scans_12 : decode cX12_scans 12 = .ok (.dup, 1) := by decide +kernel
theorem dX12_scans_13 : decode cX12_scans 13 = .ok (.getfield 277, 3) := by decide +kernel
theorem dX12_scans_16 : decode cX12_scans 16 = .ok (.iconst 1, 1) := by decide +kernel
theorem dX12_scans_17 : decode cX12_scans 17 = .ok (.iadd, 1) := by decide +kernel
theorem dX12_scans_18 : decode cX12_scans 18 = .ok (.putfield 277, 3) := by decide +kernel
theorem dX12_scans_21 : decode cX12_scans 21 = .ok (.goto (-21), 3) := by decide +kernel
theorem dX12_scans_24 : decode cX12_scans 24 = .ok (.aload_n 0, 1) := by decide +kernel
theorem dX12_scans_25 : decode cX12_scans 25 = .ok (.aload_n 0, 1) := by decide +kernel
theorem dX12_scans_26 : decode cX12_scans 26 = .ok (.getfield 277, 3) := by decide +kernel
theorem dX12_scans_29 : decode cX12_scans 29 = .ok (.putfield 297, 3) := by decide +kernel
theorem dX12_scans_32 : decode cX12_scans 32 = .ok (.aload_n 0, 1) := by decide +kernel
theorem dX12_scans_33 : decode cX12_scans 33 = .ok (.getfield 277, 3) := by decide +kernel
theorem dX12_scans_36 : decode cX12_scans 36 = .ok (.aload_n 0, 1) := by decide +kernel
theorem dX12_scans_37 : decode cX12_scans 37 = .ok (.getfield 271, 3) := by decide +kernel
theorem dX12_scans_40 : decode cX12_scans 40 = .ok (.if_icmp .ne 9, 3) := by decide +kernel
theorem dX12_scans_43 : decode cX12_scans 43 = .ok (.aload_n 0, 1) := by decide +kernel
theorem dX12_scans_44 : decode cX12_scans 44 = .ok (.iconst 0, 1) := by decide +kernel
theorem dX12_scans_45 : decode cX12_scans 45 = .ok (.putfield 300, 3) := by decide +kernel
theorem dX12_scans_48 : decode cX12_scans 48 = .ok (.return_, 1) := by decide +kernel
theorem dX12_scans_49 : decode cX12_scans 49 = .ok (.aload_n 0, 1) := by decide +kernel
theorem dX12_scans_50 : decode cX12_scans 50 = .ok (.bipush 97, 2) := by decide +kernel
theorem dX12_scans_52 : decode cX12_scans 52 = .ok (.bipush 122, 2) := by decide +kernel
theorem dX12_scans_54 : decode cX12_scans 54 = .ok (.invokevirtual 294, 3) := by decide +kernel
theorem dX12_scans_57 : decode cX12_scans 57 = .ok (.ifCond .eq 97, 3) := by decide +kernel
theorem dX12_scans_60 : decode cX12_scans 60 = .ok (.lconst 0, 1) := by decide +kernel
theorem dX12_scans_61 : decode cX12_scans 61 = .ok (.lstore_n 1, 1) := by decide +kernel
theorem dX12_scans_62 : decode cX12_scans 62 = .ok (.aload_n 0, 1) := by decide +kernel
theorem dX12_scans_63 : decode cX12_scans 63 = .ok (.bipush 97, 2) := by decide +kernel
theorem dX12_scans_65 : decode cX12_scans 65 = .ok (.bipush 122, 2) := by decide +kernel
theorem dX12_scans_67 : decode cX12_scans 67 = .ok (.invokevirtual 294, 3) := by decide +kernel
theorem dX12_scans_70 : decode cX12_scans 70 = .ok (.ifCond .eq 57, 3) := by decide +kernel
theorem dX12_scans_73 : decode cX12_scans 73 = .ok (.aload_n 0, 1) := by decide +kernel
theorem dX12_scans_74 : decode cX12_scans 74 = .ok (.getfield 277, 3) := by decide +kernel
theorem dX12_scans_77 : decode cX12_scans 77 = .ok (.aload_n 0, 1) := by decide +kernel
theorem dX12_scans_78 : decode cX12_scans 78 = .ok (.getfield 297, 3) := by decide +kernel
theorem dX12_scans_81 : decode cX12_scans 81 = .ok (.isub, 1) := by decide +kernel
theorem dX12_scans_82 : decode cX12_scans 82 = .ok (.bipush 6, 2) := by decide +kernel
theorem dX12_scans_84 : decode cX12_scans 84 = .ok (.if_icmp .le 7, 3) := by decide +kernel
theorem dX12_scans_87 : decode cX12_scans 87 = .ok (.lconst 0, 1) := by decide +kernel
theorem dX12_scans_88 : decode cX12_scans 88 = .ok (.goto 25, 3) := by decide +kernel
theorem dX12_scans_91 : decode cX12_scans 91 = .ok (.ldc2_w 303, 3) := by decide +kernel
theorem dX12_scans_94 : decode cX12_scans 94 = .ok (.lload_n 1, 1) := by decide +kernel
theorem dX12_scans_95 : decode cX12_scans 95 = .ok (.lmul, 1) := by decide +kernel
theorem dX12_scans_96 : decode cX12_scans 96 = .ok (.aload_n 0, 1) := by decide +kernel
theorem dX12_scans_97 : decode cX12_scans 97 = .ok (.getfield 59, 3) := by decide +kernel
theorem dX12_scans_100 : decode cX12_scans 100 = .ok (.aload_n 0, 1) := by decide +kernel
theorem dX12_scans_101 : decode cX12_scans 101 = .ok (.getfield 277, 3) := by decide +kernel
theorem dX12_scans_104 : decode cX12_scans 104 = .ok (.iaload, 1) := by decide +kernel
theorem dX12_scans_105 : decode cX12_scans 105 = .ok (.i2l, 1) := by decide +kernel
theorem dX12_scans_106 : decode cX12_scans 106 = .ok (.ladd, 1) := by decide +kernel
theorem dX12_scans_107 : decode cX12_scans 107 = .ok (.ldc2_w 305, 3) := by decide +kernel
theorem dX12_scans_110 : decode cX12_scans 110 = .ok (.lsub, 1) := by decide +kernel
theorem dX12_scans_111 : decode cX12_scans 111 = .ok (.lconst 1, 1) := by decide +kernel
theorem dX12_scans_112 : decode cX12_scans 112 = .ok (.ladd, 1) := by decide +kernel
theorem dX12_scans_113 : decode cX12_scans 113 = .ok (.lstore_n 1, 1) := by decide +kernel
theorem dX12_scans_114 : decode cX12_scans 114 = .ok (.aload_n 0, 1) := by decide +kernel
theorem dX12_scans_115 : decode cX12_scans 115 = .ok (.dup, 1) := by decide +kernel
theorem dX12_scans_116 : decode cX12_scans 116 = .ok (.getfield 277, 3) := by decide +kernel
theorem dX12_scans_119 : decode cX12_scans 119 = .ok (.iconst 1, 1) := by decide +kernel
theorem dX12_scans_120 : decode cX12_scans 120 = .ok (.iadd, 1) := by decide +kernel
theorem dX12_scans_121 : decode cX12_scans 121 = .ok (.putfield 277, 3) := by decide +kernel
theorem dX12_scans_124 : decode cX12_scans 124 = .ok (.goto (-62), 3) := by decide +kernel
theorem dX12_scans_127 : decode cX12_scans 127 = .ok (.aload_n 0, 1) := by decide +kernel
theorem dX12_scans_128 : decode cX12_scans 128 = .ok (.aload_n 0, 1) := by decide +kernel
theorem dX12_scans_129 : decode cX12_scans 129 = .ok (.getfield 277, 3) := by decide +kernel
theorem dX12_scans_132 : decode cX12_scans 132 = .ok (.aload_n 0, 1) := by decide +kernel
theorem dX12_scans_133 : decode cX12_scans 133 = .ok (.getfield 297, 3) := by decide +kernel
theorem dX12_scans_136 : decode cX12_scans 136 = .ok (.isub, 1) := by decide +kernel
theorem dX12_scans_137 : decode cX12_scans 137 = .ok (.bipush 6, 2) := by decide +kernel
theorem dX12_scans_139 : decode cX12_scans 139 = .ok (.if_icmp .le 7, 3) := by decide +kernel
theorem dX12_scans_142 : decode cX12_scans 142 = .ok (.iconst 1, 1) := by decide +kernel
theorem dX12_scans_143 : decode cX12_scans 143 = .ok (.goto 7, 3) := by decide +kernel
theorem dX12_scans_146 : decode cX12_scans 146 = .ok (.lload_n 1, 1) := by decide +kernel
theorem dX12_scans_147 : decode cX12_scans 147 = .ok (.invokestatic 307, 3) := by decide +kernel
theorem dX12_scans_150 : decode cX12_scans 150 = .ok (.putfield 300, 3) := by decide +kernel
theorem dX12_scans_153 : decode cX12_scans 153 = .ok (.return_, 1) := by decide +kernel
theorem dX12_scans_154 : decode cX12_scans 154 = .ok (.aload_n 0, 1) := by decide +kernel
theorem dX12_scans_155 : decode cX12_scans 155 = .ok (.bipush 48, 2) := by decide +kernel
theorem dX12_scans_157 : decode cX12_scans 157 = .ok (.bipush 57, 2) := by decide +kernel
theorem dX12_scans_159 : decode cX12_scans 159 = .ok (.invokevirtual 294, 3) := by decide +kernel
theorem dX12_scans_162 : decode cX12_scans 162 = .ok (.ifCond .eq 99, 3) := by decide +kernel
theorem dX12_scans_165 : decode cX12_scans 165 = .ok (.aload_n 0, 1) := by decide +kernel
theorem dX12_scans_166 : decode cX12_scans 166 = .ok (.iconst 0, 1) := by decide +kernel
theorem dX12_scans_167 : decode cX12_scans 167 = .ok (.putfield 311, 3) := by decide +kernel
theorem dX12_scans_170 : decode cX12_scans 170 = .ok (.aload_n 0, 1) := by decide +kernel
theorem dX12_scans_171 : decode cX12_scans 171 = .ok (.bipush 48, 2) := by decide +kernel
theorem dX12_scans_173 : decode cX12_scans 173 = .ok (.bipush 57, 2) := by decide +kernel
theorem dX12_scans_175 : decode cX12_scans 175 = .ok (.invokevirtual 294, 3) := by decide +kernel
theorem dX12_scans_178 : decode cX12_scans 178 = .ok (.ifCond .eq 60, 3) := by decide +kernel
theorem dX12_scans_181 : decode cX12_scans 181 = .ok (.aload_n 0, 1) := by decide +kernel
theorem dX12_scans_182 : decode cX12_scans 182 = .ok (.aload_n 0, 1) := by decide +kernel
theorem dX12_scans_183 : decode cX12_scans 183 = .ok (.getfield 277, 3) := by decide +kernel
theorem dX12_scans_186 : decode cX12_scans 186 = .ok (.aload_n 0, 1) := by decide +kernel
theorem dX12_scans_187 : decode cX12_scans 187 = .ok (.getfield 297, 3) := by decide +kernel
theorem dX12_scans_190 : decode cX12_scans 190 = .ok (.isub, 1) := by decide +kernel
theorem dX12_scans_191 : decode cX12_scans 191 = .ok (.iconst 3, 1) := by decide +kernel
theorem dX12_scans_192 : decode cX12_scans 192 = .ok (.if_icmp .ge 26, 3) := by decide +kernel
theorem dX12_scans_195 : decode cX12_scans 195 = .ok (.bipush 10, 2) := by decide +kernel
theorem dX12_scans_197 : decode cX12_scans 197 = .ok (.aload_n 0, 1) := by decide +kernel
theorem dX12_scans_198 : decode cX12_scans 198 = .ok (.getfield 311, 3) := by decide +kernel
theorem dX12_scans_201 : decode cX12_scans 201 = .ok (.imul, 1) := by decide +kernel
theorem dX12_scans_202 : decode cX12_scans 202 = .ok (.aload_n 0, 1) := by decide +kernel
theorem dX12_scans_203 : decode cX12_scans 203 = .ok (.getfield 59, 3) := by decide +kernel
theorem dX12_scans_206 : decode cX12_scans 206 = .ok (.aload_n 0, 1) := by decide +kernel
theorem dX12_scans_207 : decode cX12_scans 207 = .ok (.getfield 277, 3) := by decide +kernel
theorem dX12_scans_210 : decode cX12_scans 210 = .ok (.iaload, 1) := by decide +kernel
theorem dX12_scans_211 : decode cX12_scans 211 = .ok (.iadd, 1) := by decide +kernel
theorem dX12_scans_212 : decode cX12_scans 212 = .ok (.bipush 48, 2) := by decide +kernel
theorem dX12_scans_214 : decode cX12_scans 214 = .ok (.isub, 1) := by decide +kernel
theorem dX12_scans_215 : decode cX12_scans 215 = .ok (.goto 7, 3) := by decide +kernel
theorem dX12_scans_218 : decode cX12_scans 218 = .ok (.aload_n 0, 1) := by decide +kernel
theorem dX12_scans_219 : decode cX12_scans 219 = .ok (.getfield 311, 3) := by decide +kernel
theorem dX12_scans_222 : decode cX12_scans 222 = .ok (.putfield 311, 3) := by decide +kernel
theorem dX12_scans_225 : decode cX12_scans 225 = .ok (.aload_n 0, 1) := by decide +kernel
theorem dX12_scans_226 : decode cX12_scans 226 = .ok (.dup, 1) := by decide +kernel
theorem dX12_scans_227 : decode cX12_scans 227 = .ok (.getfield 277, 3) := by decide +kernel
theorem dX12_scans_230 : decode cX12_scans 230 = .ok (.iconst 1, 1) := by decide +kernel
theorem dX12_scans_231 : decode cX12_scans 231 = .ok (.iadd, 1) := by decide +kernel
theorem dX12_scans_232 : decode cX12_scans 232 = .ok (.putfield 277, 3) := by decide +kernel
theorem dX12_scans_235 : decode cX12_scans 235 = .ok (.goto (-65), 3) := by decide +kernel
theorem dX12_scans_238 : decode cX12_scans 238 = .ok (.aload_n 0, 1) := by decide +kernel
theorem dX12_scans_239 : decode cX12_scans 239 = .ok (.aload_n 0, 1) := by decide +kernel
theorem dX12_scans_240 : decode cX12_scans 240 = .ok (.getfield 277, 3) := by decide +kernel
theorem dX12_scans_243 : decode cX12_scans 243 = .ok (.aload_n 0, 1) := by decide +kernel
theorem dX12_scans_244 : decode cX12_scans 244 = .ok (.getfield 297, 3) := by decide +kernel
theorem dX12_scans_247 : decode cX12_scans 247 = .ok (.isub, 1) := by decide +kernel
theorem dX12_scans_248 : decode cX12_scans 248 = .ok (.iconst 3, 1) := by decide +kernel
theorem dX12_scans_249 : decode cX12_scans 249 = .ok (.if_icmp .le 7, 3) := by decide +kernel
theorem dX12_scans_252 : decode cX12_scans 252 = .ok (.iconst 1, 1) := by decide +kernel
theorem dX12_scans_253 : decode cX12_scans 253 = .ok (.goto 4, 3) := by decide +kernel
theorem dX12_scans_256 : decode cX12_scans 256 = .ok (.iconst 2, 1) := by decide +kernel
theorem dX12_scans_257 : decode cX12_scans 257 = .ok (.putfield 300, 3) := by decide +kernel
theorem dX12_scans_260 : decode cX12_scans 260 = .ok (.return_, 1) := by decide +kernel
theorem dX12_scans_261 : decode cX12_scans 261 = .ok (.aload_n 0, 1) := by decide +kernel
theorem dX12_scans_262 : decode cX12_scans 262 = .ok (.aload_n 0, 1) := by decide +kernel
theorem dX12_scans_263 : decode cX12_scans 263 = .ok (.bipush 59, 2) := by decide +kernel
theorem dX12_scans_265 : decode cX12_scans 265 = .ok (.bipush 59, 2) := by decide +kernel
theorem dX12_scans_267 : decode cX12_scans 267 = .ok (.invokevirtual 294, 3) := by decide +kernel
theorem dX12_scans_270 : decode cX12_scans 270 = .ok (.ifCond .eq 7, 3) := by decide +kernel
theorem dX12_scans_273 : decode cX12_scans 273 = .ok (.iconst 3, 1) := by decide +kernel
theorem dX12_scans_274 : decode cX12_scans 274 = .ok (.goto 4, 3) := by decide +kernel
theorem dX12_scans_277 : decode cX12_scans 277 = .ok (.iconst 1, 1) := by decide +kernel
theorem dX12_scans_278 : decode cX12_scans 278 = .ok (.putfield 300, 3) := by decide +kernel
theorem dX12_scans_281 : decode cX12_scans 281 = .ok (.aload_n 0, 1) := by decide +kernel
theorem dX12_scans_282 : decode cX12_scans 282 = .ok (.dup, 1) := by decide +kernel
theorem dX12_scans_283 : decode cX12_scans 283 = .ok (.getfield 277, 3) := by decide +kernel
theorem dX12_scans_286 : decode cX12_scans 286 = .ok (.iconst 1, 1) := by decide +kernel
theorem dX12_scans_287 : decode cX12_scans 287 = .ok (.iadd, 1) := by decide +kernel
theorem dX12_scans_288 : decode cX12_scans 288 = .ok (.putfield 277, 3) := by decide +kernel
theorem dX12_scans_291 : decode cX12_scans 291 = .ok (.return_, 1) := by decide +kernel
theorem dX12_fewestOf_0 : decode cX12_fewestOf 0 = .ok (.iload_n 0, 1) := by decide +kernel
theorem dX12_fewestOf_1 : decode cX12_fewestOf 1 = .ok (.bipush 10, 2) := by decide +kernel
theorem dX12_fewestOf_3 : decode cX12_fewestOf 3 = .ok (.if_icmp .ne 7, 3) := by decide +kernel
theorem dX12_fewestOf_6 : decode cX12_fewestOf 6 = .ok (.iconst 1, 1) := by decide +kernel
theorem dX12_fewestOf_7 : decode cX12_fewestOf 7 = .ok (.goto 20, 3) := by decide +kernel
theorem dX12_fewestOf_10 : decode cX12_fewestOf 10 = .ok (.iload_n 0, 1) := by decide +kernel
theorem dX12_fewestOf_11 : decode cX12_fewestOf 11 = .ok (.bipush 12, 2) := by decide +kernel
theorem dX12_fewestOf_13 : decode cX12_fewestOf 13 = .ok (.if_icmp .eq 9, 3) := by decide +kernel
theorem dX12_fewestOf_16 : decode cX12_fewestOf 16 = .ok (.iload_n 0, 1) := by decide +kernel
theorem dX12_fewestOf_17 : decode cX12_fewestOf 17 = .ok (.bipush 13, 2) := by decide +kernel
theorem dX12_fewestOf_19 : decode cX12_fewestOf 19 = .ok (.if_icmp .ne 7, 3) := by decide +kernel
theorem dX12_fewestOf_22 : decode cX12_fewestOf 22 = .ok (.iconst 3, 1) := by decide +kernel
theorem dX12_fewestOf_23 : decode cX12_fewestOf 23 = .ok (.goto 4, 3) := by decide +kernel
theorem dX12_fewestOf_26 : decode cX12_fewestOf 26 = .ok (.iconst 2, 1) := by decide +kernel
theorem dX12_fewestOf_27 : decode cX12_fewestOf 27 = .ok (.ireturn, 1) := by decide +kernel
theorem dX12_mostOf_0 : decode cX12_mostOf 0 = .ok (.iload_n 0, 1) := by decide +kernel
theorem dX12_mostOf_1 : decode cX12_mostOf 1 = .ok (.bipush 15, 2) := by decide +kernel
theorem dX12_mostOf_3 : decode cX12_mostOf 3 = .ok (.if_icmp .ne 8, 3) := by decide +kernel
theorem dX12_mostOf_6 : decode cX12_mostOf 6 = .ok (.bipush 7, 2) := by decide +kernel
theorem dX12_mostOf_8 : decode cX12_mostOf 8 = .ok (.goto 7, 3) := by decide +kernel
theorem dX12_mostOf_11 : decode cX12_mostOf 11 = .ok (.iload_n 0, 1) := by decide +kernel
theorem dX12_mostOf_12 : decode cX12_mostOf 12 = .ok (.invokestatic 314, 3) := by decide +kernel
theorem dX12_mostOf_15 : decode cX12_mostOf 15 = .ok (.ireturn, 1) := by decide +kernel
theorem dX12_readsText_0 : decode cX12_readsText 0 = .ok (.aload_n 0, 1) := by decide +kernel
theorem dX12_readsText_1 : decode cX12_readsText 1 = .ok (.iconst 0, 1) := by decide +kernel
theorem dX12_readsText_2 : decode cX12_readsText 2 = .ok (.putfield 277, 3) := by decide +kernel
theorem dX12_readsText_5 : decode cX12_readsText 5 = .ok (.aload_n 0, 1) := by decide +kernel
theorem dX12_readsText_6 : decode cX12_readsText 6 = .ok (.iconst 0, 1) := by decide +kernel
theorem dX12_readsText_7 : decode cX12_readsText 7 = .ok (.putfield 317, 3) := by decide +kernel
theorem dX12_readsText_10 : decode cX12_readsText 10 = .ok (.aload_n 0, 1) := by decide +kernel
theorem dX12_readsText_11 : decode cX12_readsText 11 = .ok (.invokevirtual 320, 3) := by decide +kernel
theorem dX12_readsText_14 : decode cX12_readsText 14 = .ok (.aload_n 0, 1) := by decide +kernel
theorem dX12_readsText_15 : decode cX12_readsText 15 = .ok (.getfield 300, 3) := by decide +kernel
theorem dX12_readsText_18 : decode cX12_readsText 18 = .ok (.ifCond .eq 121, 3) := by decide +kernel
theorem dX12_readsText_21 : decode cX12_readsText 21 = .ok (.aload_n 0, 1) := by decide +kernel
theorem dX12_readsText_22 : decode cX12_readsText 22 = .ok (.getfield 300, 3) := by decide +kernel
theorem dX12_readsText_25 : decode cX12_readsText 25 = .ok (.istore_n 1, 1) := by decide +kernel
theorem dX12_readsText_26 : decode cX12_readsText 26 = .ok (.iload_n 1, 1) := by decide +kernel
theorem dX12_readsText_27 : decode cX12_readsText 27 = .ok (.bipush 10, 2) := by decide +kernel
theorem dX12_readsText_29 : decode cX12_readsText 29 = .ok (.if_icmp .ge 5, 3) := by decide +kernel
theorem dX12_readsText_32 : decode cX12_readsText 32 = .ok (.iconst 0, 1) := by decide +kernel
theorem dX12_readsText_33 : decode cX12_readsText 33 = .ok (.ireturn, 1) := by decide +kernel
theorem dX12_readsText_34 : decode cX12_readsText 34 = .ok (.aload_n 0, 1) := by decide +kernel
theorem dX12_readsText_35 : decode cX12_readsText 35 = .ok (.invokevirtual 320, 3) := by decide +kernel
theorem dX12_readsText_38 : decode cX12_readsText 38 = .ok (.iconst 0, 1) := by decide +kernel
theorem dX12_readsText_39 : decode cX12_readsText 39 = .ok (.istore_n 2, 1) := by decide +kernel
theorem dX12_readsText_40 : decode cX12_readsText 40 = .ok (.aload_n 0, 1) := by decide +kernel
theorem dX12_readsText_41 : decode cX12_readsText 41 = .ok (.getfield 300, 3) := by decide +kernel
theorem dX12_readsText_44 : decode cX12_readsText 44 = .ok (.iconst 2, 1) := by decide +kernel
theorem dX12_readsText_45 : decode cX12_readsText 45 = .ok (.if_icmp .ne 39, 3) := by decide +kernel
theorem dX12_readsText_48 : decode cX12_readsText 48 = .ok (.iload_n 2, 1) := by decide +kernel
theorem dX12_readsText_49 : decode cX12_readsText 49 = .ok (.iload_n 1, 1) := by decide +kernel
theorem dX12_readsText_50 : decode cX12_readsText 50 = .ok (.invokestatic 323, 3) := by decide +kernel
theorem dX12_readsText_53 : decode cX12_readsText 53 = .ok (.if_icmp .ge 31, 3) := by decide +kernel
theorem dX12_readsText_56 : decode cX12_readsText 56 = .ok (.aload_n 0, 1) := by decide +kernel
theorem dX12_readsText_57 : decode cX12_readsText 57 = .ok (.getfield 68, 3) := by decide +kernel
theorem dX12_readsText_60 : decode cX12_readsText 60 = .ok (.bipush 7, 2) := by decide +kernel
theorem dX12_readsText_62 : decode cX12_readsText 62 = .ok (.aload_n 0, 1) := by decide +kernel
theorem dX12_readsText_63 : decode cX12_readsText 63 = .ok (.getfield 317, 3) := by decide +kernel
theorem dX12_readsText_66 : decode cX12_readsText 66 = .ok (.imul, 1) := by decide +kernel
theorem dX12_readsText_67 : decode cX12_readsText 67 = .ok (.iload_n 2, 1) := by decide +kernel
theorem dX12_readsText_68 : decode cX12_readsText 68 = .ok (.iadd, 1) := by decide +kernel
theorem dX12_readsText_69 : decode cX12_readsText 69 = .ok (.aload_n 0, 1) := by decide +kernel
theorem dX12_readsText_70 : decode cX12_readsText 70 = .ok (.getfield 311, 3) := by decide +kernel
theorem dX12_readsText_73 : decode cX12_readsText 73 = .ok (.iastore, 1) := by decide +kernel
theorem dX12_readsText_74 : decode cX12_readsText 74 = .ok (.iinc 2 1, 3) := by decide +kernel
theorem dX12_readsText_77 : decode cX12_readsText 77 = .ok (.aload_n 0, 1) := by decide +kernel
theorem dX12_readsText_78 : decode cX12_readsText 78 = .ok (.invokevirtual 320, 3) := by decide +kernel
theorem dX12_readsText_81 : decode cX12_readsText 81 = .ok (.goto (-41), 3) := by decide +kernel
theorem dX12_readsText_84 : decode cX12_readsText 84 = .ok (.iload_n 2, 1) := by decide +kernel
theorem dX12_readsText_85 : decode cX12_readsText 85 = .ok (.iload_n 1, 1) := by decide +kernel
theorem dX12_readsText_86 : decode cX12_readsText 86 = .ok (.invokestatic 314, 3) := by decide +kernel
theorem dX12_readsText_89 : decode cX12_readsText 89 = .ok (.if_icmp .lt 11, 3) := by decide +kernel
theorem dX12_readsText_92 : decode cX12_readsText 92 = .ok (.aload_n 0, 1) := by decide +kernel
theorem dX12_readsText_93 : decode cX12_readsText 93 = .ok (.getfield 300, 3) := by decide +kernel
theorem dX12_readsText_96 : decode cX12_readsText 96 = .ok (.iconst 3, 1) := by decide +kernel
theorem dX12_readsText_97 : decode cX12_readsText 97 = .ok (.if_icmp .eq 5, 3) := by decide +kernel
theorem dX12_readsText_100 : decode cX12_readsText 100 = .ok (.iconst 0, 1) := by decide +kernel
theorem dX12_readsText_101 : decode cX12_readsText 101 = .ok (.ireturn, 1) := by decide +kernel
theorem dX12_readsText_102 : decode cX12_readsText 102 = .ok (.aload_n 0, 1) := by decide +kernel
theorem dX12_readsText_103 : decode cX12_readsText 103 = .ok (.getfield 62, 3) := by decide +kernel
theorem dX12_readsText_106 : decode cX12_readsText 106 = .ok (.aload_n 0, 1) := by decide +kernel
theorem dX12_readsText_107 : decode cX12_readsText 107 = .ok (.getfield 317, 3) := by decide +kernel
theorem dX12_readsText_110 : decode cX12_readsText 110 = .ok (.iload_n 1, 1) := by decide +kernel
theorem dX12_readsText_111 : decode cX12_readsText 111 = .ok (.iastore, 1) := by decide +kernel
theorem dX12_readsText_112 : decode cX12_readsText 112 = .ok (.aload_n 0, 1) := by decide +kernel
theorem dX12_readsText_113 : decode cX12_readsText 113 = .ok (.getfield 65, 3) := by decide +kernel
theorem dX12_readsText_116 : decode cX12_readsText 116 = .ok (.aload_n 0, 1) := by decide +kernel
theorem dX12_readsText_117 : decode cX12_readsText 117 = .ok (.getfield 317, 3) := by decide +kernel
theorem dX12_readsText_120 : decode cX12_readsText 120 = .ok (.iload_n 2, 1) := by decide +kernel
theorem dX12_readsText_121 : decode cX12_readsText 121 = .ok (.iastore, 1) := by decide +kernel
theorem dX12_readsText_122 : decode cX12_readsText 122 = .ok (.aload_n 0, 1) := by decide +kernel
theorem dX12_readsText_123 : decode cX12_readsText 123 = .ok (.dup, 1) := by decide +kernel
theorem dX12_readsText_124 : decode cX12_readsText 124 = .ok (.getfield 317, 3) := by decide +kernel
theorem dX12_readsText_127 : decode cX12_readsText 127 = .ok (.iconst 1, 1) := by decide +kernel
theorem dX12_readsText_128 : decode cX12_readsText 128 = .ok (.iadd, 1) := by decide +kernel
theorem dX12_readsText_129 : decode cX12_readsText 129 = .ok (.putfield 317, 3) := by decide +kernel
theorem dX12_readsText_132 : decode cX12_readsText 132 = .ok (.aload_n 0, 1) := by decide +kernel
theorem dX12_readsText_133 : decode cX12_readsText 133 = .ok (.invokevirtual 320, 3) := by decide +kernel
theorem dX12_readsText_136 : decode cX12_readsText 136 = .ok (.goto (-122), 3) := by decide +kernel
theorem dX12_readsText_139 : decode cX12_readsText 139 = .ok (.iconst 1, 1) := by decide +kernel
theorem dX12_readsText_140 : decode cX12_readsText 140 = .ok (.ireturn, 1) := by decide +kernel
theorem dX12_tellsWord_0 : decode cX12_tellsWord 0 = .ok (.iconst 0, 1) := by decide +kernel
theorem dX12_tellsWord_1 : decode cX12_tellsWord 1 = .ok (.istore_n 2, 1) := by decide +kernel
theorem dX12_tellsWord_2 : decode cX12_tellsWord 2 = .ok (.iconst 1, 1) := by decide +kernel
theorem dX12_tellsWord_3 : decode cX12_tellsWord 3 = .ok (.istore_n 3, 1) := by decide +kernel
theorem dX12_tellsWord_4 : decode cX12_tellsWord 4 = .ok (.iconst 1, 1) := by decide +kernel
theorem dX12_tellsWord_5 : decode cX12_tellsWord 5 = .ok (.istore 4, 2) := by decide +kernel
theorem dX12_tellsWord_7 : decode cX12_tellsWord 7 = .ok (.iload 4, 2) := by decide +kernel
theorem dX12_tellsWord_9 : decode cX12_tellsWord 9 = .ok (.aload_n 0, 1) := by decide +kernel
theorem dX12_tellsWord_10 : decode cX12_tellsWord 10 = .ok (.getfield 65, 3) := by decide +kernel
theorem dX12_tellsWord_13 : decode cX12_tellsWord 13 = .ok (.iload_n 1, 1) := by decide +kernel
theorem dX12_tellsWord_14 : decode cX12_tellsWord 14 = .ok (.iaload, 1) := by decide +kernel
theorem dX12_tellsWord_15 : decode cX12_tellsWord 15 = .ok (.if_icmp .ge 54, 3) := by decide +kernel
theorem dX12_tellsWord_18 : decode cX12_tellsWord 18 = .ok (.iload_n 3, 1) := by decide +kernel
theorem dX12_tellsWord_19 : decode cX12_tellsWord 19 = .ok (.ifCond .eq 24, 3) := by decide +kernel
theorem dX12_tellsWord_22 : decode cX12_tellsWord 22 = .ok (.aload_n 0, 1) := by decide +kernel
theorem dX12_tellsWord_23 : decode cX12_tellsWord 23 = .ok (.getfield 68, 3) := by decide +kernel
theorem dX12_tellsWord_26 : decode cX12_tellsWord 26 = .ok (.bipush 7, 2) := by decide +kernel
theorem dX12_tellsWord_28 : decode cX12_tellsWord 28 = .ok (.iload_n 1, 1) := by decide +kernel
theorem dX12_tellsWord_29 : decode cX12_tellsWord 29 = .ok (.imul, 1) := by decide +kernel
theorem dX12_tellsWord_30 : decode cX12_tellsWord 30 = .ok (.iload 4, 2) := by decide +kernel
theorem dX12_tellsWord_32 : decode cX12_tellsWord 32 = .ok (.iadd, 1) := by decide +kernel
theorem dX12_tellsWord_33 : decode cX12_tellsWord 33 = .ok (.iaload, 1) := by decide +kernel
theorem dX12_tellsWord_34 : decode cX12_tellsWord 34 = .ok (.bipush 6, 2) := by decide +kernel
theorem dX12_tellsWord_36 : decode cX12_tellsWord 36 = .ok (.if_icmp .ge 7, 3) := by decide +kernel
theorem dX12_tellsWord_39 : decode cX12_tellsWord 39 = .ok (.iconst 1, 1) := by decide +kernel
theorem dX12_tellsWord_40 : decode cX12_tellsWord 40 = .ok (.goto 4, 3) := by decide +kernel
theorem dX12_tellsWord_43 : decode cX12_tellsWord 43 = .ok (.iconst 0, 1) := by decide +kernel
theorem dX12_tellsWord_44 : decode cX12_tellsWord 44 = .ok (.istore_n 3, 1) := by decide +kernel
theorem dX12_tellsWord_45 : decode cX12_tellsWord 45 = .ok (.bipush 6, 2) := by decide +kernel
theorem dX12_tellsWord_47 : decode cX12_tellsWord 47 = .ok (.iload_n 2, 1) := by decide +kernel
theorem dX12_tellsWord_48 : decode cX12_tellsWord 48 = .ok (.imul, 1) := by decide +kernel
theorem dX12_tellsWord_49 : decode cX12_tellsWord 49 = .ok (.aload_n 0, 1) := by decide +kernel
theorem dX12_tellsWord_50 : decode cX12_tellsWord 50 = .ok (.getfield 68, 3) := by decide +kernel
theorem dX12_tellsWord_53 : decode cX12_tellsWord 53 = .ok (.bipush 7, 2) := by decide +kernel
theorem dX12_tellsWord_55 : decode cX12_tellsWord 55 = .ok (.iload_n 1, 1) := by decide +kernel
theorem dX12_tellsWord_56 : decode cX12_tellsWord 56 = .ok (.imul, 1) := by decide +kernel
theorem dX12_tellsWord_57 : decode cX12_tellsWord 57 = .ok (.iload 4, 2) := by decide +kernel
theorem dX12_tellsWord_59 : decode cX12_tellsWord 59 = .ok (.iadd, 1) := by decide +kernel
theorem dX12_tellsWord_60 : decode cX12_tellsWord 60 = .ok (.iaload, 1) := by decide +kernel
theorem dX12_tellsWord_61 : decode cX12_tellsWord 61 = .ok (.iadd, 1) := by decide +kernel
theorem dX12_tellsWord_62 : decode cX12_tellsWord 62 = .ok (.istore_n 2, 1) := by decide +kernel
theorem dX12_tellsWord_63 : decode cX12_tellsWord 63 = .ok (.iinc 4 1, 3) := by decide +kernel
theorem dX12_tellsWord_66 : decode cX12_tellsWord 66 = .ok (.goto (-59), 3) := by decide +kernel
theorem dX12_tellsWord_69 : decode cX12_tellsWord 69 = .ok (.iload_n 3, 1) := by decide +kernel
theorem dX12_tellsWord_70 : decode cX12_tellsWord 70 = .ok (.ifCond .eq 28, 3) := by decide +kernel
theorem dX12_tellsWord_73 : decode cX12_tellsWord 73 = .ok (.aload_n 0, 1) := by decide +kernel
theorem dX12_tellsWord_74 : decode cX12_tellsWord 74 = .ok (.aload_n 0, 1) := by decide +kernel
theorem dX12_tellsWord_75 : decode cX12_tellsWord 75 = .ok (.getfield 65, 3) := by decide +kernel
theorem dX12_tellsWord_78 : decode cX12_tellsWord 78 = .ok (.iload_n 1, 1) := by decide +kernel
theorem dX12_tellsWord_79 : decode cX12_tellsWord 79 = .ok (.iaload, 1) := by decide +kernel
theorem dX12_tellsWord_80 : decode cX12_tellsWord 80 = .ok (.iconst 1, 1) := by decide +kernel
theorem dX12_tellsWord_81 : decode cX12_tellsWord 81 = .ok (.isub, 1) := by decide +kernel
theorem dX12_tellsWord_82 : decode cX12_tellsWord 82 = .ok (.iload_n 2, 1) := by decide +kernel
theorem dX12_tellsWord_83 : decode cX12_tellsWord 83 = .ok (.aload_n 0, 1) := by decide +kernel
theorem dX12_tellsWord_84 : decode cX12_tellsWord 84 = .ok (.getfield 68, 3) := by decide +kernel
theorem dX12_tellsWord_87 : decode cX12_tellsWord 87 = .ok (.bipush 7, 2) := by decide +kernel
theorem dX12_tellsWord_89 : decode cX12_tellsWord 89 = .ok (.iload_n 1, 1) := by decide +kernel
theorem dX12_tellsWord_90 : decode cX12_tellsWord 90 = .ok (.imul, 1) := by decide +kernel
theorem dX12_tellsWord_91 : decode cX12_tellsWord 91 = .ok (.iaload, 1) := by decide +kernel
theorem dX12_tellsWord_92 : decode cX12_tellsWord 92 = .ok (.invokevirtual 326, 3) := by decide +kernel
theorem dX12_tellsWord_95 : decode cX12_tellsWord 95 = .ok (.goto 5, 3) := by decide +kernel
theorem dX12_tellsWord_98 : decode cX12_tellsWord 98 = .ok (.bipush (-2), 2) := by decide +kernel
theorem dX12_tellsWord_100 : decode cX12_tellsWord 100 = .ok (.ireturn, 1) := by decide +kernel
theorem dX12_tellsItem_0 : decode cX12_tellsItem 0 = .ok (.aload_n 0, 1) := by decide +kernel
theorem dX12_tellsItem_1 : decode cX12_tellsItem 1 = .ok (.getfield 68, 3) := by decide +kernel
theorem dX12_tellsItem_4 : decode cX12_tellsItem 4 = .ok (.bipush 7, 2) := by decide +kernel
theorem dX12_tellsItem_6 : decode cX12_tellsItem 6 = .ok (.iload_n 1, 1) := by decide +kernel
theorem dX12_tellsItem_7 : decode cX12_tellsItem 7 = .ok (.imul, 1) := by decide +kernel
theorem dX12_tellsItem_8 : decode cX12_tellsItem 8 = .ok (.iaload, 1) := by decide +kernel
theorem dX12_tellsItem_9 : decode cX12_tellsItem 9 = .ok (.istore_n 2, 1) := by decide +kernel
theorem dX12_tellsItem_10 : decode cX12_tellsItem 10 = .ok (.aload_n 0, 1) := by decide +kernel
theorem dX12_tellsItem_11 : decode cX12_tellsItem 11 = .ok (.getfield 68, 3) := by decide +kernel
theorem dX12_tellsItem_14 : decode cX12_tellsItem 14 = .ok (.bipush 7, 2) := by decide +kernel
theorem dX12_tellsItem_16 : decode cX12_tellsItem 16 = .ok (.iload_n 1, 1) := by decide +kernel
theorem dX12_tellsItem_17 : decode cX12_tellsItem 17 = .ok (.imul, 1) := by decide +kernel
theorem dX12_tellsItem_18 : decode cX12_tellsItem 18 = .ok (.iconst 1, 1) := by decide +kernel
theorem dX12_tellsItem_19 : decode cX12_tellsItem 19 = .ok (.iadd, 1) := by decide +kernel
theorem dX12_tellsItem_20 : decode cX12_tellsItem 20 = .ok (.iaload, 1) := by decide +kernel
theorem dX12_tellsItem_21 : decode cX12_tellsItem 21 = .ok (.istore_n 3, 1) := by decide +kernel
theorem dX12_tellsItem_22 : decode cX12_tellsItem 22 = .ok (.aload_n 0, 1) := by decide +kernel
theorem dX12_tellsItem_23 : decode cX12_tellsItem 23 = .ok (.getfield 68, 3) := by decide +kernel
theorem dX12_tellsItem_26 : decode cX12_tellsItem 26 = .ok (.bipush 7, 2) := by decide +kernel
theorem dX12_tellsItem_28 : decode cX12_tellsItem 28 = .ok (.iload_n 1, 1) := by decide +kernel
theorem dX12_tellsItem_29 : decode cX12_tellsItem 29 = .ok (.imul, 1) := by decide +kernel
theorem dX12_tellsItem_30 : decode cX12_tellsItem 30 = .ok (.iconst 2, 1) := by decide +kernel
theorem dX12_tellsItem_31 : decode cX12_tellsItem 31 = .ok (.iadd, 1) := by decide +kernel
theorem dX12_tellsItem_32 : decode cX12_tellsItem 32 = .ok (.iaload, 1) := by decide +kernel
theorem dX12_tellsItem_33 : decode cX12_tellsItem 33 = .ok (.istore 4, 2) := by decide +kernel
theorem dX12_tellsItem_35 : decode cX12_tellsItem 35 = .ok (.aload_n 0, 1) := by decide +kernel
theorem dX12_tellsItem_36 : decode cX12_tellsItem 36 = .ok (.getfield 62, 3) := by decide +kernel
theorem dX12_tellsItem_39 : decode cX12_tellsItem 39 = .ok (.iload_n 1, 1) := by decide +kernel
theorem dX12_tellsItem_40 : decode cX12_tellsItem 40 = .ok (.iaload, 1) := by decide +kernel
theorem dX12_tellsItem_41 : decode cX12_tellsItem 41 = .ok (.tableswitch 103 10 15 #[39, 45, 52, 62, 72, 97], 39) := by decide +kernel
theorem dX12_tellsItem_80 : decode cX12_tellsItem 80 = .ok (.aload_n 0, 1) := by decide +kernel
theorem dX12_tellsItem_81 : decode cX12_tellsItem 81 = .ok (.iload_n 2, 1) := by decide +kernel
theorem dX12_tellsItem_82 : decode cX12_tellsItem 82 = .ok (.invokevirtual 329, 3) := by decide +kernel
theorem dX12_tellsItem_85 : decode cX12_tellsItem 85 = .ok (.ireturn, 1) := by decide +kernel
theorem dX12_tellsItem_86 : decode cX12_tellsItem 86 = .ok (.aload_n 0, 1) := by decide +kernel
theorem dX12_tellsItem_87 : decode cX12_tellsItem 87 = .ok (.iload_n 2, 1) := by decide +kernel
theorem dX12_tellsItem_88 : decode cX12_tellsItem 88 = .ok (.iload_n 3, 1) := by decide +kernel
theorem dX12_tellsItem_89 : decode cX12_tellsItem 89 = .ok (.invokevirtual 332, 3) := by decide +kernel
theorem dX12_tellsItem_92 : decode cX12_tellsItem 92 = .ok (.ireturn, 1) := by decide +kernel
theorem dX12_tellsItem_93 : decode cX12_tellsItem 93 = .ok (.aload_n 0, 1) := by decide +kernel
theorem dX12_tellsItem_94 : decode cX12_tellsItem 94 = .ok (.iload_n 2, 1) := by decide +kernel
theorem dX12_tellsItem_95 : decode cX12_tellsItem 95 = .ok (.iconst 0, 1) := by decide +kernel
theorem dX12_tellsItem_96 : decode cX12_tellsItem 96 = .ok (.iload_n 3, 1) := by decide +kernel
theorem dX12_tellsItem_97 : decode cX12_tellsItem 97 = .ok (.iload 4, 2) := by decide +kernel
theorem dX12_tellsItem_99 : decode cX12_tellsItem 99 = .ok (.invokevirtual 335, 3) := by decide +kernel
theorem dX12_tellsItem_102 : decode cX12_tellsItem 102 = .ok (.ireturn, 1) := by decide +kernel
theorem dX12_tellsItem_103 : decode cX12_tellsItem 103 = .ok (.aload_n 0, 1) := by decide +kernel
theorem dX12_tellsItem_104 : decode cX12_tellsItem 104 = .ok (.iload_n 2, 1) := by decide +kernel
theorem dX12_tellsItem_105 : decode cX12_tellsItem 105 = .ok (.iconst 1, 1) := by decide +kernel
theorem dX12_tellsItem_106 : decode cX12_tellsItem 106 = .ok (.iload_n 3, 1) := by decide +kernel
theorem dX12_tellsItem_107 : decode cX12_tellsItem 107 = .ok (.iload 4, 2) := by decide +kernel
theorem dX12_tellsItem_109 : decode cX12_tellsItem 109 = .ok (.invokevirtual 335, 3) := by decide +kernel
theorem dX12_tellsItem_112 : decode cX12_tellsItem 112 = .ok (.ireturn, 1) := by decide +kernel
theorem dX12_tellsItem_113 : decode cX12_tellsItem 113 = .ok (.aload_n 0, 1) := by decide +kernel
theorem dX12_tellsItem_114 : decode cX12_tellsItem 114 = .ok (.iconst 0, 1) := by decide +kernel
theorem dX12_tellsItem_115 : decode cX12_tellsItem 115 = .ok (.iload_n 2, 1) := by decide +kernel
theorem dX12_tellsItem_116 : decode cX12_tellsItem 116 = .ok (.invokevirtual 339, 3) := by decide +kernel
theorem dX12_tellsItem_119 : decode cX12_tellsItem 119 = .ok (.ifCond .lt 12, 3) := by decide +kernel
theorem dX12_tellsItem_122 : decode cX12_tellsItem 122 = .ok (.aload_n 0, 1) := by decide +kernel
theorem dX12_tellsItem_123 : decode cX12_tellsItem 123 = .ok (.iconst 1, 1) := by decide +kernel
theorem dX12_tellsItem_124 : decode cX12_tellsItem 124 = .ok (.iload_n 3, 1) := by decide +kernel
theorem dX12_tellsItem_125 : decode cX12_tellsItem 125 = .ok (.invokevirtual 339, 3) := by decide +kernel
theorem dX12_tellsItem_128 : decode cX12_tellsItem 128 = .ok (.ifCond .ge 8, 3) := by decide +kernel
theorem dX12_tellsItem_131 : decode cX12_tellsItem 131 = .ok (.bipush (-2), 2) := by decide +kernel
theorem dX12_tellsItem_133 : decode cX12_tellsItem 133 = .ok (.goto 4, 3) := by decide +kernel
theorem dX12_tellsItem_136 : decode cX12_tellsItem 136 = .ok (.iconst 0, 1) := by decide +kernel
theorem dX12_tellsItem_137 : decode cX12_tellsItem 137 = .ok (.ireturn, 1) := by decide +kernel
theorem dX12_tellsItem_138 : decode cX12_tellsItem 138 = .ok (.aload_n 0, 1) := by decide +kernel
theorem dX12_tellsItem_139 : decode cX12_tellsItem 139 = .ok (.iload_n 1, 1) := by decide +kernel
theorem dX12_tellsItem_140 : decode cX12_tellsItem 140 = .ok (.invokevirtual 342, 3) := by decide +kernel
theorem dX12_tellsItem_143 : decode cX12_tellsItem 143 = .ok (.ireturn, 1) := by decide +kernel
theorem dX12_tellsItem_144 : decode cX12_tellsItem 144 = .ok (.aload_n 0, 1) := by decide +kernel
theorem dX12_tellsItem_145 : decode cX12_tellsItem 145 = .ok (.iload_n 2, 1) := by decide +kernel
theorem dX12_tellsItem_146 : decode cX12_tellsItem 146 = .ok (.iload_n 3, 1) := by decide +kernel
theorem dX12_tellsItem_147 : decode cX12_tellsItem 147 = .ok (.invokevirtual 345, 3) := by decide +kernel
theorem dX12_tellsItem_150 : decode cX12_tellsItem 150 = .ok (.ireturn, 1) := by decide +kernel
theorem dX12_shed_0 : decode cX12_shed 0 = .ok (.aload_n 0, 1) := by decide +kernel
theorem dX12_shed_1 : decode cX12_shed 1 = .ok (.invokevirtual 348, 3) := by decide +kernel
theorem dX12_shed_4 : decode cX12_shed 4 = .ok (.ifCond .ne 11, 3) := by decide +kernel
theorem dX12_shed_7 : decode cX12_shed 7 = .ok (.bipush (-10), 2) := by decide +kernel
theorem dX12_shed_9 : decode cX12_shed 9 = .ok (.aload_n 0, 1) := by decide +kernel
theorem dX12_shed_10 : decode cX12_shed 10 = .ok (.getfield 297, 3) := by decide +kernel
theorem dX12_shed_13 : decode cX12_shed 13 = .ok (.isub, 1) := by decide +kernel
theorem dX12_shed_14 : decode cX12_shed 14 = .ok (.ireturn, 1) := by decide +kernel
theorem dX12_shed_15 : decode cX12_shed 15 = .ok (.iconst 0, 1) := by decide +kernel
theorem dX12_shed_16 : decode cX12_shed 16 = .ok (.istore_n 1, 1) := by decide +kernel
theorem dX12_shed_17 : decode cX12_shed 17 = .ok (.iload_n 1, 1) := by decide +kernel
theorem dX12_shed_18 : decode cX12_shed 18 = .ok (.sipush 240, 3) := by decide +kernel
theorem dX12_shed_21 : decode cX12_shed 21 = .ok (.if_icmp .ge 21, 3) := by decide +kernel
theorem dX12_shed_24 : decode cX12_shed 24 = .ok (.aload_n 0, 1) := by decide +kernel
theorem dX12_shed_25 : decode cX12_shed 25 = .ok (.getfield 20, 3) := by decide +kernel
theorem dX12_shed_28 : decode cX12_shed 28 = .ok (.iload_n 1, 1) := by decide +kernel
theorem dX12_shed_29 : decode cX12_shed 29 = .ok (.aload_n 0, 1) := by decide +kernel
theorem dX12_shed_30 : decode cX12_shed 30 = .ok (.getfield 7, 3) := by decide +kernel
theorem dX12_shed_33 : decode cX12_shed 33 = .ok (.iload_n 1, 1) := by decide +kernel
theorem dX12_shed_34 : decode cX12_shed 34 = .ok (.iaload, 1) := by decide +kernel
theorem dX12_shed_35 : decode cX12_shed 35 = .ok (.iastore, 1) := by decide +kernel
theorem dX12_shed_36 : decode cX12_shed 36 = .ok (.iinc 1 1, 3) := by decide +kernel
theorem dX12_shed_39 : decode cX12_shed 39 = .ok (.goto (-22), 3) := by decide +kernel
theorem dX12_shed_42 : decode cX12_shed 42 = .ok (.aload_n 0, 1) := by decide +kernel
theorem dX12_shed_43 : decode cX12_shed 43 = .ok (.invokevirtual 71, 3) := by decide +kernel
theorem dX12_shed_46 : decode cX12_shed 46 = .ok (.iconst 0, 1) := by decide +kernel
theorem dX12_shed_47 : decode cX12_shed 47 = .ok (.istore_n 1, 1) := by decide +kernel
theorem dX12_shed_48 : decode cX12_shed 48 = .ok (.iload_n 1, 1) := by decide +kernel
theorem dX12_shed_49 : decode cX12_shed 49 = .ok (.aload_n 0, 1) := by decide +kernel
theorem dX12_shed_50 : decode cX12_shed 50 = .ok (.getfield 317, 3) := by decide +kernel
theorem dX12_shed_53 : decode cX12_shed 53 = .ok (.if_icmp .ge 50, 3) := by decide +kernel
theorem dX12_shed_56 : decode cX12_shed 56 = .ok (.aload_n 0, 1) := by decide +kernel
theorem dX12_shed_57 : decode cX12_shed 57 = .ok (.iload_n 1, 1) := by decide +kernel
theorem dX12_shed_58 : decode cX12_shed 58 = .ok (.invokevirtual 352, 3) := by decide +kernel
theorem dX12_shed_61 : decode cX12_shed 61 = .ok (.ifCond .ge 36, 3) := by decide +kernel
theorem dX12_shed_64 : decode cX12_shed 64 = .ok (.iconst 0, 1) := by decide +kernel
theorem dX12_shed_65 : decode cX12_shed 65 = .ok (.istore_n 2, 1) := by decide +kernel
theorem dX12_shed_66 : decode cX12_shed 66 = .ok (.iload_n 2, 1) := by decide +kernel
theorem dX12_shed_67 : decode cX12_shed 67 = .ok (.sipush 240, 3) := by decide +kernel
theorem dX12_shed_70 : decode cX12_shed 70 = .ok (.if_icmp .ge 21, 3) := by decide +kernel
theorem dX12_shed_73 : decode cX12_shed 73 = .ok (.aload_n 0, 1) := by decide +kernel
theorem dX12_shed_74 : decode cX12_shed 74 = .ok (.getfield 7, 3) := by decide +kernel
theorem dX12_shed_77 : decode cX12_shed 77 = .ok (.iload_n 2, 1) := by decide +kernel
theorem dX12_shed_78 : decode cX12_shed 78 = .ok (.aload_n 0, 1) := by decide +kernel
theorem dX12_shed_79 : decode cX12_shed 79 = .ok (.getfield 20, 3) := by decide +kernel
theorem dX12_shed_82 : decode cX12_shed 82 = .ok (.iload_n 2, 1) := by decide +kernel
theorem dX12_shed_83 : decode cX12_shed 83 = .ok (.iaload, 1) := by decide +kernel
theorem dX12_shed_84 : decode cX12_shed 84 = .ok (.iastore, 1) := by decide +kernel
theorem dX12_shed_85 : decode cX12_shed 85 = .ok (.iinc 2 1, 3) := by decide +kernel
theorem dX12_shed_88 : decode cX12_shed 88 = .ok (.goto (-22), 3) := by decide +kernel
theorem dX12_shed_91 : decode cX12_shed 91 = .ok (.sipush (-1000), 3) := by decide +kernel
theorem dX12_shed_94 : decode cX12_shed 94 = .ok (.iload_n 1, 1) := by decide +kernel
theorem dX12_shed_95 : decode cX12_shed 95 = .ok (.isub, 1) := by decide +kernel
theorem dX12_shed_96 : decode cX12_shed 96 = .ok (.ireturn, 1) := by decide +kernel
theorem dX12_shed_97 : decode cX12_shed 97 = .ok (.iinc 1 1, 3) := by decide +kernel
theorem dX12_shed_100 : decode cX12_shed 100 = .ok (.goto (-52), 3) := by decide +kernel
theorem dX12_shed_103 : decode cX12_shed 103 = .ok (.aload_n 0, 1) := by decide +kernel
theorem dX12_shed_104 : decode cX12_shed 104 = .ok (.getfield 317, 3) := by decide +kernel
theorem dX12_shed_107 : decode cX12_shed 107 = .ok (.ireturn, 1) := by decide +kernel
theorem dX12_image_0 : decode cX12_image 0 = .ok (.iload_n 1, 1) := by decide +kernel
theorem dX12_image_1 : decode cX12_image 1 = .ok (.i2l, 1) := by decide +kernel
theorem dX12_image_2 : decode cX12_image 2 = .ok (.lconst 0, 1) := by decide +kernel
theorem dX12_image_3 : decode cX12_image 3 = .ok (.lconst 1, 1) := by decide +kernel
theorem dX12_image_4 : decode cX12_image 4 = .ok (.invokestatic 109, 3) := by decide +kernel
theorem dX12_image_7 : decode cX12_image 7 = .ok (.ifCond .ne 6, 3) := by decide +kernel
theorem dX12_image_10 : decode cX12_image 10 = .ok (.bipush (-2), 2) := by decide +kernel
theorem dX12_image_12 : decode cX12_image 12 = .ok (.ireturn, 1) := by decide +kernel
theorem dX12_image_13 : decode cX12_image 13 = .ok (.iconst 0, 1) := by decide +kernel
theorem dX12_image_14 : decode cX12_image 14 = .ok (.istore_n 2, 1) := by decide +kernel
theorem dX12_image_15 : decode cX12_image 15 = .ok (.iload_n 2, 1) := by decide +kernel
theorem dX12_image_16 : decode cX12_image 16 = .ok (.sipush 240, 3) := by decide +kernel
theorem dX12_image_19 : decode cX12_image 19 = .ok (.if_icmp .ge 27, 3) := by decide +kernel
theorem dX12_image_22 : decode cX12_image 22 = .ok (.aload_n 0, 1) := by decide +kernel
theorem dX12_image_23 : decode cX12_image 23 = .ok (.getfield 13, 3) := by decide +kernel
theorem dX12_image_26 : decode cX12_image 26 = .ok (.sipush 240, 3) := by decide +kernel
theorem dX12_image_29 : decode cX12_image 29 = .ok (.iload_n 1, 1) := by decide +kernel
theorem dX12_image_30 : decode cX12_image 30 = .ok (.imul, 1) := by decide +kernel
theorem dX12_image_31 : decode cX12_image 31 = .ok (.iload_n 2, 1) := by decide +kernel
theorem dX12_image_32 : decode cX12_image 32 = .ok (.iadd, 1) := by decide +kernel
theorem dX12_image_33 : decode cX12_image 33 = .ok (.aload_n 0, 1) := by decide +kernel
theorem dX12_image_34 : decode cX12_image 34 = .ok (.getfield 7, 3) := by decide +kernel
theorem dX12_image_37 : decode cX12_image 37 = .ok (.iload_n 2, 1) := by decide +kernel
theorem dX12_image_38 : decode cX12_image 38 = .ok (.iaload, 1) := by decide +kernel
theorem dX12_image_39 : decode cX12_image 39 = .ok (.iastore, 1) := by decide +kernel
theorem dX12_image_40 : decode cX12_image 40 = .ok (.iinc 2 1, 3) := by decide +kernel
theorem dX12_image_43 : decode cX12_image 43 = .ok (.goto (-28), 3) := by decide +kernel
theorem dX12_image_46 : decode cX12_image 46 = .ok (.aload_n 0, 1) := by decide +kernel
theorem dX12_image_47 : decode cX12_image 47 = .ok (.getfield 16, 3) := by decide +kernel
theorem dX12_image_50 : decode cX12_image 50 = .ok (.iload_n 1, 1) := by decide +kernel
theorem dX12_image_51 : decode cX12_image 51 = .ok (.iconst 1, 1) := by decide +kernel
theorem dX12_image_52 : decode cX12_image 52 = .ok (.bastore, 1) := by decide +kernel
theorem dX12_image_53 : decode cX12_image 53 = .ok (.iconst 1, 1) := by decide +kernel
theorem dX12_image_54 : decode cX12_image 54 = .ok (.ireturn, 1) := by decide +kernel
theorem dX12_from_0 : decode cX12_from 0 = .ok (.iload_n 1, 1) := by decide +kernel
theorem dX12_from_1 : decode cX12_from 1 = .ok (.i2l, 1) := by decide +kernel
theorem dX12_from_2 : decode cX12_from 2 = .ok (.lconst 0, 1) := by decide +kernel
theorem dX12_from_3 : decode cX12_from 3 = .ok (.lconst 1, 1) := by decide +kernel
theorem dX12_from_4 : decode cX12_from 4 = .ok (.invokestatic 109, 3) := by decide +kernel
theorem dX12_from_7 : decode cX12_from 7 = .ok (.ifCond .ne 6, 3) := by decide +kernel
theorem dX12_from_10 : decode cX12_from 10 = .ok (.bipush (-2), 2) := by decide +kernel
theorem dX12_from_12 : decode cX12_from 12 = .ok (.ireturn, 1) := by decide +kernel
theorem dX12_from_13 : decode cX12_from 13 = .ok (.aload_n 0, 1) := by decide +kernel
theorem dX12_from_14 : decode cX12_from 14 = .ok (.getfield 16, 3) := by decide +kernel
theorem dX12_from_17 : decode cX12_from 17 = .ok (.iload_n 1, 1) := by decide +kernel
theorem dX12_from_18 : decode cX12_from 18 = .ok (.baload, 1) := by decide +kernel
theorem dX12_from_19 : decode cX12_from 19 = .ok (.ifCond .ne 6, 3) := by decide +kernel
theorem dX12_from_22 : decode cX12_from 22 = .ok (.bipush (-3), 2) := by decide +kernel
theorem dX12_from_24 : decode cX12_from 24 = .ok (.ireturn, 1) := by decide +kernel
theorem dX12_from_25 : decode cX12_from 25 = .ok (.iconst 0, 1) := by decide +kernel
theorem dX12_from_26 : decode cX12_from 26 = .ok (.istore_n 2, 1) := by decide +kernel
theorem dX12_from_27 : decode cX12_from 27 = .ok (.iload_n 2, 1) := by decide +kernel
theorem dX12_from_28 : decode cX12_from 28 = .ok (.sipush 240, 3) := by decide +kernel
theorem dX12_from_31 : decode cX12_from 31 = .ok (.if_icmp .ge 27, 3) := by decide +kernel
theorem dX12_from_34 : decode cX12_from 34 = .ok (.aload_n 0, 1) := by decide +kernel
theorem dX12_from_35 : decode cX12_from 35 = .ok (.getfield 7, 3) := by decide +kernel
theorem dX12_from_38 : decode cX12_from 38 = .ok (.iload_n 2, 1) := by decide +kernel
theorem dX12_from_39 : decode cX12_from 39 = .ok (.aload_n 0, 1) := by decide +kernel
theorem dX12_from_40 : decode cX12_from 40 = .ok (.getfield 13, 3) := by decide +kernel
theorem dX12_from_43 : decode cX12_from 43 = .ok (.sipush 240, 3) := by decide +kernel
theorem dX12_from_46 : decode cX12_from 46 = .ok (.iload_n 1, 1) := by decide +kernel
theorem dX12_from_47 : decode cX12_from 47 = .ok (.imul, 1) := by decide +kernel
theorem dX12_from_48 : decode cX12_from 48 = .ok (.iload_n 2, 1) := by decide +kernel
theorem dX12_from_49 : decode cX12_from 49 = .ok (.iadd, 1) := by decide +kernel
theorem dX12_from_50 : decode cX12_from 50 = .ok (.iaload, 1) := by decide +kernel
theorem dX12_from_51 : decode cX12_from 51 = .ok (.iastore, 1) := by decide +kernel
theorem dX12_from_52 : decode cX12_from 52 = .ok (.iinc 2 1, 3) := by decide +kernel
theorem dX12_from_55 : decode cX12_from 55 = .ok (.goto (-28), 3) := by decide +kernel
theorem dX12_from_58 : decode cX12_from 58 = .ok (.iconst 1, 1) := by decide +kernel
theorem dX12_from_59 : decode cX12_from 59 = .ok (.ireturn, 1) := by decide +kernel
theorem dX12_countOf_0 : decode cX12_countOf 0 = .ok (.iload_n 1, 1) := by decide +kernel
theorem dX12_countOf_1 : decode cX12_countOf 1 = .ok (.iconst 5, 1) := by decide +kernel
theorem dX12_countOf_2 : decode cX12_countOf 2 = .ok (.if_icmp .ge 12, 3) := by decide +kernel
theorem dX12_countOf_5 : decode cX12_countOf 5 = .ok (.aload_n 0, 1) := by decide +kernel
theorem dX12_countOf_6 : decode cX12_countOf 6 = .ok (.getfield 7, 3) := by decide +kernel
theorem dX12_countOf_9 : decode cX12_countOf 9 = .ok (.iload_n 1, 1) := by decide +kernel
theorem dX12_countOf_10 : decode cX12_countOf 10 = .ok (.iaload, 1) := by decide +kernel
theorem dX12_countOf_11 : decode cX12_countOf 11 = .ok (.goto 7, 3) := by decide +kernel
theorem dX12_countOf_14 : decode cX12_countOf 14 = .ok (.aload_n 0, 1) := by decide +kernel
theorem dX12_countOf_15 : decode cX12_countOf 15 = .ok (.getfield 271, 3) := by decide +kernel
theorem dX12_countOf_18 : decode cX12_countOf 18 = .ok (.ireturn, 1) := by decide +kernel
theorem dX12_count_0 : decode cX12_count 0 = .ok (.iload_n 1, 1) := by decide +kernel
theorem dX12_count_1 : decode cX12_count 1 = .ok (.i2l, 1) := by decide +kernel
theorem dX12_count_2 : decode cX12_count 2 = .ok (.lconst 0, 1) := by decide +kernel
theorem dX12_count_3 : decode cX12_count 3 = .ok (.ldc2_w 187, 3) := by decide +kernel
theorem dX12_count_6 : decode cX12_count 6 = .ok (.invokestatic 109, 3) := by decide +kernel
theorem dX12_count_9 : decode cX12_count 9 = .ok (.ifCond .eq 11, 3) := by decide +kernel
theorem dX12_count_12 : decode cX12_count 12 = .ok (.aload_n 0, 1) := by decide +kernel
theorem dX12_count_13 : decode cX12_count 13 = .ok (.iload_n 1, 1) := by decide +kernel
theorem dX12_count_14 : decode cX12_count 14 = .ok (.invokevirtual 355, 3) := by decide +kernel
theorem dX12_count_17 : decode cX12_count 17 = .ok (.goto 5, 3) := by decide +kernel
theorem dX12_count_20 : decode cX12_count 20 = .ok (.bipush (-2), 2) := by decide +kernel
theorem dX12_count_22 : decode cX12_count 22 = .ok (.ireturn, 1) := by decide +kernel
theorem dX12_mixed_0 : decode cX12_mixed 0 = .ok (.lload_n 0, 1) := by decide +kernel
theorem dX12_mixed_1 : decode cX12_mixed 1 = .ok (.lstore 5, 2) := by decide +kernel
theorem dX12_mixed_3 : decode cX12_mixed 3 = .ok (.iconst 0, 1) := by decide +kernel
theorem dX12_mixed_4 : decode cX12_mixed 4 = .ok (.istore 7, 2) := by decide +kernel
theorem dX12_mixed_6 : decode cX12_mixed 6 = .ok (.iload 7, 2) := by decide +kernel
theorem dX12_mixed_8 : decode cX12_mixed 8 = .ok (.iload 4, 2) := by decide +kernel
theorem dX12_mixed_10 : decode cX12_mixed 10 = .ok (.if_icmp .ge 25, 3) := by decide +kernel
theorem dX12_mixed_13 : decode cX12_mixed 13 = .ok (.ldc2_w 358, 3) := by decide +kernel
theorem dX12_mixed_16 : decode cX12_mixed 16 = .ok (.lload 5, 2) := by decide +kernel
theorem dX12_mixed_18 : decode cX12_mixed 18 = .ok (.lmul, 1) := by decide +kernel
theorem dX12_mixed_19 : decode cX12_mixed 19 = .ok (.aload_n 2, 1) := by decide +kernel
theorem dX12_mixed_20 : decode cX12_mixed 20 = .ok (.iload_n 3, 1) := by decide +kernel
theorem dX12_mixed_21 : decode cX12_mixed 21 = .ok (.iload 7, 2) := by decide +kernel
theorem dX12_mixed_23 : decode cX12_mixed 23 = .ok (.iadd, 1) := by decide +kernel
theorem dX12_mixed_24 : decode cX12_mixed 24 = .ok (.iaload, 1) := by decide +kernel
theorem dX12_mixed_25 : decode cX12_mixed 25 = .ok (.i2l, 1) := by decide +kernel
theorem dX12_mixed_26 : decode cX12_mixed 26 = .ok (.ladd, 1) := by decide +kernel
theorem dX12_mixed_27 : decode cX12_mixed 27 = .ok (.lstore 5, 2) := by decide +kernel
theorem dX12_mixed_29 : decode cX12_mixed 29 = .ok (.iinc 7 1, 3) := by decide +kernel
theorem dX12_mixed_32 : decode cX12_mixed 32 = .ok (.goto (-26), 3) := by decide +kernel
theorem dX12_mixed_35 : decode cX12_mixed 35 = .ok (.lload 5, 2) := by decide +kernel
theorem dX12_mixed_37 : decode cX12_mixed 37 = .ok (.lreturn, 1) := by decide +kernel
theorem dX12_digest_0 : decode cX12_digest 0 = .ok (.ldc2_w 360, 3) := by decide +kernel
theorem dX12_digest_3 : decode cX12_digest 3 = .ok (.lstore_n 1, 1) := by decide +kernel
theorem dX12_digest_4 : decode cX12_digest 4 = .ok (.iconst 0, 1) := by decide +kernel
theorem dX12_digest_5 : decode cX12_digest 5 = .ok (.istore_n 3, 1) := by decide +kernel
theorem dX12_digest_6 : decode cX12_digest 6 = .ok (.iload_n 3, 1) := by decide +kernel
theorem dX12_digest_7 : decode cX12_digest 7 = .ok (.bipush 6, 2) := by decide +kernel
theorem dX12_digest_9 : decode cX12_digest 9 = .ok (.if_icmp .ge 22, 3) := by decide +kernel
theorem dX12_digest_12 : decode cX12_digest 12 = .ok (.ldc2_w 358, 3) := by decide +kernel
theorem dX12_digest_15 : decode cX12_digest 15 = .ok (.lload_n 1, 1) := by decide +kernel
theorem dX12_digest_16 : decode cX12_digest 16 = .ok (.lmul, 1) := by decide +kernel
theorem dX12_digest_17 : decode cX12_digest 17 = .ok (.aload_n 0, 1) := by decide +kernel
theorem dX12_digest_18 : decode cX12_digest 18 = .ok (.iload_n 3, 1) := by decide +kernel
theorem dX12_digest_19 : decode cX12_digest 19 = .ok (.invokevirtual 355, 3) := by decide +kernel
theorem dX12_digest_22 : decode cX12_digest 22 = .ok (.i2l, 1) := by decide +kernel
theorem dX12_digest_23 : decode cX12_digest 23 = .ok (.ladd, 1) := by decide +kernel
theorem dX12_digest_24 : decode cX12_digest 24 = .ok (.lstore_n 1, 1) := by decide +kernel
theorem dX12_digest_25 : decode cX12_digest 25 = .ok (.iinc 3 1, 3) := by decide +kernel
theorem dX12_digest_28 : decode cX12_digest 28 = .ok (.goto (-22), 3) := by decide +kernel
theorem dX12_digest_31 : decode cX12_digest 31 = .ok (.lload_n 1, 1) := by decide +kernel
theorem dX12_digest_32 : decode cX12_digest 32 = .ok (.aload_n 0, 1) := by decide +kernel
theorem dX12_digest_33 : decode cX12_digest 33 = .ok (.getfield 7, 3) := by decide +kernel
theorem dX12_digest_36 : decode cX12_digest 36 = .ok (.bipush 10, 2) := by decide +kernel
theorem dX12_digest_38 : decode cX12_digest 38 = .ok (.bipush 64, 2) := by decide +kernel
theorem dX12_digest_40 : decode cX12_digest 40 = .ok (.invokestatic 362, 3) := by decide +kernel
theorem dX12_digest_43 : decode cX12_digest 43 = .ok (.lstore_n 1, 1) := by decide +kernel
theorem dX12_digest_44 : decode cX12_digest 44 = .ok (.lload_n 1, 1) := by decide +kernel
theorem dX12_digest_45 : decode cX12_digest 45 = .ok (.aload_n 0, 1) := by decide +kernel
theorem dX12_digest_46 : decode cX12_digest 46 = .ok (.getfield 7, 3) := by decide +kernel
theorem dX12_digest_49 : decode cX12_digest 49 = .ok (.bipush 80, 2) := by decide +kernel
theorem dX12_digest_51 : decode cX12_digest 51 = .ok (.iconst 4, 1) := by decide +kernel
theorem dX12_digest_52 : decode cX12_digest 52 = .ok (.aload_n 0, 1) := by decide +kernel
theorem dX12_digest_53 : decode cX12_digest 53 = .ok (.getfield 7, 3) := by decide +kernel
theorem dX12_digest_56 : decode cX12_digest 56 = .ok (.iconst 1, 1) := by decide +kernel
theorem dX12_digest_57 : decode cX12_digest 57 = .ok (.iaload, 1) := by decide +kernel
theorem dX12_digest_58 : decode cX12_digest 58 = .ok (.imul, 1) := by decide +kernel
theorem dX12_digest_59 : decode cX12_digest 59 = .ok (.invokestatic 362, 3) := by decide +kernel
theorem dX12_digest_62 : decode cX12_digest 62 = .ok (.lstore_n 1, 1) := by decide +kernel
theorem dX12_digest_63 : decode cX12_digest 63 = .ok (.lload_n 1, 1) := by decide +kernel
theorem dX12_digest_64 : decode cX12_digest 64 = .ok (.aload_n 0, 1) := by decide +kernel
theorem dX12_digest_65 : decode cX12_digest 65 = .ok (.getfield 7, 3) := by decide +kernel
theorem dX12_digest_68 : decode cX12_digest 68 = .ok (.bipush 6, 2) := by decide +kernel
theorem dX12_digest_70 : decode cX12_digest 70 = .ok (.iconst 2, 1) := by decide +kernel
theorem dX12_digest_71 : decode cX12_digest 71 = .ok (.invokestatic 362, 3) := by decide +kernel
theorem dX12_digest_74 : decode cX12_digest 74 = .ok (.lstore_n 1, 1) := by decide +kernel
theorem dX12_digest_75 : decode cX12_digest 75 = .ok (.lload_n 1, 1) := by decide +kernel
theorem dX12_digest_76 : decode cX12_digest 76 = .ok (.aload_n 0, 1) := by decide +kernel
theorem dX12_digest_77 : decode cX12_digest 77 = .ok (.getfield 7, 3) := by decide +kernel
theorem dX12_digest_80 : decode cX12_digest 80 = .ok (.bipush 120, 2) := by decide +kernel
theorem dX12_digest_82 : decode cX12_digest 82 = .ok (.iconst 3, 1) := by decide +kernel
theorem dX12_digest_83 : decode cX12_digest 83 = .ok (.aload_n 0, 1) := by decide +kernel
theorem dX12_digest_84 : decode cX12_digest 84 = .ok (.getfield 7, 3) := by decide +kernel
theorem dX12_digest_87 : decode cX12_digest 87 = .ok (.iconst 2, 1) := by decide +kernel
theorem dX12_digest_88 : decode cX12_digest 88 = .ok (.iaload, 1) := by decide +kernel
theorem dX12_digest_89 : decode cX12_digest 89 = .ok (.imul, 1) := by decide +kernel
theorem dX12_digest_90 : decode cX12_digest 90 = .ok (.invokestatic 362, 3) := by decide +kernel
theorem dX12_digest_93 : decode cX12_digest 93 = .ok (.lstore_n 1, 1) := by decide +kernel
theorem dX12_digest_94 : decode cX12_digest 94 = .ok (.lload_n 1, 1) := by decide +kernel
theorem dX12_digest_95 : decode cX12_digest 95 = .ok (.aload_n 0, 1) := by decide +kernel
theorem dX12_digest_96 : decode cX12_digest 96 = .ok (.getfield 7, 3) := by decide +kernel
theorem dX12_digest_99 : decode cX12_digest 99 = .ok (.sipush 150, 3) := by decide +kernel
theorem dX12_digest_102 : decode cX12_digest 102 = .ok (.bipush 6, 2) := by decide +kernel
theorem dX12_digest_104 : decode cX12_digest 104 = .ok (.invokestatic 362, 3) := by decide +kernel
theorem dX12_digest_107 : decode cX12_digest 107 = .ok (.lstore_n 1, 1) := by decide +kernel
theorem dX12_digest_108 : decode cX12_digest 108 = .ok (.lload_n 1, 1) := by decide +kernel
theorem dX12_digest_109 : decode cX12_digest 109 = .ok (.aload_n 0, 1) := by decide +kernel
theorem dX12_digest_110 : decode cX12_digest 110 = .ok (.getfield 7, 3) := by decide +kernel
theorem dX12_digest_113 : decode cX12_digest 113 = .ok (.sipush 160, 3) := by decide +kernel
theorem dX12_digest_116 : decode cX12_digest 116 = .ok (.iconst 3, 1) := by decide +kernel
theorem dX12_digest_117 : decode cX12_digest 117 = .ok (.aload_n 0, 1) := by decide +kernel
theorem dX12_digest_118 : decode cX12_digest 118 = .ok (.getfield 7, 3) := by decide +kernel
theorem dX12_digest_121 : decode cX12_digest 121 = .ok (.iconst 3, 1) := by decide +kernel
theorem dX12_digest_122 : decode cX12_digest 122 = .ok (.iaload, 1) := by decide +kernel
theorem dX12_digest_123 : decode cX12_digest 123 = .ok (.imul, 1) := by decide +kernel
theorem dX12_digest_124 : decode cX12_digest 124 = .ok (.invokestatic 362, 3) := by decide +kernel
theorem dX12_digest_127 : decode cX12_digest 127 = .ok (.lstore_n 1, 1) := by decide +kernel
theorem dX12_digest_128 : decode cX12_digest 128 = .ok (.lload_n 1, 1) := by decide +kernel
theorem dX12_digest_129 : decode cX12_digest 129 = .ok (.aload_n 0, 1) := by decide +kernel
theorem dX12_digest_130 : decode cX12_digest 130 = .ok (.getfield 7, 3) := by decide +kernel
theorem dX12_digest_133 : decode cX12_digest 133 = .ok (.sipush 190, 3) := by decide +kernel
theorem dX12_digest_136 : decode cX12_digest 136 = .ok (.aload_n 0, 1) := by decide +kernel
theorem dX12_digest_137 : decode cX12_digest 137 = .ok (.getfield 7, 3) := by decide +kernel
theorem dX12_digest_140 : decode cX12_digest 140 = .ok (.iconst 4, 1) := by decide +kernel
theorem dX12_digest_141 : decode cX12_digest 141 = .ok (.iaload, 1) := by decide +kernel
theorem dX12_digest_142 : decode cX12_digest 142 = .ok (.invokestatic 362, 3) := by decide +kernel
theorem dX12_digest_145 : decode cX12_digest 145 = .ok (.lstore_n 1, 1) := by decide +kernel
theorem dX12_digest_146 : decode cX12_digest 146 = .ok (.lload_n 1, 1) := by decide +kernel
theorem dX12_digest_147 : decode cX12_digest 147 = .ok (.aload_n 0, 1) := by decide +kernel
theorem dX12_digest_148 : decode cX12_digest 148 = .ok (.getfield 7, 3) := by decide +kernel
theorem dX12_digest_151 : decode cX12_digest 151 = .ok (.bipush 8, 2) := by decide +kernel
theorem dX12_digest_153 : decode cX12_digest 153 = .ok (.iconst 2, 1) := by decide +kernel
theorem dX12_digest_154 : decode cX12_digest 154 = .ok (.invokestatic 362, 3) := by decide +kernel
theorem dX12_digest_157 : decode cX12_digest 157 = .ok (.lstore_n 1, 1) := by decide +kernel
theorem dX12_digest_158 : decode cX12_digest 158 = .ok (.lload_n 1, 1) := by decide +kernel
theorem dX12_digest_159 : decode cX12_digest 159 = .ok (.aload_n 0, 1) := by decide +kernel
theorem dX12_digest_160 : decode cX12_digest 160 = .ok (.getfield 7, 3) := by decide +kernel
theorem dX12_digest_163 : decode cX12_digest 163 = .ok (.sipush 220, 3) := by decide +kernel
theorem dX12_digest_166 : decode cX12_digest 166 = .ok (.bipush 12, 2) := by decide +kernel
theorem dX12_digest_168 : decode cX12_digest 168 = .ok (.invokestatic 362, 3) := by decide +kernel
theorem dX12_digest_171 : decode cX12_digest 171 = .ok (.lstore_n 1, 1) := by decide +kernel
theorem dX12_digest_172 : decode cX12_digest 172 = .ok (.iconst 0, 1) := by decide +kernel
theorem dX12_digest_173 : decode cX12_digest 173 = .ok (.istore_n 3, 1) := by decide +kernel
theorem dX12_digest_174 : decode cX12_digest 174 = .ok (.iload_n 3, 1) := by decide +kernel
theorem dX12_digest_175 : decode cX12_digest 175 = .ok (.iconst 3, 1) := by decide +kernel
theorem dX12_digest_176 : decode cX12_digest 176 = .ok (.if_icmp .ge 22, 3) := by decide +kernel
theorem dX12_digest_179 : decode cX12_digest 179 = .ok (.ldc2_w 358, 3) := by decide +kernel
theorem dX12_digest_182 : decode cX12_digest 182 = .ok (.lload_n 1, 1) := by decide +kernel
theorem dX12_digest_183 : decode cX12_digest 183 = .ok (.lmul, 1) := by decide +kernel
theorem dX12_digest_184 : decode cX12_digest 184 = .ok (.aload_n 0, 1) := by decide +kernel
theorem dX12_digest_185 : decode cX12_digest 185 = .ok (.iload_n 3, 1) := by decide +kernel
theorem dX12_digest_186 : decode cX12_digest 186 = .ok (.invokevirtual 366, 3) := by decide +kernel
theorem dX12_digest_189 : decode cX12_digest 189 = .ok (.i2l, 1) := by decide +kernel
theorem dX12_digest_190 : decode cX12_digest 190 = .ok (.ladd, 1) := by decide +kernel
theorem dX12_digest_191 : decode cX12_digest 191 = .ok (.lstore_n 1, 1) := by decide +kernel
theorem dX12_digest_192 : decode cX12_digest 192 = .ok (.iinc 3 1, 3) := by decide +kernel
theorem dX12_digest_195 : decode cX12_digest 195 = .ok (.goto (-21), 3) := by decide +kernel
theorem dX12_digest_198 : decode cX12_digest 198 = .ok (.lload_n 1, 1) := by decide +kernel
theorem dX12_digest_199 : decode cX12_digest 199 = .ok (.aload_n 0, 1) := by decide +kernel
theorem dX12_digest_200 : decode cX12_digest 200 = .ok (.getfield 23, 3) := by decide +kernel
theorem dX12_digest_203 : decode cX12_digest 203 = .ok (.iconst 0, 1) := by decide +kernel
theorem dX12_digest_204 : decode cX12_digest 204 = .ok (.aload_n 0, 1) := by decide +kernel
theorem dX12_digest_205 : decode cX12_digest 205 = .ok (.getfield 26, 3) := by decide +kernel
theorem dX12_digest_208 : decode cX12_digest 208 = .ok (.iconst 0, 1) := by decide +kernel
theorem dX12_digest_209 : decode cX12_digest 209 = .ok (.iaload, 1) := by decide +kernel
theorem dX12_digest_210 : decode cX12_digest 210 = .ok (.invokestatic 362, 3) := by decide +kernel
theorem dX12_digest_213 : decode cX12_digest 213 = .ok (.lstore_n 1, 1) := by decide +kernel
theorem dX12_digest_214 : decode cX12_digest 214 = .ok (.lload_n 1, 1) := by decide +kernel
theorem dX12_digest_215 : decode cX12_digest 215 = .ok (.aload_n 0, 1) := by decide +kernel
theorem dX12_digest_216 : decode cX12_digest 216 = .ok (.getfield 23, 3) := by decide +kernel
theorem dX12_digest_219 : decode cX12_digest 219 = .ok (.bipush 60, 2) := by decide +kernel
theorem dX12_digest_221 : decode cX12_digest 221 = .ok (.aload_n 0, 1) := by decide +kernel
theorem dX12_digest_222 : decode cX12_digest 222 = .ok (.getfield 26, 3) := by decide +kernel
theorem dX12_digest_225 : decode cX12_digest 225 = .ok (.iconst 1, 1) := by decide +kernel
theorem dX12_digest_226 : decode cX12_digest 226 = .ok (.iaload, 1) := by decide +kernel
theorem dX12_digest_227 : decode cX12_digest 227 = .ok (.invokestatic 362, 3) := by decide +kernel
theorem dX12_digest_230 : decode cX12_digest 230 = .ok (.lreturn, 1) := by decide +kernel
theorem dJ6_bitCount_0f7a4_0 : decode cJ6_bitCount_0f7a4 0 = .ok (.iload_n 0, 1) := by decide +kernel
theorem dJ6_bitCount_0f7a4_1 : decode cJ6_bitCount_0f7a4 1 = .ok (.iload_n 0, 1) := by decide +kernel
theorem dJ6_bitCount_0f7a4_2 : decode cJ6_bitCount_0f7a4 2 = .ok (.iconst 1, 1) := by decide +kernel
theorem dJ6_bitCount_0f7a4_3 : decode cJ6_bitCount_0f7a4 3 = .ok (.iushr, 1) := by decide +kernel
theorem dJ6_bitCount_0f7a4_4 : decode cJ6_bitCount_0f7a4 4 = .ok (.ldc_w 265, 3) := by decide +kernel
theorem dJ6_bitCount_0f7a4_7 : decode cJ6_bitCount_0f7a4 7 = .ok (.iand, 1) := by decide +kernel
theorem dJ6_bitCount_0f7a4_8 : decode cJ6_bitCount_0f7a4 8 = .ok (.isub, 1) := by decide +kernel
theorem dJ6_bitCount_0f7a4_9 : decode cJ6_bitCount_0f7a4 9 = .ok (.istore_n 0, 1) := by decide +kernel
theorem dJ6_bitCount_0f7a4_10 : decode cJ6_bitCount_0f7a4 10 = .ok (.iload_n 0, 1) := by decide +kernel
theorem dJ6_bitCount_0f7a4_11 : decode cJ6_bitCount_0f7a4 11 = .ok (.ldc_w 266, 3) := by decide +kernel
theorem dJ6_bitCount_0f7a4_14 : decode cJ6_bitCount_0f7a4 14 = .ok (.iand, 1) := by decide +kernel
theorem dJ6_bitCount_0f7a4_15 : decode cJ6_bitCount_0f7a4 15 = .ok (.iload_n 0, 1) := by decide +kernel
theorem dJ6_bitCount_0f7a4_16 : decode cJ6_bitCount_0f7a4 16 = .ok (.iconst 2, 1) := by decide +kernel
theorem dJ6_bitCount_0f7a4_17 : decode cJ6_bitCount_0f7a4 17 = .ok (.iushr, 1) := by decide +kernel
theorem dJ6_bitCount_0f7a4_18 : decode cJ6_bitCount_0f7a4 18 = .ok (.ldc_w 266, 3) := by decide +kernel
theorem dJ6_bitCount_0f7a4_21 : decode cJ6_bitCount_0f7a4 21 = .ok (.iand, 1) := by decide +kernel
theorem dJ6_bitCount_0f7a4_22 : decode cJ6_bitCount_0f7a4 22 = .ok (.iadd, 1) := by decide +kernel
theorem dJ6_bitCount_0f7a4_23 : decode cJ6_bitCount_0f7a4 23 = .ok (.istore_n 0, 1) := by decide +kernel
theorem dJ6_bitCount_0f7a4_24 : decode cJ6_bitCount_0f7a4 24 = .ok (.iload_n 0, 1) := by decide +kernel
theorem dJ6_bitCount_0f7a4_25 : decode cJ6_bitCount_0f7a4 25 = .ok (.iload_n 0, 1) := by decide +kernel
theorem dJ6_bitCount_0f7a4_26 : decode cJ6_bitCount_0f7a4 26 = .ok (.iconst 4, 1) := by decide +kernel
theorem dJ6_bitCount_0f7a4_27 : decode cJ6_bitCount_0f7a4 27 = .ok (.iushr, 1) := by decide +kernel
theorem dJ6_bitCount_0f7a4_28 : decode cJ6_bitCount_0f7a4 28 = .ok (.iadd, 1) := by decide +kernel
theorem dJ6_bitCount_0f7a4_29 : decode cJ6_bitCount_0f7a4 29 = .ok (.ldc_w 267, 3) := by decide +kernel
theorem dJ6_bitCount_0f7a4_32 : decode cJ6_bitCount_0f7a4 32 = .ok (.iand, 1) := by decide +kernel
theorem dJ6_bitCount_0f7a4_33 : decode cJ6_bitCount_0f7a4 33 = .ok (.istore_n 0, 1) := by decide +kernel
theorem dJ6_bitCount_0f7a4_34 : decode cJ6_bitCount_0f7a4 34 = .ok (.iload_n 0, 1) := by decide +kernel
theorem dJ6_bitCount_0f7a4_35 : decode cJ6_bitCount_0f7a4 35 = .ok (.iload_n 0, 1) := by decide +kernel
theorem dJ6_bitCount_0f7a4_36 : decode cJ6_bitCount_0f7a4 36 = .ok (.bipush 8, 2) := by decide +kernel
theorem dJ6_bitCount_0f7a4_38 : decode cJ6_bitCount_0f7a4 38 = .ok (.iushr, 1) := by decide +kernel
theorem dJ6_bitCount_0f7a4_39 : decode cJ6_bitCount_0f7a4 39 = .ok (.iadd, 1) := by decide +kernel
theorem dJ6_bitCount_0f7a4_40 : decode cJ6_bitCount_0f7a4 40 = .ok (.istore_n 0, 1) := by decide +kernel
theorem dJ6_bitCount_0f7a4_41 : decode cJ6_bitCount_0f7a4 41 = .ok (.iload_n 0, 1) := by decide +kernel
theorem dJ6_bitCount_0f7a4_42 : decode cJ6_bitCount_0f7a4 42 = .ok (.iload_n 0, 1) := by decide +kernel
theorem dJ6_bitCount_0f7a4_43 : decode cJ6_bitCount_0f7a4 43 = .ok (.bipush 16, 2) := by decide +kernel
theorem dJ6_bitCount_0f7a4_45 : decode cJ6_bitCount_0f7a4 45 = .ok (.iushr, 1) := by decide +kernel
theorem dJ6_bitCount_0f7a4_46 : decode cJ6_bitCount_0f7a4 46 = .ok (.iadd, 1) := by decide +kernel
theorem dJ6_bitCount_0f7a4_47 : decode cJ6_bitCount_0f7a4 47 = .ok (.istore_n 0, 1) := by decide +kernel
theorem dJ6_bitCount_0f7a4_48 : decode cJ6_bitCount_0f7a4 48 = .ok (.iload_n 0, 1) := by decide +kernel
theorem dJ6_bitCount_0f7a4_49 : decode cJ6_bitCount_0f7a4 49 = .ok (.bipush 63, 2) := by decide +kernel
theorem dJ6_bitCount_0f7a4_51 : decode cJ6_bitCount_0f7a4 51 = .ok (.iand, 1) := by decide +kernel
theorem dJ6_bitCount_0f7a4_52 : decode cJ6_bitCount_0f7a4 52 = .ok (.ireturn, 1) := by decide +kernel
theorem dJ13_bitCount_95d88_0 : decode cJ13_bitCount_95d88 0 = .ok (.lload_n 0, 1) := by decide +kernel
theorem dJ13_bitCount_95d88_1 : decode cJ13_bitCount_95d88 1 = .ok (.lload_n 0, 1) := by decide +kernel
theorem dJ13_bitCount_95d88_2 : decode cJ13_bitCount_95d88 2 = .ok (.iconst 1, 1) := by decide +kernel
theorem dJ13_bitCount_95d88_3 : decode cJ13_bitCount_95d88 3 = .ok (.lushr, 1) := by decide +kernel
theorem dJ13_bitCount_95d88_4 : decode cJ13_bitCount_95d88 4 = .ok (.ldc2_w 314, 3) := by decide +kernel
theorem dJ13_bitCount_95d88_7 : decode cJ13_bitCount_95d88 7 = .ok (.land, 1) := by decide +kernel
theorem dJ13_bitCount_95d88_8 : decode cJ13_bitCount_95d88 8 = .ok (.lsub, 1) := by decide +kernel
theorem dJ13_bitCount_95d88_9 : decode cJ13_bitCount_95d88 9 = .ok (.lstore_n 0, 1) := by decide +kernel
theorem dJ13_bitCount_95d88_10 : decode cJ13_bitCount_95d88 10 = .ok (.lload_n 0, 1) := by decide +kernel
theorem dJ13_bitCount_95d88_11 : decode cJ13_bitCount_95d88 11 = .ok (.ldc2_w 316, 3) := by decide +kernel
theorem dJ13_bitCount_95d88_14 : decode cJ13_bitCount_95d88 14 = .ok (.land, 1) := by decide +kernel
theorem dJ13_bitCount_95d88_15 : decode cJ13_bitCount_95d88 15 = .ok (.lload_n 0, 1) := by decide +kernel
theorem dJ13_bitCount_95d88_16 : decode cJ13_bitCount_95d88 16 = .ok (.iconst 2, 1) := by decide +kernel
theorem dJ13_bitCount_95d88_17 : decode cJ13_bitCount_95d88 17 = .ok (.lushr, 1) := by decide +kernel
theorem dJ13_bitCount_95d88_18 : decode cJ13_bitCount_95d88 18 = .ok (.ldc2_w 316, 3) := by decide +kernel
theorem dJ13_bitCount_95d88_21 : decode cJ13_bitCount_95d88 21 = .ok (.land, 1) := by decide +kernel
theorem dJ13_bitCount_95d88_22 : decode cJ13_bitCount_95d88 22 = .ok (.ladd, 1) := by decide +kernel
theorem dJ13_bitCount_95d88_23 : decode cJ13_bitCount_95d88 23 = .ok (.lstore_n 0, 1) := by decide +kernel
theorem dJ13_bitCount_95d88_24 : decode cJ13_bitCount_95d88 24 = .ok (.lload_n 0, 1) := by decide +kernel
theorem dJ13_bitCount_95d88_25 : decode cJ13_bitCount_95d88 25 = .ok (.lload_n 0, 1) := by decide +kernel
theorem dJ13_bitCount_95d88_26 : decode cJ13_bitCount_95d88 26 = .ok (.iconst 4, 1) := by decide +kernel
theorem dJ13_bitCount_95d88_27 : decode cJ13_bitCount_95d88 27 = .ok (.lushr, 1) := by decide +kernel
theorem dJ13_bitCount_95d88_28 : decode cJ13_bitCount_95d88 28 = .ok (.ladd, 1) := by decide +kernel
theorem dJ13_bitCount_95d88_29 : decode cJ13_bitCount_95d88 29 = .ok (.ldc2_w 318, 3) := by decide +kernel
theorem dJ13_bitCount_95d88_32 : decode cJ13_bitCount_95d88 32 = .ok (.land, 1) := by decide +kernel
theorem dJ13_bitCount_95d88_33 : decode cJ13_bitCount_95d88 33 = .ok (.lstore_n 0, 1) := by decide +kernel
theorem dJ13_bitCount_95d88_34 : decode cJ13_bitCount_95d88 34 = .ok (.lload_n 0, 1) := by decide +kernel
theorem dJ13_bitCount_95d88_35 : decode cJ13_bitCount_95d88 35 = .ok (.lload_n 0, 1) := by decide +kernel
theorem dJ13_bitCount_95d88_36 : decode cJ13_bitCount_95d88 36 = .ok (.bipush 8, 2) := by decide +kernel
theorem dJ13_bitCount_95d88_38 : decode cJ13_bitCount_95d88 38 = .ok (.lushr, 1) := by decide +kernel
theorem dJ13_bitCount_95d88_39 : decode cJ13_bitCount_95d88 39 = .ok (.ladd, 1) := by decide +kernel
theorem dJ13_bitCount_95d88_40 : decode cJ13_bitCount_95d88 40 = .ok (.lstore_n 0, 1) := by decide +kernel
theorem dJ13_bitCount_95d88_41 : decode cJ13_bitCount_95d88 41 = .ok (.lload_n 0, 1) := by decide +kernel
theorem dJ13_bitCount_95d88_42 : decode cJ13_bitCount_95d88 42 = .ok (.lload_n 0, 1) := by decide +kernel
theorem dJ13_bitCount_95d88_43 : decode cJ13_bitCount_95d88 43 = .ok (.bipush 16, 2) := by decide +kernel
theorem dJ13_bitCount_95d88_45 : decode cJ13_bitCount_95d88 45 = .ok (.lushr, 1) := by decide +kernel
theorem dJ13_bitCount_95d88_46 : decode cJ13_bitCount_95d88 46 = .ok (.ladd, 1) := by decide +kernel
theorem dJ13_bitCount_95d88_47 : decode cJ13_bitCount_95d88 47 = .ok (.lstore_n 0, 1) := by decide +kernel
theorem dJ13_bitCount_95d88_48 : decode cJ13_bitCount_95d88 48 = .ok (.lload_n 0, 1) := by decide +kernel
theorem dJ13_bitCount_95d88_49 : decode cJ13_bitCount_95d88 49 = .ok (.lload_n 0, 1) := by decide +kernel
theorem dJ13_bitCount_95d88_50 : decode cJ13_bitCount_95d88 50 = .ok (.bipush 32, 2) := by decide +kernel
theorem dJ13_bitCount_95d88_52 : decode cJ13_bitCount_95d88 52 = .ok (.lushr, 1) := by decide +kernel
theorem dJ13_bitCount_95d88_53 : decode cJ13_bitCount_95d88 53 = .ok (.ladd, 1) := by decide +kernel
theorem dJ13_bitCount_95d88_54 : decode cJ13_bitCount_95d88 54 = .ok (.lstore_n 0, 1) := by decide +kernel
theorem dJ13_bitCount_95d88_55 : decode cJ13_bitCount_95d88 55 = .ok (.lload_n 0, 1) := by decide +kernel
theorem dJ13_bitCount_95d88_56 : decode cJ13_bitCount_95d88 56 = .ok (.l2i, 1) := by decide +kernel
theorem dJ13_bitCount_95d88_57 : decode cJ13_bitCount_95d88 57 = .ok (.bipush 127, 2) := by decide +kernel
theorem dJ13_bitCount_95d88_59 : decode cJ13_bitCount_95d88 59 = .ok (.iand, 1) := by decide +kernel
theorem dJ13_bitCount_95d88_60 : decode cJ13_bitCount_95d88 60 = .ok (.ireturn, 1) := by decide +kernel
theorem dJ9_max_7cf53_0 : decode cJ9_max_7cf53 0 = .ok (.iload_n 0, 1) := by decide +kernel
theorem dJ9_max_7cf53_1 : decode cJ9_max_7cf53 1 = .ok (.iload_n 1, 1) := by decide +kernel
theorem dJ9_max_7cf53_2 : decode cJ9_max_7cf53 2 = .ok (.if_icmp .lt 7, 3) := by decide +kernel
theorem dJ9_max_7cf53_5 : decode cJ9_max_7cf53 5 = .ok (.iload_n 0, 1) := by decide +kernel
theorem dJ9_max_7cf53_6 : decode cJ9_max_7cf53 6 = .ok (.goto 4, 3) := by decide +kernel
theorem dJ9_max_7cf53_9 : decode cJ9_max_7cf53 9 = .ok (.iload_n 1, 1) := by decide +kernel
theorem dJ9_max_7cf53_10 : decode cJ9_max_7cf53 10 = .ok (.ireturn, 1) := by decide +kernel
theorem dJ9_min_7cf53_0 : decode cJ9_min_7cf53 0 = .ok (.iload_n 0, 1) := by decide +kernel
theorem dJ9_min_7cf53_1 : decode cJ9_min_7cf53 1 = .ok (.iload_n 1, 1) := by decide +kernel
theorem dJ9_min_7cf53_2 : decode cJ9_min_7cf53 2 = .ok (.if_icmp .gt 7, 3) := by decide +kernel
theorem dJ9_min_7cf53_5 : decode cJ9_min_7cf53 5 = .ok (.iload_n 0, 1) := by decide +kernel
theorem dJ9_min_7cf53_6 : decode cJ9_min_7cf53 6 = .ok (.goto 4, 3) := by decide +kernel
theorem dJ9_min_7cf53_9 : decode cJ9_min_7cf53 9 = .ok (.iload_n 1, 1) := by decide +kernel
theorem dJ9_min_7cf53_10 : decode cJ9_min_7cf53 10 = .ok (.ireturn, 1) := by decide +kernel
theorem dJ0_length_8abf5_0 : decode cJ0_length_8abf5 0 = .ok (.aload_n 0, 1) := by decide +kernel
theorem dJ0_length_8abf5_1 : decode cJ0_length_8abf5 1 = .ok (.getfield 9, 3) := by decide +kernel
theorem dJ0_length_8abf5_4 : decode cJ0_length_8abf5 4 = .ok (.arraylength, 1) := by decide +kernel
theorem dJ0_length_8abf5_5 : decode cJ0_length_8abf5 5 = .ok (.aload_n 0, 1) := by decide +kernel
theorem dJ0_length_8abf5_6 : decode cJ0_length_8abf5 6 = .ok (.invokevirtual 335, 3) := by decide +kernel
theorem dJ0_length_8abf5_9 : decode cJ0_length_8abf5 9 = .ok (.ishr, 1) := by decide +kernel
theorem dJ0_length_8abf5_10 : decode cJ0_length_8abf5 10 = .ok (.ireturn, 1) := by decide +kernel
theorem dJ0_charAt_5068e_0 : decode cJ0_charAt_5068e 0 = .ok (.aload_n 0, 1) := by decide +kernel
theorem dJ0_charAt_5068e_1 : decode cJ0_charAt_5068e 1 = .ok (.invokevirtual 492, 3) := by decide +kernel
theorem dJ0_charAt_5068e_4 : decode cJ0_charAt_5068e 4 = .ok (.ifCond .eq 12, 3) := by decide +kernel
theorem dJ0_charAt_5068e_7 : decode cJ0_charAt_5068e 7 = .ok (.aload_n 0, 1) := by decide +kernel
theorem dJ0_charAt_5068e_8 : decode cJ0_charAt_5068e 8 = .ok (.getfield 9, 3) := by decide +kernel
theorem dJ0_charAt_5068e_11 : decode cJ0_charAt_5068e 11 = .ok (.iload_n 1, 1) := by decide +kernel
theorem dJ0_charAt_5068e_12 : decode cJ0_charAt_5068e 12 = .ok (.invokestatic 495, 3) := by decide +kernel
theorem dJ0_charAt_5068e_15 : decode cJ0_charAt_5068e 15 = .ok (.ireturn, 1) := by decide +kernel
theorem dJ0_charAt_5068e_16 : decode cJ0_charAt_5068e 16 = .ok (.aload_n 0, 1) := by decide +kernel
theorem dJ0_charAt_5068e_17 : decode cJ0_charAt_5068e 17 = .ok (.getfield 9, 3) := by decide +kernel
theorem dJ0_charAt_5068e_20 : decode cJ0_charAt_5068e 20 = .ok (.iload_n 1, 1) := by decide +kernel
theorem dJ0_charAt_5068e_21 : decode cJ0_charAt_5068e 21 = .ok (.invokestatic 498, 3) := by decide +kernel
theorem dJ0_charAt_5068e_24 : decode cJ0_charAt_5068e 24 = .ok (.ireturn, 1) := by decide +kernel
theorem dJ0_coder_7d493_0 : decode cJ0_coder_7d493 0 = .ok (.getstatic 38, 3) := by decide +kernel
theorem dJ0_coder_7d493_3 : decode cJ0_coder_7d493 3 = .ok (.ifCond .eq 10, 3) := by decide +kernel
theorem dJ0_coder_7d493_6 : decode cJ0_coder_7d493 6 = .ok (.aload_n 0, 1) := by decide +kernel
theorem dJ0_coder_7d493_7 : decode cJ0_coder_7d493 7 = .ok (.getfield 15, 3) := by decide +kernel
theorem dJ0_coder_7d493_10 : decode cJ0_coder_7d493 10 = .ok (.goto 4, 3) := by decide +kernel
theorem dJ0_coder_7d493_13 : decode cJ0_coder_7d493 13 = .ok (.iconst 1, 1) := by decide +kernel
theorem dJ0_coder_7d493_14 : decode cJ0_coder_7d493 14 = .ok (.ireturn, 1) := by decide +kernel
theorem dJ0_isLatin1_aae02_0 : decode cJ0_isLatin1_aae02 0 = .ok (.getstatic 38, 3) := by decide +kernel
theorem dJ0_isLatin1_aae02_3 : decode cJ0_isLatin1_aae02 3 = .ok (.ifCond .eq 14, 3) := by decide +kernel
theorem dJ0_isLatin1_aae02_6 : decode cJ0_isLatin1_aae02 6 = .ok (.aload_n 0, 1) := by decide +kernel
theorem dJ0_isLatin1_aae02_7 : decode cJ0_isLatin1_aae02 7 = .ok (.getfield 15, 3) := by decide +kernel
theorem dJ0_isLatin1_aae02_10 : decode cJ0_isLatin1_aae02 10 = .ok (.ifCond .ne 7, 3) := by decide +kernel
theorem dJ0_isLatin1_aae02_13 : decode cJ0_isLatin1_aae02 13 = .ok (.iconst 1, 1) := by decide +kernel
theorem dJ0_isLatin1_aae02_14 : decode cJ0_isLatin1_aae02 14 = .ok (.goto 4, 3) := by decide +kernel
theorem dJ0_isLatin1_aae02_17 : decode cJ0_isLatin1_aae02 17 = .ok (.iconst 0, 1) := by decide +kernel
theorem dJ0_isLatin1_aae02_18 : decode cJ0_isLatin1_aae02 18 = .ok (.ireturn, 1) := by decide +kernel
theorem dJ0_checkIndex_df160_0 : decode cJ0_checkIndex_df160 0 = .ok (.iload_n 0, 1) := by decide +kernel
theorem dJ0_checkIndex_df160_1 : decode cJ0_checkIndex_df160 1 = .ok (.iload_n 1, 1) := by decide +kernel
theorem dJ0_checkIndex_df160_2 : decode cJ0_checkIndex_df160 2 = .ok (.getstatic 1053, 3) := by decide +kernel
theorem dJ0_checkIndex_df160_5 : decode cJ0_checkIndex_df160 5 = .ok (.invokestatic 1059, 3) := by decide +kernel
theorem dJ0_checkIndex_df160_8 : decode cJ0_checkIndex_df160 8 = .ok (.pop, 1) := by decide +kernel
theorem dJ0_checkIndex_df160_9 : decode cJ0_checkIndex_df160 9 = .ok (.return_, 1) := by decide +kernel
theorem dJ1_charAt_3b067_0 : decode cJ1_charAt_3b067 0 = .ok (.iload_n 1, 1) := by decide +kernel
theorem dJ1_charAt_3b067_1 : decode cJ1_charAt_3b067 1 = .ok (.aload_n 0, 1) := by decide +kernel
theorem dJ1_charAt_3b067_2 : decode cJ1_charAt_3b067 2 = .ok (.arraylength, 1) := by decide +kernel
theorem dJ1_charAt_3b067_3 : decode cJ1_charAt_3b067 3 = .ok (.invokestatic 9, 3) := by decide +kernel
theorem dJ1_charAt_3b067_6 : decode cJ1_charAt_3b067 6 = .ok (.aload_n 0, 1) := by decide +kernel
theorem dJ1_charAt_3b067_7 : decode cJ1_charAt_3b067 7 = .ok (.iload_n 1, 1) := by decide +kernel
theorem dJ1_charAt_3b067_8 : decode cJ1_charAt_3b067 8 = .ok (.baload, 1) := by decide +kernel
theorem dJ1_charAt_3b067_9 : decode cJ1_charAt_3b067 9 = .ok (.sipush 255, 3) := by decide +kernel
theorem dJ1_charAt_3b067_12 : decode cJ1_charAt_3b067 12 = .ok (.iand, 1) := by decide +kernel
theorem dJ1_charAt_3b067_13 : decode cJ1_charAt_3b067 13 = .ok (.i2c, 1) := by decide +kernel
theorem dJ1_charAt_3b067_14 : decode cJ1_charAt_3b067 14 = .ok (.ireturn, 1) := by decide +kernel
theorem dJ2_getChar_3b067_0 : decode cJ2_getChar_3b067 0 = .ok (.getstatic 44, 3) := by decide +kernel
theorem dJ2_getChar_3b067_3 : decode cJ2_getChar_3b067 3 = .ok (.ifCond .ne 25, 3) := by decide +kernel
theorem dJ2_getChar_3b067_6 : decode cJ2_getChar_3b067 6 = .ok (.iload_n 1, 1) := by decide +kernel
theorem dJ2_getChar_3b067_7 : decode cJ2_getChar_3b067 7 = .ok (.ifCond .lt 11, 3) := by decide +kernel
theorem dJ2_getChar_3b067_10 : decode cJ2_getChar_3b067 10 = .ok (.iload_n 1, 1) := by decide +kernel
theorem dJ2_getChar_3b067_11 : decode cJ2_getChar_3b067 11 = .ok (.aload_n 0, 1) := by decide +kernel
theorem dJ2_getChar_3b067_12 : decode cJ2_getChar_3b067 12 = .ok (.invokestatic 48, 3) := by decide +kernel
theorem dJ2_getChar_3b067_15 : decode cJ2_getChar_3b067 15 = .ok (.if_icmp .lt 13, 3) := by decide +kernel
theorem dJ2_getChar_3b067_18 : decode cJ2_getChar_3b067 18 = .ok (.new 52, 3) := by decide +kernel
theorem dJ2_getChar_3b067_21 : decode cJ2_getChar_3b067 21 = .ok (.dup, 1) := by decide +kernel
theorem dJ2_getChar_3b067_22 : decode cJ2_getChar_3b067 22 = .ok (.ldc 54, 2) := by decide +kernel
theorem dJ2_getChar_3b067_24 : decode cJ2_getChar_3b067 24 = .ok (.invokespecial 56, 3) := by decide +kernel
theorem dJ2_getChar_3b067_27 : decode cJ2_getChar_3b067 27 = .ok (.athrow, 1) := by decide +kernel
theorem dJ2_getChar_3b067_28 : decode cJ2_getChar_3b067 28 = .ok (.iload_n 1, 1) := by decide +kernel
theorem dJ2_getChar_3b067_29 : decode cJ2_getChar_3b067 29 = .ok (.iconst 1, 1) := by decide +kernel
theorem dJ2_getChar_3b067_30 : decode cJ2_getChar_3b067 30 = .ok (.ishl, 1) := by decide +kernel
theorem dJ2_getChar_3b067_31 : decode cJ2_getChar_3b067 31 = .ok (.istore_n 1, 1) := by decide +kernel
theorem dJ2_getChar_3b067_32 : decode cJ2_getChar_3b067 32 = .ok (.aload_n 0, 1) := by decide +kernel
theorem dJ2_getChar_3b067_33 : decode cJ2_getChar_3b067 33 = .ok (.iload_n 1, 1) := by decide +kernel
theorem dJ2_getChar_3b067_34 : decode cJ2_getChar_3b067 34 = .ok (.iinc 1 1, 3) := by decide +kernel
theorem dJ2_getChar_3b067_37 : decode cJ2_getChar_3b067 37 = .ok (.baload, 1) := by decide +kernel
theorem dJ2_getChar_3b067_38 : decode cJ2_getChar_3b067 38 = .ok (.sipush 255, 3) := by decide +kernel
theorem dJ2_getChar_3b067_41 : decode cJ2_getChar_3b067 41 = .ok (.iand, 1) := by decide +kernel
theorem dJ2_getChar_3b067_42 : decode cJ2_getChar_3b067 42 = .ok (.getstatic 59, 3) := by decide +kernel
theorem dJ2_getChar_3b067_45 : decode cJ2_getChar_3b067 45 = .ok (.ishl, 1) := by decide +kernel
theorem dJ2_getChar_3b067_46 : decode cJ2_getChar_3b067 46 = .ok (.aload_n 0, 1) := by decide +kernel
theorem dJ2_getChar_3b067_47 : decode cJ2_getChar_3b067 47 = .ok (.iload_n 1, 1) := by decide +kernel
theorem dJ2_getChar_3b067_48 : decode cJ2_getChar_3b067 48 = .ok (.baload, 1) := by decide +kernel
theorem dJ2_getChar_3b067_49 : decode cJ2_getChar_3b067 49 = .ok (.sipush 255, 3) := by decide +kernel
theorem dJ2_getChar_3b067_52 : decode cJ2_getChar_3b067 52 = .ok (.iand, 1) := by decide +kernel
theorem dJ2_getChar_3b067_53 : decode cJ2_getChar_3b067 53 = .ok (.getstatic 63, 3) := by decide +kernel
theorem dJ2_getChar_3b067_56 : decode cJ2_getChar_3b067 56 = .ok (.ishl, 1) := by decide +kernel
theorem dJ2_getChar_3b067_57 : decode cJ2_getChar_3b067 57 = .ok (.ior, 1) := by decide +kernel
theorem dJ2_getChar_3b067_58 : decode cJ2_getChar_3b067 58 = .ok (.i2c, 1) := by decide +kernel
theorem dJ2_getChar_3b067_59 : decode cJ2_getChar_3b067 59 = .ok (.ireturn, 1) := by decide +kernel
theorem dJ2_length_9d52b_0 : decode cJ2_length_9d52b 0 = .ok (.aload_n 0, 1) := by decide +kernel
theorem dJ2_length_9d52b_1 : decode cJ2_length_9d52b 1 = .ok (.arraylength, 1) := by decide +kernel
theorem dJ2_length_9d52b_2 : decode cJ2_length_9d52b 2 = .ok (.iconst 1, 1) := by decide +kernel
theorem dJ2_length_9d52b_3 : decode cJ2_length_9d52b 3 = .ok (.ishr, 1) := by decide +kernel
theorem dJ2_length_9d52b_4 : decode cJ2_length_9d52b 4 = .ok (.ireturn, 1) := by decide +kernel
theorem dJ2_charAt_3b067_0 : decode cJ2_charAt_3b067 0 = .ok (.iload_n 1, 1) := by decide +kernel
theorem dJ2_charAt_3b067_1 : decode cJ2_charAt_3b067 1 = .ok (.aload_n 0, 1) := by decide +kernel
theorem dJ2_charAt_3b067_2 : decode cJ2_charAt_3b067 2 = .ok (.invokestatic 67, 3) := by decide +kernel
theorem dJ2_charAt_3b067_5 : decode cJ2_charAt_3b067 5 = .ok (.aload_n 0, 1) := by decide +kernel
theorem dJ2_charAt_3b067_6 : decode cJ2_charAt_3b067 6 = .ok (.iload_n 1, 1) := by decide +kernel
theorem dJ2_charAt_3b067_7 : decode cJ2_charAt_3b067 7 = .ok (.invokestatic 71, 3) := by decide +kernel
theorem dJ2_charAt_3b067_10 : decode cJ2_charAt_3b067 10 = .ok (.ireturn, 1) := by decide +kernel
theorem dJ2_checkIndex_2214a_0 : decode cJ2_checkIndex_2214a 0 = .ok (.iload_n 0, 1) := by decide +kernel
theorem dJ2_checkIndex_2214a_1 : decode cJ2_checkIndex_2214a 1 = .ok (.aload_n 1, 1) := by decide +kernel
theorem dJ2_checkIndex_2214a_2 : decode cJ2_checkIndex_2214a 2 = .ok (.invokestatic 48, 3) := by decide +kernel
theorem dJ2_checkIndex_2214a_5 : decode cJ2_checkIndex_2214a 5 = .ok (.invokestatic 414, 3) := by decide +kernel
theorem dJ2_checkIndex_2214a_8 : decode cJ2_checkIndex_2214a 8 = .ok (.return_, 1) := by decide +kernel
theorem dJ3_checkIndex_8e157_0 : decode cJ3_checkIndex_8e157 0 = .ok (.iload_n 0, 1) := by decide +kernel
theorem dJ3_checkIndex_8e157_1 : decode cJ3_checkIndex_8e157 1 = .ok (.ifCond .lt 8, 3) := by decide +kernel
theorem dJ3_checkIndex_8e157_4 : decode cJ3_checkIndex_8e157 4 = .ok (.iload_n 0, 1) := by decide +kernel
theorem dJ3_checkIndex_8e157_5 : decode cJ3_checkIndex_8e157 5 = .ok (.iload_n 1, 1) := by decide +kernel
theorem dJ3_checkIndex_8e157_6 : decode cJ3_checkIndex_8e157 6 = .ok (.if_icmp .lt 10, 3) := by decide +kernel
theorem dJ3_checkIndex_8e157_9 : decode cJ3_checkIndex_8e157 9 = .ok (.aload_n 2, 1) := by decide +kernel
theorem dJ3_checkIndex_8e157_10 : decode cJ3_checkIndex_8e157 10 = .ok (.iload_n 0, 1) := by decide +kernel
theorem dJ3_checkIndex_8e157_11 : decode cJ3_checkIndex_8e157 11 = .ok (.iload_n 1, 1) := by decide +kernel
theorem dJ3_checkIndex_8e157_12 : decode cJ3_checkIndex_8e157 12 = .ok (.invokestatic 95, 3) := by decide +kernel
theorem dJ3_checkIndex_8e157_15 : decode cJ3_checkIndex_8e157 15 = .ok (.athrow, 1) := by decide +kernel
theorem dJ3_checkIndex_8e157_16 : decode cJ3_checkIndex_8e157 16 = .ok (.iload_n 0, 1) := by decide +kernel
theorem dJ3_checkIndex_8e157_17 : decode cJ3_checkIndex_8e157 17 = .ok (.ireturn, 1) := by decide +kernel
theorem dL_law_0 : decode cL_law 0 = .ok (.new 7, 3) := by decide +kernel
theorem dL_law_3 : decode cL_law 3 = .ok (.dup, 1) := by decide +kernel
theorem dL_law_4 : decode cL_law 4 = .ok (.invokespecial 9, 3) := by decide +kernel
theorem dL_law_7 : decode cL_law 7 = .ok (.astore_n 1, 1) := by decide +kernel
theorem dL_law_8 : decode cL_law 8 = .ok (.new 10, 3) := by decide +kernel
theorem dL_law_11 : decode cL_law 11 = .ok (.dup, 1) := by decide +kernel
theorem dL_law_12 : decode cL_law 12 = .ok (.invokespecial 12, 3) := by decide +kernel
theorem dL_law_15 : decode cL_law 15 = .ok (.astore_n 2, 1) := by decide +kernel
theorem dL_law_16 : decode cL_law 16 = .ok (.iconst 0, 1) := by decide +kernel
theorem dL_law_17 : decode cL_law 17 = .ok (.istore_n 3, 1) := by decide +kernel
theorem dL_law_18 : decode cL_law 18 = .ok (.iload_n 3, 1) := by decide +kernel
theorem dL_law_19 : decode cL_law 19 = .ok (.aload_n 0, 1) := by decide +kernel
theorem dL_law_20 : decode cL_law 20 = .ok (.arraylength, 1) := by decide +kernel
theorem dL_law_21 : decode cL_law 21 = .ok (.iconst 5, 1) := by decide +kernel
theorem dL_law_22 : decode cL_law 22 = .ok (.isub, 1) := by decide +kernel
theorem dL_law_23 : decode cL_law 23 = .ok (.if_icmp .gt 1438, 3) := by decide +kernel
theorem dL_law_26 : decode cL_law 26 = .ok (.aload_n 0, 1) := by decide +kernel
theorem dL_law_27 : decode cL_law 27 = .ok (.iload_n 3, 1) := by decide +kernel
theorem dL_law_28 : decode cL_law 28 = .ok (.iaload, 1) := by decide +kernel
theorem dL_law_29 : decode cL_law 29 = .ok (.bipush 63, 2) := by decide +kernel
theorem dL_law_31 : decode cL_law 31 = .ok (.iand, 1) := by decide +kernel
theorem dL_law_32 : decode cL_law 32 = .ok (.tableswitch 1423 0 39 #[176, 199, 232, 265, 318, 351, 394, 427, 480, 533, 586, 645, 658, 691, 724, 767, 800, 823, 836, 859, 882, 905, 928, 971, 1014, 1037, 1050, 1063, 1086, 1129, 1162, 1195, 1258, 1271, 1284, 1307, 1340, 1363, 1386, 1409], 176) := by decide +kernel
theorem dL_law_208 : decode cL_law 208 = .ok (.aload_n 1, 1) := by decide +kernel
theorem dL_law_209 : decode cL_law 209 = .ok (.aload_n 0, 1) := by decide +kernel
theorem dL_law_210 : decode cL_law 210 = .ok (.iload_n 3, 1) := by decide +kernel
theorem dL_law_211 : decode cL_law 211 = .ok (.iconst 1, 1) := by decide +kernel
theorem dL_law_212 : decode cL_law 212 = .ok (.iadd, 1) := by decide +kernel
theorem dL_law_213 : decode cL_law 213 = .ok (.iaload, 1) := by decide +kernel
theorem dL_law_214 : decode cL_law 214 = .ok (.invokevirtual 13, 3) := by decide +kernel
theorem dL_law_217 : decode cL_law 217 = .ok (.aload_n 2, 1) := by decide +kernel
theorem dL_law_218 : decode cL_law 218 = .ok (.aload_n 0, 1) := by decide +kernel
theorem dL_law_219 : decode cL_law 219 = .ok (.iload_n 3, 1) := by decide +kernel
theorem dL_law_220 : decode cL_law 220 = .ok (.iconst 1, 1) := by decide +kernel
theorem dL_law_221 : decode cL_law 221 = .ok (.iadd, 1) := by decide +kernel
theorem dL_law_222 : decode cL_law 222 = .ok (.iaload, 1) := by decide +kernel
theorem dL_law_223 : decode cL_law 223 = .ok (.invokevirtual 17, 3) := by decide +kernel
theorem dL_law_226 : decode cL_law 226 = .ok (.if_icmp .eq 1229, 3) := by decide +kernel
theorem dL_law_229 : decode cL_law 229 = .ok (.iconst 0, 1) := by decide +kernel
theorem dL_law_230 : decode cL_law 230 = .ok (.ireturn, 1) := by decide +kernel
theorem dL_law_231 : decode cL_law 231 = .ok (.aload_n 1, 1) := by decide +kernel
theorem dL_law_232 : decode cL_law 232 = .ok (.aload_n 0, 1) := by decide +kernel
theorem dL_law_233 : decode cL_law 233 = .ok (.iload_n 3, 1) := by decide +kernel
theorem dL_law_234 : decode cL_law 234 = .ok (.iconst 1, 1) := by decide +kernel
theorem dL_law_235 : decode cL_law 235 = .ok (.iadd, 1) := by decide +kernel
theorem dL_law_236 : decode cL_law 236 = .ok (.iaload, 1) := by decide +kernel
theorem dL_law_237 : decode cL_law 237 = .ok (.aload_n 0, 1) := by decide +kernel
theorem dL_law_238 : decode cL_law 238 = .ok (.iload_n 3, 1) := by decide +kernel
theorem dL_law_239 : decode cL_law 239 = .ok (.iconst 2, 1) := by decide +kernel
theorem dL_law_240 : decode cL_law 240 = .ok (.iadd, 1) := by decide +kernel
theorem dL_law_241 : decode cL_law 241 = .ok (.iaload, 1) := by decide +kernel
theorem dL_law_242 : decode cL_law 242 = .ok (.invokevirtual 18, 3) := by decide +kernel
theorem dL_law_245 : decode cL_law 245 = .ok (.aload_n 2, 1) := by decide +kernel
theorem dL_law_246 : decode cL_law 246 = .ok (.aload_n 0, 1) := by decide +kernel
theorem dL_law_247 : decode cL_law 247 = .ok (.iload_n 3, 1) := by decide +kernel
theorem dL_law_248 : decode cL_law 248 = .ok (.iconst 1, 1) := by decide +kernel
theorem dL_law_249 : decode cL_law 249 = .ok (.iadd, 1) := by decide +kernel
theorem dL_law_250 : decode cL_law 250 = .ok (.iaload, 1) := by decide +kernel
theorem dL_law_251 : decode cL_law 251 = .ok (.aload_n 0, 1) := by decide +kernel
theorem dL_law_252 : decode cL_law 252 = .ok (.iload_n 3, 1) := by decide +kernel
theorem dL_law_253 : decode cL_law 253 = .ok (.iconst 2, 1) := by decide +kernel
theorem dL_law_254 : decode cL_law 254 = .ok (.iadd, 1) := by decide +kernel
theorem dL_law_255 : decode cL_law 255 = .ok (.iaload, 1) := by decide +kernel
theorem dL_law_256 : decode cL_law 256 = .ok (.invokevirtual 22, 3) := by decide +kernel
theorem dL_law_259 : decode cL_law 259 = .ok (.if_icmp .eq 1196, 3) := by decide +kernel
theorem dL_law_262 : decode cL_law 262 = .ok (.iconst 0, 1) := by decide +kernel
theorem dL_law_263 : decode cL_law 263 = .ok (.ireturn, 1) := by decide +kernel
theorem dL_law_264 : decode cL_law 264 = .ok (.aload_n 1, 1) := by decide +kernel
theorem dL_law_265 : decode cL_law 265 = .ok (.aload_n 0, 1) := by decide +kernel
theorem dL_law_266 : decode cL_law 266 = .ok (.iload_n 3, 1) := by decide +kernel
theorem dL_law_267 : decode cL_law 267 = .ok (.iconst 1, 1) := by decide +kernel
theorem dL_law_268 : decode cL_law 268 = .ok (.iadd, 1) := by decide +kernel
theorem dL_law_269 : decode cL_law 269 = .ok (.iaload, 1) := by decide +kernel
theorem dL_law_270 : decode cL_law 270 = .ok (.aload_n 0, 1) := by decide +kernel
theorem dL_law_271 : decode cL_law 271 = .ok (.iload_n 3, 1) := by decide +kernel
theorem dL_law_272 : decode cL_law 272 = .ok (.iconst 2, 1) := by decide +kernel
theorem dL_law_273 : decode cL_law 273 = .ok (.iadd, 1) := by decide +kernel
theorem dL_law_274 : decode cL_law 274 = .ok (.iaload, 1) := by decide +kernel
theorem dL_law_275 : decode cL_law 275 = .ok (.invokevirtual 23, 3) := by decide +kernel
theorem dL_law_278 : decode cL_law 278 = .ok (.aload_n 2, 1) := by decide +kernel
theorem dL_law_279 : decode cL_law 279 = .ok (.aload_n 0, 1) := by decide +kernel
theorem dL_law_280 : decode cL_law 280 = .ok (.iload_n 3, 1) := by decide +kernel
theorem dL_law_281 : decode cL_law 281 = .ok (.iconst 1, 1) := by decide +kernel
theorem dL_law_282 : decode cL_law 282 = .ok (.iadd, 1) := by decide +kernel
theorem dL_law_283 : decode cL_law 283 = .ok (.iaload, 1) := by decide +kernel
theorem dL_law_284 : decode cL_law 284 = .ok (.aload_n 0, 1) := by decide +kernel
theorem dL_law_285 : decode cL_law 285 = .ok (.iload_n 3, 1) := by decide +kernel
theorem dL_law_286 : decode cL_law 286 = .ok (.iconst 2, 1) := by decide +kernel
theorem dL_law_287 : decode cL_law 287 = .ok (.iadd, 1) := by decide +kernel
theorem dL_law_288 : decode cL_law 288 = .ok (.iaload, 1) := by decide +kernel
theorem dL_law_289 : decode cL_law 289 = .ok (.invokevirtual 26, 3) := by decide +kernel
theorem dL_law_292 : decode cL_law 292 = .ok (.if_icmp .eq 1163, 3) := by decide +kernel
theorem dL_law_295 : decode cL_law 295 = .ok (.iconst 0, 1) := by decide +kernel
theorem dL_law_296 : decode cL_law 296 = .ok (.ireturn, 1) := by decide +kernel
theorem dL_law_297 : decode cL_law 297 = .ok (.aload_n 1, 1) := by decide +kernel
theorem dL_law_298 : decode cL_law 298 = .ok (.aload_n 0, 1) := by decide +kernel
theorem dL_law_299 : decode cL_law 299 = .ok (.iload_n 3, 1) := by decide +kernel
theorem dL_law_300 : decode cL_law 300 = .ok (.iconst 1, 1) := by decide +kernel
theorem dL_law_301 : decode cL_law 301 = .ok (.iadd, 1) := by decide +kernel
theorem dL_law_302 : decode cL_law 302 = .ok (.iaload, 1) := by decide +kernel
theorem dL_law_303 : decode cL_law 303 = .ok (.aload_n 0, 1) := by decide +kernel
theorem dL_law_304 : decode cL_law 304 = .ok (.iload_n 3, 1) := by decide +kernel
theorem dL_law_305 : decode cL_law 305 = .ok (.iconst 2, 1) := by decide +kernel
theorem dL_law_306 : decode cL_law 306 = .ok (.iadd, 1) := by decide +kernel
theorem dL_law_307 : decode cL_law 307 = .ok (.iaload, 1) := by decide +kernel
theorem dL_law_308 : decode cL_law 308 = .ok (.aload_n 0, 1) := by decide +kernel
theorem dL_law_309 : decode cL_law 309 = .ok (.iload_n 3, 1) := by decide +kernel
theorem dL_law_310 : decode cL_law 310 = .ok (.iconst 3, 1) := by decide +kernel
theorem dL_law_311 : decode cL_law 311 = .ok (.iadd, 1) := by decide +kernel
theorem dL_law_312 : decode cL_law 312 = .ok (.iaload, 1) := by decide +kernel
theorem dL_law_313 : decode cL_law 313 = .ok (.aload_n 0, 1) := by decide +kernel
theorem dL_law_314 : decode cL_law 314 = .ok (.iload_n 3, 1) := by decide +kernel
theorem dL_law_315 : decode cL_law 315 = .ok (.iconst 4, 1) := by decide +kernel
theorem dL_law_316 : decode cL_law 316 = .ok (.iadd, 1) := by decide +kernel
theorem dL_law_317 : decode cL_law 317 = .ok (.iaload, 1) := by decide +kernel
theorem dL_law_318 : decode cL_law 318 = .ok (.invokevirtual 27, 3) := by decide +kernel
theorem dL_law_321 : decode cL_law 321 = .ok (.aload_n 2, 1) := by decide +kernel
theorem dL_law_322 : decode cL_law 322 = .ok (.aload_n 0, 1) := by decide +kernel
theorem dL_law_323 : decode cL_law 323 = .ok (.iload_n 3, 1) := by decide +kernel
theorem dL_law_324 : decode cL_law 324 = .ok (.iconst 1, 1) := by decide +kernel
theorem dL_law_325 : decode cL_law 325 = .ok (.iadd, 1) := by decide +kernel
theorem dL_law_326 : decode cL_law 326 = .ok (.iaload, 1) := by decide +kernel
theorem dL_law_327 : decode cL_law 327 = .ok (.aload_n 0, 1) := by decide +kernel
theorem dL_law_328 : decode cL_law 328 = .ok (.iload_n 3, 1) := by decide +kernel
theorem dL_law_329 : decode cL_law 329 = .ok (.iconst 2, 1) := by decide +kernel
theorem dL_law_330 : decode cL_law 330 = .ok (.iadd, 1) := by decide +kernel
theorem dL_law_331 : decode cL_law 331 = .ok (.iaload, 1) := by decide +kernel
theorem dL_law_332 : decode cL_law 332 = .ok (.aload_n 0, 1) := by decide +kernel
theorem dL_law_333 : decode cL_law 333 = .ok (.iload_n 3, 1) := by decide +kernel
theorem dL_law_334 : decode cL_law 334 = .ok (.iconst 3, 1) := by decide +kernel
theorem dL_law_335 : decode cL_law 335 = .ok (.iadd, 1) := by decide +kernel
theorem dL_law_336 : decode cL_law 336 = .ok (.iaload, 1) := by decide +kernel
theorem dL_law_337 : decode cL_law 337 = .ok (.aload_n 0, 1) := by decide +kernel
theorem dL_law_338 : decode cL_law 338 = .ok (.iload_n 3, 1) := by decide +kernel
theorem dL_law_339 : decode cL_law 339 = .ok (.iconst 4, 1) := by decide +kernel
theorem dL_law_340 : decode cL_law 340 = .ok (.iadd, 1) := by decide +kernel
theorem dL_law_341 : decode cL_law 341 = .ok (.iaload, 1) := by decide +kernel
theorem dL_law_342 : decode cL_law 342 = .ok (.invokevirtual 31, 3) := by decide +kernel
theorem dL_law_345 : decode cL_law 345 = .ok (.if_icmp .eq 1110, 3) := by decide +kernel
theorem dL_law_348 : decode cL_law 348 = .ok (.iconst 0, 1) := by decide +kernel
theorem dL_law_349 : decode cL_law 349 = .ok (.ireturn, 1) := by decide +kernel
theorem dL_law_350 : decode cL_law 350 = .ok (.aload_n 1, 1) := by decide +kernel
theorem dL_law_351 : decode cL_law 351 = .ok (.aload_n 0, 1) := by decide +kernel
theorem dL_law_352 : decode cL_law 352 = .ok (.iload_n 3, 1) := by decide +kernel
theorem dL_law_353 : decode cL_law 353 = .ok (.iconst 1, 1) := by decide +kernel
theorem dL_law_354 : decode cL_law 354 = .ok (.iadd, 1) := by decide +kernel
theorem dL_law_355 : decode cL_law 355 = .ok (.iaload, 1) := by decide +kernel
theorem dL_law_356 : decode cL_law 356 = .ok (.aload_n 0, 1) := by decide +kernel
theorem dL_law_357 : decode cL_law 357 = .ok (.iload_n 3, 1) := by decide +kernel
theorem dL_law_358 : decode cL_law 358 = .ok (.iconst 2, 1) := by decide +kernel
theorem dL_law_359 : decode cL_law 359 = .ok (.iadd, 1) := by decide +kernel
theorem dL_law_360 : decode cL_law 360 = .ok (.iaload, 1) := by decide +kernel
theorem dL_law_361 : decode cL_law 361 = .ok (.invokevirtual 32, 3) := by decide +kernel
theorem dL_law_364 : decode cL_law 364 = .ok (.aload_n 2, 1) := by decide +kernel
theorem dL_law_365 : decode cL_law 365 = .ok (.aload_n 0, 1) := by decide +kernel
theorem dL_law_366 : decode cL_law 366 = .ok (.iload_n 3, 1) := by decide +kernel
theorem dL_law_367 : decode cL_law 367 = .ok (.iconst 1, 1) := by decide +kernel
theorem dL_law_368 : decode cL_law 368 = .ok (.iadd, 1) := by decide +kernel
theorem dL_law_369 : decode cL_law 369 = .ok (.iaload, 1) := by decide +kernel
theorem dL_law_370 : decode cL_law 370 = .ok (.aload_n 0, 1) := by decide +kernel
theorem dL_law_371 : decode cL_law 371 = .ok (.iload_n 3, 1) := by decide +kernel
theorem dL_law_372 : decode cL_law 372 = .ok (.iconst 2, 1) := by decide +kernel
theorem dL_law_373 : decode cL_law 373 = .ok (.iadd, 1) := by decide +kernel
theorem dL_law_374 : decode cL_law 374 = .ok (.iaload, 1) := by decide +kernel
theorem dL_law_375 : decode cL_law 375 = .ok (.invokevirtual 35, 3) := by decide +kernel
theorem dL_law_378 : decode cL_law 378 = .ok (.if_icmp .eq 1077, 3) := by decide +kernel
theorem dL_law_381 : decode cL_law 381 = .ok (.iconst 0, 1) := by decide +kernel
theorem dL_law_382 : decode cL_law 382 = .ok (.ireturn, 1) := by decide +kernel
theorem dL_law_383 : decode cL_law 383 = .ok (.aload_n 1, 1) := by decide +kernel
theorem dL_law_384 : decode cL_law 384 = .ok (.aload_n 0, 1) := by decide +kernel
theorem dL_law_385 : decode cL_law 385 = .ok (.iload_n 3, 1) := by decide +kernel
theorem dL_law_386 : decode cL_law 386 = .ok (.iconst 1, 1) := by decide +kernel
theorem dL_law_387 : decode cL_law 387 = .ok (.iadd, 1) := by decide +kernel
theorem dL_law_388 : decode cL_law 388 = .ok (.iaload, 1) := by decide +kernel
theorem dL_law_389 : decode cL_law 389 = .ok (.aload_n 0, 1) := by decide +kernel
theorem dL_law_390 : decode cL_law 390 = .ok (.iload_n 3, 1) := by decide +kernel
theorem dL_law_391 : decode cL_law 391 = .ok (.iconst 2, 1) := by decide +kernel
theorem dL_law_392 : decode cL_law 392 = .ok (.iadd, 1) := by decide +kernel
theorem dL_law_393 : decode cL_law 393 = .ok (.iaload, 1) := by decide +kernel
theorem dL_law_394 : decode cL_law 394 = .ok (.aload_n 0, 1) := by decide +kernel
theorem dL_law_395 : decode cL_law 395 = .ok (.iload_n 3, 1) := by decide +kernel
theorem dL_law_396 : decode cL_law 396 = .ok (.iconst 3, 1) := by decide +kernel
theorem dL_law_397 : decode cL_law 397 = .ok (.iadd, 1) := by decide +kernel
theorem dL_law_398 : decode cL_law 398 = .ok (.iaload, 1) := by decide +kernel
theorem dL_law_399 : decode cL_law 399 = .ok (.invokevirtual 36, 3) := by decide +kernel
theorem dL_law_402 : decode cL_law 402 = .ok (.aload_n 2, 1) := by decide +kernel
theorem dL_law_403 : decode cL_law 403 = .ok (.aload_n 0, 1) := by decide +kernel
theorem dL_law_404 : decode cL_law 404 = .ok (.iload_n 3, 1) := by decide +kernel
theorem dL_law_405 : decode cL_law 405 = .ok (.iconst 1, 1) := by decide +kernel
theorem dL_law_406 : decode cL_law 406 = .ok (.iadd, 1) := by decide +kernel
theorem dL_law_407 : decode cL_law 407 = .ok (.iaload, 1) := by decide +kernel
theorem dL_law_408 : decode cL_law 408 = .ok (.aload_n 0, 1) := by decide +kernel
theorem dL_law_409 : decode cL_law 409 = .ok (.iload_n 3, 1) := by decide +kernel
theorem dL_law_410 : decode cL_law 410 = .ok (.iconst 2, 1) := by decide +kernel
theorem dL_law_411 : decode cL_law 411 = .ok (.iadd, 1) := by decide +kernel
theorem dL_law_412 : decode cL_law 412 = .ok (.iaload, 1) := by decide +kernel
theorem dL_law_413 : decode cL_law 413 = .ok (.aload_n 0, 1) := by decide +kernel
theorem dL_law_414 : decode cL_law 414 = .ok (.iload_n 3, 1) := by decide +kernel
theorem dL_law_415 : decode cL_law 415 = .ok (.iconst 3, 1) := by decide +kernel
theorem dL_law_416 : decode cL_law 416 = .ok (.iadd, 1) := by decide +kernel
theorem dL_law_417 : decode cL_law 417 = .ok (.iaload, 1) := by decide +kernel
theorem dL_law_418 : decode cL_law 418 = .ok (.invokevirtual 40, 3) := by decide +kernel
theorem dL_law_421 : decode cL_law 421 = .ok (.if_icmp .eq 1034, 3) := by decide +kernel
theorem dL_law_424 : decode cL_law 424 = .ok (.iconst 0, 1) := by decide +kernel
theorem dL_law_425 : decode cL_law 425 = .ok (.ireturn, 1) := by decide +kernel
theorem dL_law_426 : decode cL_law 426 = .ok (.aload_n 1, 1) := by decide +kernel
theorem dL_law_427 : decode cL_law 427 = .ok (.aload_n 0, 1) := by decide +kernel
theorem dL_law_428 : decode cL_law 428 = .ok (.iload_n 3, 1) := by decide +kernel
theorem dL_law_429 : decode cL_law 429 = .ok (.iconst 1, 1) := by decide +kernel
theorem dL_law_430 : decode cL_law 430 = .ok (.iadd, 1) := by decide +kernel
theorem dL_law_431 : decode cL_law 431 = .ok (.iaload, 1) := by decide +kernel
theorem dL_law_432 : decode cL_law 432 = .ok (.aload_n 0, 1) := by decide +kernel
theorem dL_law_433 : decode cL_law 433 = .ok (.iload_n 3, 1) := by decide +kernel
theorem dL_law_434 : decode cL_law 434 = .ok (.iconst 2, 1) := by decide +kernel
theorem dL_law_435 : decode cL_law 435 = .ok (.iadd, 1) := by decide +kernel
theorem dL_law_436 : decode cL_law 436 = .ok (.iaload, 1) := by decide +kernel
theorem dL_law_437 : decode cL_law 437 = .ok (.invokevirtual 41, 3) := by decide +kernel
theorem dL_law_440 : decode cL_law 440 = .ok (.aload_n 2, 1) := by decide +kernel
theorem dL_law_441 : decode cL_law 441 = .ok (.aload_n 0, 1) := by decide +kernel
theorem dL_law_442 : decode cL_law 442 = .ok (.iload_n 3, 1) := by decide +kernel
theorem dL_law_443 : decode cL_law 443 = .ok (.iconst 1, 1) := by decide +kernel
theorem dL_law_444 : decode cL_law 444 = .ok (.iadd, 1) := by decide +kernel
theorem dL_law_445 : decode cL_law 445 = .ok (.iaload, 1) := by decide +kernel
theorem dL_law_446 : decode cL_law 446 = .ok (.aload_n 0, 1) := by decide +kernel
theorem dL_law_447 : decode cL_law 447 = .ok (.iload_n 3, 1) := by decide +kernel
theorem dL_law_448 : decode cL_law 448 = .ok (.iconst 2, 1) := by decide +kernel
theorem dL_law_449 : decode cL_law 449 = .ok (.iadd, 1) := by decide +kernel
theorem dL_law_450 : decode cL_law 450 = .ok (.iaload, 1) := by decide +kernel
theorem dL_law_451 : decode cL_law 451 = .ok (.invokevirtual 44, 3) := by decide +kernel
theorem dL_law_454 : decode cL_law 454 = .ok (.if_icmp .eq 1001, 3) := by decide +kernel
theorem dL_law_457 : decode cL_law 457 = .ok (.iconst 0, 1) := by decide +kernel
theorem dL_law_458 : decode cL_law 458 = .ok (.ireturn, 1) := by decide +kernel
theorem dL_law_459 : decode cL_law 459 = .ok (.aload_n 1, 1) := by decide +kernel
theorem dL_law_460 : decode cL_law 460 = .ok (.aload_n 0, 1) := by decide +kernel
theorem dL_law_461 : decode cL_law 461 = .ok (.iload_n 3, 1) := by decide +kernel
theorem dL_law_462 : decode cL_law 462 = .ok (.iconst 1, 1) := by decide +kernel
theorem dL_law_463 : decode cL_law 463 = .ok (.iadd, 1) := by decide +kernel
theorem dL_law_464 : decode cL_law 464 = .ok (.iaload, 1) := by decide +kernel
theorem dL_law_465 : decode cL_law 465 = .ok (.aload_n 0, 1) := by decide +kernel
theorem dL_law_466 : decode cL_law 466 = .ok (.iload_n 3, 1) := by decide +kernel
theorem dL_law_467 : decode cL_law 467 = .ok (.iconst 2, 1) := by decide +kernel
theorem dL_law_468 : decode cL_law 468 = .ok (.iadd, 1) := by decide +kernel
theorem dL_law_469 : decode cL_law 469 = .ok (.iaload, 1) := by decide +kernel
theorem dL_law_470 : decode cL_law 470 = .ok (.aload_n 0, 1) := by decide +kernel
theorem dL_law_471 : decode cL_law 471 = .ok (.iload_n 3, 1) := by decide +kernel
theorem dL_law_472 : decode cL_law 472 = .ok (.iconst 3, 1) := by decide +kernel
theorem dL_law_473 : decode cL_law 473 = .ok (.iadd, 1) := by decide +kernel
theorem dL_law_474 : decode cL_law 474 = .ok (.iaload, 1) := by decide +kernel
theorem dL_law_475 : decode cL_law 475 = .ok (.aload_n 0, 1) := by decide +kernel
theorem dL_law_476 : decode cL_law 476 = .ok (.iload_n 3, 1) := by decide +kernel
theorem dL_law_477 : decode cL_law 477 = .ok (.iconst 4, 1) := by decide +kernel
theorem dL_law_478 : decode cL_law 478 = .ok (.iadd, 1) := by decide +kernel
theorem dL_law_479 : decode cL_law 479 = .ok (.iaload, 1) := by decide +kernel
theorem dL_law_480 : decode cL_law 480 = .ok (.invokevirtual 45, 3) := by decide +kernel
theorem dL_law_483 : decode cL_law 483 = .ok (.aload_n 2, 1) := by decide +kernel
theorem dL_law_484 : decode cL_law 484 = .ok (.aload_n 0, 1) := by decide +kernel
theorem dL_law_485 : decode cL_law 485 = .ok (.iload_n 3, 1) := by decide +kernel
theorem dL_law_486 : decode cL_law 486 = .ok (.iconst 1, 1) := by decide +kernel
theorem dL_law_487 : decode cL_law 487 = .ok (.iadd, 1) := by decide +kernel
theorem dL_law_488 : decode cL_law 488 = .ok (.iaload, 1) := by decide +kernel
theorem dL_law_489 : decode cL_law 489 = .ok (.aload_n 0, 1) := by decide +kernel
theorem dL_law_490 : decode cL_law 490 = .ok (.iload_n 3, 1) := by decide +kernel
theorem dL_law_491 : decode cL_law 491 = .ok (.iconst 2, 1) := by decide +kernel
theorem dL_law_492 : decode cL_law 492 = .ok (.iadd, 1) := by decide +kernel
theorem dL_law_493 : decode cL_law 493 = .ok (.iaload, 1) := by decide +kernel
theorem dL_law_494 : decode cL_law 494 = .ok (.aload_n 0, 1) := by decide +kernel
theorem dL_law_495 : decode cL_law 495 = .ok (.iload_n 3, 1) := by decide +kernel
theorem dL_law_496 : decode cL_law 496 = .ok (.iconst 3, 1) := by decide +kernel
theorem dL_law_497 : decode cL_law 497 = .ok (.iadd, 1) := by decide +kernel
theorem dL_law_498 : decode cL_law 498 = .ok (.iaload, 1) := by decide +kernel
theorem dL_law_499 : decode cL_law 499 = .ok (.aload_n 0, 1) := by decide +kernel
theorem dL_law_500 : decode cL_law 500 = .ok (.iload_n 3, 1) := by decide +kernel
theorem dL_law_501 : decode cL_law 501 = .ok (.iconst 4, 1) := by decide +kernel
theorem dL_law_502 : decode cL_law 502 = .ok (.iadd, 1) := by decide +kernel
theorem dL_law_503 : decode cL_law 503 = .ok (.iaload, 1) := by decide +kernel
theorem dL_law_504 : decode cL_law 504 = .ok (.invokevirtual 48, 3) := by decide +kernel
theorem dL_law_507 : decode cL_law 507 = .ok (.if_icmp .eq 948, 3) := by decide +kernel
theorem dL_law_510 : decode cL_law 510 = .ok (.iconst 0, 1) := by decide +kernel
theorem dL_law_511 : decode cL_law 511 = .ok (.ireturn, 1) := by decide +kernel
theorem dL_law_512 : decode cL_law 512 = .ok (.aload_n 1, 1) := by decide +kernel
theorem dL_law_513 : decode cL_law 513 = .ok (.aload_n 0, 1) := by decide +kernel
theorem dL_law_514 : decode cL_law 514 = .ok (.iload_n 3, 1) := by decide +kernel
theorem dL_law_515 : decode cL_law 515 = .ok (.iconst 1, 1) := by decide +kernel
theorem dL_law_516 : decode cL_law 516 = .ok (.iadd, 1) := by decide +kernel
theorem dL_law_517 : decode cL_law 517 = .ok (.iaload, 1) := by decide +kernel
theorem dL_law_518 : decode cL_law 518 = .ok (.aload_n 0, 1) := by decide +kernel
theorem dL_law_519 : decode cL_law 519 = .ok (.iload_n 3, 1) := by decide +kernel
theorem dL_law_520 : decode cL_law 520 = .ok (.iconst 2, 1) := by decide +kernel
theorem dL_law_521 : decode cL_law 521 = .ok (.iadd, 1) := by decide +kernel
theorem dL_law_522 : decode cL_law 522 = .ok (.iaload, 1) := by decide +kernel
theorem dL_law_523 : decode cL_law 523 = .ok (.aload_n 0, 1) := by decide +kernel
theorem dL_law_524 : decode cL_law 524 = .ok (.iload_n 3, 1) := by decide +kernel
theorem dL_law_525 : decode cL_law 525 = .ok (.iconst 3, 1) := by decide +kernel
theorem dL_law_526 : decode cL_law 526 = .ok (.iadd, 1) := by decide +kernel
theorem dL_law_527 : decode cL_law 527 = .ok (.iaload, 1) := by decide +kernel
theorem dL_law_528 : decode cL_law 528 = .ok (.aload_n 0, 1) := by decide +kernel
theorem dL_law_529 : decode cL_law 529 = .ok (.iload_n 3, 1) := by decide +kernel
theorem dL_law_530 : decode cL_law 530 = .ok (.iconst 4, 1) := by decide +kernel
theorem dL_law_531 : decode cL_law 531 = .ok (.iadd, 1) := by decide +kernel
theorem dL_law_532 : decode cL_law 532 = .ok (.iaload, 1) := by decide +kernel
theorem dL_law_533 : decode cL_law 533 = .ok (.invokevirtual 49, 3) := by decide +kernel
theorem dL_law_536 : decode cL_law 536 = .ok (.aload_n 2, 1) := by decide +kernel
theorem dL_law_537 : decode cL_law 537 = .ok (.aload_n 0, 1) := by decide +kernel
theorem dL_law_538 : decode cL_law 538 = .ok (.iload_n 3, 1) := by decide +kernel
theorem dL_law_539 : decode cL_law 539 = .ok (.iconst 1, 1) := by decide +kernel
theorem dL_law_540 : decode cL_law 540 = .ok (.iadd, 1) := by decide +kernel
theorem dL_law_541 : decode cL_law 541 = .ok (.iaload, 1) := by decide +kernel
theorem dL_law_542 : decode cL_law 542 = .ok (.aload_n 0, 1) := by decide +kernel
theorem dL_law_543 : decode cL_law 543 = .ok (.iload_n 3, 1) := by decide +kernel
theorem dL_law_544 : decode cL_law 544 = .ok (.iconst 2, 1) := by decide +kernel
theorem dL_law_545 : decode cL_law 545 = .ok (.iadd, 1) := by decide +kernel
theorem dL_law_546 : decode cL_law 546 = .ok (.iaload, 1) := by decide +kernel
theorem dL_law_547 : decode cL_law 547 = .ok (.aload_n 0, 1) := by decide +kernel
theorem dL_law_548 : decode cL_law 548 = .ok (.iload_n 3, 1) := by decide +kernel
theorem dL_law_549 : decode cL_law 549 = .ok (.iconst 3, 1) := by decide +kernel
theorem dL_law_550 : decode cL_law 550 = .ok (.iadd, 1) := by decide +kernel
theorem dL_law_551 : decode cL_law 551 = .ok (.iaload, 1) := by decide +kernel
theorem dL_law_552 : decode cL_law 552 = .ok (.aload_n 0, 1) := by decide +kernel
theorem dL_law_553 : decode cL_law 553 = .ok (.iload_n 3, 1) := by decide +kernel
theorem dL_law_554 : decode cL_law 554 = .ok (.iconst 4, 1) := by decide +kernel
theorem dL_law_555 : decode cL_law 555 = .ok (.iadd, 1) := by decide +kernel
theorem dL_law_556 : decode cL_law 556 = .ok (.iaload, 1) := by decide +kernel
theorem dL_law_557 : decode cL_law 557 = .ok (.invokevirtual 52, 3) := by decide +kernel
theorem dL_law_560 : decode cL_law 560 = .ok (.if_icmp .eq 895, 3) := by decide +kernel
theorem dL_law_563 : decode cL_law 563 = .ok (.iconst 0, 1) := by decide +kernel
theorem dL_law_564 : decode cL_law 564 = .ok (.ireturn, 1) := by decide +kernel
theorem dL_law_565 : decode cL_law 565 = .ok (.aload_n 1, 1) := by decide +kernel
theorem dL_law_566 : decode cL_law 566 = .ok (.aload_n 0, 1) := by decide +kernel
theorem dL_law_567 : decode cL_law 567 = .ok (.iload_n 3, 1) := by decide +kernel
theorem dL_law_568 : decode cL_law 568 = .ok (.iconst 1, 1) := by decide +kernel
theorem dL_law_569 : decode cL_law 569 = .ok (.iadd, 1) := by decide +kernel
theorem dL_law_570 : decode cL_law 570 = .ok (.iaload, 1) := by decide +kernel
theorem dL_law_571 : decode cL_law 571 = .ok (.aload_n 0, 1) := by decide +kernel
theorem dL_law_572 : decode cL_law 572 = .ok (.iload_n 3, 1) := by decide +kernel
theorem dL_law_573 : decode cL_law 573 = .ok (.iconst 2, 1) := by decide +kernel
theorem dL_law_574 : decode cL_law 574 = .ok (.iadd, 1) := by decide +kernel
theorem dL_law_575 : decode cL_law 575 = .ok (.iaload, 1) := by decide +kernel
theorem dL_law_576 : decode cL_law 576 = .ok (.aload_n 0, 1) := by decide +kernel
theorem dL_law_577 : decode cL_law 577 = .ok (.iload_n 3, 1) := by decide +kernel
theorem dL_law_578 : decode cL_law 578 = .ok (.iconst 3, 1) := by decide +kernel
theorem dL_law_579 : decode cL_law 579 = .ok (.iadd, 1) := by decide +kernel
theorem dL_law_580 : decode cL_law 580 = .ok (.iaload, 1) := by decide +kernel
theorem dL_law_581 : decode cL_law 581 = .ok (.aload_n 0, 1) := by decide +kernel
theorem dL_law_582 : decode cL_law 582 = .ok (.iload_n 3, 1) := by decide +kernel
theorem dL_law_583 : decode cL_law 583 = .ok (.iconst 4, 1) := by decide +kernel
theorem dL_law_584 : decode cL_law 584 = .ok (.iadd, 1) := by decide +kernel
theorem dL_law_585 : decode cL_law 585 = .ok (.iaload, 1) := by decide +kernel
theorem dL_law_586 : decode cL_law 586 = .ok (.invokevirtual 53, 3) := by decide +kernel
theorem dL_law_589 : decode cL_law 589 = .ok (.aload_n 2, 1) := by decide +kernel
theorem dL_law_590 : decode cL_law 590 = .ok (.aload_n 0, 1) := by decide +kernel
theorem dL_law_591 : decode cL_law 591 = .ok (.iload_n 3, 1) := by decide +kernel
theorem dL_law_592 : decode cL_law 592 = .ok (.iconst 1, 1) := by decide +kernel
theorem dL_law_593 : decode cL_law 593 = .ok (.iadd, 1) := by decide +kernel
theorem dL_law_594 : decode cL_law 594 = .ok (.iaload, 1) := by decide +kernel
theorem dL_law_595 : decode cL_law 595 = .ok (.aload_n 0, 1) := by decide +kernel
theorem dL_law_596 : decode cL_law 596 = .ok (.iload_n 3, 1) := by decide +kernel
theorem dL_law_597 : decode cL_law 597 = .ok (.iconst 2, 1) := by decide +kernel
theorem dL_law_598 : decode cL_law 598 = .ok (.iadd, 1) := by decide +kernel
theorem dL_law_599 : decode cL_law 599 = .ok (.iaload, 1) := by decide +kernel
theorem dL_law_600 : decode cL_law 600 = .ok (.aload_n 0, 1) := by decide +kernel
theorem dL_law_601 : decode cL_law 601 = .ok (.iload_n 3, 1) := by decide +kernel
theorem dL_law_602 : decode cL_law 602 = .ok (.iconst 3, 1) := by decide +kernel
theorem dL_law_603 : decode cL_law 603 = .ok (.iadd, 1) := by decide +kernel
theorem dL_law_604 : decode cL_law 604 = .ok (.iaload, 1) := by decide +kernel
theorem dL_law_605 : decode cL_law 605 = .ok (.aload_n 0, 1) := by decide +kernel
theorem dL_law_606 : decode cL_law 606 = .ok (.iload_n 3, 1) := by decide +kernel
theorem dL_law_607 : decode cL_law 607 = .ok (.iconst 4, 1) := by decide +kernel
theorem dL_law_608 : decode cL_law 608 = .ok (.iadd, 1) := by decide +kernel
theorem dL_law_609 : decode cL_law 609 = .ok (.iaload, 1) := by decide +kernel
theorem dL_law_610 : decode cL_law 610 = .ok (.invokevirtual 56, 3) := by decide +kernel
theorem dL_law_613 : decode cL_law 613 = .ok (.if_icmp .eq 842, 3) := by decide +kernel
theorem dL_law_616 : decode cL_law 616 = .ok (.iconst 0, 1) := by decide +kernel
theorem dL_law_617 : decode cL_law 617 = .ok (.ireturn, 1) := by decide +kernel
theorem dL_law_618 : decode cL_law 618 = .ok (.aload_n 1, 1) := by decide +kernel
theorem dL_law_619 : decode cL_law 619 = .ok (.aload_n 0, 1) := by decide +kernel
theorem dL_law_620 : decode cL_law 620 = .ok (.iload_n 3, 1) := by decide +kernel
theorem dL_law_621 : decode cL_law 621 = .ok (.iconst 1, 1) := by decide +kernel
theorem dL_law_622 : decode cL_law 622 = .ok (.iadd, 1) := by decide +kernel
theorem dL_law_623 : decode cL_law 623 = .ok (.iaload, 1) := by decide +kernel
theorem dL_law_624 : decode cL_law 624 = .ok (.aload_n 0, 1) := by decide +kernel
theorem dL_law_625 : decode cL_law 625 = .ok (.iload_n 3, 1) := by decide +kernel
theorem dL_law_626 : decode cL_law 626 = .ok (.iconst 2, 1) := by decide +kernel
theorem dL_law_627 : decode cL_law 627 = .ok (.iadd, 1) := by decide +kernel
theorem dL_law_628 : decode cL_law 628 = .ok (.iaload, 1) := by decide +kernel
theorem dL_law_629 : decode cL_law 629 = .ok (.aload_n 0, 1) := by decide +kernel
theorem dL_law_630 : decode cL_law 630 = .ok (.iload_n 3, 1) := by decide +kernel
theorem dL_law_631 : decode cL_law 631 = .ok (.iconst 3, 1) := by decide +kernel
theorem dL_law_632 : decode cL_law 632 = .ok (.iadd, 1) := by decide +kernel
theorem dL_law_633 : decode cL_law 633 = .ok (.iaload, 1) := by decide +kernel
theorem dL_law_634 : decode cL_law 634 = .ok (.ifCond .eq 7, 3) := by decide +kernel
theorem dL_law_637 : decode cL_law 637 = .ok (.iconst 1, 1) := by decide +kernel
theorem dL_law_638 : decode cL_law 638 = .ok (.goto 4, 3) := by decide +kernel
theorem dL_law_641 : decode cL_law 641 = .ok (.iconst 0, 1) := by decide +kernel
theorem dL_law_642 : decode cL_law 642 = .ok (.invokevirtual 57, 3) := by decide +kernel
theorem dL_law_645 : decode cL_law 645 = .ok (.aload_n 2, 1) := by decide +kernel
theorem dL_law_646 : decode cL_law 646 = .ok (.aload_n 0, 1) := by decide +kernel
theorem dL_law_647 : decode cL_law 647 = .ok (.iload_n 3, 1) := by decide +kernel
theorem dL_law_648 : decode cL_law 648 = .ok (.iconst 1, 1) := by decide +kernel
theorem dL_law_649 : decode cL_law 649 = .ok (.iadd, 1) := by decide +kernel
theorem dL_law_650 : decode cL_law 650 = .ok (.iaload, 1) := by decide +kernel
theorem dL_law_651 : decode cL_law 651 = .ok (.aload_n 0, 1) := by decide +kernel
theorem dL_law_652 : decode cL_law 652 = .ok (.iload_n 3, 1) := by decide +kernel
theorem dL_law_653 : decode cL_law 653 = .ok (.iconst 2, 1) := by decide +kernel
theorem dL_law_654 : decode cL_law 654 = .ok (.iadd, 1) := by decide +kernel
theorem dL_law_655 : decode cL_law 655 = .ok (.iaload, 1) := by decide +kernel
theorem dL_law_656 : decode cL_law 656 = .ok (.aload_n 0, 1) := by decide +kernel
theorem dL_law_657 : decode cL_law 657 = .ok (.iload_n 3, 1) := by decide +kernel
theorem dL_law_658 : decode cL_law 658 = .ok (.iconst 3, 1) := by decide +kernel
theorem dL_law_659 : decode cL_law 659 = .ok (.iadd, 1) := by decide +kernel
theorem dL_law_660 : decode cL_law 660 = .ok (.iaload, 1) := by decide +kernel
theorem dL_law_661 : decode cL_law 661 = .ok (.ifCond .eq 7, 3) := by decide +kernel
theorem dL_law_664 : decode cL_law 664 = .ok (.iconst 1, 1) := by decide +kernel
theorem dL_law_665 : decode cL_law 665 = .ok (.goto 4, 3) := by decide +kernel
theorem dL_law_668 : decode cL_law 668 = .ok (.iconst 0, 1) := by decide +kernel
theorem dL_law_669 : decode cL_law 669 = .ok (.invokevirtual 61, 3) := by decide +kernel
theorem dL_law_672 : decode cL_law 672 = .ok (.if_icmp .eq 783, 3) := by decide +kernel
theorem dL_law_675 : decode cL_law 675 = .ok (.iconst 0, 1) := by decide +kernel
theorem dL_law_676 : decode cL_law 676 = .ok (.ireturn, 1) := by decide +kernel
theorem dL_law_677 : decode cL_law 677 = .ok (.aload_n 1, 1) := by decide +kernel
theorem dL_law_678 : decode cL_law 678 = .ok (.invokevirtual 62, 3) := by decide +kernel
theorem dL_law_681 : decode cL_law 681 = .ok (.aload_n 2, 1) := by decide +kernel
theorem dL_law_682 : decode cL_law 682 = .ok (.invokevirtual 66, 3) := by decide +kernel
theorem dL_law_685 : decode cL_law 685 = .ok (.if_icmp .eq 770, 3) := by decide +kernel
theorem dL_law_688 : decode cL_law 688 = .ok (.iconst 0, 1) := by decide +kernel
theorem dL_law_689 : decode cL_law 689 = .ok (.ireturn, 1) := by decide +kernel
theorem dL_law_690 : decode cL_law 690 = .ok (.aload_n 1, 1) := by decide +kernel
theorem dL_law_691 : decode cL_law 691 = .ok (.aload_n 0, 1) := by decide +kernel
theorem dL_law_692 : decode cL_law 692 = .ok (.iload_n 3, 1) := by decide +kernel
theorem dL_law_693 : decode cL_law 693 = .ok (.iconst 1, 1) := by decide +kernel
theorem dL_law_694 : decode cL_law 694 = .ok (.iadd, 1) := by decide +kernel
theorem dL_law_695 : decode cL_law 695 = .ok (.iaload, 1) := by decide +kernel
theorem dL_law_696 : decode cL_law 696 = .ok (.aload_n 0, 1) := by decide +kernel
theorem dL_law_697 : decode cL_law 697 = .ok (.iload_n 3, 1) := by decide +kernel
theorem dL_law_698 : decode cL_law 698 = .ok (.iconst 2, 1) := by decide +kernel
theorem dL_law_699 : decode cL_law 699 = .ok (.iadd, 1) := by decide +kernel
theorem dL_law_700 : decode cL_law 700 = .ok (.iaload, 1) := by decide +kernel
theorem dL_law_701 : decode cL_law 701 = .ok (.invokevirtual 67, 3) := by decide +kernel
theorem dL_law_704 : decode cL_law 704 = .ok (.aload_n 2, 1) := by decide +kernel
theorem dL_law_705 : decode cL_law 705 = .ok (.aload_n 0, 1) := by decide +kernel
theorem dL_law_706 : decode cL_law 706 = .ok (.iload_n 3, 1) := by decide +kernel
theorem dL_law_707 : decode cL_law 707 = .ok (.iconst 1, 1) := by decide +kernel
theorem dL_law_708 : decode cL_law 708 = .ok (.iadd, 1) := by decide +kernel
theorem dL_law_709 : decode cL_law 709 = .ok (.iaload, 1) := by decide +kernel
theorem dL_law_710 : decode cL_law 710 = .ok (.aload_n 0, 1) := by decide +kernel
theorem dL_law_711 : decode cL_law 711 = .ok (.iload_n 3, 1) := by decide +kernel
theorem dL_law_712 : decode cL_law 712 = .ok (.iconst 2, 1) := by decide +kernel
theorem dL_law_713 : decode cL_law 713 = .ok (.iadd, 1) := by decide +kernel
theorem dL_law_714 : decode cL_law 714 = .ok (.iaload, 1) := by decide +kernel
theorem dL_law_715 : decode cL_law 715 = .ok (.invokevirtual 70, 3) := by decide +kernel
theorem dL_law_718 : decode cL_law 718 = .ok (.if_icmp .eq 737, 3) := by decide +kernel
theorem dL_law_721 : decode cL_law 721 = .ok (.iconst 0, 1) := by decide +kernel
theorem dL_law_722 : decode cL_law 722 = .ok (.ireturn, 1) := by decide +kernel
theorem dL_law_723 : decode cL_law 723 = .ok (.aload_n 1, 1) := by decide +kernel
theorem dL_law_724 : decode cL_law 724 = .ok (.aload_n 0, 1) := by decide +kernel
theorem dL_law_725 : decode cL_law 725 = .ok (.iload_n 3, 1) := by decide +kernel
theorem dL_law_726 : decode cL_law 726 = .ok (.iconst 1, 1) := by decide +kernel
theorem dL_law_727 : decode cL_law 727 = .ok (.iadd, 1) := by decide +kernel
theorem dL_law_728 : decode cL_law 728 = .ok (.iaload, 1) := by decide +kernel
theorem dL_law_729 : decode cL_law 729 = .ok (.aload_n 0, 1) := by decide +kernel
theorem dL_law_730 : decode cL_law 730 = .ok (.iload_n 3, 1) := by decide +kernel
theorem dL_law_731 : decode cL_law 731 = .ok (.iconst 2, 1) := by decide +kernel
theorem dL_law_732 : decode cL_law 732 = .ok (.iadd, 1) := by decide +kernel
theorem dL_law_733 : decode cL_law 733 = .ok (.iaload, 1) := by decide +kernel
theorem dL_law_734 : decode cL_law 734 = .ok (.invokevirtual 71, 3) := by decide +kernel
theorem dL_law_737 : decode cL_law 737 = .ok (.aload_n 2, 1) := by decide +kernel
theorem dL_law_738 : decode cL_law 738 = .ok (.aload_n 0, 1) := by decide +kernel
theorem dL_law_739 : decode cL_law 739 = .ok (.iload_n 3, 1) := by decide +kernel
theorem dL_law_740 : decode cL_law 740 = .ok (.iconst 1, 1) := by decide +kernel
theorem dL_law_741 : decode cL_law 741 = .ok (.iadd, 1) := by decide +kernel
theorem dL_law_742 : decode cL_law 742 = .ok (.iaload, 1) := by decide +kernel
theorem dL_law_743 : decode cL_law 743 = .ok (.aload_n 0, 1) := by decide +kernel
theorem dL_law_744 : decode cL_law 744 = .ok (.iload_n 3, 1) := by decide +kernel
theorem dL_law_745 : decode cL_law 745 = .ok (.iconst 2, 1) := by decide +kernel
theorem dL_law_746 : decode cL_law 746 = .ok (.iadd, 1) := by decide +kernel
theorem dL_law_747 : decode cL_law 747 = .ok (.iaload, 1) := by decide +kernel
theorem dL_law_748 : decode cL_law 748 = .ok (.invokevirtual 74, 3) := by decide +kernel
theorem dL_law_751 : decode cL_law 751 = .ok (.if_icmp .eq 704, 3) := by decide +kernel
theorem dL_law_754 : decode cL_law 754 = .ok (.iconst 0, 1) := by decide +kernel
theorem dL_law_755 : decode cL_law 755 = .ok (.ireturn, 1) := by decide +kernel
theorem dL_law_756 : decode cL_law 756 = .ok (.aload_n 1, 1) := by decide +kernel
theorem dL_law_757 : decode cL_law 757 = .ok (.aload_n 0, 1) := by decide +kernel
theorem dL_law_758 : decode cL_law 758 = .ok (.iload_n 3, 1) := by decide +kernel
theorem dL_law_759 : decode cL_law 759 = .ok (.iconst 1, 1) := by decide +kernel
theorem dL_law_760 : decode cL_law 760 = .ok (.iadd, 1) := by decide +kernel
theorem dL_law_761 : decode cL_law 761 = .ok (.iaload, 1) := by decide +kernel
theorem dL_law_762 : decode cL_law 762 = .ok (.aload_n 0, 1) := by decide +kernel
theorem dL_law_763 : decode cL_law 763 = .ok (.iload_n 3, 1) := by decide +kernel
theorem dL_law_764 : decode cL_law 764 = .ok (.iconst 2, 1) := by decide +kernel
theorem dL_law_765 : decode cL_law 765 = .ok (.iadd, 1) := by decide +kernel
theorem dL_law_766 : decode cL_law 766 = .ok (.iaload, 1) := by decide +kernel
theorem dL_law_767 : decode cL_law 767 = .ok (.aload_n 0, 1) := by decide +kernel
theorem dL_law_768 : decode cL_law 768 = .ok (.iload_n 3, 1) := by decide +kernel
theorem dL_law_769 : decode cL_law 769 = .ok (.iconst 3, 1) := by decide +kernel
theorem dL_law_770 : decode cL_law 770 = .ok (.iadd, 1) := by decide +kernel
theorem dL_law_771 : decode cL_law 771 = .ok (.iaload, 1) := by decide +kernel
theorem dL_law_772 : decode cL_law 772 = .ok (.invokevirtual 75, 3) := by decide +kernel
theorem dL_law_775 : decode cL_law 775 = .ok (.aload_n 2, 1) := by decide +kernel
theorem dL_law_776 : decode cL_law 776 = .ok (.aload_n 0, 1) := by decide +kernel
theorem dL_law_777 : decode cL_law 777 = .ok (.iload_n 3, 1) := by decide +kernel
theorem dL_law_778 : decode cL_law 778 = .ok (.iconst 1, 1) := by decide +kernel
theorem dL_law_779 : decode cL_law 779 = .ok (.iadd, 1) := by decide +kernel
theorem dL_law_780 : decode cL_law 780 = .ok (.iaload, 1) := by decide +kernel
theorem dL_law_781 : decode cL_law 781 = .ok (.aload_n 0, 1) := by decide +kernel
theorem dL_law_782 : decode cL_law 782 = .ok (.iload_n 3, 1) := by decide +kernel
theorem dL_law_783 : decode cL_law 783 = .ok (.iconst 2, 1) := by decide +kernel
theorem dL_law_784 : decode cL_law 784 = .ok (.iadd, 1) := by decide +kernel
theorem dL_law_785 : decode cL_law 785 = .ok (.iaload, 1) := by decide +kernel
theorem dL_law_786 : decode cL_law 786 = .ok (.aload_n 0, 1) := by decide +kernel
theorem dL_law_787 : decode cL_law 787 = .ok (.iload_n 3, 1) := by decide +kernel
theorem dL_law_788 : decode cL_law 788 = .ok (.iconst 3, 1) := by decide +kernel
theorem dL_law_789 : decode cL_law 789 = .ok (.iadd, 1) := by decide +kernel
theorem dL_law_790 : decode cL_law 790 = .ok (.iaload, 1) := by decide +kernel
theorem dL_law_791 : decode cL_law 791 = .ok (.invokevirtual 78, 3) := by decide +kernel
theorem dL_law_794 : decode cL_law 794 = .ok (.if_icmp .eq 661, 3) := by decide +kernel
theorem dL_law_797 : decode cL_law 797 = .ok (.iconst 0, 1) := by decide +kernel
theorem dL_law_798 : decode cL_law 798 = .ok (.ireturn, 1) := by decide +kernel
theorem dL_law_799 : decode cL_law 799 = .ok (.aload_n 1, 1) := by decide +kernel
theorem dL_law_800 : decode cL_law 800 = .ok (.aload_n 0, 1) := by decide +kernel
theorem dL_law_801 : decode cL_law 801 = .ok (.iload_n 3, 1) := by decide +kernel
theorem dL_law_802 : decode cL_law 802 = .ok (.iconst 1, 1) := by decide +kernel
theorem dL_law_803 : decode cL_law 803 = .ok (.iadd, 1) := by decide +kernel
theorem dL_law_804 : decode cL_law 804 = .ok (.iaload, 1) := by decide +kernel
theorem dL_law_805 : decode cL_law 805 = .ok (.aload_n 0, 1) := by decide +kernel
theorem dL_law_806 : decode cL_law 806 = .ok (.iload_n 3, 1) := by decide +kernel
theorem dL_law_807 : decode cL_law 807 = .ok (.iconst 2, 1) := by decide +kernel
theorem dL_law_808 : decode cL_law 808 = .ok (.iadd, 1) := by decide +kernel
theorem dL_law_809 : decode cL_law 809 = .ok (.iaload, 1) := by decide +kernel
theorem dL_law_810 : decode cL_law 810 = .ok (.invokevirtual 79, 3) := by decide +kernel
theorem dL_law_813 : decode cL_law 813 = .ok (.aload_n 2, 1) := by decide +kernel
theorem dL_law_814 : decode cL_law 814 = .ok (.aload_n 0, 1) := by decide +kernel
theorem dL_law_815 : decode cL_law 815 = .ok (.iload_n 3, 1) := by decide +kernel
theorem dL_law_816 : decode cL_law 816 = .ok (.iconst 1, 1) := by decide +kernel
theorem dL_law_817 : decode cL_law 817 = .ok (.iadd, 1) := by decide +kernel
theorem dL_law_818 : decode cL_law 818 = .ok (.iaload, 1) := by decide +kernel
theorem dL_law_819 : decode cL_law 819 = .ok (.aload_n 0, 1) := by decide +kernel
theorem dL_law_820 : decode cL_law 820 = .ok (.iload_n 3, 1) := by decide +kernel
theorem dL_law_821 : decode cL_law 821 = .ok (.iconst 2, 1) := by decide +kernel
theorem dL_law_822 : decode cL_law 822 = .ok (.iadd, 1) := by decide +kernel
theorem dL_law_823 : decode cL_law 823 = .ok (.iaload, 1) := by decide +kernel
theorem dL_law_824 : decode cL_law 824 = .ok (.invokevirtual 82, 3) := by decide +kernel
theorem dL_law_827 : decode cL_law 827 = .ok (.if_icmp .eq 628, 3) := by decide +kernel
theorem dL_law_830 : decode cL_law 830 = .ok (.iconst 0, 1) := by decide +kernel
theorem dL_law_831 : decode cL_law 831 = .ok (.ireturn, 1) := by decide +kernel
theorem dL_law_832 : decode cL_law 832 = .ok (.aload_n 1, 1) := by decide +kernel
theorem dL_law_833 : decode cL_law 833 = .ok (.aload_n 0, 1) := by decide +kernel
theorem dL_law_834 : decode cL_law 834 = .ok (.iload_n 3, 1) := by decide +kernel
theorem dL_law_835 : decode cL_law 835 = .ok (.iconst 1, 1) := by decide +kernel
theorem dL_law_836 : decode cL_law 836 = .ok (.iadd, 1) := by decide +kernel
theorem dL_law_837 : decode cL_law 837 = .ok (.iaload, 1) := by decide +kernel
theorem dL_law_838 : decode cL_law 838 = .ok (.invokevirtual 83, 3) := by decide +kernel
theorem dL_law_841 : decode cL_law 841 = .ok (.aload_n 2, 1) := by decide +kernel
theorem dL_law_842 : decode cL_law 842 = .ok (.aload_n 0, 1) := by decide +kernel
theorem dL_law_843 : decode cL_law 843 = .ok (.iload_n 3, 1) := by decide +kernel
theorem dL_law_844 : decode cL_law 844 = .ok (.iconst 1, 1) := by decide +kernel
theorem dL_law_845 : decode cL_law 845 = .ok (.iadd, 1) := by decide +kernel
theorem dL_law_846 : decode cL_law 846 = .ok (.iaload, 1) := by decide +kernel
theorem dL_law_847 : decode cL_law 847 = .ok (.invokevirtual 86, 3) := by decide +kernel
theorem dL_law_850 : decode cL_law 850 = .ok (.if_icmp .eq 605, 3) := by decide +kernel
theorem dL_law_853 : decode cL_law 853 = .ok (.iconst 0, 1) := by decide +kernel
theorem dL_law_854 : decode cL_law 854 = .ok (.ireturn, 1) := by decide +kernel
theorem dL_law_855 : decode cL_law 855 = .ok (.aload_n 1, 1) := by decide +kernel
theorem dL_law_856 : decode cL_law 856 = .ok (.invokevirtual 87, 3) := by decide +kernel
theorem dL_law_859 : decode cL_law 859 = .ok (.aload_n 2, 1) := by decide +kernel
theorem dL_law_860 : decode cL_law 860 = .ok (.invokevirtual 90, 3) := by decide +kernel
theorem dL_law_863 : decode cL_law 863 = .ok (.if_icmp .eq 592, 3) := by decide +kernel
theorem dL_law_866 : decode cL_law 866 = .ok (.iconst 0, 1) := by decide +kernel
theorem dL_law_867 : decode cL_law 867 = .ok (.ireturn, 1) := by decide +kernel
theorem dL_law_868 : decode cL_law 868 = .ok (.aload_n 1, 1) := by decide +kernel
theorem dL_law_869 : decode cL_law 869 = .ok (.aload_n 0, 1) := by decide +kernel
theorem dL_law_870 : decode cL_law 870 = .ok (.iload_n 3, 1) := by decide +kernel
theorem dL_law_871 : decode cL_law 871 = .ok (.iconst 1, 1) := by decide +kernel
theorem dL_law_872 : decode cL_law 872 = .ok (.iadd, 1) := by decide +kernel
theorem dL_law_873 : decode cL_law 873 = .ok (.iaload, 1) := by decide +kernel
theorem dL_law_874 : decode cL_law 874 = .ok (.invokevirtual 91, 3) := by decide +kernel
theorem dL_law_877 : decode cL_law 877 = .ok (.aload_n 2, 1) := by decide +kernel
theorem dL_law_878 : decode cL_law 878 = .ok (.aload_n 0, 1) := by decide +kernel
theorem dL_law_879 : decode cL_law 879 = .ok (.iload_n 3, 1) := by decide +kernel
theorem dL_law_880 : decode cL_law 880 = .ok (.iconst 1, 1) := by decide +kernel
theorem dL_law_881 : decode cL_law 881 = .ok (.iadd, 1) := by decide +kernel
theorem dL_law_882 : decode cL_law 882 = .ok (.iaload, 1) := by decide +kernel
theorem dL_law_883 : decode cL_law 883 = .ok (.invokevirtual 94, 3) := by decide +kernel
theorem dL_law_886 : decode cL_law 886 = .ok (.if_icmp .eq 569, 3) := by decide +kernel
theorem dL_law_889 : decode cL_law 889 = .ok (.iconst 0, 1) := by decide +kernel
theorem dL_law_890 : decode cL_law 890 = .ok (.ireturn, 1) := by decide +kernel
theorem dL_law_891 : decode cL_law 891 = .ok (.aload_n 1, 1) := by decide +kernel
theorem dL_law_892 : decode cL_law 892 = .ok (.aload_n 0, 1) := by decide +kernel
theorem dL_law_893 : decode cL_law 893 = .ok (.iload_n 3, 1) := by decide +kernel
theorem dL_law_894 : decode cL_law 894 = .ok (.iconst 1, 1) := by decide +kernel
theorem dL_law_895 : decode cL_law 895 = .ok (.iadd, 1) := by decide +kernel
theorem dL_law_896 : decode cL_law 896 = .ok (.iaload, 1) := by decide +kernel
theorem dL_law_897 : decode cL_law 897 = .ok (.invokevirtual 95, 3) := by decide +kernel
theorem dL_law_900 : decode cL_law 900 = .ok (.aload_n 2, 1) := by decide +kernel
theorem dL_law_901 : decode cL_law 901 = .ok (.aload_n 0, 1) := by decide +kernel
theorem dL_law_902 : decode cL_law 902 = .ok (.iload_n 3, 1) := by decide +kernel
theorem dL_law_903 : decode cL_law 903 = .ok (.iconst 1, 1) := by decide +kernel
theorem dL_law_904 : decode cL_law 904 = .ok (.iadd, 1) := by decide +kernel
theorem dL_law_905 : decode cL_law 905 = .ok (.iaload, 1) := by decide +kernel
theorem dL_law_906 : decode cL_law 906 = .ok (.invokevirtual 98, 3) := by decide +kernel
theorem dL_law_909 : decode cL_law 909 = .ok (.if_icmp .eq 546, 3) := by decide +kernel
theorem dL_law_912 : decode cL_law 912 = .ok (.iconst 0, 1) := by decide +kernel
theorem dL_law_913 : decode cL_law 913 = .ok (.ireturn, 1) := by decide +kernel
theorem dL_law_914 : decode cL_law 914 = .ok (.aload_n 1, 1) := by decide +kernel
theorem dL_law_915 : decode cL_law 915 = .ok (.aload_n 0, 1) := by decide +kernel
theorem dL_law_916 : decode cL_law 916 = .ok (.iload_n 3, 1) := by decide +kernel
theorem dL_law_917 : decode cL_law 917 = .ok (.iconst 1, 1) := by decide +kernel
theorem dL_law_918 : decode cL_law 918 = .ok (.iadd, 1) := by decide +kernel
theorem dL_law_919 : decode cL_law 919 = .ok (.iaload, 1) := by decide +kernel
theorem dL_law_920 : decode cL_law 920 = .ok (.invokevirtual 99, 3) := by decide +kernel
theorem dL_law_923 : decode cL_law 923 = .ok (.aload_n 2, 1) := by decide +kernel
theorem dL_law_924 : decode cL_law 924 = .ok (.aload_n 0, 1) := by decide +kernel
theorem dL_law_925 : decode cL_law 925 = .ok (.iload_n 3, 1) := by decide +kernel
theorem dL_law_926 : decode cL_law 926 = .ok (.iconst 1, 1) := by decide +kernel
theorem dL_law_927 : decode cL_law 927 = .ok (.iadd, 1) := by decide +kernel
theorem dL_law_928 : decode cL_law 928 = .ok (.iaload, 1) := by decide +kernel
theorem dL_law_929 : decode cL_law 929 = .ok (.invokevirtual 102, 3) := by decide +kernel
theorem dL_law_932 : decode cL_law 932 = .ok (.if_icmp .eq 523, 3) := by decide +kernel
theorem dL_law_935 : decode cL_law 935 = .ok (.iconst 0, 1) := by decide +kernel
theorem dL_law_936 : decode cL_law 936 = .ok (.ireturn, 1) := by decide +kernel
theorem dL_law_937 : decode cL_law 937 = .ok (.aload_n 1, 1) := by decide +kernel
theorem dL_law_938 : decode cL_law 938 = .ok (.aload_n 0, 1) := by decide +kernel
theorem dL_law_939 : decode cL_law 939 = .ok (.iload_n 3, 1) := by decide +kernel
theorem dL_law_940 : decode cL_law 940 = .ok (.iconst 1, 1) := by decide +kernel
theorem dL_law_941 : decode cL_law 941 = .ok (.iadd, 1) := by decide +kernel
theorem dL_law_942 : decode cL_law 942 = .ok (.iaload, 1) := by decide +kernel
theorem dL_law_943 : decode cL_law 943 = .ok (.invokevirtual 103, 3) := by decide +kernel
theorem dL_law_946 : decode cL_law 946 = .ok (.aload_n 2, 1) := by decide +kernel
theorem dL_law_947 : decode cL_law 947 = .ok (.aload_n 0, 1) := by decide +kernel
theorem dL_law_948 : decode cL_law 948 = .ok (.iload_n 3, 1) := by decide +kernel
theorem dL_law_949 : decode cL_law 949 = .ok (.iconst 1, 1) := by decide +kernel
theorem dL_law_950 : decode cL_law 950 = .ok (.iadd, 1) := by decide +kernel
theorem dL_law_951 : decode cL_law 951 = .ok (.iaload, 1) := by decide +kernel
theorem dL_law_952 : decode cL_law 952 = .ok (.invokevirtual 106, 3) := by decide +kernel
theorem dL_law_955 : decode cL_law 955 = .ok (.if_icmp .eq 500, 3) := by decide +kernel
theorem dL_law_958 : decode cL_law 958 = .ok (.iconst 0, 1) := by decide +kernel
theorem dL_law_959 : decode cL_law 959 = .ok (.ireturn, 1) := by decide +kernel
theorem dL_law_960 : decode cL_law 960 = .ok (.aload_n 1, 1) := by decide +kernel
theorem dL_law_961 : decode cL_law 961 = .ok (.aload_n 0, 1) := by decide +kernel
theorem dL_law_962 : decode cL_law 962 = .ok (.iload_n 3, 1) := by decide +kernel
theorem dL_law_963 : decode cL_law 963 = .ok (.iconst 1, 1) := by decide +kernel
theorem dL_law_964 : decode cL_law 964 = .ok (.iadd, 1) := by decide +kernel
theorem dL_law_965 : decode cL_law 965 = .ok (.iaload, 1) := by decide +kernel
theorem dL_law_966 : decode cL_law 966 = .ok (.aload_n 0, 1) := by decide +kernel
theorem dL_law_967 : decode cL_law 967 = .ok (.iload_n 3, 1) := by decide +kernel
theorem dL_law_968 : decode cL_law 968 = .ok (.iconst 2, 1) := by decide +kernel
theorem dL_law_969 : decode cL_law 969 = .ok (.iadd, 1) := by decide +kernel
theorem dL_law_970 : decode cL_law 970 = .ok (.iaload, 1) := by decide +kernel
theorem dL_law_971 : decode cL_law 971 = .ok (.aload_n 0, 1) := by decide +kernel
theorem dL_law_972 : decode cL_law 972 = .ok (.iload_n 3, 1) := by decide +kernel
theorem dL_law_973 : decode cL_law 973 = .ok (.iconst 3, 1) := by decide +kernel
theorem dL_law_974 : decode cL_law 974 = .ok (.iadd, 1) := by decide +kernel
theorem dL_law_975 : decode cL_law 975 = .ok (.iaload, 1) := by decide +kernel
theorem dL_law_976 : decode cL_law 976 = .ok (.invokevirtual 107, 3) := by decide +kernel
theorem dL_law_979 : decode cL_law 979 = .ok (.aload_n 2, 1) := by decide +kernel
theorem dL_law_980 : decode cL_law 980 = .ok (.aload_n 0, 1) := by decide +kernel
theorem dL_law_981 : decode cL_law 981 = .ok (.iload_n 3, 1) := by decide +kernel
theorem dL_law_982 : decode cL_law 982 = .ok (.iconst 1, 1) := by decide +kernel
theorem dL_law_983 : decode cL_law 983 = .ok (.iadd, 1) := by decide +kernel
theorem dL_law_984 : decode cL_law 984 = .ok (.iaload, 1) := by decide +kernel
theorem dL_law_985 : decode cL_law 985 = .ok (.aload_n 0, 1) := by decide +kernel
theorem dL_law_986 : decode cL_law 986 = .ok (.iload_n 3, 1) := by decide +kernel
theorem dL_law_987 : decode cL_law 987 = .ok (.iconst 2, 1) := by decide +kernel
theorem dL_law_988 : decode cL_law 988 = .ok (.iadd, 1) := by decide +kernel
theorem dL_law_989 : decode cL_law 989 = .ok (.iaload, 1) := by decide +kernel
theorem dL_law_990 : decode cL_law 990 = .ok (.aload_n 0, 1) := by decide +kernel
theorem dL_law_991 : decode cL_law 991 = .ok (.iload_n 3, 1) := by decide +kernel
theorem dL_law_992 : decode cL_law 992 = .ok (.iconst 3, 1) := by decide +kernel
theorem dL_law_993 : decode cL_law 993 = .ok (.iadd, 1) := by decide +kernel
theorem dL_law_994 : decode cL_law 994 = .ok (.iaload, 1) := by decide +kernel
theorem dL_law_995 : decode cL_law 995 = .ok (.invokevirtual 110, 3) := by decide +kernel
theorem dL_law_998 : decode cL_law 998 = .ok (.if_icmp .eq 457, 3) := by decide +kernel
theorem dL_law_1001 : decode cL_law 1001 = .ok (.iconst 0, 1) := by decide +kernel
theorem dL_law_1002 : decode cL_law 1002 = .ok (.ireturn, 1) := by decide +kernel
theorem dL_law_1003 : decode cL_law 1003 = .ok (.aload_n 1, 1) := by decide +kernel
theorem dL_law_1004 : decode cL_law 1004 = .ok (.aload_n 0, 1) := by decide +kernel
theorem dL_law_1005 : decode cL_law 1005 = .ok (.iload_n 3, 1) := by decide +kernel
theorem dL_law_1006 : decode cL_law 1006 = .ok (.iconst 1, 1) := by decide +kernel
theorem dL_law_1007 : decode cL_law 1007 = .ok (.iadd, 1) := by decide +kernel
theorem dL_law_1008 : decode cL_law 1008 = .ok (.iaload, 1) := by decide +kernel
theorem dL_law_1009 : decode cL_law 1009 = .ok (.aload_n 0, 1) := by decide +kernel
theorem dL_law_1010 : decode cL_law 1010 = .ok (.iload_n 3, 1) := by decide +kernel
theorem dL_law_1011 : decode cL_law 1011 = .ok (.iconst 2, 1) := by decide +kernel
theorem dL_law_1012 : decode cL_law 1012 = .ok (.iadd, 1) := by decide +kernel
theorem dL_law_1013 : decode cL_law 1013 = .ok (.iaload, 1) := by decide +kernel
theorem dL_law_1014 : decode cL_law 1014 = .ok (.aload_n 0, 1) := by decide +kernel
theorem dL_law_1015 : decode cL_law 1015 = .ok (.iload_n 3, 1) := by decide +kernel
theorem dL_law_1016 : decode cL_law 1016 = .ok (.iconst 3, 1) := by decide +kernel
theorem dL_law_1017 : decode cL_law 1017 = .ok (.iadd, 1) := by decide +kernel
theorem dL_law_1018 : decode cL_law 1018 = .ok (.iaload, 1) := by decide +kernel
theorem dL_law_1019 : decode cL_law 1019 = .ok (.invokevirtual 111, 3) := by decide +kernel
theorem dL_law_1022 : decode cL_law 1022 = .ok (.aload_n 2, 1) := by decide +kernel
theorem dL_law_1023 : decode cL_law 1023 = .ok (.aload_n 0, 1) := by decide +kernel
theorem dL_law_1024 : decode cL_law 1024 = .ok (.iload_n 3, 1) := by decide +kernel
theorem dL_law_1025 : decode cL_law 1025 = .ok (.iconst 1, 1) := by decide +kernel
theorem dL_law_1026 : decode cL_law 1026 = .ok (.iadd, 1) := by decide +kernel
theorem dL_law_1027 : decode cL_law 1027 = .ok (.iaload, 1) := by decide +kernel
theorem dL_law_1028 : decode cL_law 1028 = .ok (.aload_n 0, 1) := by decide +kernel
theorem dL_law_1029 : decode cL_law 1029 = .ok (.iload_n 3, 1) := by decide +kernel
theorem dL_law_1030 : decode cL_law 1030 = .ok (.iconst 2, 1) := by decide +kernel
theorem dL_law_1031 : decode cL_law 1031 = .ok (.iadd, 1) := by decide +kernel
theorem dL_law_1032 : decode cL_law 1032 = .ok (.iaload, 1) := by decide +kernel
theorem dL_law_1033 : decode cL_law 1033 = .ok (.aload_n 0, 1) := by decide +kernel
theorem dL_law_1034 : decode cL_law 1034 = .ok (.iload_n 3, 1) := by decide +kernel
theorem dL_law_1035 : decode cL_law 1035 = .ok (.iconst 3, 1) := by decide +kernel
theorem dL_law_1036 : decode cL_law 1036 = .ok (.iadd, 1) := by decide +kernel
theorem dL_law_1037 : decode cL_law 1037 = .ok (.iaload, 1) := by decide +kernel
theorem dL_law_1038 : decode cL_law 1038 = .ok (.invokevirtual 114, 3) := by decide +kernel
theorem dL_law_1041 : decode cL_law 1041 = .ok (.if_icmp .eq 414, 3) := by decide +kernel
theorem dL_law_1044 : decode cL_law 1044 = .ok (.iconst 0, 1) := by decide +kernel
theorem dL_law_1045 : decode cL_law 1045 = .ok (.ireturn, 1) := by decide +kernel
theorem dL_law_1046 : decode cL_law 1046 = .ok (.aload_n 1, 1) := by decide +kernel
theorem dL_law_1047 : decode cL_law 1047 = .ok (.aload_n 0, 1) := by decide +kernel
theorem dL_law_1048 : decode cL_law 1048 = .ok (.iload_n 3, 1) := by decide +kernel
theorem dL_law_1049 : decode cL_law 1049 = .ok (.iconst 1, 1) := by decide +kernel
theorem dL_law_1050 : decode cL_law 1050 = .ok (.iadd, 1) := by decide +kernel
theorem dL_law_1051 : decode cL_law 1051 = .ok (.iaload, 1) := by decide +kernel
theorem dL_law_1052 : decode cL_law 1052 = .ok (.invokevirtual 115, 3) := by decide +kernel
theorem dL_law_1055 : decode cL_law 1055 = .ok (.aload_n 2, 1) := by decide +kernel
theorem dL_law_1056 : decode cL_law 1056 = .ok (.aload_n 0, 1) := by decide +kernel
theorem dL_law_1057 : decode cL_law 1057 = .ok (.iload_n 3, 1) := by decide +kernel
theorem dL_law_1058 : decode cL_law 1058 = .ok (.iconst 1, 1) := by decide +kernel
theorem dL_law_1059 : decode cL_law 1059 = .ok (.iadd, 1) := by decide +kernel
theorem dL_law_1060 : decode cL_law 1060 = .ok (.iaload, 1) := by decide +kernel
theorem dL_law_1061 : decode cL_law 1061 = .ok (.invokevirtual 118, 3) := by decide +kernel
theorem dL_law_1064 : decode cL_law 1064 = .ok (.if_icmp .eq 391, 3) := by decide +kernel
theorem dL_law_1067 : decode cL_law 1067 = .ok (.iconst 0, 1) := by decide +kernel
theorem dL_law_1068 : decode cL_law 1068 = .ok (.ireturn, 1) := by decide +kernel
theorem dL_law_1069 : decode cL_law 1069 = .ok (.aload_n 1, 1) := by decide +kernel
theorem dL_law_1070 : decode cL_law 1070 = .ok (.invokevirtual 119, 3) := by decide +kernel
theorem dL_law_1073 : decode cL_law 1073 = .ok (.aload_n 2, 1) := by decide +kernel
theorem dL_law_1074 : decode cL_law 1074 = .ok (.invokevirtual 122, 3) := by decide +kernel
theorem dL_law_1077 : decode cL_law 1077 = .ok (.if_icmp .eq 378, 3) := by decide +kernel
theorem dL_law_1080 : decode cL_law 1080 = .ok (.iconst 0, 1) := by decide +kernel
theorem dL_law_1081 : decode cL_law 1081 = .ok (.ireturn, 1) := by decide +kernel
theorem dL_law_1082 : decode cL_law 1082 = .ok (.aload_n 1, 1) := by decide +kernel
theorem dL_law_1083 : decode cL_law 1083 = .ok (.invokevirtual 123, 3) := by decide +kernel
theorem dL_law_1086 : decode cL_law 1086 = .ok (.aload_n 2, 1) := by decide +kernel
theorem dL_law_1087 : decode cL_law 1087 = .ok (.invokevirtual 126, 3) := by decide +kernel
theorem dL_law_1090 : decode cL_law 1090 = .ok (.if_icmp .eq 365, 3) := by decide +kernel
theorem dL_law_1093 : decode cL_law 1093 = .ok (.iconst 0, 1) := by decide +kernel
theorem dL_law_1094 : decode cL_law 1094 = .ok (.ireturn, 1) := by decide +kernel
theorem dL_law_1095 : decode cL_law 1095 = .ok (.aload_n 1, 1) := by decide +kernel
theorem dL_law_1096 : decode cL_law 1096 = .ok (.aload_n 0, 1) := by decide +kernel
theorem dL_law_1097 : decode cL_law 1097 = .ok (.iload_n 3, 1) := by decide +kernel
theorem dL_law_1098 : decode cL_law 1098 = .ok (.iconst 1, 1) := by decide +kernel
theorem dL_law_1099 : decode cL_law 1099 = .ok (.iadd, 1) := by decide +kernel
theorem dL_law_1100 : decode cL_law 1100 = .ok (.iaload, 1) := by decide +kernel
theorem dL_law_1101 : decode cL_law 1101 = .ok (.invokevirtual 127, 3) := by decide +kernel
theorem dL_law_1104 : decode cL_law 1104 = .ok (.aload_n 2, 1) := by decide +kernel
theorem dL_law_1105 : decode cL_law 1105 = .ok (.aload_n 0, 1) := by decide +kernel
theorem dL_law_1106 : decode cL_law 1106 = .ok (.iload_n 3, 1) := by decide +kernel
theorem dL_law_1107 : decode cL_law 1107 = .ok (.iconst 1, 1) := by decide +kernel
theorem dL_law_1108 : decode cL_law 1108 = .ok (.iadd, 1) := by decide +kernel
theorem dL_law_1109 : decode cL_law 1109 = .ok (.iaload, 1) := by decide +kernel
theorem dL_law_1110 : decode cL_law 1110 = .ok (.invokevirtual 130, 3) := by decide +kernel
theorem dL_law_1113 : decode cL_law 1113 = .ok (.if_icmp .eq 342, 3) := by decide +kernel
theorem dL_law_1116 : decode cL_law 1116 = .ok (.iconst 0, 1) := by decide +kernel
theorem dL_law_1117 : decode cL_law 1117 = .ok (.ireturn, 1) := by decide +kernel
theorem dL_law_1118 : decode cL_law 1118 = .ok (.aload_n 1, 1) := by decide +kernel
theorem dL_law_1119 : decode cL_law 1119 = .ok (.aload_n 0, 1) := by decide +kernel
theorem dL_law_1120 : decode cL_law 1120 = .ok (.iload_n 3, 1) := by decide +kernel
theorem dL_law_1121 : decode cL_law 1121 = .ok (.iconst 1, 1) := by decide +kernel
theorem dL_law_1122 : decode cL_law 1122 = .ok (.iadd, 1) := by decide +kernel
theorem dL_law_1123 : decode cL_law 1123 = .ok (.iaload, 1) := by decide +kernel
theorem dL_law_1124 : decode cL_law 1124 = .ok (.aload_n 0, 1) := by decide +kernel
theorem dL_law_1125 : decode cL_law 1125 = .ok (.iload_n 3, 1) := by decide +kernel
theorem dL_law_1126 : decode cL_law 1126 = .ok (.iconst 2, 1) := by decide +kernel
theorem dL_law_1127 : decode cL_law 1127 = .ok (.iadd, 1) := by decide +kernel
theorem dL_law_1128 : decode cL_law 1128 = .ok (.iaload, 1) := by decide +kernel
theorem dL_law_1129 : decode cL_law 1129 = .ok (.aload_n 0, 1) := by decide +kernel
theorem dL_law_1130 : decode cL_law 1130 = .ok (.iload_n 3, 1) := by decide +kernel
theorem dL_law_1131 : decode cL_law 1131 = .ok (.iconst 3, 1) := by decide +kernel
theorem dL_law_1132 : decode cL_law 1132 = .ok (.iadd, 1) := by decide +kernel
theorem dL_law_1133 : decode cL_law 1133 = .ok (.iaload, 1) := by decide +kernel
theorem dL_law_1134 : decode cL_law 1134 = .ok (.invokevirtual 131, 3) := by decide +kernel
theorem dL_law_1137 : decode cL_law 1137 = .ok (.aload_n 2, 1) := by decide +kernel
theorem dL_law_1138 : decode cL_law 1138 = .ok (.aload_n 0, 1) := by decide +kernel
theorem dL_law_1139 : decode cL_law 1139 = .ok (.iload_n 3, 1) := by decide +kernel
theorem dL_law_1140 : decode cL_law 1140 = .ok (.iconst 1, 1) := by decide +kernel
theorem dL_law_1141 : decode cL_law 1141 = .ok (.iadd, 1) := by decide +kernel
theorem dL_law_1142 : decode cL_law 1142 = .ok (.iaload, 1) := by decide +kernel
theorem dL_law_1143 : decode cL_law 1143 = .ok (.aload_n 0, 1) := by decide +kernel
theorem dL_law_1144 : decode cL_law 1144 = .ok (.iload_n 3, 1) := by decide +kernel
theorem dL_law_1145 : decode cL_law 1145 = .ok (.iconst 2, 1) := by decide +kernel
theorem dL_law_1146 : decode cL_law 1146 = .ok (.iadd, 1) := by decide +kernel
theorem dL_law_1147 : decode cL_law 1147 = .ok (.iaload, 1) := by decide +kernel
theorem dL_law_1148 : decode cL_law 1148 = .ok (.aload_n 0, 1) := by decide +kernel
theorem dL_law_1149 : decode cL_law 1149 = .ok (.iload_n 3, 1) := by decide +kernel
theorem dL_law_1150 : decode cL_law 1150 = .ok (.iconst 3, 1) := by decide +kernel
theorem dL_law_1151 : decode cL_law 1151 = .ok (.iadd, 1) := by decide +kernel
theorem dL_law_1152 : decode cL_law 1152 = .ok (.iaload, 1) := by decide +kernel
theorem dL_law_1153 : decode cL_law 1153 = .ok (.invokevirtual 134, 3) := by decide +kernel
theorem dL_law_1156 : decode cL_law 1156 = .ok (.if_icmp .eq 299, 3) := by decide +kernel
theorem dL_law_1159 : decode cL_law 1159 = .ok (.iconst 0, 1) := by decide +kernel
theorem dL_law_1160 : decode cL_law 1160 = .ok (.ireturn, 1) := by decide +kernel
theorem dL_law_1161 : decode cL_law 1161 = .ok (.aload_n 1, 1) := by decide +kernel
theorem dL_law_1162 : decode cL_law 1162 = .ok (.aload_n 0, 1) := by decide +kernel
theorem dL_law_1163 : decode cL_law 1163 = .ok (.iload_n 3, 1) := by decide +kernel
theorem dL_law_1164 : decode cL_law 1164 = .ok (.iconst 1, 1) := by decide +kernel
theorem dL_law_1165 : decode cL_law 1165 = .ok (.iadd, 1) := by decide +kernel
theorem dL_law_1166 : decode cL_law 1166 = .ok (.iaload, 1) := by decide +kernel
theorem dL_law_1167 : decode cL_law 1167 = .ok (.aload_n 0, 1) := by decide +kernel
theorem dL_law_1168 : decode cL_law 1168 = .ok (.iload_n 3, 1) := by decide +kernel
theorem dL_law_1169 : decode cL_law 1169 = .ok (.iconst 2, 1) := by decide +kernel
theorem dL_law_1170 : decode cL_law 1170 = .ok (.iadd, 1) := by decide +kernel
theorem dL_law_1171 : decode cL_law 1171 = .ok (.iaload, 1) := by decide +kernel
theorem dL_law_1172 : decode cL_law 1172 = .ok (.invokevirtual 135, 3) := by decide +kernel
theorem dL_law_1175 : decode cL_law 1175 = .ok (.aload_n 2, 1) := by decide +kernel
theorem dL_law_1176 : decode cL_law 1176 = .ok (.aload_n 0, 1) := by decide +kernel
theorem dL_law_1177 : decode cL_law 1177 = .ok (.iload_n 3, 1) := by decide +kernel
theorem dL_law_1178 : decode cL_law 1178 = .ok (.iconst 1, 1) := by decide +kernel
theorem dL_law_1179 : decode cL_law 1179 = .ok (.iadd, 1) := by decide +kernel
theorem dL_law_1180 : decode cL_law 1180 = .ok (.iaload, 1) := by decide +kernel
theorem dL_law_1181 : decode cL_law 1181 = .ok (.aload_n 0, 1) := by decide +kernel
theorem dL_law_1182 : decode cL_law 1182 = .ok (.iload_n 3, 1) := by decide +kernel
theorem dL_law_1183 : decode cL_law 1183 = .ok (.iconst 2, 1) := by decide +kernel
theorem dL_law_1184 : decode cL_law 1184 = .ok (.iadd, 1) := by decide +kernel
theorem dL_law_1185 : decode cL_law 1185 = .ok (.iaload, 1) := by decide +kernel
theorem dL_law_1186 : decode cL_law 1186 = .ok (.invokevirtual 138, 3) := by decide +kernel
theorem dL_law_1189 : decode cL_law 1189 = .ok (.if_icmp .eq 266, 3) := by decide +kernel
theorem dL_law_1192 : decode cL_law 1192 = .ok (.iconst 0, 1) := by decide +kernel
theorem dL_law_1193 : decode cL_law 1193 = .ok (.ireturn, 1) := by decide +kernel
theorem dL_law_1194 : decode cL_law 1194 = .ok (.aload_n 1, 1) := by decide +kernel
theorem dL_law_1195 : decode cL_law 1195 = .ok (.aload_n 0, 1) := by decide +kernel
theorem dL_law_1196 : decode cL_law 1196 = .ok (.iload_n 3, 1) := by decide +kernel
theorem dL_law_1197 : decode cL_law 1197 = .ok (.iconst 1, 1) := by decide +kernel
theorem dL_law_1198 : decode cL_law 1198 = .ok (.iadd, 1) := by decide +kernel
theorem dL_law_1199 : decode cL_law 1199 = .ok (.iaload, 1) := by decide +kernel
theorem dL_law_1200 : decode cL_law 1200 = .ok (.aload_n 0, 1) := by decide +kernel
theorem dL_law_1201 : decode cL_law 1201 = .ok (.iload_n 3, 1) := by decide +kernel
theorem dL_law_1202 : decode cL_law 1202 = .ok (.iconst 2, 1) := by decide +kernel
theorem dL_law_1203 : decode cL_law 1203 = .ok (.iadd, 1) := by decide +kernel
theorem dL_law_1204 : decode cL_law 1204 = .ok (.iaload, 1) := by decide +kernel
theorem dL_law_1205 : decode cL_law 1205 = .ok (.invokevirtual 139, 3) := by decide +kernel
theorem dL_law_1208 : decode cL_law 1208 = .ok (.aload_n 2, 1) := by decide +kernel
theorem dL_law_1209 : decode cL_law 1209 = .ok (.aload_n 0, 1) := by decide +kernel
theorem dL_law_1210 : decode cL_law 1210 = .ok (.iload_n 3, 1) := by decide +kernel
theorem dL_law_1211 : decode cL_law 1211 = .ok (.iconst 1, 1) := by decide +kernel
theorem dL_law_1212 : decode cL_law 1212 = .ok (.iadd, 1) := by decide +kernel
theorem dL_law_1213 : decode cL_law 1213 = .ok (.iaload, 1) := by decide +kernel
theorem dL_law_1214 : decode cL_law 1214 = .ok (.aload_n 0, 1) := by decide +kernel
theorem dL_law_1215 : decode cL_law 1215 = .ok (.iload_n 3, 1) := by decide +kernel
theorem dL_law_1216 : decode cL_law 1216 = .ok (.iconst 2, 1) := by decide +kernel
theorem dL_law_1217 : decode cL_law 1217 = .ok (.iadd, 1) := by decide +kernel
theorem dL_law_1218 : decode cL_law 1218 = .ok (.iaload, 1) := by decide +kernel
theorem dL_law_1219 : decode cL_law 1219 = .ok (.invokevirtual 142, 3) := by decide +kernel
theorem dL_law_1222 : decode cL_law 1222 = .ok (.if_icmp .eq 233, 3) := by decide +kernel
theorem dL_law_1225 : decode cL_law 1225 = .ok (.iconst 0, 1) := by decide +kernel
theorem dL_law_1226 : decode cL_law 1226 = .ok (.ireturn, 1) := by decide +kernel
theorem dL_law_1227 : decode cL_law 1227 = .ok (.aload_n 1, 1) := by decide +kernel
theorem dL_law_1228 : decode cL_law 1228 = .ok (.aload_n 0, 1) := by decide +kernel
theorem dL_law_1229 : decode cL_law 1229 = .ok (.iload_n 3, 1) := by decide +kernel
theorem dL_law_1230 : decode cL_law 1230 = .ok (.iconst 1, 1) := by decide +kernel
theorem dL_law_1231 : decode cL_law 1231 = .ok (.iadd, 1) := by decide +kernel
theorem dL_law_1232 : decode cL_law 1232 = .ok (.iaload, 1) := by decide +kernel
theorem dL_law_1233 : decode cL_law 1233 = .ok (.i2l, 1) := by decide +kernel
theorem dL_law_1234 : decode cL_law 1234 = .ok (.bipush 32, 2) := by decide +kernel
theorem dL_law_1236 : decode cL_law 1236 = .ok (.lshl, 1) := by decide +kernel
theorem dL_law_1237 : decode cL_law 1237 = .ok (.aload_n 0, 1) := by decide +kernel
theorem dL_law_1238 : decode cL_law 1238 = .ok (.iload_n 3, 1) := by decide +kernel
theorem dL_law_1239 : decode cL_law 1239 = .ok (.iconst 2, 1) := by decide +kernel
theorem dL_law_1240 : decode cL_law 1240 = .ok (.iadd, 1) := by decide +kernel
theorem dL_law_1241 : decode cL_law 1241 = .ok (.iaload, 1) := by decide +kernel
theorem dL_law_1242 : decode cL_law 1242 = .ok (.i2l, 1) := by decide +kernel
theorem dL_law_1243 : decode cL_law 1243 = .ok (.ldc2_w 143, 3) := by decide +kernel
theorem dL_law_1246 : decode cL_law 1246 = .ok (.land, 1) := by decide +kernel
theorem dL_law_1247 : decode cL_law 1247 = .ok (.lor, 1) := by decide +kernel
theorem dL_law_1248 : decode cL_law 1248 = .ok (.aload_n 0, 1) := by decide +kernel
theorem dL_law_1249 : decode cL_law 1249 = .ok (.iload_n 3, 1) := by decide +kernel
theorem dL_law_1250 : decode cL_law 1250 = .ok (.iconst 3, 1) := by decide +kernel
theorem dL_law_1251 : decode cL_law 1251 = .ok (.iadd, 1) := by decide +kernel
theorem dL_law_1252 : decode cL_law 1252 = .ok (.iaload, 1) := by decide +kernel
theorem dL_law_1253 : decode cL_law 1253 = .ok (.invokevirtual 145, 3) := by decide +kernel
theorem dL_law_1256 : decode cL_law 1256 = .ok (.aload_n 2, 1) := by decide +kernel
theorem dL_law_1257 : decode cL_law 1257 = .ok (.aload_n 0, 1) := by decide +kernel
theorem dL_law_1258 : decode cL_law 1258 = .ok (.iload_n 3, 1) := by decide +kernel
theorem dL_law_1259 : decode cL_law 1259 = .ok (.iconst 1, 1) := by decide +kernel
theorem dL_law_1260 : decode cL_law 1260 = .ok (.iadd, 1) := by decide +kernel
theorem dL_law_1261 : decode cL_law 1261 = .ok (.iaload, 1) := by decide +kernel
theorem dL_law_1262 : decode cL_law 1262 = .ok (.i2l, 1) := by decide +kernel
theorem dL_law_1263 : decode cL_law 1263 = .ok (.bipush 32, 2) := by decide +kernel
theorem dL_law_1265 : decode cL_law 1265 = .ok (.lshl, 1) := by decide +kernel
theorem dL_law_1266 : decode cL_law 1266 = .ok (.aload_n 0, 1) := by decide +kernel
theorem dL_law_1267 : decode cL_law 1267 = .ok (.iload_n 3, 1) := by decide +kernel
theorem dL_law_1268 : decode cL_law 1268 = .ok (.iconst 2, 1) := by decide +kernel
theorem dL_law_1269 : decode cL_law 1269 = .ok (.iadd, 1) := by decide +kernel
theorem dL_law_1270 : decode cL_law 1270 = .ok (.iaload, 1) := by decide +kernel
theorem dL_law_1271 : decode cL_law 1271 = .ok (.i2l, 1) := by decide +kernel
theorem dL_law_1272 : decode cL_law 1272 = .ok (.ldc2_w 143, 3) := by decide +kernel
theorem dL_law_1275 : decode cL_law 1275 = .ok (.land, 1) := by decide +kernel
theorem dL_law_1276 : decode cL_law 1276 = .ok (.lor, 1) := by decide +kernel
theorem dL_law_1277 : decode cL_law 1277 = .ok (.aload_n 0, 1) := by decide +kernel
theorem dL_law_1278 : decode cL_law 1278 = .ok (.iload_n 3, 1) := by decide +kernel
theorem dL_law_1279 : decode cL_law 1279 = .ok (.iconst 3, 1) := by decide +kernel
theorem dL_law_1280 : decode cL_law 1280 = .ok (.iadd, 1) := by decide +kernel
theorem dL_law_1281 : decode cL_law 1281 = .ok (.iaload, 1) := by decide +kernel
theorem dL_law_1282 : decode cL_law 1282 = .ok (.invokevirtual 149, 3) := by decide +kernel
theorem dL_law_1285 : decode cL_law 1285 = .ok (.if_icmp .eq 170, 3) := by decide +kernel
theorem dL_law_1288 : decode cL_law 1288 = .ok (.iconst 0, 1) := by decide +kernel
theorem dL_law_1289 : decode cL_law 1289 = .ok (.ireturn, 1) := by decide +kernel
theorem dL_law_1290 : decode cL_law 1290 = .ok (.aload_n 1, 1) := by decide +kernel
theorem dL_law_1291 : decode cL_law 1291 = .ok (.invokevirtual 150, 3) := by decide +kernel
theorem dL_law_1294 : decode cL_law 1294 = .ok (.aload_n 2, 1) := by decide +kernel
theorem dL_law_1295 : decode cL_law 1295 = .ok (.invokevirtual 153, 3) := by decide +kernel
theorem dL_law_1298 : decode cL_law 1298 = .ok (.if_icmp .eq 157, 3) := by decide +kernel
theorem dL_law_1301 : decode cL_law 1301 = .ok (.iconst 0, 1) := by decide +kernel
theorem dL_law_1302 : decode cL_law 1302 = .ok (.ireturn, 1) := by decide +kernel
theorem dL_law_1303 : decode cL_law 1303 = .ok (.aload_n 1, 1) := by decide +kernel
theorem dL_law_1304 : decode cL_law 1304 = .ok (.invokevirtual 154, 3) := by decide +kernel
theorem dL_law_1307 : decode cL_law 1307 = .ok (.aload_n 2, 1) := by decide +kernel
theorem dL_law_1308 : decode cL_law 1308 = .ok (.invokevirtual 157, 3) := by decide +kernel
theorem dL_law_1311 : decode cL_law 1311 = .ok (.if_icmp .eq 144, 3) := by decide +kernel
theorem dL_law_1314 : decode cL_law 1314 = .ok (.iconst 0, 1) := by decide +kernel
theorem dL_law_1315 : decode cL_law 1315 = .ok (.ireturn, 1) := by decide +kernel
theorem dL_law_1316 : decode cL_law 1316 = .ok (.aload_n 1, 1) := by decide +kernel
theorem dL_law_1317 : decode cL_law 1317 = .ok (.aload_n 0, 1) := by decide +kernel
theorem dL_law_1318 : decode cL_law 1318 = .ok (.iload_n 3, 1) := by decide +kernel
theorem dL_law_1319 : decode cL_law 1319 = .ok (.iconst 1, 1) := by decide +kernel
theorem dL_law_1320 : decode cL_law 1320 = .ok (.iadd, 1) := by decide +kernel
theorem dL_law_1321 : decode cL_law 1321 = .ok (.iaload, 1) := by decide +kernel
theorem dL_law_1322 : decode cL_law 1322 = .ok (.invokevirtual 158, 3) := by decide +kernel
theorem dL_law_1325 : decode cL_law 1325 = .ok (.aload_n 2, 1) := by decide +kernel
theorem dL_law_1326 : decode cL_law 1326 = .ok (.aload_n 0, 1) := by decide +kernel
theorem dL_law_1327 : decode cL_law 1327 = .ok (.iload_n 3, 1) := by decide +kernel
theorem dL_law_1328 : decode cL_law 1328 = .ok (.iconst 1, 1) := by decide +kernel
theorem dL_law_1329 : decode cL_law 1329 = .ok (.iadd, 1) := by decide +kernel
theorem dL_law_1330 : decode cL_law 1330 = .ok (.iaload, 1) := by decide +kernel
theorem dL_law_1331 : decode cL_law 1331 = .ok (.invokevirtual 161, 3) := by decide +kernel
theorem dL_law_1334 : decode cL_law 1334 = .ok (.if_icmp .eq 121, 3) := by decide +kernel
theorem dL_law_1337 : decode cL_law 1337 = .ok (.iconst 0, 1) := by decide +kernel
theorem dL_law_1338 : decode cL_law 1338 = .ok (.ireturn, 1) := by decide +kernel
theorem dL_law_1339 : decode cL_law 1339 = .ok (.aload_n 1, 1) := by decide +kernel
theorem dL_law_1340 : decode cL_law 1340 = .ok (.aload_n 0, 1) := by decide +kernel
theorem dL_law_1341 : decode cL_law 1341 = .ok (.iload_n 3, 1) := by decide +kernel
theorem dL_law_1342 : decode cL_law 1342 = .ok (.iconst 1, 1) := by decide +kernel
theorem dL_law_1343 : decode cL_law 1343 = .ok (.iadd, 1) := by decide +kernel
theorem dL_law_1344 : decode cL_law 1344 = .ok (.iaload, 1) := by decide +kernel
theorem dL_law_1345 : decode cL_law 1345 = .ok (.aload_n 0, 1) := by decide +kernel
theorem dL_law_1346 : decode cL_law 1346 = .ok (.iload_n 3, 1) := by decide +kernel
theorem dL_law_1347 : decode cL_law 1347 = .ok (.iconst 2, 1) := by decide +kernel
theorem dL_law_1348 : decode cL_law 1348 = .ok (.iadd, 1) := by decide +kernel
theorem dL_law_1349 : decode cL_law 1349 = .ok (.iaload, 1) := by decide +kernel
theorem dL_law_1350 : decode cL_law 1350 = .ok (.invokevirtual 162, 3) := by decide +kernel
theorem dL_law_1353 : decode cL_law 1353 = .ok (.aload_n 2, 1) := by decide +kernel
theorem dL_law_1354 : decode cL_law 1354 = .ok (.aload_n 0, 1) := by decide +kernel
theorem dL_law_1355 : decode cL_law 1355 = .ok (.iload_n 3, 1) := by decide +kernel
theorem dL_law_1356 : decode cL_law 1356 = .ok (.iconst 1, 1) := by decide +kernel
theorem dL_law_1357 : decode cL_law 1357 = .ok (.iadd, 1) := by decide +kernel
theorem dL_law_1358 : decode cL_law 1358 = .ok (.iaload, 1) := by decide +kernel
theorem dL_law_1359 : decode cL_law 1359 = .ok (.aload_n 0, 1) := by decide +kernel
theorem dL_law_1360 : decode cL_law 1360 = .ok (.iload_n 3, 1) := by decide +kernel
theorem dL_law_1361 : decode cL_law 1361 = .ok (.iconst 2, 1) := by decide +kernel
theorem dL_law_1362 : decode cL_law 1362 = .ok (.iadd, 1) := by decide +kernel
theorem dL_law_1363 : decode cL_law 1363 = .ok (.iaload, 1) := by decide +kernel
theorem dL_law_1364 : decode cL_law 1364 = .ok (.invokevirtual 165, 3) := by decide +kernel
theorem dL_law_1367 : decode cL_law 1367 = .ok (.if_icmp .eq 88, 3) := by decide +kernel
theorem dL_law_1370 : decode cL_law 1370 = .ok (.iconst 0, 1) := by decide +kernel
theorem dL_law_1371 : decode cL_law 1371 = .ok (.ireturn, 1) := by decide +kernel
theorem dL_law_1372 : decode cL_law 1372 = .ok (.aload_n 1, 1) := by decide +kernel
theorem dL_law_1373 : decode cL_law 1373 = .ok (.aload_n 0, 1) := by decide +kernel
theorem dL_law_1374 : decode cL_law 1374 = .ok (.iload_n 3, 1) := by decide +kernel
theorem dL_law_1375 : decode cL_law 1375 = .ok (.iconst 1, 1) := by decide +kernel
theorem dL_law_1376 : decode cL_law 1376 = .ok (.iadd, 1) := by decide +kernel
theorem dL_law_1377 : decode cL_law 1377 = .ok (.iaload, 1) := by decide +kernel
theorem dL_law_1378 : decode cL_law 1378 = .ok (.invokevirtual 166, 3) := by decide +kernel
theorem dL_law_1381 : decode cL_law 1381 = .ok (.aload_n 2, 1) := by decide +kernel
theorem dL_law_1382 : decode cL_law 1382 = .ok (.aload_n 0, 1) := by decide +kernel
theorem dL_law_1383 : decode cL_law 1383 = .ok (.iload_n 3, 1) := by decide +kernel
theorem dL_law_1384 : decode cL_law 1384 = .ok (.iconst 1, 1) := by decide +kernel
theorem dL_law_1385 : decode cL_law 1385 = .ok (.iadd, 1) := by decide +kernel
theorem dL_law_1386 : decode cL_law 1386 = .ok (.iaload, 1) := by decide +kernel
theorem dL_law_1387 : decode cL_law 1387 = .ok (.invokevirtual 169, 3) := by decide +kernel
theorem dL_law_1390 : decode cL_law 1390 = .ok (.if_icmp .eq 65, 3) := by decide +kernel
theorem dL_law_1393 : decode cL_law 1393 = .ok (.iconst 0, 1) := by decide +kernel
theorem dL_law_1394 : decode cL_law 1394 = .ok (.ireturn, 1) := by decide +kernel
theorem dL_law_1395 : decode cL_law 1395 = .ok (.aload_n 1, 1) := by decide +kernel
theorem dL_law_1396 : decode cL_law 1396 = .ok (.aload_n 0, 1) := by decide +kernel
theorem dL_law_1397 : decode cL_law 1397 = .ok (.iload_n 3, 1) := by decide +kernel
theorem dL_law_1398 : decode cL_law 1398 = .ok (.iconst 1, 1) := by decide +kernel
theorem dL_law_1399 : decode cL_law 1399 = .ok (.iadd, 1) := by decide +kernel
theorem dL_law_1400 : decode cL_law 1400 = .ok (.iaload, 1) := by decide +kernel
theorem dL_law_1401 : decode cL_law 1401 = .ok (.invokevirtual 170, 3) := by decide +kernel
theorem dL_law_1404 : decode cL_law 1404 = .ok (.aload_n 2, 1) := by decide +kernel
theorem dL_law_1405 : decode cL_law 1405 = .ok (.aload_n 0, 1) := by decide +kernel
theorem dL_law_1406 : decode cL_law 1406 = .ok (.iload_n 3, 1) := by decide +kernel
theorem dL_law_1407 : decode cL_law 1407 = .ok (.iconst 1, 1) := by decide +kernel
theorem dL_law_1408 : decode cL_law 1408 = .ok (.iadd, 1) := by decide +kernel
theorem dL_law_1409 : decode cL_law 1409 = .ok (.iaload, 1) := by decide +kernel
theorem dL_law_1410 : decode cL_law 1410 = .ok (.invokevirtual 173, 3) := by decide +kernel
theorem dL_law_1413 : decode cL_law 1413 = .ok (.if_icmp .eq 42, 3) := by decide +kernel
theorem dL_law_1416 : decode cL_law 1416 = .ok (.iconst 0, 1) := by decide +kernel
theorem dL_law_1417 : decode cL_law 1417 = .ok (.ireturn, 1) := by decide +kernel
theorem dL_law_1418 : decode cL_law 1418 = .ok (.aload_n 1, 1) := by decide +kernel
theorem dL_law_1419 : decode cL_law 1419 = .ok (.aload_n 0, 1) := by decide +kernel
theorem dL_law_1420 : decode cL_law 1420 = .ok (.iload_n 3, 1) := by decide +kernel
theorem dL_law_1421 : decode cL_law 1421 = .ok (.iconst 1, 1) := by decide +kernel
theorem dL_law_1422 : decode cL_law 1422 = .ok (.iadd, 1) := by decide +kernel
theorem dL_law_1423 : decode cL_law 1423 = .ok (.iaload, 1) := by decide +kernel
theorem dL_law_1424 : decode cL_law 1424 = .ok (.invokevirtual 174, 3) := by decide +kernel
theorem dL_law_1427 : decode cL_law 1427 = .ok (.aload_n 2, 1) := by decide +kernel
theorem dL_law_1428 : decode cL_law 1428 = .ok (.aload_n 0, 1) := by decide +kernel
theorem dL_law_1429 : decode cL_law 1429 = .ok (.iload_n 3, 1) := by decide +kernel
theorem dL_law_1430 : decode cL_law 1430 = .ok (.iconst 1, 1) := by decide +kernel
theorem dL_law_1431 : decode cL_law 1431 = .ok (.iadd, 1) := by decide +kernel
theorem dL_law_1432 : decode cL_law 1432 = .ok (.iaload, 1) := by decide +kernel
theorem dL_law_1433 : decode cL_law 1433 = .ok (.invokevirtual 177, 3) := by decide +kernel
theorem dL_law_1436 : decode cL_law 1436 = .ok (.if_icmp .eq 19, 3) := by decide +kernel
theorem dL_law_1439 : decode cL_law 1439 = .ok (.iconst 0, 1) := by decide +kernel
theorem dL_law_1440 : decode cL_law 1440 = .ok (.ireturn, 1) := by decide +kernel
theorem dL_law_1441 : decode cL_law 1441 = .ok (.aload_n 1, 1) := by decide +kernel
theorem dL_law_1442 : decode cL_law 1442 = .ok (.invokevirtual 178, 3) := by decide +kernel
theorem dL_law_1445 : decode cL_law 1445 = .ok (.aload_n 2, 1) := by decide +kernel
theorem dL_law_1446 : decode cL_law 1446 = .ok (.invokevirtual 182, 3) := by decide +kernel
theorem dL_law_1449 : decode cL_law 1449 = .ok (.lcmp, 1) := by decide +kernel
theorem dL_law_1450 : decode cL_law 1450 = .ok (.ifCond .eq 5, 3) := by decide +kernel
theorem dL_law_1453 : decode cL_law 1453 = .ok (.iconst 0, 1) := by decide +kernel
theorem dL_law_1454 : decode cL_law 1454 = .ok (.ireturn, 1) := by decide +kernel
theorem dL_law_1455 : decode cL_law 1455 = .ok (.iinc 3 5, 3) := by decide +kernel
theorem dL_law_1458 : decode cL_law 1458 = .ok (.goto (-1440), 3) := by decide +kernel
theorem dL_law_1461 : decode cL_law 1461 = .ok (.iconst 1, 1) := by decide +kernel
theorem dL_law_1462 : decode cL_law 1462 = .ok (.ireturn, 1) := by decide +kernel
