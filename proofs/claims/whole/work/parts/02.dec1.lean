theorem dX0_init_0 : decode cX0_init 0 = .ok (.aload_n 0, 1) := by decide +kernel
theorem dX0_init_1 : decode cX0_init 1 = .ok (.invokespecial 1, 3) := by decide +kernel
theorem dX0_init_4 : decode cX0_init 4 = .ok (.aload_n 0, 1) := by decide +kernel
theorem dX0_init_5 : decode cX0_init 5 = .ok (.bipush 10, 2) := by decide +kernel
theorem dX0_init_7 : decode cX0_init 7 = .ok (.bipush 10, 2) := by decide +kernel
theorem dX0_init_9 : decode cX0_init 9 = .ok (.multianewarray 9 2, 4) := by decide +kernel
theorem dX0_init_13 : decode cX0_init 13 = .ok (.putfield 11, 3) := by decide +kernel
theorem dX0_init_16 : decode cX0_init 16 = .ok (.aload_n 0, 1) := by decide +kernel
theorem dX0_init_17 : decode cX0_init 17 = .ok (.bipush 10, 2) := by decide +kernel
theorem dX0_init_19 : decode cX0_init 19 = .ok (.newarray .int, 2) := by decide +kernel
theorem dX0_init_21 : decode cX0_init 21 = .ok (.putfield 16, 3) := by decide +kernel
theorem dX0_init_24 : decode cX0_init 24 = .ok (.aload_n 0, 1) := by decide +kernel
theorem dX0_init_25 : decode cX0_init 25 = .ok (.bipush 10, 2) := by decide +kernel
theorem dX0_init_27 : decode cX0_init 27 = .ok (.newarray .int, 2) := by decide +kernel
theorem dX0_init_29 : decode cX0_init 29 = .ok (.putfield 20, 3) := by decide +kernel
theorem dX0_init_32 : decode cX0_init 32 = .ok (.aload_n 0, 1) := by decide +kernel
theorem dX0_init_33 : decode cX0_init 33 = .ok (.bipush 10, 2) := by decide +kernel
theorem dX0_init_35 : decode cX0_init 35 = .ok (.anewarray 23, 3) := by decide +kernel
theorem dX0_init_38 : decode cX0_init 38 = .ok (.putfield 25, 3) := by decide +kernel
theorem dX0_init_41 : decode cX0_init 41 = .ok (.aload_n 0, 1) := by decide +kernel
theorem dX0_init_42 : decode cX0_init 42 = .ok (.bipush 10, 2) := by decide +kernel
theorem dX0_init_44 : decode cX0_init 44 = .ok (.anewarray 23, 3) := by decide +kernel
theorem dX0_init_47 : decode cX0_init 47 = .ok (.putfield 29, 3) := by decide +kernel
theorem dX0_init_50 : decode cX0_init 50 = .ok (.aload_n 0, 1) := by decide +kernel
theorem dX0_init_51 : decode cX0_init 51 = .ok (.new 23, 3) := by decide +kernel
theorem dX0_init_54 : decode cX0_init 54 = .ok (.dup, 1) := by decide +kernel
theorem dX0_init_55 : decode cX0_init 55 = .ok (.invokespecial 32, 3) := by decide +kernel
theorem dX0_init_58 : decode cX0_init 58 = .ok (.putfield 33, 3) := by decide +kernel
theorem dX0_init_61 : decode cX0_init 61 = .ok (.aload_n 0, 1) := by decide +kernel
theorem dX0_init_62 : decode cX0_init 62 = .ok (.new 23, 3) := by decide +kernel
theorem dX0_init_65 : decode cX0_init 65 = .ok (.dup, 1) := by decide +kernel
theorem dX0_init_66 : decode cX0_init 66 = .ok (.invokespecial 32, 3) := by decide +kernel
theorem dX0_init_69 : decode cX0_init 69 = .ok (.putfield 37, 3) := by decide +kernel
theorem dX0_init_72 : decode cX0_init 72 = .ok (.aload_n 0, 1) := by decide +kernel
theorem dX0_init_73 : decode cX0_init 73 = .ok (.new 23, 3) := by decide +kernel
theorem dX0_init_76 : decode cX0_init 76 = .ok (.dup, 1) := by decide +kernel
theorem dX0_init_77 : decode cX0_init 77 = .ok (.invokespecial 32, 3) := by decide +kernel
theorem dX0_init_80 : decode cX0_init 80 = .ok (.putfield 40, 3) := by decide +kernel
theorem dX0_init_83 : decode cX0_init 83 = .ok (.iconst 0, 1) := by decide +kernel
theorem dX0_init_84 : decode cX0_init 84 = .ok (.istore_n 1, 1) := by decide +kernel
theorem dX0_init_85 : decode cX0_init 85 = .ok (.iload_n 1, 1) := by decide +kernel
theorem dX0_init_86 : decode cX0_init 86 = .ok (.bipush 10, 2) := by decide +kernel
theorem dX0_init_88 : decode cX0_init 88 = .ok (.if_icmp .ge 35, 3) := by decide +kernel
theorem dX0_init_91 : decode cX0_init 91 = .ok (.aload_n 0, 1) := by decide +kernel
theorem dX0_init_92 : decode cX0_init 92 = .ok (.getfield 25, 3) := by decide +kernel
theorem dX0_init_95 : decode cX0_init 95 = .ok (.iload_n 1, 1) := by decide +kernel
theorem dX0_init_96 : decode cX0_init 96 = .ok (.new 23, 3) := by decide +kernel
theorem dX0_init_99 : decode cX0_init 99 = .ok (.dup, 1) := by decide +kernel
theorem dX0_init_100 : decode cX0_init 100 = .ok (.invokespecial 32, 3) := by decide +kernel
theorem dX0_init_103 : decode cX0_init 103 = .ok (.aastore, 1) := by decide +kernel
theorem dX0_init_104 : decode cX0_init 104 = .ok (.aload_n 0, 1) := by decide +kernel
theorem dX0_init_105 : decode cX0_init 105 = .ok (.getfield 29, 3) := by decide +kernel
theorem dX0_init_108 : decode cX0_init 108 = .ok (.iload_n 1, 1) := by decide +kernel
theorem dX0_init_109 : decode cX0_init 109 = .ok (.new 23, 3) := by decide +kernel
theorem dX0_init_112 : decode cX0_init 112 = .ok (.dup, 1) := by decide +kernel
theorem dX0_init_113 : decode cX0_init 113 = .ok (.invokespecial 32, 3) := by decide +kernel
theorem dX0_init_116 : decode cX0_init 116 = .ok (.aastore, 1) := by decide +kernel
theorem dX0_init_117 : decode cX0_init 117 = .ok (.iinc 1 1, 3) := by decide +kernel
theorem dX0_init_120 : decode cX0_init 120 = .ok (.goto (-35), 3) := by decide +kernel
theorem dX0_init_123 : decode cX0_init 123 = .ok (.return_, 1) := by decide +kernel
theorem dX0_say_0 : decode cX0_say 0 = .ok (.aload_n 0, 1) := by decide +kernel
theorem dX0_say_1 : decode cX0_say 1 = .ok (.aload_n 1, 1) := by decide +kernel
theorem dX0_say_2 : decode cX0_say 2 = .ok (.getfield 43, 3) := by decide +kernel
theorem dX0_say_5 : decode cX0_say 5 = .ok (.putfield 47, 3) := by decide +kernel
theorem dX0_say_8 : decode cX0_say 8 = .ok (.iconst 0, 1) := by decide +kernel
theorem dX0_say_9 : decode cX0_say 9 = .ok (.istore 4, 2) := by decide +kernel
theorem dX0_say_11 : decode cX0_say 11 = .ok (.iload 4, 2) := by decide +kernel
theorem dX0_say_13 : decode cX0_say 13 = .ok (.aload_n 0, 1) := by decide +kernel
theorem dX0_say_14 : decode cX0_say 14 = .ok (.getfield 47, 3) := by decide +kernel
theorem dX0_say_17 : decode cX0_say 17 = .ok (.if_icmp .ge 180, 3) := by decide +kernel
theorem dX0_say_20 : decode cX0_say 20 = .ok (.aload_n 0, 1) := by decide +kernel
theorem dX0_say_21 : decode cX0_say 21 = .ok (.getfield 16, 3) := by decide +kernel
theorem dX0_say_24 : decode cX0_say 24 = .ok (.iload 4, 2) := by decide +kernel
theorem dX0_say_26 : decode cX0_say 26 = .ok (.iconst 0, 1) := by decide +kernel
theorem dX0_say_27 : decode cX0_say 27 = .ok (.iastore, 1) := by decide +kernel
theorem dX0_say_28 : decode cX0_say 28 = .ok (.iconst 0, 1) := by decide +kernel
theorem dX0_say_29 : decode cX0_say 29 = .ok (.istore 5, 2) := by decide +kernel
theorem dX0_say_31 : decode cX0_say 31 = .ok (.iload 5, 2) := by decide +kernel
theorem dX0_say_33 : decode cX0_say 33 = .ok (.aload_n 0, 1) := by decide +kernel
theorem dX0_say_34 : decode cX0_say 34 = .ok (.getfield 47, 3) := by decide +kernel
theorem dX0_say_37 : decode cX0_say 37 = .ok (.if_icmp .ge 106, 3) := by decide +kernel
theorem dX0_say_40 : decode cX0_say 40 = .ok (.aload_n 1, 1) := by decide +kernel
theorem dX0_say_41 : decode cX0_say 41 = .ok (.getfield 48, 3) := by decide +kernel
theorem dX0_say_44 : decode cX0_say 44 = .ok (.iload 4, 2) := by decide +kernel
theorem dX0_say_46 : decode cX0_say 46 = .ok (.iaload, 1) := by decide +kernel
theorem dX0_say_47 : decode cX0_say 47 = .ok (.aload_n 1, 1) := by decide +kernel
theorem dX0_say_48 : decode cX0_say 48 = .ok (.getfield 48, 3) := by decide +kernel
theorem dX0_say_51 : decode cX0_say 51 = .ok (.iload 5, 2) := by decide +kernel
theorem dX0_say_53 : decode cX0_say 53 = .ok (.iaload, 1) := by decide +kernel
theorem dX0_say_54 : decode cX0_say 54 = .ok (.if_icmp .ne 7, 3) := by decide +kernel
theorem dX0_say_57 : decode cX0_say 57 = .ok (.iconst 1, 1) := by decide +kernel
theorem dX0_say_58 : decode cX0_say 58 = .ok (.goto 4, 3) := by decide +kernel
theorem dX0_say_61 : decode cX0_say 61 = .ok (.iconst 0, 1) := by decide +kernel
theorem dX0_say_62 : decode cX0_say 62 = .ok (.istore 6, 2) := by decide +kernel
theorem dX0_say_64 : decode cX0_say 64 = .ok (.aload_n 0, 1) := by decide +kernel
theorem dX0_say_65 : decode cX0_say 65 = .ok (.getfield 11, 3) := by decide +kernel
theorem dX0_say_68 : decode cX0_say 68 = .ok (.iload 4, 2) := by decide +kernel
theorem dX0_say_70 : decode cX0_say 70 = .ok (.aaload, 1) := by decide +kernel
theorem dX0_say_71 : decode cX0_say 71 = .ok (.iload 5, 2) := by decide +kernel
theorem dX0_say_73 : decode cX0_say 73 = .ok (.iload 6, 2) := by decide +kernel
theorem dX0_say_75 : decode cX0_say 75 = .ok (.ifCond .eq 22, 3) := by decide +kernel
theorem dX0_say_78 : decode cX0_say 78 = .ok (.aload_n 1, 1) := by decide +kernel
theorem dX0_say_79 : decode cX0_say 79 = .ok (.getfield 51, 3) := by decide +kernel
theorem dX0_say_82 : decode cX0_say 82 = .ok (.iload 5, 2) := by decide +kernel
theorem dX0_say_84 : decode cX0_say 84 = .ok (.iaload, 1) := by decide +kernel
theorem dX0_say_85 : decode cX0_say 85 = .ok (.aload_n 1, 1) := by decide +kernel
theorem dX0_say_86 : decode cX0_say 86 = .ok (.iload 4, 2) := by decide +kernel
theorem dX0_say_88 : decode cX0_say 88 = .ok (.iload 5, 2) := by decide +kernel
theorem dX0_say_90 : decode cX0_say 90 = .ok (.invokevirtual 54, 3) := by decide +kernel
theorem dX0_say_93 : decode cX0_say 93 = .ok (.ishr, 1) := by decide +kernel
theorem dX0_say_94 : decode cX0_say 94 = .ok (.goto 4, 3) := by decide +kernel
theorem dX0_say_97 : decode cX0_say 97 = .ok (.iconst 0, 1) := by decide +kernel
theorem dX0_say_98 : decode cX0_say 98 = .ok (.iastore, 1) := by decide +kernel
theorem dX0_say_99 : decode cX0_say 99 = .ok (.iload 5, 2) := by decide +kernel
theorem dX0_say_101 : decode cX0_say 101 = .ok (.iload 4, 2) := by decide +kernel
theorem dX0_say_103 : decode cX0_say 103 = .ok (.if_icmp .ne 14, 3) := by decide +kernel
theorem dX0_say_106 : decode cX0_say 106 = .ok (.aload_n 0, 1) := by decide +kernel
theorem dX0_say_107 : decode cX0_say 107 = .ok (.getfield 11, 3) := by decide +kernel
theorem dX0_say_110 : decode cX0_say 110 = .ok (.iload 4, 2) := by decide +kernel
theorem dX0_say_112 : decode cX0_say 112 = .ok (.aaload, 1) := by decide +kernel
theorem dX0_say_113 : decode cX0_say 113 = .ok (.iload 5, 2) := by decide +kernel
theorem dX0_say_115 : decode cX0_say 115 = .ok (.iload_n 2, 1) := by decide +kernel
theorem dX0_say_116 : decode cX0_say 116 = .ok (.iastore, 1) := by decide +kernel
theorem dX0_say_117 : decode cX0_say 117 = .ok (.aload_n 0, 1) := by decide +kernel
theorem dX0_say_118 : decode cX0_say 118 = .ok (.getfield 16, 3) := by decide +kernel
theorem dX0_say_121 : decode cX0_say 121 = .ok (.iload 4, 2) := by decide +kernel
theorem dX0_say_123 : decode cX0_say 123 = .ok (.dup2, 1) := by decide +kernel
theorem dX0_say_124 : decode cX0_say 124 = .ok (.iaload, 1) := by decide +kernel
theorem dX0_say_125 : decode cX0_say 125 = .ok (.aload_n 0, 1) := by decide +kernel
theorem dX0_say_126 : decode cX0_say 126 = .ok (.getfield 11, 3) := by decide +kernel
theorem dX0_say_129 : decode cX0_say 129 = .ok (.iload 4, 2) := by decide +kernel
theorem dX0_say_131 : decode cX0_say 131 = .ok (.aaload, 1) := by decide +kernel
theorem dX0_say_132 : decode cX0_say 132 = .ok (.iload 5, 2) := by decide +kernel
theorem dX0_say_134 : decode cX0_say 134 = .ok (.iaload, 1) := by decide +kernel
theorem dX0_say_135 : decode cX0_say 135 = .ok (.iadd, 1) := by decide +kernel
theorem dX0_say_136 : decode cX0_say 136 = .ok (.iastore, 1) := by decide +kernel
theorem dX0_say_137 : decode cX0_say 137 = .ok (.iinc 5 1, 3) := by decide +kernel
theorem dX0_say_140 : decode cX0_say 140 = .ok (.goto (-109), 3) := by decide +kernel
theorem dX0_say_143 : decode cX0_say 143 = .ok (.aload_n 1, 1) := by decide +kernel
theorem dX0_say_144 : decode cX0_say 144 = .ok (.getfield 48, 3) := by decide +kernel
theorem dX0_say_147 : decode cX0_say 147 = .ok (.iload 4, 2) := by decide +kernel
theorem dX0_say_149 : decode cX0_say 149 = .ok (.iaload, 1) := by decide +kernel
theorem dX0_say_150 : decode cX0_say 150 = .ok (.aload_n 1, 1) := by decide +kernel
theorem dX0_say_151 : decode cX0_say 151 = .ok (.getfield 48, 3) := by decide +kernel
theorem dX0_say_154 : decode cX0_say 154 = .ok (.iload_n 3, 1) := by decide +kernel
theorem dX0_say_155 : decode cX0_say 155 = .ok (.iaload, 1) := by decide +kernel
theorem dX0_say_156 : decode cX0_say 156 = .ok (.if_icmp .eq 11, 3) := by decide +kernel
theorem dX0_say_159 : decode cX0_say 159 = .ok (.aload_n 0, 1) := by decide +kernel
theorem dX0_say_160 : decode cX0_say 160 = .ok (.getfield 16, 3) := by decide +kernel
theorem dX0_say_163 : decode cX0_say 163 = .ok (.iload 4, 2) := by decide +kernel
theorem dX0_say_165 : decode cX0_say 165 = .ok (.iconst 1, 1) := by decide +kernel
theorem dX0_say_166 : decode cX0_say 166 = .ok (.iastore, 1) := by decide +kernel
theorem dX0_say_167 : decode cX0_say 167 = .ok (.aload_n 0, 1) := by decide +kernel
theorem dX0_say_168 : decode cX0_say 168 = .ok (.getfield 25, 3) := by decide +kernel
theorem dX0_say_171 : decode cX0_say 171 = .ok (.iload 4, 2) := by decide +kernel
theorem dX0_say_173 : decode cX0_say 173 = .ok (.aaload, 1) := by decide +kernel
theorem dX0_say_174 : decode cX0_say 174 = .ok (.iload 4, 2) := by decide +kernel
theorem dX0_say_176 : decode cX0_say 176 = .ok (.iload_n 3, 1) := by decide +kernel
theorem dX0_say_177 : decode cX0_say 177 = .ok (.if_icmp .ne 7, 3) := by decide +kernel
theorem dX0_say_180 : decode cX0_say 180 = .ok (.iconst 1, 1) := by decide +kernel
theorem dX0_say_181 : decode cX0_say 181 = .ok (.goto 4, 3) := by decide +kernel
theorem dX0_say_184 : decode cX0_say 184 = .ok (.iconst 0, 1) := by decide +kernel
theorem dX0_say_185 : decode cX0_say 185 = .ok (.invokestatic 58, 3) := by decide +kernel
theorem dX0_say_188 : decode cX0_say 188 = .ok (.invokevirtual 64, 3) := by decide +kernel
theorem dX0_say_191 : decode cX0_say 191 = .ok (.iinc 4 1, 3) := by decide +kernel
theorem dX0_say_194 : decode cX0_say 194 = .ok (.goto (-183), 3) := by decide +kernel
theorem dX0_say_197 : decode cX0_say 197 = .ok (.aload_n 0, 1) := by decide +kernel
theorem dX0_say_198 : decode cX0_say 198 = .ok (.getfield 33, 3) := by decide +kernel
theorem dX0_say_201 : decode cX0_say 201 = .ok (.iconst 1, 1) := by decide +kernel
theorem dX0_say_202 : decode cX0_say 202 = .ok (.invokevirtual 64, 3) := by decide +kernel
theorem dX0_say_205 : decode cX0_say 205 = .ok (.aload_n 0, 1) := by decide +kernel
theorem dX0_say_206 : decode cX0_say 206 = .ok (.invokevirtual 68, 3) := by decide +kernel
theorem dX0_say_209 : decode cX0_say 209 = .ok (.return_, 1) := by decide +kernel
theorem dX0_findParts_0 : decode cX0_findParts 0 = .ok (.iconst 0, 1) := by decide +kernel
theorem dX0_findParts_1 : decode cX0_findParts 1 = .ok (.istore_n 1, 1) := by decide +kernel
theorem dX0_findParts_2 : decode cX0_findParts 2 = .ok (.iload_n 1, 1) := by decide +kernel
theorem dX0_findParts_3 : decode cX0_findParts 3 = .ok (.aload_n 0, 1) := by decide +kernel
theorem dX0_findParts_4 : decode cX0_findParts 4 = .ok (.getfield 47, 3) := by decide +kernel
theorem dX0_findParts_7 : decode cX0_findParts 7 = .ok (.if_icmp .ge 65, 3) := by decide +kernel
theorem dX0_findParts_10 : decode cX0_findParts 10 = .ok (.aload_n 0, 1) := by decide +kernel
theorem dX0_findParts_11 : decode cX0_findParts 11 = .ok (.getfield 20, 3) := by decide +kernel
theorem dX0_findParts_14 : decode cX0_findParts 14 = .ok (.iload_n 1, 1) := by decide +kernel
theorem dX0_findParts_15 : decode cX0_findParts 15 = .ok (.aload_n 0, 1) := by decide +kernel
theorem dX0_findParts_16 : decode cX0_findParts 16 = .ok (.getfield 16, 3) := by decide +kernel
theorem dX0_findParts_19 : decode cX0_findParts 19 = .ok (.iload_n 1, 1) := by decide +kernel
theorem dX0_findParts_20 : decode cX0_findParts 20 = .ok (.iaload, 1) := by decide +kernel
theorem dX0_findParts_21 : decode cX0_findParts 21 = .ok (.iastore, 1) := by decide +kernel
theorem dX0_findParts_22 : decode cX0_findParts 22 = .ok (.iconst 0, 1) := by decide +kernel
theorem dX0_findParts_23 : decode cX0_findParts 23 = .ok (.istore_n 2, 1) := by decide +kernel
theorem dX0_findParts_24 : decode cX0_findParts 24 = .ok (.iload_n 2, 1) := by decide +kernel
theorem dX0_findParts_25 : decode cX0_findParts 25 = .ok (.iload_n 1, 1) := by decide +kernel
theorem dX0_findParts_26 : decode cX0_findParts 26 = .ok (.if_icmp .ge 40, 3) := by decide +kernel
theorem dX0_findParts_29 : decode cX0_findParts 29 = .ok (.aload_n 0, 1) := by decide +kernel
theorem dX0_findParts_30 : decode cX0_findParts 30 = .ok (.getfield 20, 3) := by decide +kernel
theorem dX0_findParts_33 : decode cX0_findParts 33 = .ok (.iload_n 1, 1) := by decide +kernel
theorem dX0_findParts_34 : decode cX0_findParts 34 = .ok (.iaload, 1) := by decide +kernel
theorem dX0_findParts_35 : decode cX0_findParts 35 = .ok (.aload_n 0, 1) := by decide +kernel
theorem dX0_findParts_36 : decode cX0_findParts 36 = .ok (.getfield 20, 3) := by decide +kernel
theorem dX0_findParts_39 : decode cX0_findParts 39 = .ok (.iload_n 2, 1) := by decide +kernel
theorem dX0_findParts_40 : decode cX0_findParts 40 = .ok (.iaload, 1) := by decide +kernel
theorem dX0_findParts_41 : decode cX0_findParts 41 = .ok (.invokestatic 71, 3) := by decide +kernel
theorem dX0_findParts_44 : decode cX0_findParts 44 = .ok (.istore_n 3, 1) := by decide +kernel
theorem dX0_findParts_45 : decode cX0_findParts 45 = .ok (.iload_n 3, 1) := by decide +kernel
theorem dX0_findParts_46 : decode cX0_findParts 46 = .ok (.iconst 1, 1) := by decide +kernel
theorem dX0_findParts_47 : decode cX0_findParts 47 = .ok (.if_icmp .le 13, 3) := by decide +kernel
theorem dX0_findParts_50 : decode cX0_findParts 50 = .ok (.aload_n 0, 1) := by decide +kernel
theorem dX0_findParts_51 : decode cX0_findParts 51 = .ok (.getfield 20, 3) := by decide +kernel
theorem dX0_findParts_54 : decode cX0_findParts 54 = .ok (.iload_n 1, 1) := by decide +kernel
theorem dX0_findParts_55 : decode cX0_findParts 55 = .ok (.dup2, 1) := by decide +kernel
theorem dX0_findParts_56 : decode cX0_findParts 56 = .ok (.iaload, 1) := by decide +kernel
theorem dX0_findParts_57 : decode cX0_findParts 57 = .ok (.iload_n 3, 1) := by decide +kernel
theorem dX0_findParts_58 : decode cX0_findParts 58 = .ok (.idiv, 1) := by decide +kernel
theorem dX0_findParts_59 : decode cX0_findParts 59 = .ok (.iastore, 1) := by decide +kernel
theorem dX0_findParts_60 : decode cX0_findParts 60 = .ok (.iinc 2 1, 3) := by decide +kernel
theorem dX0_findParts_63 : decode cX0_findParts 63 = .ok (.goto (-39), 3) := by decide +kernel
theorem dX0_findParts_66 : decode cX0_findParts 66 = .ok (.iinc 1 1, 3) := by decide +kernel
theorem dX0_findParts_69 : decode cX0_findParts 69 = .ok (.goto (-67), 3) := by decide +kernel
theorem dX0_findParts_72 : decode cX0_findParts 72 = .ok (.return_, 1) := by decide +kernel
theorem dX0_passOn_0 : decode cX0_passOn 0 = .ok (.iconst 0, 1) := by decide +kernel
theorem dX0_passOn_1 : decode cX0_passOn 1 = .ok (.istore_n 1, 1) := by decide +kernel
theorem dX0_passOn_2 : decode cX0_passOn 2 = .ok (.iload_n 1, 1) := by decide +kernel
theorem dX0_passOn_3 : decode cX0_passOn 3 = .ok (.aload_n 0, 1) := by decide +kernel
theorem dX0_passOn_4 : decode cX0_passOn 4 = .ok (.getfield 47, 3) := by decide +kernel
theorem dX0_passOn_7 : decode cX0_passOn 7 = .ok (.if_icmp .ge 34, 3) := by decide +kernel
theorem dX0_passOn_10 : decode cX0_passOn 10 = .ok (.aload_n 0, 1) := by decide +kernel
theorem dX0_passOn_11 : decode cX0_passOn 11 = .ok (.getfield 29, 3) := by decide +kernel
theorem dX0_passOn_14 : decode cX0_passOn 14 = .ok (.iload_n 1, 1) := by decide +kernel
theorem dX0_passOn_15 : decode cX0_passOn 15 = .ok (.aaload, 1) := by decide +kernel
theorem dX0_passOn_16 : decode cX0_passOn 16 = .ok (.aload_n 0, 1) := by decide +kernel
theorem dX0_passOn_17 : decode cX0_passOn 17 = .ok (.getfield 25, 3) := by decide +kernel
theorem dX0_passOn_20 : decode cX0_passOn 20 = .ok (.iload_n 1, 1) := by decide +kernel
theorem dX0_passOn_21 : decode cX0_passOn 21 = .ok (.aaload, 1) := by decide +kernel
theorem dX0_passOn_22 : decode cX0_passOn 22 = .ok (.invokevirtual 74, 3) := by decide +kernel
theorem dX0_passOn_25 : decode cX0_passOn 25 = .ok (.aload_n 0, 1) := by decide +kernel
theorem dX0_passOn_26 : decode cX0_passOn 26 = .ok (.getfield 25, 3) := by decide +kernel
theorem dX0_passOn_29 : decode cX0_passOn 29 = .ok (.iload_n 1, 1) := by decide +kernel
theorem dX0_passOn_30 : decode cX0_passOn 30 = .ok (.aaload, 1) := by decide +kernel
theorem dX0_passOn_31 : decode cX0_passOn 31 = .ok (.iconst 0, 1) := by decide +kernel
theorem dX0_passOn_32 : decode cX0_passOn 32 = .ok (.invokevirtual 64, 3) := by decide +kernel
theorem dX0_passOn_35 : decode cX0_passOn 35 = .ok (.iinc 1 1, 3) := by decide +kernel
theorem dX0_passOn_38 : decode cX0_passOn 38 = .ok (.goto (-36), 3) := by decide +kernel
theorem dX0_passOn_41 : decode cX0_passOn 41 = .ok (.iconst 0, 1) := by decide +kernel
theorem dX0_passOn_42 : decode cX0_passOn 42 = .ok (.istore_n 1, 1) := by decide +kernel
theorem dX0_passOn_43 : decode cX0_passOn 43 = .ok (.iload_n 1, 1) := by decide +kernel
theorem dX0_passOn_44 : decode cX0_passOn 44 = .ok (.aload_n 0, 1) := by decide +kernel
theorem dX0_passOn_45 : decode cX0_passOn 45 = .ok (.getfield 47, 3) := by decide +kernel
theorem dX0_passOn_48 : decode cX0_passOn 48 = .ok (.if_icmp .ge 26, 3) := by decide +kernel
theorem dX0_passOn_51 : decode cX0_passOn 51 = .ok (.aload_n 0, 1) := by decide +kernel
theorem dX0_passOn_52 : decode cX0_passOn 52 = .ok (.getfield 29, 3) := by decide +kernel
theorem dX0_passOn_55 : decode cX0_passOn 55 = .ok (.iload_n 1, 1) := by decide +kernel
theorem dX0_passOn_56 : decode cX0_passOn 56 = .ok (.aaload, 1) := by decide +kernel
theorem dX0_passOn_57 : decode cX0_passOn 57 = .ok (.getfield 78, 3) := by decide +kernel
theorem dX0_passOn_60 : decode cX0_passOn 60 = .ok (.ifCond .le 8, 3) := by decide +kernel
theorem dX0_passOn_63 : decode cX0_passOn 63 = .ok (.aload_n 0, 1) := by decide +kernel
theorem dX0_passOn_64 : decode cX0_passOn 64 = .ok (.iload_n 1, 1) := by decide +kernel
theorem dX0_passOn_65 : decode cX0_passOn 65 = .ok (.invokevirtual 81, 3) := by decide +kernel
theorem dX0_passOn_68 : decode cX0_passOn 68 = .ok (.iinc 1 1, 3) := by decide +kernel
theorem dX0_passOn_71 : decode cX0_passOn 71 = .ok (.goto (-28), 3) := by decide +kernel
theorem dX0_passOn_74 : decode cX0_passOn 74 = .ok (.aload_n 0, 1) := by decide +kernel
theorem dX0_passOn_75 : decode cX0_passOn 75 = .ok (.aload_n 0, 1) := by decide +kernel
theorem dX0_passOn_76 : decode cX0_passOn 76 = .ok (.getfield 33, 3) := by decide +kernel
theorem dX0_passOn_79 : decode cX0_passOn 79 = .ok (.invokevirtual 84, 3) := by decide +kernel
theorem dX0_passOn_82 : decode cX0_passOn 82 = .ok (.return_, 1) := by decide +kernel
theorem dX0_hear_0 : decode cX0_hear 0 = .ok (.aload_n 0, 1) := by decide +kernel
theorem dX0_hear_1 : decode cX0_hear 1 = .ok (.aload_n 0, 1) := by decide +kernel
theorem dX0_hear_2 : decode cX0_hear 2 = .ok (.getfield 29, 3) := by decide +kernel
theorem dX0_hear_5 : decode cX0_hear 5 = .ok (.iload_n 1, 1) := by decide +kernel
theorem dX0_hear_6 : decode cX0_hear 6 = .ok (.aaload, 1) := by decide +kernel
theorem dX0_hear_7 : decode cX0_hear 7 = .ok (.invokevirtual 84, 3) := by decide +kernel
theorem dX0_hear_10 : decode cX0_hear 10 = .ok (.aload_n 0, 1) := by decide +kernel
theorem dX0_hear_11 : decode cX0_hear 11 = .ok (.getfield 29, 3) := by decide +kernel
theorem dX0_hear_14 : decode cX0_hear 14 = .ok (.iload_n 1, 1) := by decide +kernel
theorem dX0_hear_15 : decode cX0_hear 15 = .ok (.aaload, 1) := by decide +kernel
theorem dX0_hear_16 : decode cX0_hear 16 = .ok (.aload_n 0, 1) := by decide +kernel
theorem dX0_hear_17 : decode cX0_hear 17 = .ok (.getfield 16, 3) := by decide +kernel
theorem dX0_hear_20 : decode cX0_hear 20 = .ok (.iload_n 1, 1) := by decide +kernel
theorem dX0_hear_21 : decode cX0_hear 21 = .ok (.iaload, 1) := by decide +kernel
theorem dX0_hear_22 : decode cX0_hear 22 = .ok (.invokevirtual 87, 3) := by decide +kernel
theorem dX0_hear_25 : decode cX0_hear 25 = .ok (.iconst 0, 1) := by decide +kernel
theorem dX0_hear_26 : decode cX0_hear 26 = .ok (.istore_n 2, 1) := by decide +kernel
theorem dX0_hear_27 : decode cX0_hear 27 = .ok (.iload_n 2, 1) := by decide +kernel
theorem dX0_hear_28 : decode cX0_hear 28 = .ok (.aload_n 0, 1) := by decide +kernel
theorem dX0_hear_29 : decode cX0_hear 29 = .ok (.getfield 47, 3) := by decide +kernel
theorem dX0_hear_32 : decode cX0_hear 32 = .ok (.if_icmp .ge 43, 3) := by decide +kernel
theorem dX0_hear_35 : decode cX0_hear 35 = .ok (.aload_n 0, 1) := by decide +kernel
theorem dX0_hear_36 : decode cX0_hear 36 = .ok (.getfield 11, 3) := by decide +kernel
theorem dX0_hear_39 : decode cX0_hear 39 = .ok (.iload_n 1, 1) := by decide +kernel
theorem dX0_hear_40 : decode cX0_hear 40 = .ok (.aaload, 1) := by decide +kernel
theorem dX0_hear_41 : decode cX0_hear 41 = .ok (.iload_n 2, 1) := by decide +kernel
theorem dX0_hear_42 : decode cX0_hear 42 = .ok (.iaload, 1) := by decide +kernel
theorem dX0_hear_43 : decode cX0_hear 43 = .ok (.ifCond .le 26, 3) := by decide +kernel
theorem dX0_hear_46 : decode cX0_hear 46 = .ok (.aload_n 0, 1) := by decide +kernel
theorem dX0_hear_47 : decode cX0_hear 47 = .ok (.getfield 25, 3) := by decide +kernel
theorem dX0_hear_50 : decode cX0_hear 50 = .ok (.iload_n 2, 1) := by decide +kernel
theorem dX0_hear_51 : decode cX0_hear 51 = .ok (.aaload, 1) := by decide +kernel
theorem dX0_hear_52 : decode cX0_hear 52 = .ok (.aload_n 0, 1) := by decide +kernel
theorem dX0_hear_53 : decode cX0_hear 53 = .ok (.getfield 29, 3) := by decide +kernel
theorem dX0_hear_56 : decode cX0_hear 56 = .ok (.iload_n 1, 1) := by decide +kernel
theorem dX0_hear_57 : decode cX0_hear 57 = .ok (.aaload, 1) := by decide +kernel
theorem dX0_hear_58 : decode cX0_hear 58 = .ok (.aload_n 0, 1) := by decide +kernel
theorem dX0_hear_59 : decode cX0_hear 59 = .ok (.getfield 11, 3) := by decide +kernel
theorem dX0_hear_62 : decode cX0_hear 62 = .ok (.iload_n 1, 1) := by decide +kernel
theorem dX0_hear_63 : decode cX0_hear 63 = .ok (.aaload, 1) := by decide +kernel
theorem dX0_hear_64 : decode cX0_hear 64 = .ok (.iload_n 2, 1) := by decide +kernel
theorem dX0_hear_65 : decode cX0_hear 65 = .ok (.iaload, 1) := by decide +kernel
theorem dX0_hear_66 : decode cX0_hear 66 = .ok (.invokevirtual 90, 3) := by decide +kernel
theorem dX0_hear_69 : decode cX0_hear 69 = .ok (.iinc 2 1, 3) := by decide +kernel
theorem dX0_hear_72 : decode cX0_hear 72 = .ok (.goto (-45), 3) := by decide +kernel
theorem dX0_hear_75 : decode cX0_hear 75 = .ok (.return_, 1) := by decide +kernel
theorem dX0_multiplyByParts_0 : decode cX0_multiplyByParts 0 = .ok (.iconst 0, 1) := by decide +kernel
theorem dX0_multiplyByParts_1 : decode cX0_multiplyByParts 1 = .ok (.istore_n 2, 1) := by decide +kernel
theorem dX0_multiplyByParts_2 : decode cX0_multiplyByParts 2 = .ok (.iload_n 2, 1) := by decide +kernel
theorem dX0_multiplyByParts_3 : decode cX0_multiplyByParts 3 = .ok (.aload_n 0, 1) := by decide +kernel
theorem dX0_multiplyByParts_4 : decode cX0_multiplyByParts 4 = .ok (.getfield 47, 3) := by decide +kernel
theorem dX0_multiplyByParts_7 : decode cX0_multiplyByParts 7 = .ok (.if_icmp .ge 29, 3) := by decide +kernel
theorem dX0_multiplyByParts_10 : decode cX0_multiplyByParts 10 = .ok (.aload_n 0, 1) := by decide +kernel
theorem dX0_multiplyByParts_11 : decode cX0_multiplyByParts 11 = .ok (.getfield 20, 3) := by decide +kernel
theorem dX0_multiplyByParts_14 : decode cX0_multiplyByParts 14 = .ok (.iload_n 2, 1) := by decide +kernel
theorem dX0_multiplyByParts_15 : decode cX0_multiplyByParts 15 = .ok (.iaload, 1) := by decide +kernel
theorem dX0_multiplyByParts_16 : decode cX0_multiplyByParts 16 = .ok (.iconst 1, 1) := by decide +kernel
theorem dX0_multiplyByParts_17 : decode cX0_multiplyByParts 17 = .ok (.if_icmp .le 13, 3) := by decide +kernel
theorem dX0_multiplyByParts_20 : decode cX0_multiplyByParts 20 = .ok (.aload_n 1, 1) := by decide +kernel
theorem dX0_multiplyByParts_21 : decode cX0_multiplyByParts 21 = .ok (.aload_n 0, 1) := by decide +kernel
theorem dX0_multiplyByParts_22 : decode cX0_multiplyByParts 22 = .ok (.getfield 20, 3) := by decide +kernel
theorem dX0_multiplyByParts_25 : decode cX0_multiplyByParts 25 = .ok (.iload_n 2, 1) := by decide +kernel
theorem dX0_multiplyByParts_26 : decode cX0_multiplyByParts 26 = .ok (.iaload, 1) := by decide +kernel
theorem dX0_multiplyByParts_27 : decode cX0_multiplyByParts 27 = .ok (.invokevirtual 94, 3) := by decide +kernel
theorem dX0_multiplyByParts_30 : decode cX0_multiplyByParts 30 = .ok (.iinc 2 1, 3) := by decide +kernel
theorem dX0_multiplyByParts_33 : decode cX0_multiplyByParts 33 = .ok (.goto (-31), 3) := by decide +kernel
theorem dX0_multiplyByParts_36 : decode cX0_multiplyByParts 36 = .ok (.return_, 1) := by decide +kernel
theorem dX0_isBelow_0 : decode cX0_isBelow 0 = .ok (.aload_n 0, 1) := by decide +kernel
theorem dX0_isBelow_1 : decode cX0_isBelow 1 = .ok (.getfield 37, 3) := by decide +kernel
theorem dX0_isBelow_4 : decode cX0_isBelow 4 = .ok (.aload_n 0, 1) := by decide +kernel
theorem dX0_isBelow_5 : decode cX0_isBelow 5 = .ok (.getfield 25, 3) := by decide +kernel
theorem dX0_isBelow_8 : decode cX0_isBelow 8 = .ok (.iload_n 1, 1) := by decide +kernel
theorem dX0_isBelow_9 : decode cX0_isBelow 9 = .ok (.aaload, 1) := by decide +kernel
theorem dX0_isBelow_10 : decode cX0_isBelow 10 = .ok (.invokevirtual 74, 3) := by decide +kernel
theorem dX0_isBelow_13 : decode cX0_isBelow 13 = .ok (.aload_n 0, 1) := by decide +kernel
theorem dX0_isBelow_14 : decode cX0_isBelow 14 = .ok (.getfield 37, 3) := by decide +kernel
theorem dX0_isBelow_17 : decode cX0_isBelow 17 = .ok (.iload_n 3, 1) := by decide +kernel
theorem dX0_isBelow_18 : decode cX0_isBelow 18 = .ok (.invokevirtual 94, 3) := by decide +kernel
theorem dX0_isBelow_21 : decode cX0_isBelow 21 = .ok (.aload_n 0, 1) := by decide +kernel
theorem dX0_isBelow_22 : decode cX0_isBelow 22 = .ok (.getfield 40, 3) := by decide +kernel
theorem dX0_isBelow_25 : decode cX0_isBelow 25 = .ok (.iconst 0, 1) := by decide +kernel
theorem dX0_isBelow_26 : decode cX0_isBelow 26 = .ok (.invokevirtual 64, 3) := by decide +kernel
theorem dX0_isBelow_29 : decode cX0_isBelow 29 = .ok (.aload_n 0, 1) := by decide +kernel
theorem dX0_isBelow_30 : decode cX0_isBelow 30 = .ok (.getfield 40, 3) := by decide +kernel
theorem dX0_isBelow_33 : decode cX0_isBelow 33 = .ok (.aload_n 0, 1) := by decide +kernel
theorem dX0_isBelow_34 : decode cX0_isBelow 34 = .ok (.getfield 33, 3) := by decide +kernel
theorem dX0_isBelow_37 : decode cX0_isBelow 37 = .ok (.iload_n 2, 1) := by decide +kernel
theorem dX0_isBelow_38 : decode cX0_isBelow 38 = .ok (.invokevirtual 90, 3) := by decide +kernel
theorem dX0_isBelow_41 : decode cX0_isBelow 41 = .ok (.aload_n 0, 1) := by decide +kernel
theorem dX0_isBelow_42 : decode cX0_isBelow 42 = .ok (.getfield 37, 3) := by decide +kernel
theorem dX0_isBelow_45 : decode cX0_isBelow 45 = .ok (.aload_n 0, 1) := by decide +kernel
theorem dX0_isBelow_46 : decode cX0_isBelow 46 = .ok (.getfield 40, 3) := by decide +kernel
theorem dX0_isBelow_49 : decode cX0_isBelow 49 = .ok (.invokevirtual 97, 3) := by decide +kernel
theorem dX0_isBelow_52 : decode cX0_isBelow 52 = .ok (.ireturn, 1) := by decide +kernel
theorem dX0_tellAs_0 : decode cX0_tellAs 0 = .ok (.aload_n 2, 1) := by decide +kernel
theorem dX0_tellAs_1 : decode cX0_tellAs 1 = .ok (.aload_n 0, 1) := by decide +kernel
theorem dX0_tellAs_2 : decode cX0_tellAs 2 = .ok (.getfield 25, 3) := by decide +kernel
theorem dX0_tellAs_5 : decode cX0_tellAs 5 = .ok (.iload_n 1, 1) := by decide +kernel
theorem dX0_tellAs_6 : decode cX0_tellAs 6 = .ok (.aaload, 1) := by decide +kernel
theorem dX0_tellAs_7 : decode cX0_tellAs 7 = .ok (.aload_n 0, 1) := by decide +kernel
theorem dX0_tellAs_8 : decode cX0_tellAs 8 = .ok (.getfield 33, 3) := by decide +kernel
theorem dX0_tellAs_11 : decode cX0_tellAs 11 = .ok (.invokevirtual 101, 3) := by decide +kernel
theorem dX0_tellAs_14 : decode cX0_tellAs 14 = .ok (.return_, 1) := by decide +kernel
theorem dX1_init_0 : decode cX1_init 0 = .ok (.aload_n 0, 1) := by decide +kernel
theorem dX1_init_1 : decode cX1_init 1 = .ok (.invokespecial 3, 3) := by decide +kernel
theorem dX1_init_4 : decode cX1_init 4 = .ok (.aload_n 0, 1) := by decide +kernel
theorem dX1_init_5 : decode cX1_init 5 = .ok (.bipush 8, 2) := by decide +kernel
theorem dX1_init_7 : decode cX1_init 7 = .ok (.newarray .int, 2) := by decide +kernel
theorem dX1_init_9 : decode cX1_init 9 = .ok (.putfield 11, 3) := by decide +kernel
theorem dX1_init_12 : decode cX1_init 12 = .ok (.aload_n 0, 1) := by decide +kernel
theorem dX1_init_13 : decode cX1_init 13 = .ok (.bipush 8, 2) := by decide +kernel
theorem dX1_init_15 : decode cX1_init 15 = .ok (.newarray .int, 2) := by decide +kernel
theorem dX1_init_17 : decode cX1_init 17 = .ok (.putfield 15, 3) := by decide +kernel
theorem dX1_init_20 : decode cX1_init 20 = .ok (.aload_n 0, 1) := by decide +kernel
theorem dX1_init_21 : decode cX1_init 21 = .ok (.bipush 8, 2) := by decide +kernel
theorem dX1_init_23 : decode cX1_init 23 = .ok (.newarray .int, 2) := by decide +kernel
theorem dX1_init_25 : decode cX1_init 25 = .ok (.putfield 18, 3) := by decide +kernel
theorem dX1_init_28 : decode cX1_init 28 = .ok (.aload_n 0, 1) := by decide +kernel
theorem dX1_init_29 : decode cX1_init 29 = .ok (.bipush 8, 2) := by decide +kernel
theorem dX1_init_31 : decode cX1_init 31 = .ok (.newarray .int, 2) := by decide +kernel
theorem dX1_init_33 : decode cX1_init 33 = .ok (.putfield 21, 3) := by decide +kernel
theorem dX1_init_36 : decode cX1_init 36 = .ok (.aload_n 0, 1) := by decide +kernel
theorem dX1_init_37 : decode cX1_init 37 = .ok (.iconst 2, 1) := by decide +kernel
theorem dX1_init_38 : decode cX1_init 38 = .ok (.newarray .int, 2) := by decide +kernel
theorem dX1_init_40 : decode cX1_init 40 = .ok (.putfield 24, 3) := by decide +kernel
theorem dX1_init_43 : decode cX1_init 43 = .ok (.aload_n 0, 1) := by decide +kernel
theorem dX1_init_44 : decode cX1_init 44 = .ok (.invokevirtual 27, 3) := by decide +kernel
theorem dX1_init_47 : decode cX1_init 47 = .ok (.return_, 1) := by decide +kernel
theorem dX1_makeEmpty_0 : decode cX1_makeEmpty 0 = .ok (.aload_n 0, 1) := by decide +kernel
theorem dX1_makeEmpty_1 : decode cX1_makeEmpty 1 = .ok (.lconst 0, 1) := by decide +kernel
theorem dX1_makeEmpty_2 : decode cX1_makeEmpty 2 = .ok (.putfield 30, 3) := by decide +kernel
theorem dX1_makeEmpty_5 : decode cX1_makeEmpty 5 = .ok (.aload_n 0, 1) := by decide +kernel
theorem dX1_makeEmpty_6 : decode cX1_makeEmpty 6 = .ok (.iconst 0, 1) := by decide +kernel
theorem dX1_makeEmpty_7 : decode cX1_makeEmpty 7 = .ok (.putfield 34, 3) := by decide +kernel
theorem dX1_makeEmpty_10 : decode cX1_makeEmpty 10 = .ok (.aload_n 0, 1) := by decide +kernel
theorem dX1_makeEmpty_11 : decode cX1_makeEmpty 11 = .ok (.getfield 24, 3) := by decide +kernel
theorem dX1_makeEmpty_14 : decode cX1_makeEmpty 14 = .ok (.iconst 0, 1) := by decide +kernel
theorem dX1_makeEmpty_15 : decode cX1_makeEmpty 15 = .ok (.bipush 18, 2) := by decide +kernel
theorem dX1_makeEmpty_17 : decode cX1_makeEmpty 17 = .ok (.iastore, 1) := by decide +kernel
theorem dX1_makeEmpty_18 : decode cX1_makeEmpty 18 = .ok (.aload_n 0, 1) := by decide +kernel
theorem dX1_makeEmpty_19 : decode cX1_makeEmpty 19 = .ok (.getfield 24, 3) := by decide +kernel
theorem dX1_makeEmpty_22 : decode cX1_makeEmpty 22 = .ok (.iconst 1, 1) := by decide +kernel
theorem dX1_makeEmpty_23 : decode cX1_makeEmpty 23 = .ok (.bipush 50, 2) := by decide +kernel
theorem dX1_makeEmpty_25 : decode cX1_makeEmpty 25 = .ok (.iastore, 1) := by decide +kernel
theorem dX1_makeEmpty_26 : decode cX1_makeEmpty 26 = .ok (.return_, 1) := by decide +kernel
theorem dX1_copyFrom_0 : decode cX1_copyFrom 0 = .ok (.aload_n 0, 1) := by decide +kernel
theorem dX1_copyFrom_1 : decode cX1_copyFrom 1 = .ok (.aload_n 1, 1) := by decide +kernel
theorem dX1_copyFrom_2 : decode cX1_copyFrom 2 = .ok (.getfield 30, 3) := by decide +kernel
theorem dX1_copyFrom_5 : decode cX1_copyFrom 5 = .ok (.putfield 30, 3) := by decide +kernel
theorem dX1_copyFrom_8 : decode cX1_copyFrom 8 = .ok (.aload_n 0, 1) := by decide +kernel
theorem dX1_copyFrom_9 : decode cX1_copyFrom 9 = .ok (.aload_n 1, 1) := by decide +kernel
theorem dX1_copyFrom_10 : decode cX1_copyFrom 10 = .ok (.getfield 34, 3) := by decide +kernel
theorem dX1_copyFrom_13 : decode cX1_copyFrom 13 = .ok (.putfield 34, 3) := by decide +kernel
theorem dX1_copyFrom_16 : decode cX1_copyFrom 16 = .ok (.aload_n 1, 1) := by decide +kernel
theorem dX1_copyFrom_17 : decode cX1_copyFrom 17 = .ok (.getfield 11, 3) := by decide +kernel
theorem dX1_copyFrom_20 : decode cX1_copyFrom 20 = .ok (.iconst 0, 1) := by decide +kernel
theorem dX1_copyFrom_21 : decode cX1_copyFrom 21 = .ok (.aload_n 0, 1) := by decide +kernel
theorem dX1_copyFrom_22 : decode cX1_copyFrom 22 = .ok (.getfield 11, 3) := by decide +kernel
theorem dX1_copyFrom_25 : decode cX1_copyFrom 25 = .ok (.iconst 0, 1) := by decide +kernel
theorem dX1_copyFrom_26 : decode cX1_copyFrom 26 = .ok (.bipush 8, 2) := by decide +kernel
theorem dX1_copyFrom_28 : decode cX1_copyFrom 28 = .ok (.invokestatic 38, 3) := by decide +kernel
theorem dX1_copyFrom_31 : decode cX1_copyFrom 31 = .ok (.aload_n 1, 1) := by decide +kernel
theorem dX1_copyFrom_32 : decode cX1_copyFrom 32 = .ok (.getfield 15, 3) := by decide +kernel
theorem dX1_copyFrom_35 : decode cX1_copyFrom 35 = .ok (.iconst 0, 1) := by decide +kernel
theorem dX1_copyFrom_36 : decode cX1_copyFrom 36 = .ok (.aload_n 0, 1) := by decide +kernel
theorem dX1_copyFrom_37 : decode cX1_copyFrom 37 = .ok (.getfield 15, 3) := by decide +kernel
theorem dX1_copyFrom_40 : decode cX1_copyFrom 40 = .ok (.iconst 0, 1) := by decide +kernel
theorem dX1_copyFrom_41 : decode cX1_copyFrom 41 = .ok (.bipush 8, 2) := by decide +kernel
theorem dX1_copyFrom_43 : decode cX1_copyFrom 43 = .ok (.invokestatic 38, 3) := by decide +kernel
theorem dX1_copyFrom_46 : decode cX1_copyFrom 46 = .ok (.aload_n 1, 1) := by decide +kernel
theorem dX1_copyFrom_47 : decode cX1_copyFrom 47 = .ok (.getfield 18, 3) := by decide +kernel
theorem dX1_copyFrom_50 : decode cX1_copyFrom 50 = .ok (.iconst 0, 1) := by decide +kernel
theorem dX1_copyFrom_51 : decode cX1_copyFrom 51 = .ok (.aload_n 0, 1) := by decide +kernel
theorem dX1_copyFrom_52 : decode cX1_copyFrom 52 = .ok (.getfield 18, 3) := by decide +kernel
theorem dX1_copyFrom_55 : decode cX1_copyFrom 55 = .ok (.iconst 0, 1) := by decide +kernel
theorem dX1_copyFrom_56 : decode cX1_copyFrom 56 = .ok (.bipush 8, 2) := by decide +kernel
theorem dX1_copyFrom_58 : decode cX1_copyFrom 58 = .ok (.invokestatic 38, 3) := by decide +kernel
theorem dX1_copyFrom_61 : decode cX1_copyFrom 61 = .ok (.aload_n 1, 1) := by decide +kernel
theorem dX1_copyFrom_62 : decode cX1_copyFrom 62 = .ok (.getfield 21, 3) := by decide +kernel
theorem dX1_copyFrom_65 : decode cX1_copyFrom 65 = .ok (.iconst 0, 1) := by decide +kernel
theorem dX1_copyFrom_66 : decode cX1_copyFrom 66 = .ok (.aload_n 0, 1) := by decide +kernel
theorem dX1_copyFrom_67 : decode cX1_copyFrom 67 = .ok (.getfield 21, 3) := by decide +kernel
theorem dX1_copyFrom_70 : decode cX1_copyFrom 70 = .ok (.iconst 0, 1) := by decide +kernel
theorem dX1_copyFrom_71 : decode cX1_copyFrom 71 = .ok (.bipush 8, 2) := by decide +kernel
theorem dX1_copyFrom_73 : decode cX1_copyFrom 73 = .ok (.invokestatic 38, 3) := by decide +kernel
theorem dX1_copyFrom_76 : decode cX1_copyFrom 76 = .ok (.aload_n 1, 1) := by decide +kernel
theorem dX1_copyFrom_77 : decode cX1_copyFrom 77 = .ok (.getfield 24, 3) := by decide +kernel
theorem dX1_copyFrom_80 : decode cX1_copyFrom 80 = .ok (.iconst 0, 1) := by decide +kernel
theorem dX1_copyFrom_81 : decode cX1_copyFrom 81 = .ok (.aload_n 0, 1) := by decide +kernel
theorem dX1_copyFrom_82 : decode cX1_copyFrom 82 = .ok (.getfield 24, 3) := by decide +kernel
theorem dX1_copyFrom_85 : decode cX1_copyFrom 85 = .ok (.iconst 0, 1) := by decide +kernel
theorem dX1_copyFrom_86 : decode cX1_copyFrom 86 = .ok (.iconst 2, 1) := by decide +kernel
theorem dX1_copyFrom_87 : decode cX1_copyFrom 87 = .ok (.invokestatic 38, 3) := by decide +kernel
theorem dX1_copyFrom_90 : decode cX1_copyFrom 90 = .ok (.return_, 1) := by decide +kernel
theorem dX1_isWeaver_0 : decode cX1_isWeaver 0 = .ok (.iload_n 1, 1) := by decide +kernel
theorem dX1_isWeaver_1 : decode cX1_isWeaver 1 = .ok (.iconst 0, 1) := by decide +kernel
theorem dX1_isWeaver_2 : decode cX1_isWeaver 2 = .ok (.aload_n 0, 1) := by decide +kernel
theorem dX1_isWeaver_3 : decode cX1_isWeaver 3 = .ok (.getfield 34, 3) := by decide +kernel
theorem dX1_isWeaver_6 : decode cX1_isWeaver 6 = .ok (.iconst 1, 1) := by decide +kernel
theorem dX1_isWeaver_7 : decode cX1_isWeaver 7 = .ok (.isub, 1) := by decide +kernel
theorem dX1_isWeaver_8 : decode cX1_isWeaver 8 = .ok (.invokestatic 44, 3) := by decide +kernel
theorem dX1_isWeaver_11 : decode cX1_isWeaver 11 = .ok (.ireturn, 1) := by decide +kernel
theorem dX1_areTwo_0 : decode cX1_areTwo 0 = .ok (.aload_n 0, 1) := by decide +kernel
theorem dX1_areTwo_1 : decode cX1_areTwo 1 = .ok (.iload_n 1, 1) := by decide +kernel
theorem dX1_areTwo_2 : decode cX1_areTwo 2 = .ok (.invokevirtual 48, 3) := by decide +kernel
theorem dX1_areTwo_5 : decode cX1_areTwo 5 = .ok (.ifCond .eq 20, 3) := by decide +kernel
theorem dX1_areTwo_8 : decode cX1_areTwo 8 = .ok (.aload_n 0, 1) := by decide +kernel
theorem dX1_areTwo_9 : decode cX1_areTwo 9 = .ok (.iload_n 2, 1) := by decide +kernel
theorem dX1_areTwo_10 : decode cX1_areTwo 10 = .ok (.invokevirtual 48, 3) := by decide +kernel
theorem dX1_areTwo_13 : decode cX1_areTwo 13 = .ok (.ifCond .eq 12, 3) := by decide +kernel
theorem dX1_areTwo_16 : decode cX1_areTwo 16 = .ok (.iload_n 1, 1) := by decide +kernel
theorem dX1_areTwo_17 : decode cX1_areTwo 17 = .ok (.iload_n 2, 1) := by decide +kernel
theorem dX1_areTwo_18 : decode cX1_areTwo 18 = .ok (.if_icmp .eq 7, 3) := by decide +kernel
theorem dX1_areTwo_21 : decode cX1_areTwo 21 = .ok (.iconst 1, 1) := by decide +kernel
theorem dX1_areTwo_22 : decode cX1_areTwo 22 = .ok (.goto 4, 3) := by decide +kernel
theorem dX1_areTwo_25 : decode cX1_areTwo 25 = .ok (.iconst 0, 1) := by decide +kernel
theorem dX1_areTwo_26 : decode cX1_areTwo 26 = .ok (.ireturn, 1) := by decide +kernel
theorem dX1_hasPillar_0 : decode cX1_hasPillar 0 = .ok (.aload_n 0, 1) := by decide +kernel
theorem dX1_hasPillar_1 : decode cX1_hasPillar 1 = .ok (.getfield 30, 3) := by decide +kernel
theorem dX1_hasPillar_4 : decode cX1_hasPillar 4 = .ok (.iload_n 1, 1) := by decide +kernel
theorem dX1_hasPillar_5 : decode cX1_hasPillar 5 = .ok (.lushr, 1) := by decide +kernel
theorem dX1_hasPillar_6 : decode cX1_hasPillar 6 = .ok (.lconst 1, 1) := by decide +kernel
theorem dX1_hasPillar_7 : decode cX1_hasPillar 7 = .ok (.land, 1) := by decide +kernel
theorem dX1_hasPillar_8 : decode cX1_hasPillar 8 = .ok (.lconst 0, 1) := by decide +kernel
theorem dX1_hasPillar_9 : decode cX1_hasPillar 9 = .ok (.lcmp, 1) := by decide +kernel
theorem dX1_hasPillar_10 : decode cX1_hasPillar 10 = .ok (.ifCond .eq 7, 3) := by decide +kernel
theorem dX1_hasPillar_13 : decode cX1_hasPillar 13 = .ok (.iconst 1, 1) := by decide +kernel
theorem dX1_hasPillar_14 : decode cX1_hasPillar 14 = .ok (.goto 4, 3) := by decide +kernel
theorem dX1_hasPillar_17 : decode cX1_hasPillar 17 = .ok (.iconst 0, 1) := by decide +kernel
theorem dX1_hasPillar_18 : decode cX1_hasPillar 18 = .ok (.ireturn, 1) := by decide +kernel
theorem dX1_hasWeaver_0 : decode cX1_hasWeaver 0 = .ok (.iconst 0, 1) := by decide +kernel
theorem dX1_hasWeaver_1 : decode cX1_hasWeaver 1 = .ok (.istore_n 2, 1) := by decide +kernel
theorem dX1_hasWeaver_2 : decode cX1_hasWeaver 2 = .ok (.iload_n 2, 1) := by decide +kernel
theorem dX1_hasWeaver_3 : decode cX1_hasWeaver 3 = .ok (.aload_n 0, 1) := by decide +kernel
theorem dX1_hasWeaver_4 : decode cX1_hasWeaver 4 = .ok (.getfield 34, 3) := by decide +kernel
theorem dX1_hasWeaver_7 : decode cX1_hasWeaver 7 = .ok (.if_icmp .ge 21, 3) := by decide +kernel
theorem dX1_hasWeaver_10 : decode cX1_hasWeaver 10 = .ok (.aload_n 0, 1) := by decide +kernel
theorem dX1_hasWeaver_11 : decode cX1_hasWeaver 11 = .ok (.getfield 11, 3) := by decide +kernel
theorem dX1_hasWeaver_14 : decode cX1_hasWeaver 14 = .ok (.iload_n 2, 1) := by decide +kernel
theorem dX1_hasWeaver_15 : decode cX1_hasWeaver 15 = .ok (.iaload, 1) := by decide +kernel
theorem dX1_hasWeaver_16 : decode cX1_hasWeaver 16 = .ok (.iload_n 1, 1) := by decide +kernel
theorem dX1_hasWeaver_17 : decode cX1_hasWeaver 17 = .ok (.if_icmp .ne 5, 3) := by decide +kernel
theorem dX1_hasWeaver_20 : decode cX1_hasWeaver 20 = .ok (.iconst 1, 1) := by decide +kernel
theorem dX1_hasWeaver_21 : decode cX1_hasWeaver 21 = .ok (.ireturn, 1) := by decide +kernel
theorem dX1_hasWeaver_22 : decode cX1_hasWeaver 22 = .ok (.iinc 2 1, 3) := by decide +kernel
theorem dX1_hasWeaver_25 : decode cX1_hasWeaver 25 = .ok (.goto (-23), 3) := by decide +kernel
theorem dX1_hasWeaver_28 : decode cX1_hasWeaver 28 = .ok (.iconst 0, 1) := by decide +kernel
theorem dX1_hasWeaver_29 : decode cX1_hasWeaver 29 = .ok (.ireturn, 1) := by decide +kernel
theorem dX1_putPillar_0 : decode cX1_putPillar 0 = .ok (.iload_n 1, 1) := by decide +kernel
theorem dX1_putPillar_1 : decode cX1_putPillar 1 = .ok (.iconst 0, 1) := by decide +kernel
theorem dX1_putPillar_2 : decode cX1_putPillar 2 = .ok (.bipush 63, 2) := by decide +kernel
theorem dX1_putPillar_4 : decode cX1_putPillar 4 = .ok (.invokestatic 44, 3) := by decide +kernel
theorem dX1_putPillar_7 : decode cX1_putPillar 7 = .ok (.ifCond .eq 11, 3) := by decide +kernel
theorem dX1_putPillar_10 : decode cX1_putPillar 10 = .ok (.aload_n 0, 1) := by decide +kernel
theorem dX1_putPillar_11 : decode cX1_putPillar 11 = .ok (.iload_n 1, 1) := by decide +kernel
theorem dX1_putPillar_12 : decode cX1_putPillar 12 = .ok (.invokevirtual 52, 3) := by decide +kernel
theorem dX1_putPillar_15 : decode cX1_putPillar 15 = .ok (.ifCond .eq 6, 3) := by decide +kernel
theorem dX1_putPillar_18 : decode cX1_putPillar 18 = .ok (.bipush (-2), 2) := by decide +kernel
theorem dX1_putPillar_20 : decode cX1_putPillar 20 = .ok (.ireturn, 1) := by decide +kernel
theorem dX1_putPillar_21 : decode cX1_putPillar 21 = .ok (.aload_n 0, 1) := by decide +kernel
theorem dX1_putPillar_22 : decode cX1_putPillar 22 = .ok (.iload_n 1, 1) := by decide +kernel
theorem dX1_putPillar_23 : decode cX1_putPillar 23 = .ok (.invokevirtual 55, 3) := by decide +kernel
theorem dX1_putPillar_26 : decode cX1_putPillar 26 = .ok (.ifCond .eq 6, 3) := by decide +kernel
theorem dX1_putPillar_29 : decode cX1_putPillar 29 = .ok (.bipush (-3), 2) := by decide +kernel
theorem dX1_putPillar_31 : decode cX1_putPillar 31 = .ok (.ireturn, 1) := by decide +kernel
theorem dX1_putPillar_32 : decode cX1_putPillar 32 = .ok (.aload_n 0, 1) := by decide +kernel
theorem dX1_putPillar_33 : decode cX1_putPillar 33 = .ok (.dup, 1) := by decide +kernel
theorem dX1_putPillar_34 : decode cX1_putPillar 34 = .ok (.getfield 30, 3) := by decide +kernel
theorem dX1_putPillar_37 : decode cX1_putPillar 37 = .ok (.lconst 1, 1) := by decide +kernel
theorem dX1_putPillar_38 : decode cX1_putPillar 38 = .ok (.iload_n 1, 1) := by decide +kernel
theorem dX1_putPillar_39 : decode cX1_putPillar 39 = .ok (.lshl, 1) := by decide +kernel
theorem dX1_putPillar_40 : decode cX1_putPillar 40 = .ok (.lor, 1) := by decide +kernel
theorem dX1_putPillar_41 : decode cX1_putPillar 41 = .ok (.putfield 30, 3) := by decide +kernel
theorem dX1_putPillar_44 : decode cX1_putPillar 44 = .ok (.iconst 1, 1) := by decide +kernel
theorem dX1_putPillar_45 : decode cX1_putPillar 45 = .ok (.ireturn, 1) := by decide +kernel
theorem dX1_putWeaver_0 : decode cX1_putWeaver 0 = .ok (.iload_n 1, 1) := by decide +kernel
theorem dX1_putWeaver_1 : decode cX1_putWeaver 1 = .ok (.iconst 0, 1) := by decide +kernel
theorem dX1_putWeaver_2 : decode cX1_putWeaver 2 = .ok (.bipush 63, 2) := by decide +kernel
theorem dX1_putWeaver_4 : decode cX1_putWeaver 4 = .ok (.invokestatic 44, 3) := by decide +kernel
theorem dX1_putWeaver_7 : decode cX1_putWeaver 7 = .ok (.ifCond .eq 28, 3) := by decide +kernel
theorem dX1_putWeaver_10 : decode cX1_putWeaver 10 = .ok (.iload_n 2, 1) := by decide +kernel
theorem dX1_putWeaver_11 : decode cX1_putWeaver 11 = .ok (.iconst 0, 1) := by decide +kernel
theorem dX1_putWeaver_12 : decode cX1_putWeaver 12 = .ok (.iconst 3, 1) := by decide +kernel
theorem dX1_putWeaver_13 : decode cX1_putWeaver 13 = .ok (.invokestatic 44, 3) := by decide +kernel
theorem dX1_putWeaver_16 : decode cX1_putWeaver 16 = .ok (.ifCond .eq 19, 3) := by decide +kernel
theorem dX1_putWeaver_19 : decode cX1_putWeaver 19 = .ok (.aload_n 0, 1) := by decide +kernel
theorem dX1_putWeaver_20 : decode cX1_putWeaver 20 = .ok (.iload_n 1, 1) := by decide +kernel
theorem dX1_putWeaver_21 : decode cX1_putWeaver 21 = .ok (.invokevirtual 55, 3) := by decide +kernel
theorem dX1_putWeaver_24 : decode cX1_putWeaver 24 = .ok (.ifCond .ne 11, 3) := by decide +kernel
theorem dX1_putWeaver_27 : decode cX1_putWeaver 27 = .ok (.aload_n 0, 1) := by decide +kernel
theorem dX1_putWeaver_28 : decode cX1_putWeaver 28 = .ok (.iload_n 1, 1) := by decide +kernel
theorem dX1_putWeaver_29 : decode cX1_putWeaver 29 = .ok (.invokevirtual 52, 3) := by decide +kernel
theorem dX1_putWeaver_32 : decode cX1_putWeaver 32 = .ok (.ifCond .eq 6, 3) := by decide +kernel
theorem dX1_putWeaver_35 : decode cX1_putWeaver 35 = .ok (.bipush (-2), 2) := by decide +kernel
theorem dX1_putWeaver_37 : decode cX1_putWeaver 37 = .ok (.ireturn, 1) := by decide +kernel
theorem dX1_putWeaver_38 : decode cX1_putWeaver 38 = .ok (.aload_n 0, 1) := by decide +kernel
theorem dX1_putWeaver_39 : decode cX1_putWeaver 39 = .ok (.getfield 34, 3) := by decide +kernel
theorem dX1_putWeaver_42 : decode cX1_putWeaver 42 = .ok (.bipush 8, 2) := by decide +kernel
theorem dX1_putWeaver_44 : decode cX1_putWeaver 44 = .ok (.if_icmp .lt 6, 3) := by decide +kernel
theorem dX1_putWeaver_47 : decode cX1_putWeaver 47 = .ok (.bipush (-4), 2) := by decide +kernel
theorem dX1_putWeaver_49 : decode cX1_putWeaver 49 = .ok (.ireturn, 1) := by decide +kernel
theorem dX1_putWeaver_50 : decode cX1_putWeaver 50 = .ok (.aload_n 0, 1) := by decide +kernel
theorem dX1_putWeaver_51 : decode cX1_putWeaver 51 = .ok (.getfield 11, 3) := by decide +kernel
theorem dX1_putWeaver_54 : decode cX1_putWeaver 54 = .ok (.aload_n 0, 1) := by decide +kernel
theorem dX1_putWeaver_55 : decode cX1_putWeaver 55 = .ok (.getfield 34, 3) := by decide +kernel
theorem dX1_putWeaver_58 : decode cX1_putWeaver 58 = .ok (.iload_n 1, 1) := by decide +kernel
theorem dX1_putWeaver_59 : decode cX1_putWeaver 59 = .ok (.iastore, 1) := by decide +kernel
theorem dX1_putWeaver_60 : decode cX1_putWeaver 60 = .ok (.aload_n 0, 1) := by decide +kernel
theorem dX1_putWeaver_61 : decode cX1_putWeaver 61 = .ok (.getfield 15, 3) := by decide +kernel
theorem dX1_putWeaver_64 : decode cX1_putWeaver 64 = .ok (.aload_n 0, 1) := by decide +kernel
theorem dX1_putWeaver_65 : decode cX1_putWeaver 65 = .ok (.getfield 34, 3) := by decide +kernel
theorem dX1_putWeaver_68 : decode cX1_putWeaver 68 = .ok (.iload_n 2, 1) := by decide +kernel
theorem dX1_putWeaver_69 : decode cX1_putWeaver 69 = .ok (.iastore, 1) := by decide +kernel
theorem dX1_putWeaver_70 : decode cX1_putWeaver 70 = .ok (.aload_n 0, 1) := by decide +kernel
theorem dX1_putWeaver_71 : decode cX1_putWeaver 71 = .ok (.getfield 18, 3) := by decide +kernel
theorem dX1_putWeaver_74 : decode cX1_putWeaver 74 = .ok (.aload_n 0, 1) := by decide +kernel
theorem dX1_putWeaver_75 : decode cX1_putWeaver 75 = .ok (.getfield 34, 3) := by decide +kernel
theorem dX1_putWeaver_78 : decode cX1_putWeaver 78 = .ok (.sipush 4095, 3) := by decide +kernel
theorem dX1_putWeaver_81 : decode cX1_putWeaver 81 = .ok (.iastore, 1) := by decide +kernel
theorem dX1_putWeaver_82 : decode cX1_putWeaver 82 = .ok (.aload_n 0, 1) := by decide +kernel
theorem dX1_putWeaver_83 : decode cX1_putWeaver 83 = .ok (.getfield 21, 3) := by decide +kernel
theorem dX1_putWeaver_86 : decode cX1_putWeaver 86 = .ok (.aload_n 0, 1) := by decide +kernel
theorem dX1_putWeaver_87 : decode cX1_putWeaver 87 = .ok (.getfield 34, 3) := by decide +kernel
theorem dX1_putWeaver_90 : decode cX1_putWeaver 90 = .ok (.sipush 4095, 3) := by decide +kernel
theorem dX1_putWeaver_93 : decode cX1_putWeaver 93 = .ok (.iastore, 1) := by decide +kernel
theorem dX1_putWeaver_94 : decode cX1_putWeaver 94 = .ok (.aload_n 0, 1) := by decide +kernel
theorem dX1_putWeaver_95 : decode cX1_putWeaver 95 = .ok (.dup, 1) := by decide +kernel
theorem dX1_putWeaver_96 : decode cX1_putWeaver 96 = .ok (.getfield 34, 3) := by decide +kernel
theorem dX1_putWeaver_99 : decode cX1_putWeaver 99 = .ok (.iconst 1, 1) := by decide +kernel
theorem dX1_putWeaver_100 : decode cX1_putWeaver 100 = .ok (.iadd, 1) := by decide +kernel
theorem dX1_putWeaver_101 : decode cX1_putWeaver 101 = .ok (.putfield 34, 3) := by decide +kernel
theorem dX1_putWeaver_104 : decode cX1_putWeaver 104 = .ok (.aload_n 0, 1) := by decide +kernel
theorem dX1_putWeaver_105 : decode cX1_putWeaver 105 = .ok (.getfield 34, 3) := by decide +kernel
theorem dX1_putWeaver_108 : decode cX1_putWeaver 108 = .ok (.iconst 1, 1) := by decide +kernel
theorem dX1_putWeaver_109 : decode cX1_putWeaver 109 = .ok (.isub, 1) := by decide +kernel
theorem dX1_putWeaver_110 : decode cX1_putWeaver 110 = .ok (.ireturn, 1) := by decide +kernel
theorem dX1_turn_0 : decode cX1_turn 0 = .ok (.aload_n 0, 1) := by decide +kernel
theorem dX1_turn_1 : decode cX1_turn 1 = .ok (.iload_n 1, 1) := by decide +kernel
theorem dX1_turn_2 : decode cX1_turn 2 = .ok (.invokevirtual 48, 3) := by decide +kernel
theorem dX1_turn_5 : decode cX1_turn 5 = .ok (.ifCond .eq 12, 3) := by decide +kernel
theorem dX1_turn_8 : decode cX1_turn 8 = .ok (.iload_n 2, 1) := by decide +kernel
theorem dX1_turn_9 : decode cX1_turn 9 = .ok (.iconst 0, 1) := by decide +kernel
theorem dX1_turn_10 : decode cX1_turn 10 = .ok (.iconst 3, 1) := by decide +kernel
theorem dX1_turn_11 : decode cX1_turn 11 = .ok (.invokestatic 44, 3) := by decide +kernel
theorem dX1_turn_14 : decode cX1_turn 14 = .ok (.ifCond .ne 6, 3) := by decide +kernel
theorem dX1_turn_17 : decode cX1_turn 17 = .ok (.bipush (-2), 2) := by decide +kernel
theorem dX1_turn_19 : decode cX1_turn 19 = .ok (.ireturn, 1) := by decide +kernel
theorem dX1_turn_20 : decode cX1_turn 20 = .ok (.aload_n 0, 1) := by decide +kernel
theorem dX1_turn_21 : decode cX1_turn 21 = .ok (.getfield 15, 3) := by decide +kernel
theorem dX1_turn_24 : decode cX1_turn 24 = .ok (.iload_n 1, 1) := by decide +kernel
theorem dX1_turn_25 : decode cX1_turn 25 = .ok (.iaload, 1) := by decide +kernel
theorem dX1_turn_26 : decode cX1_turn 26 = .ok (.istore_n 3, 1) := by decide +kernel
theorem dX1_turn_27 : decode cX1_turn 27 = .ok (.aload_n 0, 1) := by decide +kernel
theorem dX1_turn_28 : decode cX1_turn 28 = .ok (.getfield 15, 3) := by decide +kernel
theorem dX1_turn_31 : decode cX1_turn 31 = .ok (.iload_n 1, 1) := by decide +kernel
theorem dX1_turn_32 : decode cX1_turn 32 = .ok (.iload_n 2, 1) := by decide +kernel
theorem dX1_turn_33 : decode cX1_turn 33 = .ok (.iastore, 1) := by decide +kernel
theorem dX1_turn_34 : decode cX1_turn 34 = .ok (.iload_n 3, 1) := by decide +kernel
theorem dX1_turn_35 : decode cX1_turn 35 = .ok (.ireturn, 1) := by decide +kernel
theorem dX1_setFree_0 : decode cX1_setFree 0 = .ok (.aload_n 0, 1) := by decide +kernel
theorem dX1_setFree_1 : decode cX1_setFree 1 = .ok (.iload_n 1, 1) := by decide +kernel
theorem dX1_setFree_2 : decode cX1_setFree 2 = .ok (.invokevirtual 48, 3) := by decide +kernel
theorem dX1_setFree_5 : decode cX1_setFree 5 = .ok (.ifCond .eq 12, 3) := by decide +kernel
theorem dX1_setFree_8 : decode cX1_setFree 8 = .ok (.iload_n 2, 1) := by decide +kernel
theorem dX1_setFree_9 : decode cX1_setFree 9 = .ok (.iconst 0, 1) := by decide +kernel
theorem dX1_setFree_10 : decode cX1_setFree 10 = .ok (.iconst 1, 1) := by decide +kernel
theorem dX1_setFree_11 : decode cX1_setFree 11 = .ok (.invokestatic 44, 3) := by decide +kernel
theorem dX1_setFree_14 : decode cX1_setFree 14 = .ok (.ifCond .ne 6, 3) := by decide +kernel
theorem dX1_setFree_17 : decode cX1_setFree 17 = .ok (.bipush (-2), 2) := by decide +kernel
theorem dX1_setFree_19 : decode cX1_setFree 19 = .ok (.ireturn, 1) := by decide +kernel
theorem dX1_setFree_20 : decode cX1_setFree 20 = .ok (.iload_n 3, 1) := by decide +kernel
theorem dX1_setFree_21 : decode cX1_setFree 21 = .ok (.iconst 0, 1) := by decide +kernel
theorem dX1_setFree_22 : decode cX1_setFree 22 = .ok (.bipush 11, 2) := by decide +kernel
theorem dX1_setFree_24 : decode cX1_setFree 24 = .ok (.invokestatic 44, 3) := by decide +kernel
theorem dX1_setFree_27 : decode cX1_setFree 27 = .ok (.ifCond .eq 14, 3) := by decide +kernel
theorem dX1_setFree_30 : decode cX1_setFree 30 = .ok (.iload 4, 2) := by decide +kernel
theorem dX1_setFree_32 : decode cX1_setFree 32 = .ok (.iload_n 3, 1) := by decide +kernel
theorem dX1_setFree_33 : decode cX1_setFree 33 = .ok (.bipush 11, 2) := by decide +kernel
theorem dX1_setFree_35 : decode cX1_setFree 35 = .ok (.invokestatic 44, 3) := by decide +kernel
theorem dX1_setFree_38 : decode cX1_setFree 38 = .ok (.ifCond .ne 6, 3) := by decide +kernel
theorem dX1_setFree_41 : decode cX1_setFree 41 = .ok (.bipush (-2), 2) := by decide +kernel
theorem dX1_setFree_43 : decode cX1_setFree 43 = .ok (.ireturn, 1) := by decide +kernel
theorem dX1_setFree_44 : decode cX1_setFree 44 = .ok (.iconst 1, 1) := by decide +kernel
theorem dX1_setFree_45 : decode cX1_setFree 45 = .ok (.iload 4, 2) := by decide +kernel
theorem dX1_setFree_47 : decode cX1_setFree 47 = .ok (.iconst 1, 1) := by decide +kernel
theorem dX1_setFree_48 : decode cX1_setFree 48 = .ok (.iadd, 1) := by decide +kernel
theorem dX1_setFree_49 : decode cX1_setFree 49 = .ok (.ishl, 1) := by decide +kernel
theorem dX1_setFree_50 : decode cX1_setFree 50 = .ok (.iconst 1, 1) := by decide +kernel
theorem dX1_setFree_51 : decode cX1_setFree 51 = .ok (.iload_n 3, 1) := by decide +kernel
theorem dX1_setFree_52 : decode cX1_setFree 52 = .ok (.ishl, 1) := by decide +kernel
theorem dX1_setFree_53 : decode cX1_setFree 53 = .ok (.isub, 1) := by decide +kernel
theorem dX1_setFree_54 : decode cX1_setFree 54 = .ok (.istore 5, 2) := by decide +kernel
theorem dX1_setFree_56 : decode cX1_setFree 56 = .ok (.iload_n 2, 1) := by decide +kernel
theorem dX1_setFree_57 : decode cX1_setFree 57 = .ok (.ifCond .ne 14, 3) := by decide +kernel
theorem dX1_setFree_60 : decode cX1_setFree 60 = .ok (.aload_n 0, 1) := by decide +kernel
theorem dX1_setFree_61 : decode cX1_setFree 61 = .ok (.getfield 18, 3) := by decide +kernel
theorem dX1_setFree_64 : decode cX1_setFree 64 = .ok (.iload_n 1, 1) := by decide +kernel
theorem dX1_setFree_65 : decode cX1_setFree 65 = .ok (.iload 5, 2) := by decide +kernel
theorem dX1_setFree_67 : decode cX1_setFree 67 = .ok (.iastore, 1) := by decide +kernel
theorem dX1_setFree_68 : decode cX1_setFree 68 = .ok (.goto 11, 3) := by decide +kernel
theorem dX1_setFree_71 : decode cX1_setFree 71 = .ok (.aload_n 0, 1) := by decide +kernel
theorem dX1_setFree_72 : decode cX1_setFree 72 = .ok (.getfield 21, 3) := by decide +kernel
theorem dX1_setFree_75 : decode cX1_setFree 75 = .ok (.iload_n 1, 1) := by decide +kernel
theorem dX1_setFree_76 : decode cX1_setFree 76 = .ok (.iload 5, 2) := by decide +kernel
theorem dX1_setFree_78 : decode cX1_setFree 78 = .ok (.iastore, 1) := by decide +kernel
theorem dX1_setFree_79 : decode cX1_setFree 79 = .ok (.iconst 1, 1) := by decide +kernel
theorem dX1_setFree_80 : decode cX1_setFree 80 = .ok (.ireturn, 1) := by decide +kernel
theorem dX1_setFar_0 : decode cX1_setFar 0 = .ok (.iload_n 1, 1) := by decide +kernel
theorem dX1_setFar_1 : decode cX1_setFar 1 = .ok (.iconst 0, 1) := by decide +kernel
theorem dX1_setFar_2 : decode cX1_setFar 2 = .ok (.iconst 1, 1) := by decide +kernel
theorem dX1_setFar_3 : decode cX1_setFar 3 = .ok (.invokestatic 44, 3) := by decide +kernel
theorem dX1_setFar_6 : decode cX1_setFar 6 = .ok (.ifCond .eq 13, 3) := by decide +kernel
theorem dX1_setFar_9 : decode cX1_setFar 9 = .ok (.iload_n 2, 1) := by decide +kernel
theorem dX1_setFar_10 : decode cX1_setFar 10 = .ok (.iconst 1, 1) := by decide +kernel
theorem dX1_setFar_11 : decode cX1_setFar 11 = .ok (.bipush 98, 2) := by decide +kernel
theorem dX1_setFar_13 : decode cX1_setFar 13 = .ok (.invokestatic 44, 3) := by decide +kernel
theorem dX1_setFar_16 : decode cX1_setFar 16 = .ok (.ifCond .ne 6, 3) := by decide +kernel
theorem dX1_setFar_19 : decode cX1_setFar 19 = .ok (.bipush (-2), 2) := by decide +kernel
theorem dX1_setFar_21 : decode cX1_setFar 21 = .ok (.ireturn, 1) := by decide +kernel
theorem dX1_setFar_22 : decode cX1_setFar 22 = .ok (.aload_n 0, 1) := by decide +kernel
theorem dX1_setFar_23 : decode cX1_setFar 23 = .ok (.getfield 24, 3) := by decide +kernel
theorem dX1_setFar_26 : decode cX1_setFar 26 = .ok (.iload_n 1, 1) := by decide +kernel
theorem dX1_setFar_27 : decode cX1_setFar 27 = .ok (.iaload, 1) := by decide +kernel
theorem dX1_setFar_28 : decode cX1_setFar 28 = .ok (.istore_n 3, 1) := by decide +kernel
theorem dX1_setFar_29 : decode cX1_setFar 29 = .ok (.aload_n 0, 1) := by decide +kernel
theorem dX1_setFar_30 : decode cX1_setFar 30 = .ok (.getfield 24, 3) := by decide +kernel
theorem dX1_setFar_33 : decode cX1_setFar 33 = .ok (.iload_n 1, 1) := by decide +kernel
theorem dX1_setFar_34 : decode cX1_setFar 34 = .ok (.iload_n 2, 1) := by decide +kernel
theorem dX1_setFar_35 : decode cX1_setFar 35 = .ok (.iastore, 1) := by decide +kernel
theorem dX1_setFar_36 : decode cX1_setFar 36 = .ok (.iload_n 3, 1) := by decide +kernel
theorem dX1_setFar_37 : decode cX1_setFar 37 = .ok (.ireturn, 1) := by decide +kernel
theorem dX1_goesBy_0 : decode cX1_goesBy 0 = .ok (.iload_n 1, 1) := by decide +kernel
theorem dX1_goesBy_1 : decode cX1_goesBy 1 = .ok (.bipush 8, 2) := by decide +kernel
theorem dX1_goesBy_3 : decode cX1_goesBy 3 = .ok (.idiv, 1) := by decide +kernel
theorem dX1_goesBy_4 : decode cX1_goesBy 4 = .ok (.iload_n 0, 1) := by decide +kernel
theorem dX1_goesBy_5 : decode cX1_goesBy 5 = .ok (.bipush 8, 2) := by decide +kernel
theorem dX1_goesBy_7 : decode cX1_goesBy 7 = .ok (.idiv, 1) := by decide +kernel
theorem dX1_goesBy_8 : decode cX1_goesBy 8 = .ok (.isub, 1) := by decide +kernel
theorem dX1_goesBy_9 : decode cX1_goesBy 9 = .ok (.istore_n 3, 1) := by decide +kernel
theorem dX1_goesBy_10 : decode cX1_goesBy 10 = .ok (.iload_n 1, 1) := by decide +kernel
theorem dX1_goesBy_11 : decode cX1_goesBy 11 = .ok (.bipush 8, 2) := by decide +kernel
theorem dX1_goesBy_13 : decode cX1_goesBy 13 = .ok (.irem, 1) := by decide +kernel
theorem dX1_goesBy_14 : decode cX1_goesBy 14 = .ok (.iload_n 0, 1) := by decide +kernel
theorem dX1_goesBy_15 : decode cX1_goesBy 15 = .ok (.bipush 8, 2) := by decide +kernel
theorem dX1_goesBy_17 : decode cX1_goesBy 17 = .ok (.irem, 1) := by decide +kernel
theorem dX1_goesBy_18 : decode cX1_goesBy 18 = .ok (.isub, 1) := by decide +kernel
theorem dX1_goesBy_19 : decode cX1_goesBy 19 = .ok (.istore 4, 2) := by decide +kernel
theorem dX1_goesBy_21 : decode cX1_goesBy 21 = .ok (.iload_n 2, 1) := by decide +kernel
theorem dX1_goesBy_22 : decode cX1_goesBy 22 = .ok (.tableswitch 34 0 2 #[26, 29, 32], 26) := by decide +kernel
theorem dX1_goesBy_48 : decode cX1_goesBy 48 = .ok (.iload_n 3, 1) := by decide +kernel
theorem dX1_goesBy_49 : decode cX1_goesBy 49 = .ok (.ineg, 1) := by decide +kernel
theorem dX1_goesBy_50 : decode cX1_goesBy 50 = .ok (.ireturn, 1) := by decide +kernel
theorem dX1_goesBy_51 : decode cX1_goesBy 51 = .ok (.iload 4, 2) := by decide +kernel
theorem dX1_goesBy_53 : decode cX1_goesBy 53 = .ok (.ireturn, 1) := by decide +kernel
theorem dX1_goesBy_54 : decode cX1_goesBy 54 = .ok (.iload_n 3, 1) := by decide +kernel
theorem dX1_goesBy_55 : decode cX1_goesBy 55 = .ok (.ireturn, 1) := by decide +kernel
theorem dX1_goesBy_56 : decode cX1_goesBy 56 = .ok (.iload 4, 2) := by decide +kernel
theorem dX1_goesBy_58 : decode cX1_goesBy 58 = .ok (.ineg, 1) := by decide +kernel
theorem dX1_goesBy_59 : decode cX1_goesBy 59 = .ok (.ireturn, 1) := by decide +kernel
theorem dX1_squareOfWay_0 : decode cX1_squareOfWay 0 = .ok (.aload_n 0, 1) := by decide +kernel
theorem dX1_squareOfWay_1 : decode cX1_squareOfWay 1 = .ok (.getfield 11, 3) := by decide +kernel
theorem dX1_squareOfWay_4 : decode cX1_squareOfWay 4 = .ok (.iload_n 1, 1) := by decide +kernel
theorem dX1_squareOfWay_5 : decode cX1_squareOfWay 5 = .ok (.iaload, 1) := by decide +kernel
theorem dX1_squareOfWay_6 : decode cX1_squareOfWay 6 = .ok (.aload_n 0, 1) := by decide +kernel
theorem dX1_squareOfWay_7 : decode cX1_squareOfWay 7 = .ok (.getfield 11, 3) := by decide +kernel
theorem dX1_squareOfWay_10 : decode cX1_squareOfWay 10 = .ok (.iload_n 2, 1) := by decide +kernel
theorem dX1_squareOfWay_11 : decode cX1_squareOfWay 11 = .ok (.iaload, 1) := by decide +kernel
theorem dX1_squareOfWay_12 : decode cX1_squareOfWay 12 = .ok (.iconst 2, 1) := by decide +kernel
theorem dX1_squareOfWay_13 : decode cX1_squareOfWay 13 = .ok (.invokestatic 58, 3) := by decide +kernel
theorem dX1_squareOfWay_16 : decode cX1_squareOfWay 16 = .ok (.istore_n 3, 1) := by decide +kernel
theorem dX1_squareOfWay_17 : decode cX1_squareOfWay 17 = .ok (.aload_n 0, 1) := by decide +kernel
theorem dX1_squareOfWay_18 : decode cX1_squareOfWay 18 = .ok (.getfield 11, 3) := by decide +kernel
theorem dX1_squareOfWay_21 : decode cX1_squareOfWay 21 = .ok (.iload_n 1, 1) := by decide +kernel
theorem dX1_squareOfWay_22 : decode cX1_squareOfWay 22 = .ok (.iaload, 1) := by decide +kernel
theorem dX1_squareOfWay_23 : decode cX1_squareOfWay 23 = .ok (.aload_n 0, 1) := by decide +kernel
theorem dX1_squareOfWay_24 : decode cX1_squareOfWay 24 = .ok (.getfield 11, 3) := by decide +kernel
theorem dX1_squareOfWay_27 : decode cX1_squareOfWay 27 = .ok (.iload_n 2, 1) := by decide +kernel
theorem dX1_squareOfWay_28 : decode cX1_squareOfWay 28 = .ok (.iaload, 1) := by decide +kernel
theorem dX1_squareOfWay_29 : decode cX1_squareOfWay 29 = .ok (.iconst 1, 1) := by decide +kernel
theorem dX1_squareOfWay_30 : decode cX1_squareOfWay 30 = .ok (.invokestatic 58, 3) := by decide +kernel
theorem dX1_squareOfWay_33 : decode cX1_squareOfWay 33 = .ok (.istore 4, 2) := by decide +kernel
theorem dX1_squareOfWay_35 : decode cX1_squareOfWay 35 = .ok (.iload_n 3, 1) := by decide +kernel
theorem dX1_squareOfWay_36 : decode cX1_squareOfWay 36 = .ok (.iload_n 3, 1) := by decide +kernel
theorem dX1_squareOfWay_37 : decode cX1_squareOfWay 37 = .ok (.imul, 1) := by decide +kernel
theorem dX1_squareOfWay_38 : decode cX1_squareOfWay 38 = .ok (.iload 4, 2) := by decide +kernel
theorem dX1_squareOfWay_40 : decode cX1_squareOfWay 40 = .ok (.iload 4, 2) := by decide +kernel
theorem dX1_squareOfWay_42 : decode cX1_squareOfWay 42 = .ok (.imul, 1) := by decide +kernel
theorem dX1_squareOfWay_43 : decode cX1_squareOfWay 43 = .ok (.iadd, 1) := by decide +kernel
theorem dX1_squareOfWay_44 : decode cX1_squareOfWay 44 = .ok (.ireturn, 1) := by decide +kernel
theorem dX1_isClear_0 : decode cX1_isClear 0 = .ok (.aload_n 0, 1) := by decide +kernel
theorem dX1_isClear_1 : decode cX1_isClear 1 = .ok (.getfield 30, 3) := by decide +kernel
theorem dX1_isClear_4 : decode cX1_isClear 4 = .ok (.lconst 0, 1) := by decide +kernel
theorem dX1_isClear_5 : decode cX1_isClear 5 = .ok (.lcmp, 1) := by decide +kernel
theorem dX1_isClear_6 : decode cX1_isClear 6 = .ok (.ifCond .ne 5, 3) := by decide +kernel
theorem dX1_isClear_9 : decode cX1_isClear 9 = .ok (.iconst 1, 1) := by decide +kernel
theorem dX1_isClear_10 : decode cX1_isClear 10 = .ok (.ireturn, 1) := by decide +kernel
theorem dX1_isClear_11 : decode cX1_isClear 11 = .ok (.iconst 0, 1) := by decide +kernel
theorem dX1_isClear_12 : decode cX1_isClear 12 = .ok (.istore_n 3, 1) := by decide +kernel
theorem dX1_isClear_13 : decode cX1_isClear 13 = .ok (.iload_n 3, 1) := by decide +kernel
theorem dX1_isClear_14 : decode cX1_isClear 14 = .ok (.bipush 64, 2) := by decide +kernel
theorem dX1_isClear_16 : decode cX1_isClear 16 = .ok (.if_icmp .ge 38, 3) := by decide +kernel
theorem dX1_isClear_19 : decode cX1_isClear 19 = .ok (.aload_n 0, 1) := by decide +kernel
theorem dX1_isClear_20 : decode cX1_isClear 20 = .ok (.iload_n 3, 1) := by decide +kernel
theorem dX1_isClear_21 : decode cX1_isClear 21 = .ok (.invokevirtual 55, 3) := by decide +kernel
theorem dX1_isClear_24 : decode cX1_isClear 24 = .ok (.ifCond .eq 24, 3) := by decide +kernel
theorem dX1_isClear_27 : decode cX1_isClear 27 = .ok (.iload_n 3, 1) := by decide +kernel
theorem dX1_isClear_28 : decode cX1_isClear 28 = .ok (.aload_n 0, 1) := by decide +kernel
theorem dX1_isClear_29 : decode cX1_isClear 29 = .ok (.getfield 11, 3) := by decide +kernel
theorem dX1_isClear_32 : decode cX1_isClear 32 = .ok (.iload_n 1, 1) := by decide +kernel
theorem dX1_isClear_33 : decode cX1_isClear 33 = .ok (.iaload, 1) := by decide +kernel
theorem dX1_isClear_34 : decode cX1_isClear 34 = .ok (.aload_n 0, 1) := by decide +kernel
theorem dX1_isClear_35 : decode cX1_isClear 35 = .ok (.getfield 11, 3) := by decide +kernel
theorem dX1_isClear_38 : decode cX1_isClear 38 = .ok (.iload_n 2, 1) := by decide +kernel
theorem dX1_isClear_39 : decode cX1_isClear 39 = .ok (.iaload, 1) := by decide +kernel
theorem dX1_isClear_40 : decode cX1_isClear 40 = .ok (.invokestatic 62, 3) := by decide +kernel
theorem dX1_isClear_43 : decode cX1_isClear 43 = .ok (.ifCond .eq 5, 3) := by decide +kernel
theorem dX1_isClear_46 : decode cX1_isClear 46 = .ok (.iconst 0, 1) := by decide +kernel
theorem dX1_isClear_47 : decode cX1_isClear 47 = .ok (.ireturn, 1) := by decide +kernel
theorem dX1_isClear_48 : decode cX1_isClear 48 = .ok (.iinc 3 1, 3) := by decide +kernel
theorem dX1_isClear_51 : decode cX1_isClear 51 = .ok (.goto (-38), 3) := by decide +kernel
theorem dX1_isClear_54 : decode cX1_isClear 54 = .ok (.iconst 1, 1) := by decide +kernel
theorem dX1_isClear_55 : decode cX1_isClear 55 = .ok (.ireturn, 1) := by decide +kernel
theorem dX1_isBlockedBy_0 : decode cX1_isBlockedBy 0 = .ok (.iload_n 2, 1) := by decide +kernel
theorem dX1_isBlockedBy_1 : decode cX1_isBlockedBy 1 = .ok (.bipush 8, 2) := by decide +kernel
theorem dX1_isBlockedBy_3 : decode cX1_isBlockedBy 3 = .ok (.idiv, 1) := by decide +kernel
theorem dX1_isBlockedBy_4 : decode cX1_isBlockedBy 4 = .ok (.iload_n 1, 1) := by decide +kernel
theorem dX1_isBlockedBy_5 : decode cX1_isBlockedBy 5 = .ok (.bipush 8, 2) := by decide +kernel
theorem dX1_isBlockedBy_7 : decode cX1_isBlockedBy 7 = .ok (.idiv, 1) := by decide +kernel
theorem dX1_isBlockedBy_8 : decode cX1_isBlockedBy 8 = .ok (.isub, 1) := by decide +kernel
theorem dX1_isBlockedBy_9 : decode cX1_isBlockedBy 9 = .ok (.istore_n 3, 1) := by decide +kernel
theorem dX1_isBlockedBy_10 : decode cX1_isBlockedBy 10 = .ok (.iload_n 2, 1) := by decide +kernel
theorem dX1_isBlockedBy_11 : decode cX1_isBlockedBy 11 = .ok (.bipush 8, 2) := by decide +kernel
theorem dX1_isBlockedBy_13 : decode cX1_isBlockedBy 13 = .ok (.irem, 1) := by decide +kernel
theorem dX1_isBlockedBy_14 : decode cX1_isBlockedBy 14 = .ok (.iload_n 1, 1) := by decide +kernel
theorem dX1_isBlockedBy_15 : decode cX1_isBlockedBy 15 = .ok (.bipush 8, 2) := by decide +kernel
theorem dX1_isBlockedBy_17 : decode cX1_isBlockedBy 17 = .ok (.irem, 1) := by decide +kernel
theorem dX1_isBlockedBy_18 : decode cX1_isBlockedBy 18 = .ok (.isub, 1) := by decide +kernel
theorem dX1_isBlockedBy_19 : decode cX1_isBlockedBy 19 = .ok (.istore 4, 2) := by decide +kernel
theorem dX1_isBlockedBy_21 : decode cX1_isBlockedBy 21 = .ok (.iload_n 0, 1) := by decide +kernel
theorem dX1_isBlockedBy_22 : decode cX1_isBlockedBy 22 = .ok (.bipush 8, 2) := by decide +kernel
theorem dX1_isBlockedBy_24 : decode cX1_isBlockedBy 24 = .ok (.idiv, 1) := by decide +kernel
theorem dX1_isBlockedBy_25 : decode cX1_isBlockedBy 25 = .ok (.iload_n 1, 1) := by decide +kernel
theorem dX1_isBlockedBy_26 : decode cX1_isBlockedBy 26 = .ok (.bipush 8, 2) := by decide +kernel
theorem dX1_isBlockedBy_28 : decode cX1_isBlockedBy 28 = .ok (.idiv, 1) := by decide +kernel
theorem dX1_isBlockedBy_29 : decode cX1_isBlockedBy 29 = .ok (.isub, 1) := by decide +kernel
theorem dX1_isBlockedBy_30 : decode cX1_isBlockedBy 30 = .ok (.istore 5, 2) := by decide +kernel
theorem dX1_isBlockedBy_32 : decode cX1_isBlockedBy 32 = .ok (.iload_n 0, 1) := by decide +kernel
theorem dX1_isBlockedBy_33 : decode cX1_isBlockedBy 33 = .ok (.bipush 8, 2) := by decide +kernel
theorem dX1_isBlockedBy_35 : decode cX1_isBlockedBy 35 = .ok (.irem, 1) := by decide +kernel
theorem dX1_isBlockedBy_36 : decode cX1_isBlockedBy 36 = .ok (.iload_n 1, 1) := by decide +kernel
theorem dX1_isBlockedBy_37 : decode cX1_isBlockedBy 37 = .ok (.bipush 8, 2) := by decide +kernel
theorem dX1_isBlockedBy_39 : decode cX1_isBlockedBy 39 = .ok (.irem, 1) := by decide +kernel
theorem dX1_isBlockedBy_40 : decode cX1_isBlockedBy 40 = .ok (.isub, 1) := by decide +kernel
theorem dX1_isBlockedBy_41 : decode cX1_isBlockedBy 41 = .ok (.istore 6, 2) := by decide +kernel
theorem dX1_isBlockedBy_43 : decode cX1_isBlockedBy 43 = .ok (.iload_n 3, 1) := by decide +kernel
theorem dX1_isBlockedBy_44 : decode cX1_isBlockedBy 44 = .ok (.iload_n 3, 1) := by decide +kernel
theorem dX1_isBlockedBy_45 : decode cX1_isBlockedBy 45 = .ok (.imul, 1) := by decide +kernel
theorem dX1_isBlockedBy_46 : decode cX1_isBlockedBy 46 = .ok (.iload 4, 2) := by decide +kernel
theorem dX1_isBlockedBy_48 : decode cX1_isBlockedBy 48 = .ok (.iload 4, 2) := by decide +kernel
theorem dX1_isBlockedBy_50 : decode cX1_isBlockedBy 50 = .ok (.imul, 1) := by decide +kernel
theorem dX1_isBlockedBy_51 : decode cX1_isBlockedBy 51 = .ok (.iadd, 1) := by decide +kernel
theorem dX1_isBlockedBy_52 : decode cX1_isBlockedBy 52 = .ok (.istore 7, 2) := by decide +kernel
theorem dX1_isBlockedBy_54 : decode cX1_isBlockedBy 54 = .ok (.iload_n 3, 1) := by decide +kernel
theorem dX1_isBlockedBy_55 : decode cX1_isBlockedBy 55 = .ok (.iload 5, 2) := by decide +kernel
theorem dX1_isBlockedBy_57 : decode cX1_isBlockedBy 57 = .ok (.imul, 1) := by decide +kernel
theorem dX1_isBlockedBy_58 : decode cX1_isBlockedBy 58 = .ok (.iload 4, 2) := by decide +kernel
theorem dX1_isBlockedBy_60 : decode cX1_isBlockedBy 60 = .ok (.iload 6, 2) := by decide +kernel
theorem dX1_isBlockedBy_62 : decode cX1_isBlockedBy 62 = .ok (.imul, 1) := by decide +kernel
theorem dX1_isBlockedBy_63 : decode cX1_isBlockedBy 63 = .ok (.iadd, 1) := by decide +kernel
theorem dX1_isBlockedBy_64 : decode cX1_isBlockedBy 64 = .ok (.istore 8, 2) := by decide +kernel
theorem dX1_isBlockedBy_66 : decode cX1_isBlockedBy 66 = .ok (.iload 8, 2) := by decide +kernel
theorem dX1_isBlockedBy_68 : decode cX1_isBlockedBy 68 = .ok (.ifCond .le 10, 3) := by decide +kernel
theorem dX1_isBlockedBy_71 : decode cX1_isBlockedBy 71 = .ok (.iload 8, 2) := by decide +kernel
theorem dX1_isBlockedBy_73 : decode cX1_isBlockedBy 73 = .ok (.iload 7, 2) := by decide +kernel
theorem dX1_isBlockedBy_75 : decode cX1_isBlockedBy 75 = .ok (.if_icmp .lt 5, 3) := by decide +kernel
theorem dX1_isBlockedBy_78 : decode cX1_isBlockedBy 78 = .ok (.iconst 0, 1) := by decide +kernel
theorem dX1_isBlockedBy_79 : decode cX1_isBlockedBy 79 = .ok (.ireturn, 1) := by decide +kernel
theorem dX1_isBlockedBy_80 : decode cX1_isBlockedBy 80 = .ok (.iload_n 3, 1) := by decide +kernel
theorem dX1_isBlockedBy_81 : decode cX1_isBlockedBy 81 = .ok (.iload 6, 2) := by decide +kernel
theorem dX1_isBlockedBy_83 : decode cX1_isBlockedBy 83 = .ok (.imul, 1) := by decide +kernel
theorem dX1_isBlockedBy_84 : decode cX1_isBlockedBy 84 = .ok (.iload 4, 2) := by decide +kernel
theorem dX1_isBlockedBy_86 : decode cX1_isBlockedBy 86 = .ok (.iload 5, 2) := by decide +kernel
theorem dX1_isBlockedBy_88 : decode cX1_isBlockedBy 88 = .ok (.imul, 1) := by decide +kernel
theorem dX1_isBlockedBy_89 : decode cX1_isBlockedBy 89 = .ok (.isub, 1) := by decide +kernel
theorem dX1_isBlockedBy_90 : decode cX1_isBlockedBy 90 = .ok (.istore 9, 2) := by decide +kernel
theorem dX1_isBlockedBy_92 : decode cX1_isBlockedBy 92 = .ok (.iconst 4, 1) := by decide +kernel
theorem dX1_isBlockedBy_93 : decode cX1_isBlockedBy 93 = .ok (.iload 9, 2) := by decide +kernel
theorem dX1_isBlockedBy_95 : decode cX1_isBlockedBy 95 = .ok (.imul, 1) := by decide +kernel
theorem dX1_isBlockedBy_96 : decode cX1_isBlockedBy 96 = .ok (.iload 9, 2) := by decide +kernel
theorem dX1_isBlockedBy_98 : decode cX1_isBlockedBy 98 = .ok (.imul, 1) := by decide +kernel
theorem dX1_isBlockedBy_99 : decode cX1_isBlockedBy 99 = .ok (.iload 7, 2) := by decide +kernel
theorem dX1_isBlockedBy_101 : decode cX1_isBlockedBy 101 = .ok (.if_icmp .ge 7, 3) := by decide +kernel
theorem dX1_isBlockedBy_104 : decode cX1_isBlockedBy 104 = .ok (.iconst 1, 1) := by decide +kernel
theorem dX1_isBlockedBy_105 : decode cX1_isBlockedBy 105 = .ok (.goto 4, 3) := by decide +kernel
theorem dX1_isBlockedBy_108 : decode cX1_isBlockedBy 108 = .ok (.iconst 0, 1) := by decide +kernel
theorem dX1_isBlockedBy_109 : decode cX1_isBlockedBy 109 = .ok (.ireturn, 1) := by decide +kernel
theorem dX1_mayRead_0 : decode cX1_mayRead 0 = .ok (.aload_n 0, 1) := by decide +kernel
theorem dX1_mayRead_1 : decode cX1_mayRead 1 = .ok (.iload_n 1, 1) := by decide +kernel
theorem dX1_mayRead_2 : decode cX1_mayRead 2 = .ok (.iload_n 2, 1) := by decide +kernel
theorem dX1_mayRead_3 : decode cX1_mayRead 3 = .ok (.invokevirtual 65, 3) := by decide +kernel
theorem dX1_mayRead_6 : decode cX1_mayRead 6 = .ok (.aload_n 0, 1) := by decide +kernel
theorem dX1_mayRead_7 : decode cX1_mayRead 7 = .ok (.getfield 24, 3) := by decide +kernel
theorem dX1_mayRead_10 : decode cX1_mayRead 10 = .ok (.iconst 0, 1) := by decide +kernel
theorem dX1_mayRead_11 : decode cX1_mayRead 11 = .ok (.iaload, 1) := by decide +kernel
theorem dX1_mayRead_12 : decode cX1_mayRead 12 = .ok (.if_icmp .gt 16, 3) := by decide +kernel
theorem dX1_mayRead_15 : decode cX1_mayRead 15 = .ok (.aload_n 0, 1) := by decide +kernel
theorem dX1_mayRead_16 : decode cX1_mayRead 16 = .ok (.iload_n 1, 1) := by decide +kernel
theorem dX1_mayRead_17 : decode cX1_mayRead 17 = .ok (.iload_n 2, 1) := by decide +kernel
theorem dX1_mayRead_18 : decode cX1_mayRead 18 = .ok (.invokevirtual 69, 3) := by decide +kernel
theorem dX1_mayRead_21 : decode cX1_mayRead 21 = .ok (.ifCond .eq 7, 3) := by decide +kernel
theorem dX1_mayRead_24 : decode cX1_mayRead 24 = .ok (.iconst 1, 1) := by decide +kernel
theorem dX1_mayRead_25 : decode cX1_mayRead 25 = .ok (.goto 4, 3) := by decide +kernel
theorem dX1_mayRead_28 : decode cX1_mayRead 28 = .ok (.iconst 0, 1) := by decide +kernel
theorem dX1_mayRead_29 : decode cX1_mayRead 29 = .ok (.ireturn, 1) := by decide +kernel
theorem dX1_faceEachOther_0 : decode cX1_faceEachOther 0 = .ok (.aload_n 0, 1) := by decide +kernel
theorem dX1_faceEachOther_1 : decode cX1_faceEachOther 1 = .ok (.getfield 11, 3) := by decide +kernel
theorem dX1_faceEachOther_4 : decode cX1_faceEachOther 4 = .ok (.iload_n 1, 1) := by decide +kernel
theorem dX1_faceEachOther_5 : decode cX1_faceEachOther 5 = .ok (.iaload, 1) := by decide +kernel
theorem dX1_faceEachOther_6 : decode cX1_faceEachOther 6 = .ok (.aload_n 0, 1) := by decide +kernel
theorem dX1_faceEachOther_7 : decode cX1_faceEachOther 7 = .ok (.getfield 11, 3) := by decide +kernel
theorem dX1_faceEachOther_10 : decode cX1_faceEachOther 10 = .ok (.iload_n 3, 1) := by decide +kernel
theorem dX1_faceEachOther_11 : decode cX1_faceEachOther 11 = .ok (.iaload, 1) := by decide +kernel
theorem dX1_faceEachOther_12 : decode cX1_faceEachOther 12 = .ok (.iload_n 2, 1) := by decide +kernel
theorem dX1_faceEachOther_13 : decode cX1_faceEachOther 13 = .ok (.invokestatic 58, 3) := by decide +kernel
theorem dX1_faceEachOther_16 : decode cX1_faceEachOther 16 = .ok (.ifCond .le 27, 3) := by decide +kernel
theorem dX1_faceEachOther_19 : decode cX1_faceEachOther 19 = .ok (.aload_n 0, 1) := by decide +kernel
theorem dX1_faceEachOther_20 : decode cX1_faceEachOther 20 = .ok (.getfield 11, 3) := by decide +kernel
theorem dX1_faceEachOther_23 : decode cX1_faceEachOther 23 = .ok (.iload_n 3, 1) := by decide +kernel
theorem dX1_faceEachOther_24 : decode cX1_faceEachOther 24 = .ok (.iaload, 1) := by decide +kernel
theorem dX1_faceEachOther_25 : decode cX1_faceEachOther 25 = .ok (.aload_n 0, 1) := by decide +kernel
theorem dX1_faceEachOther_26 : decode cX1_faceEachOther 26 = .ok (.getfield 11, 3) := by decide +kernel
theorem dX1_faceEachOther_29 : decode cX1_faceEachOther 29 = .ok (.iload_n 1, 1) := by decide +kernel
theorem dX1_faceEachOther_30 : decode cX1_faceEachOther 30 = .ok (.iaload, 1) := by decide +kernel
theorem dX1_faceEachOther_31 : decode cX1_faceEachOther 31 = .ok (.iload 4, 2) := by decide +kernel
theorem dX1_faceEachOther_33 : decode cX1_faceEachOther 33 = .ok (.invokestatic 58, 3) := by decide +kernel
theorem dX1_faceEachOther_36 : decode cX1_faceEachOther 36 = .ok (.ifCond .le 7, 3) := by decide +kernel
theorem dX1_faceEachOther_39 : decode cX1_faceEachOther 39 = .ok (.iconst 1, 1) := by decide +kernel
theorem dX1_faceEachOther_40 : decode cX1_faceEachOther 40 = .ok (.goto 4, 3) := by decide +kernel
theorem dX1_faceEachOther_43 : decode cX1_faceEachOther 43 = .ok (.iconst 0, 1) := by decide +kernel
theorem dX1_faceEachOther_44 : decode cX1_faceEachOther 44 = .ok (.ireturn, 1) := by decide +kernel
theorem dX1_watches_0 : decode cX1_watches 0 = .ok (.aload_n 0, 1) := by decide +kernel
theorem dX1_watches_1 : decode cX1_watches 1 = .ok (.getfield 11, 3) := by decide +kernel
theorem dX1_watches_4 : decode cX1_watches 4 = .ok (.iload_n 1, 1) := by decide +kernel
theorem dX1_watches_5 : decode cX1_watches 5 = .ok (.iaload, 1) := by decide +kernel
theorem dX1_watches_6 : decode cX1_watches 6 = .ok (.aload_n 0, 1) := by decide +kernel
theorem dX1_watches_7 : decode cX1_watches 7 = .ok (.getfield 11, 3) := by decide +kernel
theorem dX1_watches_10 : decode cX1_watches 10 = .ok (.iload_n 2, 1) := by decide +kernel
theorem dX1_watches_11 : decode cX1_watches 11 = .ok (.iaload, 1) := by decide +kernel
theorem dX1_watches_12 : decode cX1_watches 12 = .ok (.aload_n 0, 1) := by decide +kernel
theorem dX1_watches_13 : decode cX1_watches 13 = .ok (.getfield 15, 3) := by decide +kernel
theorem dX1_watches_16 : decode cX1_watches 16 = .ok (.iload_n 1, 1) := by decide +kernel
theorem dX1_watches_17 : decode cX1_watches 17 = .ok (.iaload, 1) := by decide +kernel
theorem dX1_watches_18 : decode cX1_watches 18 = .ok (.invokestatic 58, 3) := by decide +kernel
theorem dX1_watches_21 : decode cX1_watches 21 = .ok (.ifCond .le 55, 3) := by decide +kernel
theorem dX1_watches_24 : decode cX1_watches 24 = .ok (.aload_n 0, 1) := by decide +kernel
theorem dX1_watches_25 : decode cX1_watches 25 = .ok (.getfield 11, 3) := by decide +kernel
theorem dX1_watches_28 : decode cX1_watches 28 = .ok (.iload_n 2, 1) := by decide +kernel
theorem dX1_watches_29 : decode cX1_watches 29 = .ok (.iaload, 1) := by decide +kernel
theorem dX1_watches_30 : decode cX1_watches 30 = .ok (.aload_n 0, 1) := by decide +kernel
theorem dX1_watches_31 : decode cX1_watches 31 = .ok (.getfield 11, 3) := by decide +kernel
theorem dX1_watches_34 : decode cX1_watches 34 = .ok (.iload_n 1, 1) := by decide +kernel
theorem dX1_watches_35 : decode cX1_watches 35 = .ok (.iaload, 1) := by decide +kernel
theorem dX1_watches_36 : decode cX1_watches 36 = .ok (.aload_n 0, 1) := by decide +kernel
theorem dX1_watches_37 : decode cX1_watches 37 = .ok (.getfield 15, 3) := by decide +kernel
theorem dX1_watches_40 : decode cX1_watches 40 = .ok (.iload_n 2, 1) := by decide +kernel
theorem dX1_watches_41 : decode cX1_watches 41 = .ok (.iaload, 1) := by decide +kernel
theorem dX1_watches_42 : decode cX1_watches 42 = .ok (.invokestatic 58, 3) := by decide +kernel
theorem dX1_watches_45 : decode cX1_watches 45 = .ok (.ifCond .lt 31, 3) := by decide +kernel
theorem dX1_watches_48 : decode cX1_watches 48 = .ok (.aload_n 0, 1) := by decide +kernel
theorem dX1_watches_49 : decode cX1_watches 49 = .ok (.iload_n 1, 1) := by decide +kernel
theorem dX1_watches_50 : decode cX1_watches 50 = .ok (.iload_n 2, 1) := by decide +kernel
theorem dX1_watches_51 : decode cX1_watches 51 = .ok (.invokevirtual 65, 3) := by decide +kernel
theorem dX1_watches_54 : decode cX1_watches 54 = .ok (.aload_n 0, 1) := by decide +kernel
theorem dX1_watches_55 : decode cX1_watches 55 = .ok (.getfield 24, 3) := by decide +kernel
theorem dX1_watches_58 : decode cX1_watches 58 = .ok (.iconst 1, 1) := by decide +kernel
theorem dX1_watches_59 : decode cX1_watches 59 = .ok (.iaload, 1) := by decide +kernel
theorem dX1_watches_60 : decode cX1_watches 60 = .ok (.if_icmp .gt 16, 3) := by decide +kernel
theorem dX1_watches_63 : decode cX1_watches 63 = .ok (.aload_n 0, 1) := by decide +kernel
theorem dX1_watches_64 : decode cX1_watches 64 = .ok (.iload_n 1, 1) := by decide +kernel
theorem dX1_watches_65 : decode cX1_watches 65 = .ok (.iload_n 2, 1) := by decide +kernel
theorem dX1_watches_66 : decode cX1_watches 66 = .ok (.invokevirtual 69, 3) := by decide +kernel
theorem dX1_watches_69 : decode cX1_watches 69 = .ok (.ifCond .eq 7, 3) := by decide +kernel
theorem dX1_watches_72 : decode cX1_watches 72 = .ok (.iconst 1, 1) := by decide +kernel
theorem dX1_watches_73 : decode cX1_watches 73 = .ok (.goto 4, 3) := by decide +kernel
theorem dX1_watches_76 : decode cX1_watches 76 = .ok (.iconst 0, 1) := by decide +kernel
theorem dX1_watches_77 : decode cX1_watches 77 = .ok (.ireturn, 1) := by decide +kernel
theorem dX1_perceives_0 : decode cX1_perceives 0 = .ok (.iload_n 3, 1) := by decide +kernel
theorem dX1_perceives_1 : decode cX1_perceives 1 = .ok (.ifCond .ne 39, 3) := by decide +kernel
theorem dX1_perceives_4 : decode cX1_perceives 4 = .ok (.aload_n 0, 1) := by decide +kernel
theorem dX1_perceives_5 : decode cX1_perceives 5 = .ok (.iload_n 1, 1) := by decide +kernel
theorem dX1_perceives_6 : decode cX1_perceives 6 = .ok (.aload_n 0, 1) := by decide +kernel
theorem dX1_perceives_7 : decode cX1_perceives 7 = .ok (.getfield 15, 3) := by decide +kernel
theorem dX1_perceives_10 : decode cX1_perceives 10 = .ok (.iload_n 1, 1) := by decide +kernel
theorem dX1_perceives_11 : decode cX1_perceives 11 = .ok (.iaload, 1) := by decide +kernel
theorem dX1_perceives_12 : decode cX1_perceives 12 = .ok (.iload_n 2, 1) := by decide +kernel
theorem dX1_perceives_13 : decode cX1_perceives 13 = .ok (.aload_n 0, 1) := by decide +kernel
theorem dX1_perceives_14 : decode cX1_perceives 14 = .ok (.getfield 15, 3) := by decide +kernel
theorem dX1_perceives_17 : decode cX1_perceives 17 = .ok (.iload_n 2, 1) := by decide +kernel
theorem dX1_perceives_18 : decode cX1_perceives 18 = .ok (.iaload, 1) := by decide +kernel
theorem dX1_perceives_19 : decode cX1_perceives 19 = .ok (.invokevirtual 73, 3) := by decide +kernel
theorem dX1_perceives_22 : decode cX1_perceives 22 = .ok (.ifCond .eq 16, 3) := by decide +kernel
theorem dX1_perceives_25 : decode cX1_perceives 25 = .ok (.aload_n 0, 1) := by decide +kernel
theorem dX1_perceives_26 : decode cX1_perceives 26 = .ok (.iload_n 1, 1) := by decide +kernel
theorem dX1_perceives_27 : decode cX1_perceives 27 = .ok (.iload_n 2, 1) := by decide +kernel
theorem dX1_perceives_28 : decode cX1_perceives 28 = .ok (.invokevirtual 77, 3) := by decide +kernel
theorem dX1_perceives_31 : decode cX1_perceives 31 = .ok (.ifCond .eq 7, 3) := by decide +kernel
theorem dX1_perceives_34 : decode cX1_perceives 34 = .ok (.iconst 1, 1) := by decide +kernel
theorem dX1_perceives_35 : decode cX1_perceives 35 = .ok (.goto 4, 3) := by decide +kernel
theorem dX1_perceives_38 : decode cX1_perceives 38 = .ok (.iconst 0, 1) := by decide +kernel
theorem dX1_perceives_39 : decode cX1_perceives 39 = .ok (.ireturn, 1) := by decide +kernel
theorem dX1_perceives_40 : decode cX1_perceives 40 = .ok (.aload_n 0, 1) := by decide +kernel
theorem dX1_perceives_41 : decode cX1_perceives 41 = .ok (.iload_n 1, 1) := by decide +kernel
theorem dX1_perceives_42 : decode cX1_perceives 42 = .ok (.iload_n 2, 1) := by decide +kernel
theorem dX1_perceives_43 : decode cX1_perceives 43 = .ok (.invokevirtual 80, 3) := by decide +kernel
theorem dX1_perceives_46 : decode cX1_perceives 46 = .ok (.ireturn, 1) := by decide +kernel
theorem dX1_perceiversOf_0 : decode cX1_perceiversOf 0 = .ok (.aload_n 0, 1) := by decide +kernel
theorem dX1_perceiversOf_1 : decode cX1_perceiversOf 1 = .ok (.iload_n 1, 1) := by decide +kernel
theorem dX1_perceiversOf_2 : decode cX1_perceiversOf 2 = .ok (.invokevirtual 48, 3) := by decide +kernel
theorem dX1_perceiversOf_5 : decode cX1_perceiversOf 5 = .ok (.ifCond .ne 5, 3) := by decide +kernel
theorem dX1_perceiversOf_8 : decode cX1_perceiversOf 8 = .ok (.iconst 0, 1) := by decide +kernel
theorem dX1_perceiversOf_9 : decode cX1_perceiversOf 9 = .ok (.ireturn, 1) := by decide +kernel
theorem dX1_perceiversOf_10 : decode cX1_perceiversOf 10 = .ok (.iconst 0, 1) := by decide +kernel
theorem dX1_perceiversOf_11 : decode cX1_perceiversOf 11 = .ok (.istore_n 3, 1) := by decide +kernel
theorem dX1_perceiversOf_12 : decode cX1_perceiversOf 12 = .ok (.iconst 0, 1) := by decide +kernel
theorem dX1_perceiversOf_13 : decode cX1_perceiversOf 13 = .ok (.istore 4, 2) := by decide +kernel
theorem dX1_perceiversOf_15 : decode cX1_perceiversOf 15 = .ok (.iload 4, 2) := by decide +kernel
theorem dX1_perceiversOf_17 : decode cX1_perceiversOf 17 = .ok (.aload_n 0, 1) := by decide +kernel
theorem dX1_perceiversOf_18 : decode cX1_perceiversOf 18 = .ok (.getfield 34, 3) := by decide +kernel
theorem dX1_perceiversOf_21 : decode cX1_perceiversOf 21 = .ok (.if_icmp .ge 33, 3) := by decide +kernel
theorem dX1_perceiversOf_24 : decode cX1_perceiversOf 24 = .ok (.iload 4, 2) := by decide +kernel
theorem dX1_perceiversOf_26 : decode cX1_perceiversOf 26 = .ok (.iload_n 1, 1) := by decide +kernel
theorem dX1_perceiversOf_27 : decode cX1_perceiversOf 27 = .ok (.if_icmp .eq 21, 3) := by decide +kernel
theorem dX1_perceiversOf_30 : decode cX1_perceiversOf 30 = .ok (.aload_n 0, 1) := by decide +kernel
theorem dX1_perceiversOf_31 : decode cX1_perceiversOf 31 = .ok (.iload 4, 2) := by decide +kernel
theorem dX1_perceiversOf_33 : decode cX1_perceiversOf 33 = .ok (.iload_n 1, 1) := by decide +kernel
theorem dX1_perceiversOf_34 : decode cX1_perceiversOf 34 = .ok (.iload_n 2, 1) := by decide +kernel
theorem dX1_perceiversOf_35 : decode cX1_perceiversOf 35 = .ok (.invokevirtual 83, 3) := by decide +kernel
theorem dX1_perceiversOf_38 : decode cX1_perceiversOf 38 = .ok (.ifCond .eq 10, 3) := by decide +kernel
theorem dX1_perceiversOf_41 : decode cX1_perceiversOf 41 = .ok (.iload_n 3, 1) := by decide +kernel
theorem dX1_perceiversOf_42 : decode cX1_perceiversOf 42 = .ok (.iconst 1, 1) := by decide +kernel
theorem dX1_perceiversOf_43 : decode cX1_perceiversOf 43 = .ok (.iload 4, 2) := by decide +kernel
theorem dX1_perceiversOf_45 : decode cX1_perceiversOf 45 = .ok (.ishl, 1) := by decide +kernel
theorem dX1_perceiversOf_46 : decode cX1_perceiversOf 46 = .ok (.ior, 1) := by decide +kernel
theorem dX1_perceiversOf_47 : decode cX1_perceiversOf 47 = .ok (.istore_n 3, 1) := by decide +kernel
theorem dX1_perceiversOf_48 : decode cX1_perceiversOf 48 = .ok (.iinc 4 1, 3) := by decide +kernel
theorem dX1_perceiversOf_51 : decode cX1_perceiversOf 51 = .ok (.goto (-36), 3) := by decide +kernel
theorem dX1_perceiversOf_54 : decode cX1_perceiversOf 54 = .ok (.iload_n 3, 1) := by decide +kernel
theorem dX1_perceiversOf_55 : decode cX1_perceiversOf 55 = .ok (.ireturn, 1) := by decide +kernel
theorem dX1_seenBy_0 : decode cX1_seenBy 0 = .ok (.aload_n 0, 1) := by decide +kernel
theorem dX1_seenBy_1 : decode cX1_seenBy 1 = .ok (.iload_n 1, 1) := by decide +kernel
theorem dX1_seenBy_2 : decode cX1_seenBy 2 = .ok (.invokevirtual 48, 3) := by decide +kernel
theorem dX1_seenBy_5 : decode cX1_seenBy 5 = .ok (.ifCond .ne 5, 3) := by decide +kernel
theorem dX1_seenBy_8 : decode cX1_seenBy 8 = .ok (.iconst 0, 1) := by decide +kernel
theorem dX1_seenBy_9 : decode cX1_seenBy 9 = .ok (.ireturn, 1) := by decide +kernel
theorem dX1_seenBy_10 : decode cX1_seenBy 10 = .ok (.iconst 0, 1) := by decide +kernel
theorem dX1_seenBy_11 : decode cX1_seenBy 11 = .ok (.istore_n 2, 1) := by decide +kernel
theorem dX1_seenBy_12 : decode cX1_seenBy 12 = .ok (.iconst 0, 1) := by decide +kernel
theorem dX1_seenBy_13 : decode cX1_seenBy 13 = .ok (.istore_n 3, 1) := by decide +kernel
theorem dX1_seenBy_14 : decode cX1_seenBy 14 = .ok (.iload_n 3, 1) := by decide +kernel
theorem dX1_seenBy_15 : decode cX1_seenBy 15 = .ok (.aload_n 0, 1) := by decide +kernel
theorem dX1_seenBy_16 : decode cX1_seenBy 16 = .ok (.getfield 34, 3) := by decide +kernel
theorem dX1_seenBy_19 : decode cX1_seenBy 19 = .ok (.if_icmp .ge 40, 3) := by decide +kernel
theorem dX1_seenBy_22 : decode cX1_seenBy 22 = .ok (.iload_n 1, 1) := by decide +kernel
theorem dX1_seenBy_23 : decode cX1_seenBy 23 = .ok (.iload_n 3, 1) := by decide +kernel
theorem dX1_seenBy_24 : decode cX1_seenBy 24 = .ok (.if_icmp .eq 29, 3) := by decide +kernel
theorem dX1_seenBy_27 : decode cX1_seenBy 27 = .ok (.aload_n 0, 1) := by decide +kernel
theorem dX1_seenBy_28 : decode cX1_seenBy 28 = .ok (.iload_n 1, 1) := by decide +kernel
theorem dX1_seenBy_29 : decode cX1_seenBy 29 = .ok (.iload_n 3, 1) := by decide +kernel
theorem dX1_seenBy_30 : decode cX1_seenBy 30 = .ok (.iconst 0, 1) := by decide +kernel
theorem dX1_seenBy_31 : decode cX1_seenBy 31 = .ok (.invokevirtual 83, 3) := by decide +kernel
theorem dX1_seenBy_34 : decode cX1_seenBy 34 = .ok (.ifCond .ne 13, 3) := by decide +kernel
theorem dX1_seenBy_37 : decode cX1_seenBy 37 = .ok (.aload_n 0, 1) := by decide +kernel
theorem dX1_seenBy_38 : decode cX1_seenBy 38 = .ok (.iload_n 1, 1) := by decide +kernel
theorem dX1_seenBy_39 : decode cX1_seenBy 39 = .ok (.iload_n 3, 1) := by decide +kernel
theorem dX1_seenBy_40 : decode cX1_seenBy 40 = .ok (.iconst 1, 1) := by decide +kernel
theorem dX1_seenBy_41 : decode cX1_seenBy 41 = .ok (.invokevirtual 83, 3) := by decide +kernel
theorem dX1_seenBy_44 : decode cX1_seenBy 44 = .ok (.ifCond .eq 9, 3) := by decide +kernel
theorem dX1_seenBy_47 : decode cX1_seenBy 47 = .ok (.iload_n 2, 1) := by decide +kernel
theorem dX1_seenBy_48 : decode cX1_seenBy 48 = .ok (.iconst 1, 1) := by decide +kernel
theorem dX1_seenBy_49 : decode cX1_seenBy 49 = .ok (.iload_n 3, 1) := by decide +kernel
theorem dX1_seenBy_50 : decode cX1_seenBy 50 = .ok (.ishl, 1) := by decide +kernel
theorem dX1_seenBy_51 : decode cX1_seenBy 51 = .ok (.ior, 1) := by decide +kernel
theorem dX1_seenBy_52 : decode cX1_seenBy 52 = .ok (.istore_n 2, 1) := by decide +kernel
theorem dX1_seenBy_53 : decode cX1_seenBy 53 = .ok (.iinc 3 1, 3) := by decide +kernel
theorem dX1_seenBy_56 : decode cX1_seenBy 56 = .ok (.goto (-42), 3) := by decide +kernel
theorem dX1_seenBy_59 : decode cX1_seenBy 59 = .ok (.iload_n 2, 1) := by decide +kernel
theorem dX1_seenBy_60 : decode cX1_seenBy 60 = .ok (.ireturn, 1) := by decide +kernel
theorem dX1_tellersIn_0 : decode cX1_tellersIn 0 = .ok (.iconst 0, 1) := by decide +kernel
theorem dX1_tellersIn_1 : decode cX1_tellersIn 1 = .ok (.istore_n 2, 1) := by decide +kernel
theorem dX1_tellersIn_2 : decode cX1_tellersIn 2 = .ok (.iconst 0, 1) := by decide +kernel
theorem dX1_tellersIn_3 : decode cX1_tellersIn 3 = .ok (.istore_n 3, 1) := by decide +kernel
theorem dX1_tellersIn_4 : decode cX1_tellersIn 4 = .ok (.iload_n 3, 1) := by decide +kernel
theorem dX1_tellersIn_5 : decode cX1_tellersIn 5 = .ok (.aload_n 0, 1) := by decide +kernel
theorem dX1_tellersIn_6 : decode cX1_tellersIn 6 = .ok (.getfield 34, 3) := by decide +kernel
theorem dX1_tellersIn_9 : decode cX1_tellersIn 9 = .ok (.if_icmp .ge 27, 3) := by decide +kernel
theorem dX1_tellersIn_12 : decode cX1_tellersIn 12 = .ok (.iload_n 2, 1) := by decide +kernel
theorem dX1_tellersIn_13 : decode cX1_tellersIn 13 = .ok (.aload_n 0, 1) := by decide +kernel
theorem dX1_tellersIn_14 : decode cX1_tellersIn 14 = .ok (.getfield 18, 3) := by decide +kernel
theorem dX1_tellersIn_17 : decode cX1_tellersIn 17 = .ok (.iload_n 3, 1) := by decide +kernel
theorem dX1_tellersIn_18 : decode cX1_tellersIn 18 = .ok (.iaload, 1) := by decide +kernel
theorem dX1_tellersIn_19 : decode cX1_tellersIn 19 = .ok (.iload_n 1, 1) := by decide +kernel
theorem dX1_tellersIn_20 : decode cX1_tellersIn 20 = .ok (.bipush 12, 2) := by decide +kernel
theorem dX1_tellersIn_22 : decode cX1_tellersIn 22 = .ok (.irem, 1) := by decide +kernel
theorem dX1_tellersIn_23 : decode cX1_tellersIn 23 = .ok (.iushr, 1) := by decide +kernel
theorem dX1_tellersIn_24 : decode cX1_tellersIn 24 = .ok (.iconst 1, 1) := by decide +kernel
theorem dX1_tellersIn_25 : decode cX1_tellersIn 25 = .ok (.iand, 1) := by decide +kernel
theorem dX1_tellersIn_26 : decode cX1_tellersIn 26 = .ok (.iload_n 3, 1) := by decide +kernel
theorem dX1_tellersIn_27 : decode cX1_tellersIn 27 = .ok (.ishl, 1) := by decide +kernel
theorem dX1_tellersIn_28 : decode cX1_tellersIn 28 = .ok (.ior, 1) := by decide +kernel
theorem dX1_tellersIn_29 : decode cX1_tellersIn 29 = .ok (.istore_n 2, 1) := by decide +kernel
theorem dX1_tellersIn_30 : decode cX1_tellersIn 30 = .ok (.iinc 3 1, 3) := by decide +kernel
theorem dX1_tellersIn_33 : decode cX1_tellersIn 33 = .ok (.goto (-29), 3) := by decide +kernel
theorem dX1_tellersIn_36 : decode cX1_tellersIn 36 = .ok (.iload_n 2, 1) := by decide +kernel
theorem dX1_tellersIn_37 : decode cX1_tellersIn 37 = .ok (.ireturn, 1) := by decide +kernel
theorem dX1_lookersIn_0 : decode cX1_lookersIn 0 = .ok (.iconst 0, 1) := by decide +kernel
theorem dX1_lookersIn_1 : decode cX1_lookersIn 1 = .ok (.istore_n 2, 1) := by decide +kernel
theorem dX1_lookersIn_2 : decode cX1_lookersIn 2 = .ok (.iconst 0, 1) := by decide +kernel
theorem dX1_lookersIn_3 : decode cX1_lookersIn 3 = .ok (.istore_n 3, 1) := by decide +kernel
theorem dX1_lookersIn_4 : decode cX1_lookersIn 4 = .ok (.iload_n 3, 1) := by decide +kernel
theorem dX1_lookersIn_5 : decode cX1_lookersIn 5 = .ok (.aload_n 0, 1) := by decide +kernel
theorem dX1_lookersIn_6 : decode cX1_lookersIn 6 = .ok (.getfield 34, 3) := by decide +kernel
theorem dX1_lookersIn_9 : decode cX1_lookersIn 9 = .ok (.if_icmp .ge 27, 3) := by decide +kernel
theorem dX1_lookersIn_12 : decode cX1_lookersIn 12 = .ok (.iload_n 2, 1) := by decide +kernel
theorem dX1_lookersIn_13 : decode cX1_lookersIn 13 = .ok (.aload_n 0, 1) := by decide +kernel
theorem dX1_lookersIn_14 : decode cX1_lookersIn 14 = .ok (.getfield 21, 3) := by decide +kernel
theorem dX1_lookersIn_17 : decode cX1_lookersIn 17 = .ok (.iload_n 3, 1) := by decide +kernel
theorem dX1_lookersIn_18 : decode cX1_lookersIn 18 = .ok (.iaload, 1) := by decide +kernel
theorem dX1_lookersIn_19 : decode cX1_lookersIn 19 = .ok (.iload_n 1, 1) := by decide +kernel
theorem dX1_lookersIn_20 : decode cX1_lookersIn 20 = .ok (.bipush 12, 2) := by decide +kernel
theorem dX1_lookersIn_22 : decode cX1_lookersIn 22 = .ok (.irem, 1) := by decide +kernel
theorem dX1_lookersIn_23 : decode cX1_lookersIn 23 = .ok (.iushr, 1) := by decide +kernel
theorem dX1_lookersIn_24 : decode cX1_lookersIn 24 = .ok (.iconst 1, 1) := by decide +kernel
theorem dX1_lookersIn_25 : decode cX1_lookersIn 25 = .ok (.iand, 1) := by decide +kernel
theorem dX1_lookersIn_26 : decode cX1_lookersIn 26 = .ok (.iload_n 3, 1) := by decide +kernel
theorem dX1_lookersIn_27 : decode cX1_lookersIn 27 = .ok (.ishl, 1) := by decide +kernel
theorem dX1_lookersIn_28 : decode cX1_lookersIn 28 = .ok (.ior, 1) := by decide +kernel
theorem dX1_lookersIn_29 : decode cX1_lookersIn 29 = .ok (.istore_n 2, 1) := by decide +kernel
theorem dX1_lookersIn_30 : decode cX1_lookersIn 30 = .ok (.iinc 3 1, 3) := by decide +kernel
theorem dX1_lookersIn_33 : decode cX1_lookersIn 33 = .ok (.goto (-29), 3) := by decide +kernel
theorem dX1_lookersIn_36 : decode cX1_lookersIn 36 = .ok (.iload_n 2, 1) := by decide +kernel
theorem dX1_lookersIn_37 : decode cX1_lookersIn 37 = .ok (.ireturn, 1) := by decide +kernel
theorem dX1_digestOnto_0 : decode cX1_digestOnto 0 = .ok (.lload_n 1, 1) := by decide +kernel
theorem dX1_digestOnto_1 : decode cX1_digestOnto 1 = .ok (.lstore_n 3, 1) := by decide +kernel
theorem dX1_digestOnto_2 : decode cX1_digestOnto 2 = .ok (.iconst 0, 1) := by decide +kernel
theorem dX1_digestOnto_3 : decode cX1_digestOnto 3 = .ok (.istore 5, 2) := by decide +kernel
theorem dX1_digestOnto_5 : decode cX1_digestOnto 5 = .ok (.iload 5, 2) := by decide +kernel
theorem dX1_digestOnto_7 : decode cX1_digestOnto 7 = .ok (.bipush 64, 2) := by decide +kernel
theorem dX1_digestOnto_9 : decode cX1_digestOnto 9 = .ok (.if_icmp .ge 23, 3) := by decide +kernel
theorem dX1_digestOnto_12 : decode cX1_digestOnto 12 = .ok (.lload_n 3, 1) := by decide +kernel
theorem dX1_digestOnto_13 : decode cX1_digestOnto 13 = .ok (.aload_n 0, 1) := by decide +kernel
theorem dX1_digestOnto_14 : decode cX1_digestOnto 14 = .ok (.iload 5, 2) := by decide +kernel
theorem dX1_digestOnto_16 : decode cX1_digestOnto 16 = .ok (.invokevirtual 55, 3) := by decide +kernel
theorem dX1_digestOnto_19 : decode cX1_digestOnto 19 = .ok (.invokestatic 86, 3) := by decide +kernel
theorem dX1_digestOnto_22 : decode cX1_digestOnto 22 = .ok (.invokestatic 90, 3) := by decide +kernel
theorem dX1_digestOnto_25 : decode cX1_digestOnto 25 = .ok (.lstore_n 3, 1) := by decide +kernel
theorem dX1_digestOnto_26 : decode cX1_digestOnto 26 = .ok (.iinc 5 1, 3) := by decide +kernel
theorem dX1_digestOnto_29 : decode cX1_digestOnto 29 = .ok (.goto (-24), 3) := by decide +kernel
theorem dX1_digestOnto_32 : decode cX1_digestOnto 32 = .ok (.iconst 0, 1) := by decide +kernel
theorem dX1_digestOnto_33 : decode cX1_digestOnto 33 = .ok (.istore 5, 2) := by decide +kernel
theorem dX1_digestOnto_35 : decode cX1_digestOnto 35 = .ok (.iload 5, 2) := by decide +kernel
theorem dX1_digestOnto_37 : decode cX1_digestOnto 37 = .ok (.aload_n 0, 1) := by decide +kernel
theorem dX1_digestOnto_38 : decode cX1_digestOnto 38 = .ok (.getfield 34, 3) := by decide +kernel
theorem dX1_digestOnto_41 : decode cX1_digestOnto 41 = .ok (.if_icmp .ge 53, 3) := by decide +kernel
theorem dX1_digestOnto_44 : decode cX1_digestOnto 44 = .ok (.lload_n 3, 1) := by decide +kernel
theorem dX1_digestOnto_45 : decode cX1_digestOnto 45 = .ok (.aload_n 0, 1) := by decide +kernel
theorem dX1_digestOnto_46 : decode cX1_digestOnto 46 = .ok (.getfield 11, 3) := by decide +kernel
theorem dX1_digestOnto_49 : decode cX1_digestOnto 49 = .ok (.iload 5, 2) := by decide +kernel
theorem dX1_digestOnto_51 : decode cX1_digestOnto 51 = .ok (.iaload, 1) := by decide +kernel
theorem dX1_digestOnto_52 : decode cX1_digestOnto 52 = .ok (.invokestatic 90, 3) := by decide +kernel
theorem dX1_digestOnto_55 : decode cX1_digestOnto 55 = .ok (.aload_n 0, 1) := by decide +kernel
theorem dX1_digestOnto_56 : decode cX1_digestOnto 56 = .ok (.getfield 15, 3) := by decide +kernel
theorem dX1_digestOnto_59 : decode cX1_digestOnto 59 = .ok (.iload 5, 2) := by decide +kernel
theorem dX1_digestOnto_61 : decode cX1_digestOnto 61 = .ok (.iaload, 1) := by decide +kernel
theorem dX1_digestOnto_62 : decode cX1_digestOnto 62 = .ok (.invokestatic 90, 3) := by decide +kernel
theorem dX1_digestOnto_65 : decode cX1_digestOnto 65 = .ok (.lstore_n 3, 1) := by decide +kernel
theorem dX1_digestOnto_66 : decode cX1_digestOnto 66 = .ok (.lload_n 3, 1) := by decide +kernel
theorem dX1_digestOnto_67 : decode cX1_digestOnto 67 = .ok (.aload_n 0, 1) := by decide +kernel
theorem dX1_digestOnto_68 : decode cX1_digestOnto 68 = .ok (.getfield 18, 3) := by decide +kernel
theorem dX1_digestOnto_71 : decode cX1_digestOnto 71 = .ok (.iload 5, 2) := by decide +kernel
theorem dX1_digestOnto_73 : decode cX1_digestOnto 73 = .ok (.iaload, 1) := by decide +kernel
theorem dX1_digestOnto_74 : decode cX1_digestOnto 74 = .ok (.invokestatic 90, 3) := by decide +kernel
theorem dX1_digestOnto_77 : decode cX1_digestOnto 77 = .ok (.aload_n 0, 1) := by decide +kernel
theorem dX1_digestOnto_78 : decode cX1_digestOnto 78 = .ok (.getfield 21, 3) := by decide +kernel
theorem dX1_digestOnto_81 : decode cX1_digestOnto 81 = .ok (.iload 5, 2) := by decide +kernel
theorem dX1_digestOnto_83 : decode cX1_digestOnto 83 = .ok (.iaload, 1) := by decide +kernel
theorem dX1_digestOnto_84 : decode cX1_digestOnto 84 = .ok (.invokestatic 90, 3) := by decide +kernel
theorem dX1_digestOnto_87 : decode cX1_digestOnto 87 = .ok (.lstore_n 3, 1) := by decide +kernel
theorem dX1_digestOnto_88 : decode cX1_digestOnto 88 = .ok (.iinc 5 1, 3) := by decide +kernel
theorem dX1_digestOnto_91 : decode cX1_digestOnto 91 = .ok (.goto (-56), 3) := by decide +kernel
theorem dX1_digestOnto_94 : decode cX1_digestOnto 94 = .ok (.lload_n 3, 1) := by decide +kernel
theorem dX1_digestOnto_95 : decode cX1_digestOnto 95 = .ok (.aload_n 0, 1) := by decide +kernel
theorem dX1_digestOnto_96 : decode cX1_digestOnto 96 = .ok (.getfield 24, 3) := by decide +kernel
theorem dX1_digestOnto_99 : decode cX1_digestOnto 99 = .ok (.iconst 0, 1) := by decide +kernel
theorem dX1_digestOnto_100 : decode cX1_digestOnto 100 = .ok (.iaload, 1) := by decide +kernel
theorem dX1_digestOnto_101 : decode cX1_digestOnto 101 = .ok (.invokestatic 90, 3) := by decide +kernel
theorem dX1_digestOnto_104 : decode cX1_digestOnto 104 = .ok (.aload_n 0, 1) := by decide +kernel
theorem dX1_digestOnto_105 : decode cX1_digestOnto 105 = .ok (.getfield 24, 3) := by decide +kernel
theorem dX1_digestOnto_108 : decode cX1_digestOnto 108 = .ok (.iconst 1, 1) := by decide +kernel
theorem dX1_digestOnto_109 : decode cX1_digestOnto 109 = .ok (.iaload, 1) := by decide +kernel
theorem dX1_digestOnto_110 : decode cX1_digestOnto 110 = .ok (.invokestatic 90, 3) := by decide +kernel
theorem dX1_digestOnto_113 : decode cX1_digestOnto 113 = .ok (.lreturn, 1) := by decide +kernel
theorem dX2_init_0 : decode cX2_init 0 = .ok (.aload_n 0, 1) := by decide +kernel
theorem dX2_init_1 : decode cX2_init 1 = .ok (.invokespecial 1, 3) := by decide +kernel
theorem dX2_init_4 : decode cX2_init 4 = .ok (.aload_n 0, 1) := by decide +kernel
theorem dX2_init_5 : decode cX2_init 5 = .ok (.new 7, 3) := by decide +kernel
theorem dX2_init_8 : decode cX2_init 8 = .ok (.dup, 1) := by decide +kernel
theorem dX2_init_9 : decode cX2_init 9 = .ok (.invokespecial 9, 3) := by decide +kernel
theorem dX2_init_12 : decode cX2_init 12 = .ok (.putfield 10, 3) := by decide +kernel
theorem dX2_init_15 : decode cX2_init 15 = .ok (.aload_n 0, 1) := by decide +kernel
theorem dX2_init_16 : decode cX2_init 16 = .ok (.new 7, 3) := by decide +kernel
theorem dX2_init_19 : decode cX2_init 19 = .ok (.dup, 1) := by decide +kernel
theorem dX2_init_20 : decode cX2_init 20 = .ok (.invokespecial 9, 3) := by decide +kernel
theorem dX2_init_23 : decode cX2_init 23 = .ok (.putfield 16, 3) := by decide +kernel
theorem dX2_init_26 : decode cX2_init 26 = .ok (.aload_n 0, 1) := by decide +kernel
theorem dX2_init_27 : decode cX2_init 27 = .ok (.getfield 16, 3) := by decide +kernel
theorem dX2_init_30 : decode cX2_init 30 = .ok (.iconst 1, 1) := by decide +kernel
theorem dX2_init_31 : decode cX2_init 31 = .ok (.invokevirtual 19, 3) := by decide +kernel
theorem dX2_init_34 : decode cX2_init 34 = .ok (.return_, 1) := by decide +kernel
theorem dX2_signNumber_0 : decode cX2_signNumber 0 = .ok (.aload_n 0, 1) := by decide +kernel
theorem dX2_signNumber_1 : decode cX2_signNumber 1 = .ok (.getfield 10, 3) := by decide +kernel
theorem dX2_signNumber_4 : decode cX2_signNumber 4 = .ok (.getfield 23, 3) := by decide +kernel
theorem dX2_signNumber_7 : decode cX2_signNumber 7 = .ok (.ifCond .ne 7, 3) := by decide +kernel
theorem dX2_signNumber_10 : decode cX2_signNumber 10 = .ok (.iconst 0, 1) := by decide +kernel
theorem dX2_signNumber_11 : decode cX2_signNumber 11 = .ok (.goto 4, 3) := by decide +kernel
theorem dX2_signNumber_14 : decode cX2_signNumber 14 = .ok (.iconst 1, 1) := by decide +kernel
theorem dX2_signNumber_15 : decode cX2_signNumber 15 = .ok (.ireturn, 1) := by decide +kernel
theorem dX2_put_0 : decode cX2_put 0 = .ok (.aload_n 0, 1) := by decide +kernel
theorem dX2_put_1 : decode cX2_put 1 = .ok (.getfield 10, 3) := by decide +kernel
theorem dX2_put_4 : decode cX2_put 4 = .ok (.iload_n 1, 1) := by decide +kernel
theorem dX2_put_5 : decode cX2_put 5 = .ok (.invokevirtual 19, 3) := by decide +kernel
theorem dX2_put_8 : decode cX2_put 8 = .ok (.aload_n 0, 1) := by decide +kernel
theorem dX2_put_9 : decode cX2_put 9 = .ok (.getfield 16, 3) := by decide +kernel
theorem dX2_put_12 : decode cX2_put 12 = .ok (.iload_n 2, 1) := by decide +kernel
theorem dX2_put_13 : decode cX2_put 13 = .ok (.invokevirtual 19, 3) := by decide +kernel
theorem dX2_put_16 : decode cX2_put 16 = .ok (.aload_n 0, 1) := by decide +kernel
theorem dX2_put_17 : decode cX2_put 17 = .ok (.invokevirtual 27, 3) := by decide +kernel
theorem dX2_put_20 : decode cX2_put 20 = .ok (.return_, 1) := by decide +kernel
theorem dX2_put__0 : decode cX2_put_ 0 = .ok (.aload_n 0, 1) := by decide +kernel
theorem dX2_put__1 : decode cX2_put_ 1 = .ok (.getfield 10, 3) := by decide +kernel
theorem dX2_put__4 : decode cX2_put_ 4 = .ok (.aload_n 1, 1) := by decide +kernel
theorem dX2_put__5 : decode cX2_put_ 5 = .ok (.invokevirtual 30, 3) := by decide +kernel
theorem dX2_put__8 : decode cX2_put_ 8 = .ok (.aload_n 0, 1) := by decide +kernel
theorem dX2_put__9 : decode cX2_put_ 9 = .ok (.getfield 16, 3) := by decide +kernel
theorem dX2_put__12 : decode cX2_put_ 12 = .ok (.aload_n 2, 1) := by decide +kernel
theorem dX2_put__13 : decode cX2_put_ 13 = .ok (.invokevirtual 30, 3) := by decide +kernel
theorem dX2_put__16 : decode cX2_put_ 16 = .ok (.aload_n 0, 1) := by decide +kernel
theorem dX2_put__17 : decode cX2_put_ 17 = .ok (.invokevirtual 27, 3) := by decide +kernel
theorem dX2_put__20 : decode cX2_put_ 20 = .ok (.return_, 1) := by decide +kernel
theorem dX2_toLowestTerms_0 : decode cX2_toLowestTerms 0 = .ok (.aload_n 0, 1) := by decide +kernel
theorem dX2_toLowestTerms_1 : decode cX2_toLowestTerms 1 = .ok (.getfield 10, 3) := by decide +kernel
theorem dX2_toLowestTerms_4 : decode cX2_toLowestTerms 4 = .ok (.getfield 23, 3) := by decide +kernel
theorem dX2_toLowestTerms_7 : decode cX2_toLowestTerms 7 = .ok (.ifCond .ne 12, 3) := by decide +kernel
theorem dX2_toLowestTerms_10 : decode cX2_toLowestTerms 10 = .ok (.aload_n 0, 1) := by decide +kernel
theorem dX2_toLowestTerms_11 : decode cX2_toLowestTerms 11 = .ok (.getfield 16, 3) := by decide +kernel
theorem dX2_toLowestTerms_14 : decode cX2_toLowestTerms 14 = .ok (.iconst 1, 1) := by decide +kernel
theorem dX2_toLowestTerms_15 : decode cX2_toLowestTerms 15 = .ok (.invokevirtual 19, 3) := by decide +kernel
theorem dX2_toLowestTerms_18 : decode cX2_toLowestTerms 18 = .ok (.return_, 1) := by decide +kernel
theorem dX2_toLowestTerms_19 : decode cX2_toLowestTerms 19 = .ok (.iconst 2, 1) := by decide +kernel
theorem dX2_toLowestTerms_20 : decode cX2_toLowestTerms 20 = .ok (.istore_n 1, 1) := by decide +kernel
theorem dX2_toLowestTerms_21 : decode cX2_toLowestTerms 21 = .ok (.iload_n 1, 1) := by decide +kernel
theorem dX2_toLowestTerms_22 : decode cX2_toLowestTerms 22 = .ok (.sipush 180, 3) := by decide +kernel
theorem dX2_toLowestTerms_25 : decode cX2_toLowestTerms 25 = .ok (.if_icmp .gt 48, 3) := by decide +kernel
theorem dX2_toLowestTerms_28 : decode cX2_toLowestTerms 28 = .ok (.iconst 0, 1) := by decide +kernel
theorem dX2_toLowestTerms_29 : decode cX2_toLowestTerms 29 = .ok (.istore_n 2, 1) := by decide +kernel
theorem dX2_toLowestTerms_30 : decode cX2_toLowestTerms 30 = .ok (.iload_n 2, 1) := by decide +kernel
theorem dX2_toLowestTerms_31 : decode cX2_toLowestTerms 31 = .ok (.sipush 1200, 3) := by decide +kernel
theorem dX2_toLowestTerms_34 : decode cX2_toLowestTerms 34 = .ok (.if_icmp .ge 33, 3) := by decide +kernel
theorem dX2_toLowestTerms_37 : decode cX2_toLowestTerms 37 = .ok (.aload_n 0, 1) := by decide +kernel
theorem dX2_toLowestTerms_38 : decode cX2_toLowestTerms 38 = .ok (.iload_n 1, 1) := by decide +kernel
theorem dX2_toLowestTerms_39 : decode cX2_toLowestTerms 39 = .ok (.invokevirtual 34, 3) := by decide +kernel
theorem dX2_toLowestTerms_42 : decode cX2_toLowestTerms 42 = .ok (.ifCond .eq 25, 3) := by decide +kernel
theorem dX2_toLowestTerms_45 : decode cX2_toLowestTerms 45 = .ok (.aload_n 0, 1) := by decide +kernel
theorem dX2_toLowestTerms_46 : decode cX2_toLowestTerms 46 = .ok (.getfield 10, 3) := by decide +kernel
theorem dX2_toLowestTerms_49 : decode cX2_toLowestTerms 49 = .ok (.iload_n 1, 1) := by decide +kernel
theorem dX2_toLowestTerms_50 : decode cX2_toLowestTerms 50 = .ok (.invokevirtual 38, 3) := by decide +kernel
theorem dX2_toLowestTerms_53 : decode cX2_toLowestTerms 53 = .ok (.aload_n 0, 1) := by decide +kernel
theorem dX2_toLowestTerms_54 : decode cX2_toLowestTerms 54 = .ok (.getfield 16, 3) := by decide +kernel
theorem dX2_toLowestTerms_57 : decode cX2_toLowestTerms 57 = .ok (.iload_n 1, 1) := by decide +kernel
theorem dX2_toLowestTerms_58 : decode cX2_toLowestTerms 58 = .ok (.invokevirtual 38, 3) := by decide +kernel
theorem dX2_toLowestTerms_61 : decode cX2_toLowestTerms 61 = .ok (.iinc 2 1, 3) := by decide +kernel
theorem dX2_toLowestTerms_64 : decode cX2_toLowestTerms 64 = .ok (.goto (-34), 3) := by decide +kernel
theorem dX2_toLowestTerms_67 : decode cX2_toLowestTerms 67 = .ok (.iinc 1 1, 3) := by decide +kernel
theorem dX2_toLowestTerms_70 : decode cX2_toLowestTerms 70 = .ok (.goto (-49), 3) := by decide +kernel
theorem dX2_toLowestTerms_73 : decode cX2_toLowestTerms 73 = .ok (.return_, 1) := by decide +kernel
theorem dX2_isDividedBy_0 : decode cX2_isDividedBy 0 = .ok (.aload_n 0, 1) := by decide +kernel
theorem dX2_isDividedBy_1 : decode cX2_isDividedBy 1 = .ok (.getfield 16, 3) := by decide +kernel
theorem dX2_isDividedBy_4 : decode cX2_isDividedBy 4 = .ok (.iload_n 1, 1) := by decide +kernel
theorem dX2_isDividedBy_5 : decode cX2_isDividedBy 5 = .ok (.invokevirtual 41, 3) := by decide +kernel
theorem dX2_isDividedBy_8 : decode cX2_isDividedBy 8 = .ok (.ifCond .ne 18, 3) := by decide +kernel
theorem dX2_isDividedBy_11 : decode cX2_isDividedBy 11 = .ok (.aload_n 0, 1) := by decide +kernel
theorem dX2_isDividedBy_12 : decode cX2_isDividedBy 12 = .ok (.getfield 10, 3) := by decide +kernel
theorem dX2_isDividedBy_15 : decode cX2_isDividedBy 15 = .ok (.iload_n 1, 1) := by decide +kernel
theorem dX2_isDividedBy_16 : decode cX2_isDividedBy 16 = .ok (.invokevirtual 41, 3) := by decide +kernel
theorem dX2_isDividedBy_19 : decode cX2_isDividedBy 19 = .ok (.ifCond .ne 7, 3) := by decide +kernel
theorem dX2_isDividedBy_22 : decode cX2_isDividedBy 22 = .ok (.iconst 1, 1) := by decide +kernel
theorem dX2_isDividedBy_23 : decode cX2_isDividedBy 23 = .ok (.goto 4, 3) := by decide +kernel
theorem dX2_isDividedBy_26 : decode cX2_isDividedBy 26 = .ok (.iconst 0, 1) := by decide +kernel
theorem dX2_isDividedBy_27 : decode cX2_isDividedBy 27 = .ok (.ireturn, 1) := by decide +kernel
theorem dX2_digestOnto_0 : decode cX2_digestOnto 0 = .ok (.lload_n 1, 1) := by decide +kernel
theorem dX2_digestOnto_1 : decode cX2_digestOnto 1 = .ok (.aload_n 0, 1) := by decide +kernel
theorem dX2_digestOnto_2 : decode cX2_digestOnto 2 = .ok (.invokevirtual 45, 3) := by decide +kernel
theorem dX2_digestOnto_5 : decode cX2_digestOnto 5 = .ok (.invokestatic 49, 3) := by decide +kernel
theorem dX2_digestOnto_8 : decode cX2_digestOnto 8 = .ok (.aload_n 0, 1) := by decide +kernel
theorem dX2_digestOnto_9 : decode cX2_digestOnto 9 = .ok (.getfield 10, 3) := by decide +kernel
theorem dX2_digestOnto_12 : decode cX2_digestOnto 12 = .ok (.getfield 23, 3) := by decide +kernel
theorem dX2_digestOnto_15 : decode cX2_digestOnto 15 = .ok (.invokestatic 49, 3) := by decide +kernel
theorem dX2_digestOnto_18 : decode cX2_digestOnto 18 = .ok (.aload_n 0, 1) := by decide +kernel
theorem dX2_digestOnto_19 : decode cX2_digestOnto 19 = .ok (.getfield 16, 3) := by decide +kernel
theorem dX2_digestOnto_22 : decode cX2_digestOnto 22 = .ok (.getfield 23, 3) := by decide +kernel
theorem dX2_digestOnto_25 : decode cX2_digestOnto 25 = .ok (.invokestatic 49, 3) := by decide +kernel
theorem dX2_digestOnto_28 : decode cX2_digestOnto 28 = .ok (.lstore_n 3, 1) := by decide +kernel
theorem dX2_digestOnto_29 : decode cX2_digestOnto 29 = .ok (.aload_n 0, 1) := by decide +kernel
theorem dX2_digestOnto_30 : decode cX2_digestOnto 30 = .ok (.getfield 16, 3) := by decide +kernel
theorem dX2_digestOnto_33 : decode cX2_digestOnto 33 = .ok (.aload_n 0, 1) := by decide +kernel
theorem dX2_digestOnto_34 : decode cX2_digestOnto 34 = .ok (.getfield 10, 3) := by decide +kernel
theorem dX2_digestOnto_37 : decode cX2_digestOnto 37 = .ok (.lload_n 3, 1) := by decide +kernel
theorem dX2_digestOnto_38 : decode cX2_digestOnto 38 = .ok (.invokevirtual 55, 3) := by decide +kernel
theorem dX2_digestOnto_41 : decode cX2_digestOnto 41 = .ok (.invokevirtual 55, 3) := by decide +kernel
theorem dX2_digestOnto_44 : decode cX2_digestOnto 44 = .ok (.lreturn, 1) := by decide +kernel
theorem dX3_init_0 : decode cX3_init 0 = .ok (.aload_n 0, 1) := by decide +kernel
theorem dX3_init_1 : decode cX3_init 1 = .ok (.invokespecial 3, 3) := by decide +kernel
theorem dX3_init_4 : decode cX3_init 4 = .ok (.aload_n 0, 1) := by decide +kernel
theorem dX3_init_5 : decode cX3_init 5 = .ok (.bipush 10, 2) := by decide +kernel
theorem dX3_init_7 : decode cX3_init 7 = .ok (.newarray .int, 2) := by decide +kernel
theorem dX3_init_9 : decode cX3_init 9 = .ok (.putfield 11, 3) := by decide +kernel
theorem dX3_init_12 : decode cX3_init 12 = .ok (.aload_n 0, 1) := by decide +kernel
theorem dX3_init_13 : decode cX3_init 13 = .ok (.bipush 10, 2) := by decide +kernel
theorem dX3_init_15 : decode cX3_init 15 = .ok (.newarray .int, 2) := by decide +kernel
theorem dX3_init_17 : decode cX3_init 17 = .ok (.putfield 15, 3) := by decide +kernel
theorem dX3_init_20 : decode cX3_init 20 = .ok (.aload_n 0, 1) := by decide +kernel
theorem dX3_init_21 : decode cX3_init 21 = .ok (.bipush 10, 2) := by decide +kernel
theorem dX3_init_23 : decode cX3_init 23 = .ok (.newarray .int, 2) := by decide +kernel
theorem dX3_init_25 : decode cX3_init 25 = .ok (.putfield 18, 3) := by decide +kernel
theorem dX3_init_28 : decode cX3_init 28 = .ok (.aload_n 0, 1) := by decide +kernel
theorem dX3_init_29 : decode cX3_init 29 = .ok (.bipush 6, 2) := by decide +kernel
theorem dX3_init_31 : decode cX3_init 31 = .ok (.newarray .int, 2) := by decide +kernel
theorem dX3_init_33 : decode cX3_init 33 = .ok (.putfield 21, 3) := by decide +kernel
theorem dX3_init_36 : decode cX3_init 36 = .ok (.aload_n 0, 1) := by decide +kernel
theorem dX3_init_37 : decode cX3_init 37 = .ok (.bipush 24, 2) := by decide +kernel
theorem dX3_init_39 : decode cX3_init 39 = .ok (.newarray .int, 2) := by decide +kernel
theorem dX3_init_41 : decode cX3_init 41 = .ok (.putfield 24, 3) := by decide +kernel
theorem dX3_init_44 : decode cX3_init 44 = .ok (.aload_n 0, 1) := by decide +kernel
theorem dX3_init_45 : decode cX3_init 45 = .ok (.bipush 60, 2) := by decide +kernel
theorem dX3_init_47 : decode cX3_init 47 = .ok (.newarray .int, 2) := by decide +kernel
theorem dX3_init_49 : decode cX3_init 49 = .ok (.putfield 27, 3) := by decide +kernel
theorem dX3_init_52 : decode cX3_init 52 = .ok (.aload_n 0, 1) := by decide +kernel
theorem dX3_init_53 : decode cX3_init 53 = .ok (.bipush 10, 2) := by decide +kernel
theorem dX3_init_55 : decode cX3_init 55 = .ok (.newarray .int, 2) := by decide +kernel
theorem dX3_init_57 : decode cX3_init 57 = .ok (.putfield 30, 3) := by decide +kernel
theorem dX3_init_60 : decode cX3_init 60 = .ok (.aload_n 0, 1) := by decide +kernel
theorem dX3_init_61 : decode cX3_init 61 = .ok (.invokevirtual 33, 3) := by decide +kernel
theorem dX3_init_64 : decode cX3_init 64 = .ok (.return_, 1) := by decide +kernel
theorem dX3_makeEmpty_0 : decode cX3_makeEmpty 0 = .ok (.aload_n 0, 1) := by decide +kernel
theorem dX3_makeEmpty_1 : decode cX3_makeEmpty 1 = .ok (.iconst 0, 1) := by decide +kernel
theorem dX3_makeEmpty_2 : decode cX3_makeEmpty 2 = .ok (.putfield 36, 3) := by decide +kernel
theorem dX3_makeEmpty_5 : decode cX3_makeEmpty 5 = .ok (.aload_n 0, 1) := by decide +kernel
theorem dX3_makeEmpty_6 : decode cX3_makeEmpty 6 = .ok (.iconst 0, 1) := by decide +kernel
theorem dX3_makeEmpty_7 : decode cX3_makeEmpty 7 = .ok (.putfield 40, 3) := by decide +kernel
theorem dX3_makeEmpty_10 : decode cX3_makeEmpty 10 = .ok (.aload_n 0, 1) := by decide +kernel
theorem dX3_makeEmpty_11 : decode cX3_makeEmpty 11 = .ok (.iconst 0, 1) := by decide +kernel
theorem dX3_makeEmpty_12 : decode cX3_makeEmpty 12 = .ok (.putfield 43, 3) := by decide +kernel
theorem dX3_makeEmpty_15 : decode cX3_makeEmpty 15 = .ok (.iconst 0, 1) := by decide +kernel
theorem dX3_makeEmpty_16 : decode cX3_makeEmpty 16 = .ok (.istore_n 1, 1) := by decide +kernel
theorem dX3_makeEmpty_17 : decode cX3_makeEmpty 17 = .ok (.iload_n 1, 1) := by decide +kernel
theorem dX3_makeEmpty_18 : decode cX3_makeEmpty 18 = .ok (.bipush 6, 2) := by decide +kernel
theorem dX3_makeEmpty_20 : decode cX3_makeEmpty 20 = .ok (.if_icmp .ge 16, 3) := by decide +kernel
theorem dX3_makeEmpty_23 : decode cX3_makeEmpty 23 = .ok (.aload_n 0, 1) := by decide +kernel
theorem dX3_makeEmpty_24 : decode cX3_makeEmpty 24 = .ok (.getfield 21, 3) := by decide +kernel
theorem dX3_makeEmpty_27 : decode cX3_makeEmpty 27 = .ok (.iload_n 1, 1) := by decide +kernel
theorem dX3_makeEmpty_28 : decode cX3_makeEmpty 28 = .ok (.iload_n 1, 1) := by decide +kernel
theorem dX3_makeEmpty_29 : decode cX3_makeEmpty 29 = .ok (.iastore, 1) := by decide +kernel
theorem dX3_makeEmpty_30 : decode cX3_makeEmpty 30 = .ok (.iinc 1 1, 3) := by decide +kernel
theorem dX3_makeEmpty_33 : decode cX3_makeEmpty 33 = .ok (.goto (-16), 3) := by decide +kernel
theorem dX3_makeEmpty_36 : decode cX3_makeEmpty 36 = .ok (.return_, 1) := by decide +kernel
theorem dX3_copyFrom_0 : decode cX3_copyFrom 0 = .ok (.aload_n 0, 1) := by decide +kernel
theorem dX3_copyFrom_1 : decode cX3_copyFrom 1 = .ok (.aload_n 1, 1) := by decide +kernel
theorem dX3_copyFrom_2 : decode cX3_copyFrom 2 = .ok (.getfield 36, 3) := by decide +kernel
theorem dX3_copyFrom_5 : decode cX3_copyFrom 5 = .ok (.putfield 36, 3) := by decide +kernel
theorem dX3_copyFrom_8 : decode cX3_copyFrom 8 = .ok (.aload_n 0, 1) := by decide +kernel
theorem dX3_copyFrom_9 : decode cX3_copyFrom 9 = .ok (.aload_n 1, 1) := by decide +kernel
theorem dX3_copyFrom_10 : decode cX3_copyFrom 10 = .ok (.getfield 40, 3) := by decide +kernel
theorem dX3_copyFrom_13 : decode cX3_copyFrom 13 = .ok (.putfield 40, 3) := by decide +kernel
theorem dX3_copyFrom_16 : decode cX3_copyFrom 16 = .ok (.aload_n 0, 1) := by decide +kernel
theorem dX3_copyFrom_17 : decode cX3_copyFrom 17 = .ok (.aload_n 1, 1) := by decide +kernel
theorem dX3_copyFrom_18 : decode cX3_copyFrom 18 = .ok (.getfield 43, 3) := by decide +kernel
theorem dX3_copyFrom_21 : decode cX3_copyFrom 21 = .ok (.putfield 43, 3) := by decide +kernel
theorem dX3_copyFrom_24 : decode cX3_copyFrom 24 = .ok (.aload_n 1, 1) := by decide +kernel
theorem dX3_copyFrom_25 : decode cX3_copyFrom 25 = .ok (.getfield 11, 3) := by decide +kernel
theorem dX3_copyFrom_28 : decode cX3_copyFrom 28 = .ok (.iconst 0, 1) := by decide +kernel
theorem dX3_copyFrom_29 : decode cX3_copyFrom 29 = .ok (.aload_n 0, 1) := by decide +kernel
theorem dX3_copyFrom_30 : decode cX3_copyFrom 30 = .ok (.getfield 11, 3) := by decide +kernel
theorem dX3_copyFrom_33 : decode cX3_copyFrom 33 = .ok (.iconst 0, 1) := by decide +kernel
theorem dX3_copyFrom_34 : decode cX3_copyFrom 34 = .ok (.bipush 10, 2) := by decide +kernel
theorem dX3_copyFrom_36 : decode cX3_copyFrom 36 = .ok (.invokestatic 46, 3) := by decide +kernel
theorem dX3_copyFrom_39 : decode cX3_copyFrom 39 = .ok (.aload_n 1, 1) := by decide +kernel
theorem dX3_copyFrom_40 : decode cX3_copyFrom 40 = .ok (.getfield 15, 3) := by decide +kernel
theorem dX3_copyFrom_43 : decode cX3_copyFrom 43 = .ok (.iconst 0, 1) := by decide +kernel
theorem dX3_copyFrom_44 : decode cX3_copyFrom 44 = .ok (.aload_n 0, 1) := by decide +kernel
theorem dX3_copyFrom_45 : decode cX3_copyFrom 45 = .ok (.getfield 15, 3) := by decide +kernel
theorem dX3_copyFrom_48 : decode cX3_copyFrom 48 = .ok (.iconst 0, 1) := by decide +kernel
theorem dX3_copyFrom_49 : decode cX3_copyFrom 49 = .ok (.bipush 10, 2) := by decide +kernel
theorem dX3_copyFrom_51 : decode cX3_copyFrom 51 = .ok (.invokestatic 46, 3) := by decide +kernel
theorem dX3_copyFrom_54 : decode cX3_copyFrom 54 = .ok (.aload_n 1, 1) := by decide +kernel
theorem dX3_copyFrom_55 : decode cX3_copyFrom 55 = .ok (.getfield 18, 3) := by decide +kernel
theorem dX3_copyFrom_58 : decode cX3_copyFrom 58 = .ok (.iconst 0, 1) := by decide +kernel
theorem dX3_copyFrom_59 : decode cX3_copyFrom 59 = .ok (.aload_n 0, 1) := by decide +kernel
theorem dX3_copyFrom_60 : decode cX3_copyFrom 60 = .ok (.getfield 18, 3) := by decide +kernel
theorem dX3_copyFrom_63 : decode cX3_copyFrom 63 = .ok (.iconst 0, 1) := by decide +kernel
theorem dX3_copyFrom_64 : decode cX3_copyFrom 64 = .ok (.bipush 10, 2) := by decide +kernel
theorem dX3_copyFrom_66 : decode cX3_copyFrom 66 = .ok (.invokestatic 46, 3) := by decide +kernel
theorem dX3_copyFrom_69 : decode cX3_copyFrom 69 = .ok (.aload_n 1, 1) := by decide +kernel
theorem dX3_copyFrom_70 : decode cX3_copyFrom 70 = .ok (.getfield 21, 3) := by decide +kernel
theorem dX3_copyFrom_73 : decode cX3_copyFrom 73 = .ok (.iconst 0, 1) := by decide +kernel
theorem dX3_copyFrom_74 : decode cX3_copyFrom 74 = .ok (.aload_n 0, 1) := by decide +kernel
theorem dX3_copyFrom_75 : decode cX3_copyFrom 75 = .ok (.getfield 21, 3) := by decide +kernel
theorem dX3_copyFrom_78 : decode cX3_copyFrom 78 = .ok (.iconst 0, 1) := by decide +kernel
theorem dX3_copyFrom_79 : decode cX3_copyFrom 79 = .ok (.bipush 6, 2) := by decide +kernel
theorem dX3_copyFrom_81 : decode cX3_copyFrom 81 = .ok (.invokestatic 46, 3) := by decide +kernel
theorem dX3_copyFrom_84 : decode cX3_copyFrom 84 = .ok (.aload_n 1, 1) := by decide +kernel
theorem dX3_copyFrom_85 : decode cX3_copyFrom 85 = .ok (.getfield 24, 3) := by decide +kernel
theorem dX3_copyFrom_88 : decode cX3_copyFrom 88 = .ok (.iconst 0, 1) := by decide +kernel
theorem dX3_copyFrom_89 : decode cX3_copyFrom 89 = .ok (.aload_n 0, 1) := by decide +kernel
theorem dX3_copyFrom_90 : decode cX3_copyFrom 90 = .ok (.getfield 24, 3) := by decide +kernel
theorem dX3_copyFrom_93 : decode cX3_copyFrom 93 = .ok (.iconst 0, 1) := by decide +kernel
theorem dX3_copyFrom_94 : decode cX3_copyFrom 94 = .ok (.bipush 24, 2) := by decide +kernel
theorem dX3_copyFrom_96 : decode cX3_copyFrom 96 = .ok (.invokestatic 46, 3) := by decide +kernel
theorem dX3_copyFrom_99 : decode cX3_copyFrom 99 = .ok (.aload_n 1, 1) := by decide +kernel
theorem dX3_copyFrom_100 : decode cX3_copyFrom 100 = .ok (.getfield 27, 3) := by decide +kernel
theorem dX3_copyFrom_103 : decode cX3_copyFrom 103 = .ok (.iconst 0, 1) := by decide +kernel
theorem dX3_copyFrom_104 : decode cX3_copyFrom 104 = .ok (.aload_n 0, 1) := by decide +kernel
theorem dX3_copyFrom_105 : decode cX3_copyFrom 105 = .ok (.getfield 27, 3) := by decide +kernel
theorem dX3_copyFrom_108 : decode cX3_copyFrom 108 = .ok (.iconst 0, 1) := by decide +kernel
theorem dX3_copyFrom_109 : decode cX3_copyFrom 109 = .ok (.bipush 60, 2) := by decide +kernel
theorem dX3_copyFrom_111 : decode cX3_copyFrom 111 = .ok (.invokestatic 46, 3) := by decide +kernel
theorem dX3_copyFrom_114 : decode cX3_copyFrom 114 = .ok (.return_, 1) := by decide +kernel
theorem dX3_isWord_0 : decode cX3_isWord 0 = .ok (.iload_n 1, 1) := by decide +kernel
theorem dX3_isWord_1 : decode cX3_isWord 1 = .ok (.iconst 0, 1) := by decide +kernel
theorem dX3_isWord_2 : decode cX3_isWord 2 = .ok (.aload_n 0, 1) := by decide +kernel
theorem dX3_isWord_3 : decode cX3_isWord 3 = .ok (.getfield 36, 3) := by decide +kernel
theorem dX3_isWord_6 : decode cX3_isWord 6 = .ok (.iconst 1, 1) := by decide +kernel
theorem dX3_isWord_7 : decode cX3_isWord 7 = .ok (.isub, 1) := by decide +kernel
theorem dX3_isWord_8 : decode cX3_isWord 8 = .ok (.invokestatic 52, 3) := by decide +kernel
theorem dX3_isWord_11 : decode cX3_isWord 11 = .ok (.ireturn, 1) := by decide +kernel
theorem dX3_allWords_0 : decode cX3_allWords 0 = .ok (.iconst 1, 1) := by decide +kernel
theorem dX3_allWords_1 : decode cX3_allWords 1 = .ok (.aload_n 0, 1) := by decide +kernel
theorem dX3_allWords_2 : decode cX3_allWords 2 = .ok (.getfield 36, 3) := by decide +kernel
theorem dX3_allWords_5 : decode cX3_allWords 5 = .ok (.ishl, 1) := by decide +kernel
theorem dX3_allWords_6 : decode cX3_allWords 6 = .ok (.iconst 1, 1) := by decide +kernel
theorem dX3_allWords_7 : decode cX3_allWords 7 = .ok (.isub, 1) := by decide +kernel
theorem dX3_allWords_8 : decode cX3_allWords 8 = .ok (.ireturn, 1) := by decide +kernel
theorem dX3_areWords_0 : decode cX3_areWords 0 = .ok (.iload_n 1, 1) := by decide +kernel
theorem dX3_areWords_1 : decode cX3_areWords 1 = .ok (.iconst 0, 1) := by decide +kernel
theorem dX3_areWords_2 : decode cX3_areWords 2 = .ok (.aload_n 0, 1) := by decide +kernel
theorem dX3_areWords_3 : decode cX3_areWords 3 = .ok (.invokevirtual 56, 3) := by decide +kernel
theorem dX3_areWords_6 : decode cX3_areWords 6 = .ok (.invokestatic 52, 3) := by decide +kernel
theorem dX3_areWords_9 : decode cX3_areWords 9 = .ok (.ireturn, 1) := by decide +kernel
theorem dX3_makeAlike_0 : decode cX3_makeAlike 0 = .ok (.iload_n 1, 1) := by decide +kernel
theorem dX3_makeAlike_1 : decode cX3_makeAlike 1 = .ok (.iconst 0, 1) := by decide +kernel
theorem dX3_makeAlike_2 : decode cX3_makeAlike 2 = .ok (.iconst 5, 1) := by decide +kernel
theorem dX3_makeAlike_3 : decode cX3_makeAlike 3 = .ok (.invokestatic 52, 3) := by decide +kernel
theorem dX3_makeAlike_6 : decode cX3_makeAlike 6 = .ok (.ifCond .eq 12, 3) := by decide +kernel
theorem dX3_makeAlike_9 : decode cX3_makeAlike 9 = .ok (.iload_n 2, 1) := by decide +kernel
theorem dX3_makeAlike_10 : decode cX3_makeAlike 10 = .ok (.iconst 0, 1) := by decide +kernel
theorem dX3_makeAlike_11 : decode cX3_makeAlike 11 = .ok (.iconst 5, 1) := by decide +kernel
theorem dX3_makeAlike_12 : decode cX3_makeAlike 12 = .ok (.invokestatic 52, 3) := by decide +kernel
theorem dX3_makeAlike_15 : decode cX3_makeAlike 15 = .ok (.ifCond .ne 6, 3) := by decide +kernel
theorem dX3_makeAlike_18 : decode cX3_makeAlike 18 = .ok (.bipush (-2), 2) := by decide +kernel
theorem dX3_makeAlike_20 : decode cX3_makeAlike 20 = .ok (.ireturn, 1) := by decide +kernel
theorem dX3_makeAlike_21 : decode cX3_makeAlike 21 = .ok (.aload_n 0, 1) := by decide +kernel
theorem dX3_makeAlike_22 : decode cX3_makeAlike 22 = .ok (.getfield 21, 3) := by decide +kernel
theorem dX3_makeAlike_25 : decode cX3_makeAlike 25 = .ok (.iload_n 1, 1) := by decide +kernel
theorem dX3_makeAlike_26 : decode cX3_makeAlike 26 = .ok (.iaload, 1) := by decide +kernel
theorem dX3_makeAlike_27 : decode cX3_makeAlike 27 = .ok (.aload_n 0, 1) := by decide +kernel
theorem dX3_makeAlike_28 : decode cX3_makeAlike 28 = .ok (.getfield 21, 3) := by decide +kernel
theorem dX3_makeAlike_31 : decode cX3_makeAlike 31 = .ok (.iload_n 2, 1) := by decide +kernel
theorem dX3_makeAlike_32 : decode cX3_makeAlike 32 = .ok (.iaload, 1) := by decide +kernel
theorem dX3_makeAlike_33 : decode cX3_makeAlike 33 = .ok (.invokestatic 60, 3) := by decide +kernel
theorem dX3_makeAlike_36 : decode cX3_makeAlike 36 = .ok (.istore_n 3, 1) := by decide +kernel
theorem dX3_makeAlike_37 : decode cX3_makeAlike 37 = .ok (.aload_n 0, 1) := by decide +kernel
theorem dX3_makeAlike_38 : decode cX3_makeAlike 38 = .ok (.getfield 21, 3) := by decide +kernel
theorem dX3_makeAlike_41 : decode cX3_makeAlike 41 = .ok (.iload_n 1, 1) := by decide +kernel
theorem dX3_makeAlike_42 : decode cX3_makeAlike 42 = .ok (.iaload, 1) := by decide +kernel
theorem dX3_makeAlike_43 : decode cX3_makeAlike 43 = .ok (.aload_n 0, 1) := by decide +kernel
theorem dX3_makeAlike_44 : decode cX3_makeAlike 44 = .ok (.getfield 21, 3) := by decide +kernel
theorem dX3_makeAlike_47 : decode cX3_makeAlike 47 = .ok (.iload_n 2, 1) := by decide +kernel
theorem dX3_makeAlike_48 : decode cX3_makeAlike 48 = .ok (.iaload, 1) := by decide +kernel
theorem dX3_makeAlike_49 : decode cX3_makeAlike 49 = .ok (.invokestatic 66, 3) := by decide +kernel
theorem dX3_makeAlike_52 : decode cX3_makeAlike 52 = .ok (.istore 4, 2) := by decide +kernel
theorem dX3_makeAlike_54 : decode cX3_makeAlike 54 = .ok (.iload_n 3, 1) := by decide +kernel
theorem dX3_makeAlike_55 : decode cX3_makeAlike 55 = .ok (.iload 4, 2) := by decide +kernel
theorem dX3_makeAlike_57 : decode cX3_makeAlike 57 = .ok (.if_icmp .ne 6, 3) := by decide +kernel
theorem dX3_makeAlike_60 : decode cX3_makeAlike 60 = .ok (.bipush (-3), 2) := by decide +kernel
theorem dX3_makeAlike_62 : decode cX3_makeAlike 62 = .ok (.ireturn, 1) := by decide +kernel
theorem dX3_makeAlike_63 : decode cX3_makeAlike 63 = .ok (.iconst 0, 1) := by decide +kernel
theorem dX3_makeAlike_64 : decode cX3_makeAlike 64 = .ok (.istore 5, 2) := by decide +kernel
theorem dX3_makeAlike_66 : decode cX3_makeAlike 66 = .ok (.iload 5, 2) := by decide +kernel
theorem dX3_makeAlike_68 : decode cX3_makeAlike 68 = .ok (.bipush 6, 2) := by decide +kernel
theorem dX3_makeAlike_70 : decode cX3_makeAlike 70 = .ok (.if_icmp .ge 29, 3) := by decide +kernel
theorem dX3_makeAlike_73 : decode cX3_makeAlike 73 = .ok (.aload_n 0, 1) := by decide +kernel
theorem dX3_makeAlike_74 : decode cX3_makeAlike 74 = .ok (.getfield 21, 3) := by decide +kernel
theorem dX3_makeAlike_77 : decode cX3_makeAlike 77 = .ok (.iload 5, 2) := by decide +kernel
theorem dX3_makeAlike_79 : decode cX3_makeAlike 79 = .ok (.iaload, 1) := by decide +kernel
theorem dX3_makeAlike_80 : decode cX3_makeAlike 80 = .ok (.iload 4, 2) := by decide +kernel
theorem dX3_makeAlike_82 : decode cX3_makeAlike 82 = .ok (.if_icmp .ne 11, 3) := by decide +kernel
theorem dX3_makeAlike_85 : decode cX3_makeAlike 85 = .ok (.aload_n 0, 1) := by decide +kernel
theorem dX3_makeAlike_86 : decode cX3_makeAlike 86 = .ok (.getfield 21, 3) := by decide +kernel
theorem dX3_makeAlike_89 : decode cX3_makeAlike 89 = .ok (.iload 5, 2) := by decide +kernel
theorem dX3_makeAlike_91 : decode cX3_makeAlike 91 = .ok (.iload_n 3, 1) := by decide +kernel
theorem dX3_makeAlike_92 : decode cX3_makeAlike 92 = .ok (.iastore, 1) := by decide +kernel
theorem dX3_makeAlike_93 : decode cX3_makeAlike 93 = .ok (.iinc 5 1, 3) := by decide +kernel
theorem dX3_makeAlike_96 : decode cX3_makeAlike 96 = .ok (.goto (-30), 3) := by decide +kernel
theorem dX3_makeAlike_99 : decode cX3_makeAlike 99 = .ok (.iconst 1, 1) := by decide +kernel
theorem dX3_makeAlike_100 : decode cX3_makeAlike 100 = .ok (.ireturn, 1) := by decide +kernel
theorem dX3_addWord_0 : decode cX3_addWord 0 = .ok (.iload_n 1, 1) := by decide +kernel
theorem dX3_addWord_1 : decode cX3_addWord 1 = .ok (.iconst 1, 1) := by decide +kernel
theorem dX3_addWord_2 : decode cX3_addWord 2 = .ok (.bipush 6, 2) := by decide +kernel
theorem dX3_addWord_4 : decode cX3_addWord 4 = .ok (.invokestatic 52, 3) := by decide +kernel
theorem dX3_addWord_7 : decode cX3_addWord 7 = .ok (.ifCond .eq 17, 3) := by decide +kernel
theorem dX3_addWord_10 : decode cX3_addWord 10 = .ok (.iload_n 3, 1) := by decide +kernel
theorem dX3_addWord_11 : decode cX3_addWord 11 = .ok (.iconst 1, 1) := by decide +kernel
theorem dX3_addWord_12 : decode cX3_addWord 12 = .ok (.bipush 9, 2) := by decide +kernel
theorem dX3_addWord_14 : decode cX3_addWord 14 = .ok (.invokestatic 52, 3) := by decide +kernel
theorem dX3_addWord_17 : decode cX3_addWord 17 = .ok (.ifCond .eq 7, 3) := by decide +kernel
theorem dX3_addWord_20 : decode cX3_addWord 20 = .ok (.iload_n 2, 1) := by decide +kernel
theorem dX3_addWord_21 : decode cX3_addWord 21 = .ok (.ifCond .ge 6, 3) := by decide +kernel
theorem dX3_addWord_24 : decode cX3_addWord 24 = .ok (.bipush (-2), 2) := by decide +kernel
theorem dX3_addWord_26 : decode cX3_addWord 26 = .ok (.ireturn, 1) := by decide +kernel
theorem dX3_addWord_27 : decode cX3_addWord 27 = .ok (.iload_n 2, 1) := by decide +kernel
theorem dX3_addWord_28 : decode cX3_addWord 28 = .ok (.istore 4, 2) := by decide +kernel
theorem dX3_addWord_30 : decode cX3_addWord 30 = .ok (.iconst 0, 1) := by decide +kernel
theorem dX3_addWord_31 : decode cX3_addWord 31 = .ok (.istore 5, 2) := by decide +kernel
theorem dX3_addWord_33 : decode cX3_addWord 33 = .ok (.iload 5, 2) := by decide +kernel
theorem dX3_addWord_35 : decode cX3_addWord 35 = .ok (.iload_n 1, 1) := by decide +kernel
theorem dX3_addWord_36 : decode cX3_addWord 36 = .ok (.if_icmp .ge 16, 3) := by decide +kernel
theorem dX3_addWord_39 : decode cX3_addWord 39 = .ok (.iload 4, 2) := by decide +kernel
theorem dX3_addWord_41 : decode cX3_addWord 41 = .ok (.bipush 6, 2) := by decide +kernel
theorem dX3_addWord_43 : decode cX3_addWord 43 = .ok (.idiv, 1) := by decide +kernel
theorem dX3_addWord_44 : decode cX3_addWord 44 = .ok (.istore 4, 2) := by decide +kernel
theorem dX3_addWord_46 : decode cX3_addWord 46 = .ok (.iinc 5 1, 3) := by decide +kernel
theorem dX3_addWord_49 : decode cX3_addWord 49 = .ok (.goto (-16), 3) := by decide +kernel
theorem dX3_addWord_52 : decode cX3_addWord 52 = .ok (.iload 4, 2) := by decide +kernel
theorem dX3_addWord_54 : decode cX3_addWord 54 = .ok (.ifCond .eq 6, 3) := by decide +kernel
theorem dX3_addWord_57 : decode cX3_addWord 57 = .ok (.bipush (-2), 2) := by decide +kernel
theorem dX3_addWord_59 : decode cX3_addWord 59 = .ok (.ireturn, 1) := by decide +kernel
theorem dX3_addWord_60 : decode cX3_addWord 60 = .ok (.aload_n 0, 1) := by decide +kernel
theorem dX3_addWord_61 : decode cX3_addWord 61 = .ok (.getfield 36, 3) := by decide +kernel
theorem dX3_addWord_64 : decode cX3_addWord 64 = .ok (.bipush 10, 2) := by decide +kernel
theorem dX3_addWord_66 : decode cX3_addWord 66 = .ok (.if_icmp .lt 6, 3) := by decide +kernel
theorem dX3_addWord_69 : decode cX3_addWord 69 = .ok (.bipush (-4), 2) := by decide +kernel
theorem dX3_addWord_71 : decode cX3_addWord 71 = .ok (.ireturn, 1) := by decide +kernel
theorem dX3_addWord_72 : decode cX3_addWord 72 = .ok (.aload_n 0, 1) := by decide +kernel
theorem dX3_addWord_73 : decode cX3_addWord 73 = .ok (.getfield 11, 3) := by decide +kernel
theorem dX3_addWord_76 : decode cX3_addWord 76 = .ok (.aload_n 0, 1) := by decide +kernel
theorem dX3_addWord_77 : decode cX3_addWord 77 = .ok (.getfield 36, 3) := by decide +kernel
theorem dX3_addWord_80 : decode cX3_addWord 80 = .ok (.iload_n 1, 1) := by decide +kernel
theorem dX3_addWord_81 : decode cX3_addWord 81 = .ok (.iastore, 1) := by decide +kernel
theorem dX3_addWord_82 : decode cX3_addWord 82 = .ok (.aload_n 0, 1) := by decide +kernel
theorem dX3_addWord_83 : decode cX3_addWord 83 = .ok (.getfield 15, 3) := by decide +kernel
theorem dX3_addWord_86 : decode cX3_addWord 86 = .ok (.aload_n 0, 1) := by decide +kernel
theorem dX3_addWord_87 : decode cX3_addWord 87 = .ok (.getfield 36, 3) := by decide +kernel
theorem dX3_addWord_90 : decode cX3_addWord 90 = .ok (.iload_n 2, 1) := by decide +kernel
theorem dX3_addWord_91 : decode cX3_addWord 91 = .ok (.iastore, 1) := by decide +kernel
theorem dX3_addWord_92 : decode cX3_addWord 92 = .ok (.aload_n 0, 1) := by decide +kernel
theorem dX3_addWord_93 : decode cX3_addWord 93 = .ok (.getfield 18, 3) := by decide +kernel
theorem dX3_addWord_96 : decode cX3_addWord 96 = .ok (.aload_n 0, 1) := by decide +kernel
theorem dX3_addWord_97 : decode cX3_addWord 97 = .ok (.getfield 36, 3) := by decide +kernel
theorem dX3_addWord_100 : decode cX3_addWord 100 = .ok (.iload_n 3, 1) := by decide +kernel
theorem dX3_addWord_101 : decode cX3_addWord 101 = .ok (.iastore, 1) := by decide +kernel
theorem dX3_addWord_102 : decode cX3_addWord 102 = .ok (.iload_n 2, 1) := by decide +kernel
theorem dX3_addWord_103 : decode cX3_addWord 103 = .ok (.istore 4, 2) := by decide +kernel
theorem dX3_addWord_105 : decode cX3_addWord 105 = .ok (.iload_n 1, 1) := by decide +kernel
theorem dX3_addWord_106 : decode cX3_addWord 106 = .ok (.iconst 1, 1) := by decide +kernel
theorem dX3_addWord_107 : decode cX3_addWord 107 = .ok (.isub, 1) := by decide +kernel
theorem dX3_addWord_108 : decode cX3_addWord 108 = .ok (.istore 5, 2) := by decide +kernel
theorem dX3_addWord_110 : decode cX3_addWord 110 = .ok (.iload 5, 2) := by decide +kernel
theorem dX3_addWord_112 : decode cX3_addWord 112 = .ok (.ifCond .lt 36, 3) := by decide +kernel
theorem dX3_addWord_115 : decode cX3_addWord 115 = .ok (.aload_n 0, 1) := by decide +kernel
theorem dX3_addWord_116 : decode cX3_addWord 116 = .ok (.getfield 27, 3) := by decide +kernel
theorem dX3_addWord_119 : decode cX3_addWord 119 = .ok (.aload_n 0, 1) := by decide +kernel
theorem dX3_addWord_120 : decode cX3_addWord 120 = .ok (.getfield 36, 3) := by decide +kernel
theorem dX3_addWord_123 : decode cX3_addWord 123 = .ok (.bipush 6, 2) := by decide +kernel
theorem dX3_addWord_125 : decode cX3_addWord 125 = .ok (.imul, 1) := by decide +kernel
theorem dX3_addWord_126 : decode cX3_addWord 126 = .ok (.iload 5, 2) := by decide +kernel
theorem dX3_addWord_128 : decode cX3_addWord 128 = .ok (.iadd, 1) := by decide +kernel
theorem dX3_addWord_129 : decode cX3_addWord 129 = .ok (.iload 4, 2) := by decide +kernel
theorem dX3_addWord_131 : decode cX3_addWord 131 = .ok (.bipush 6, 2) := by decide +kernel
theorem dX3_addWord_133 : decode cX3_addWord 133 = .ok (.irem, 1) := by decide +kernel
theorem dX3_addWord_134 : decode cX3_addWord 134 = .ok (.iastore, 1) := by decide +kernel
theorem dX3_addWord_135 : decode cX3_addWord 135 = .ok (.iload 4, 2) := by decide +kernel
theorem dX3_addWord_137 : decode cX3_addWord 137 = .ok (.bipush 6, 2) := by decide +kernel
theorem dX3_addWord_139 : decode cX3_addWord 139 = .ok (.idiv, 1) := by decide +kernel
theorem dX3_addWord_140 : decode cX3_addWord 140 = .ok (.istore 4, 2) := by decide +kernel
theorem dX3_addWord_142 : decode cX3_addWord 142 = .ok (.iinc 5 (-1), 3) := by decide +kernel
theorem dX3_addWord_145 : decode cX3_addWord 145 = .ok (.goto (-35), 3) := by decide +kernel
theorem dX3_addWord_148 : decode cX3_addWord 148 = .ok (.aload_n 0, 1) := by decide +kernel
theorem dX3_addWord_149 : decode cX3_addWord 149 = .ok (.dup, 1) := by decide +kernel
theorem dX3_addWord_150 : decode cX3_addWord 150 = .ok (.getfield 36, 3) := by decide +kernel
theorem dX3_addWord_153 : decode cX3_addWord 153 = .ok (.iconst 1, 1) := by decide +kernel
theorem dX3_addWord_154 : decode cX3_addWord 154 = .ok (.iadd, 1) := by decide +kernel
theorem dX3_addWord_155 : decode cX3_addWord 155 = .ok (.putfield 36, 3) := by decide +kernel
theorem dX3_addWord_158 : decode cX3_addWord 158 = .ok (.aload_n 0, 1) := by decide +kernel
theorem dX3_addWord_159 : decode cX3_addWord 159 = .ok (.getfield 36, 3) := by decide +kernel
theorem dX3_addWord_162 : decode cX3_addWord 162 = .ok (.iconst 1, 1) := by decide +kernel
theorem dX3_addWord_163 : decode cX3_addWord 163 = .ok (.isub, 1) := by decide +kernel
theorem dX3_addWord_164 : decode cX3_addWord 164 = .ok (.ireturn, 1) := by decide +kernel
theorem dX3_addLip_0 : decode cX3_addLip 0 = .ok (.iload_n 1, 1) := by decide +kernel
theorem dX3_addLip_1 : decode cX3_addLip 1 = .ok (.iconst 0, 1) := by decide +kernel
theorem dX3_addLip_2 : decode cX3_addLip 2 = .ok (.iconst 5, 1) := by decide +kernel
theorem dX3_addLip_3 : decode cX3_addLip 3 = .ok (.invokestatic 52, 3) := by decide +kernel
theorem dX3_addLip_6 : decode cX3_addLip 6 = .ok (.ifCond .ne 6, 3) := by decide +kernel
theorem dX3_addLip_9 : decode cX3_addLip 9 = .ok (.bipush (-2), 2) := by decide +kernel
theorem dX3_addLip_11 : decode cX3_addLip 11 = .ok (.ireturn, 1) := by decide +kernel
theorem dX3_addLip_12 : decode cX3_addLip 12 = .ok (.aload_n 0, 1) := by decide +kernel
theorem dX3_addLip_13 : decode cX3_addLip 13 = .ok (.getfield 40, 3) := by decide +kernel
theorem dX3_addLip_16 : decode cX3_addLip 16 = .ok (.bipush 24, 2) := by decide +kernel
theorem dX3_addLip_18 : decode cX3_addLip 18 = .ok (.if_icmp .lt 6, 3) := by decide +kernel
theorem dX3_addLip_21 : decode cX3_addLip 21 = .ok (.bipush (-4), 2) := by decide +kernel
theorem dX3_addLip_23 : decode cX3_addLip 23 = .ok (.ireturn, 1) := by decide +kernel
theorem dX3_addLip_24 : decode cX3_addLip 24 = .ok (.aload_n 0, 1) := by decide +kernel
theorem dX3_addLip_25 : decode cX3_addLip 25 = .ok (.getfield 24, 3) := by decide +kernel
theorem dX3_addLip_28 : decode cX3_addLip 28 = .ok (.aload_n 0, 1) := by decide +kernel
theorem dX3_addLip_29 : decode cX3_addLip 29 = .ok (.getfield 40, 3) := by decide +kernel
theorem dX3_addLip_32 : decode cX3_addLip 32 = .ok (.iload_n 1, 1) := by decide +kernel
theorem dX3_addLip_33 : decode cX3_addLip 33 = .ok (.iastore, 1) := by decide +kernel
theorem dX3_addLip_34 : decode cX3_addLip 34 = .ok (.aload_n 0, 1) := by decide +kernel
theorem dX3_addLip_35 : decode cX3_addLip 35 = .ok (.dup, 1) := by decide +kernel
theorem dX3_addLip_36 : decode cX3_addLip 36 = .ok (.getfield 40, 3) := by decide +kernel
theorem dX3_addLip_39 : decode cX3_addLip 39 = .ok (.iconst 1, 1) := by decide +kernel
theorem dX3_addLip_40 : decode cX3_addLip 40 = .ok (.iadd, 1) := by decide +kernel
theorem dX3_addLip_41 : decode cX3_addLip 41 = .ok (.putfield 40, 3) := by decide +kernel
theorem dX3_addLip_44 : decode cX3_addLip 44 = .ok (.aload_n 0, 1) := by decide +kernel
theorem dX3_addLip_45 : decode cX3_addLip 45 = .ok (.getfield 40, 3) := by decide +kernel
theorem dX3_addLip_48 : decode cX3_addLip 48 = .ok (.ireturn, 1) := by decide +kernel
theorem dX3_lookAlike_0 : decode cX3_lookAlike 0 = .ok (.aload_n 0, 1) := by decide +kernel
theorem dX3_lookAlike_1 : decode cX3_lookAlike 1 = .ok (.getfield 21, 3) := by decide +kernel
theorem dX3_lookAlike_4 : decode cX3_lookAlike 4 = .ok (.iload_n 1, 1) := by decide +kernel
theorem dX3_lookAlike_5 : decode cX3_lookAlike 5 = .ok (.iaload, 1) := by decide +kernel
theorem dX3_lookAlike_6 : decode cX3_lookAlike 6 = .ok (.aload_n 0, 1) := by decide +kernel
theorem dX3_lookAlike_7 : decode cX3_lookAlike 7 = .ok (.getfield 21, 3) := by decide +kernel
theorem dX3_lookAlike_10 : decode cX3_lookAlike 10 = .ok (.iload_n 2, 1) := by decide +kernel
theorem dX3_lookAlike_11 : decode cX3_lookAlike 11 = .ok (.iaload, 1) := by decide +kernel
theorem dX3_lookAlike_12 : decode cX3_lookAlike 12 = .ok (.if_icmp .ne 7, 3) := by decide +kernel
theorem dX3_lookAlike_15 : decode cX3_lookAlike 15 = .ok (.iconst 1, 1) := by decide +kernel
theorem dX3_lookAlike_16 : decode cX3_lookAlike 16 = .ok (.goto 4, 3) := by decide +kernel
theorem dX3_lookAlike_19 : decode cX3_lookAlike 19 = .ok (.iconst 0, 1) := by decide +kernel
theorem dX3_lookAlike_20 : decode cX3_lookAlike 20 = .ok (.ireturn, 1) := by decide +kernel
theorem dX3_unlikeLips_0 : decode cX3_unlikeLips 0 = .ok (.iconst 0, 1) := by decide +kernel
theorem dX3_unlikeLips_1 : decode cX3_unlikeLips 1 = .ok (.istore_n 3, 1) := by decide +kernel
theorem dX3_unlikeLips_2 : decode cX3_unlikeLips 2 = .ok (.iconst 0, 1) := by decide +kernel
theorem dX3_unlikeLips_3 : decode cX3_unlikeLips 3 = .ok (.istore 4, 2) := by decide +kernel
theorem dX3_unlikeLips_5 : decode cX3_unlikeLips 5 = .ok (.iload 4, 2) := by decide +kernel
theorem dX3_unlikeLips_7 : decode cX3_unlikeLips 7 = .ok (.aload_n 0, 1) := by decide +kernel
theorem dX3_unlikeLips_8 : decode cX3_unlikeLips 8 = .ok (.getfield 11, 3) := by decide +kernel
theorem dX3_unlikeLips_11 : decode cX3_unlikeLips 11 = .ok (.iload_n 1, 1) := by decide +kernel
theorem dX3_unlikeLips_12 : decode cX3_unlikeLips 12 = .ok (.iaload, 1) := by decide +kernel
theorem dX3_unlikeLips_13 : decode cX3_unlikeLips 13 = .ok (.if_icmp .ge 43, 3) := by decide +kernel
theorem dX3_unlikeLips_16 : decode cX3_unlikeLips 16 = .ok (.aload_n 0, 1) := by decide +kernel
theorem dX3_unlikeLips_17 : decode cX3_unlikeLips 17 = .ok (.aload_n 0, 1) := by decide +kernel
theorem dX3_unlikeLips_18 : decode cX3_unlikeLips 18 = .ok (.getfield 27, 3) := by decide +kernel
theorem dX3_unlikeLips_21 : decode cX3_unlikeLips 21 = .ok (.iload_n 1, 1) := by decide +kernel
theorem dX3_unlikeLips_22 : decode cX3_unlikeLips 22 = .ok (.bipush 6, 2) := by decide +kernel
theorem dX3_unlikeLips_24 : decode cX3_unlikeLips 24 = .ok (.imul, 1) := by decide +kernel
theorem dX3_unlikeLips_25 : decode cX3_unlikeLips 25 = .ok (.iload 4, 2) := by decide +kernel
theorem dX3_unlikeLips_27 : decode cX3_unlikeLips 27 = .ok (.iadd, 1) := by decide +kernel
theorem dX3_unlikeLips_28 : decode cX3_unlikeLips 28 = .ok (.iaload, 1) := by decide +kernel
theorem dX3_unlikeLips_29 : decode cX3_unlikeLips 29 = .ok (.aload_n 0, 1) := by decide +kernel
theorem dX3_unlikeLips_30 : decode cX3_unlikeLips 30 = .ok (.getfield 27, 3) := by decide +kernel
theorem dX3_unlikeLips_33 : decode cX3_unlikeLips 33 = .ok (.iload_n 2, 1) := by decide +kernel
theorem dX3_unlikeLips_34 : decode cX3_unlikeLips 34 = .ok (.bipush 6, 2) := by decide +kernel
theorem dX3_unlikeLips_36 : decode cX3_unlikeLips 36 = .ok (.imul, 1) := by decide +kernel
theorem dX3_unlikeLips_37 : decode cX3_unlikeLips 37 = .ok (.iload 4, 2) := by decide +kernel
theorem dX3_unlikeLips_39 : decode cX3_unlikeLips 39 = .ok (.iadd, 1) := by decide +kernel
theorem dX3_unlikeLips_40 : decode cX3_unlikeLips 40 = .ok (.iaload, 1) := by decide +kernel
theorem dX3_unlikeLips_41 : decode cX3_unlikeLips 41 = .ok (.invokevirtual 69, 3) := by decide +kernel
theorem dX3_unlikeLips_44 : decode cX3_unlikeLips 44 = .ok (.ifCond .ne 6, 3) := by decide +kernel
theorem dX3_unlikeLips_47 : decode cX3_unlikeLips 47 = .ok (.iinc 3 1, 3) := by decide +kernel
theorem dX3_unlikeLips_50 : decode cX3_unlikeLips 50 = .ok (.iinc 4 1, 3) := by decide +kernel
theorem dX3_unlikeLips_53 : decode cX3_unlikeLips 53 = .ok (.goto (-48), 3) := by decide +kernel
theorem dX3_unlikeLips_56 : decode cX3_unlikeLips 56 = .ok (.iload_n 3, 1) := by decide +kernel
theorem dX3_unlikeLips_57 : decode cX3_unlikeLips 57 = .ok (.ireturn, 1) := by decide +kernel
theorem dX3_areAlike_0 : decode cX3_areAlike 0 = .ok (.aload_n 0, 1) := by decide +kernel
theorem dX3_areAlike_1 : decode cX3_areAlike 1 = .ok (.getfield 11, 3) := by decide +kernel
theorem dX3_areAlike_4 : decode cX3_areAlike 4 = .ok (.iload_n 1, 1) := by decide +kernel
theorem dX3_areAlike_5 : decode cX3_areAlike 5 = .ok (.iaload, 1) := by decide +kernel
theorem dX3_areAlike_6 : decode cX3_areAlike 6 = .ok (.aload_n 0, 1) := by decide +kernel
theorem dX3_areAlike_7 : decode cX3_areAlike 7 = .ok (.getfield 11, 3) := by decide +kernel
theorem dX3_areAlike_10 : decode cX3_areAlike 10 = .ok (.iload_n 2, 1) := by decide +kernel
theorem dX3_areAlike_11 : decode cX3_areAlike 11 = .ok (.iaload, 1) := by decide +kernel
theorem dX3_areAlike_12 : decode cX3_areAlike 12 = .ok (.if_icmp .ne 16, 3) := by decide +kernel
theorem dX3_areAlike_15 : decode cX3_areAlike 15 = .ok (.aload_n 0, 1) := by decide +kernel
theorem dX3_areAlike_16 : decode cX3_areAlike 16 = .ok (.iload_n 1, 1) := by decide +kernel
theorem dX3_areAlike_17 : decode cX3_areAlike 17 = .ok (.iload_n 2, 1) := by decide +kernel
theorem dX3_areAlike_18 : decode cX3_areAlike 18 = .ok (.invokevirtual 73, 3) := by decide +kernel
theorem dX3_areAlike_21 : decode cX3_areAlike 21 = .ok (.ifCond .ne 7, 3) := by decide +kernel
theorem dX3_areAlike_24 : decode cX3_areAlike 24 = .ok (.iconst 1, 1) := by decide +kernel
theorem dX3_areAlike_25 : decode cX3_areAlike 25 = .ok (.goto 4, 3) := by decide +kernel
theorem dX3_areAlike_28 : decode cX3_areAlike 28 = .ok (.iconst 0, 1) := by decide +kernel
theorem dX3_areAlike_29 : decode cX3_areAlike 29 = .ok (.ireturn, 1) := by decide +kernel
theorem dX3_fitsRow_0 : decode cX3_fitsRow 0 = .ok (.iload_n 2, 1) := by decide +kernel
theorem dX3_fitsRow_1 : decode cX3_fitsRow 1 = .ok (.aload_n 0, 1) := by decide +kernel
theorem dX3_fitsRow_2 : decode cX3_fitsRow 2 = .ok (.getfield 11, 3) := by decide +kernel
theorem dX3_fitsRow_5 : decode cX3_fitsRow 5 = .ok (.iload_n 1, 1) := by decide +kernel
theorem dX3_fitsRow_6 : decode cX3_fitsRow 6 = .ok (.iaload, 1) := by decide +kernel
theorem dX3_fitsRow_7 : decode cX3_fitsRow 7 = .ok (.iadd, 1) := by decide +kernel
theorem dX3_fitsRow_8 : decode cX3_fitsRow 8 = .ok (.aload_n 0, 1) := by decide +kernel
theorem dX3_fitsRow_9 : decode cX3_fitsRow 9 = .ok (.getfield 40, 3) := by decide +kernel
theorem dX3_fitsRow_12 : decode cX3_fitsRow 12 = .ok (.if_icmp .le 5, 3) := by decide +kernel
theorem dX3_fitsRow_15 : decode cX3_fitsRow 15 = .ok (.iconst 0, 1) := by decide +kernel
theorem dX3_fitsRow_16 : decode cX3_fitsRow 16 = .ok (.ireturn, 1) := by decide +kernel
theorem dX3_fitsRow_17 : decode cX3_fitsRow 17 = .ok (.iconst 0, 1) := by decide +kernel
theorem dX3_fitsRow_18 : decode cX3_fitsRow 18 = .ok (.istore_n 3, 1) := by decide +kernel
theorem dX3_fitsRow_19 : decode cX3_fitsRow 19 = .ok (.iload_n 3, 1) := by decide +kernel
theorem dX3_fitsRow_20 : decode cX3_fitsRow 20 = .ok (.aload_n 0, 1) := by decide +kernel
theorem dX3_fitsRow_21 : decode cX3_fitsRow 21 = .ok (.getfield 11, 3) := by decide +kernel
theorem dX3_fitsRow_24 : decode cX3_fitsRow 24 = .ok (.iload_n 1, 1) := by decide +kernel
theorem dX3_fitsRow_25 : decode cX3_fitsRow 25 = .ok (.iaload, 1) := by decide +kernel
theorem dX3_fitsRow_26 : decode cX3_fitsRow 26 = .ok (.if_icmp .ge 37, 3) := by decide +kernel
theorem dX3_fitsRow_29 : decode cX3_fitsRow 29 = .ok (.aload_n 0, 1) := by decide +kernel
theorem dX3_fitsRow_30 : decode cX3_fitsRow 30 = .ok (.aload_n 0, 1) := by decide +kernel
theorem dX3_fitsRow_31 : decode cX3_fitsRow 31 = .ok (.getfield 27, 3) := by decide +kernel
theorem dX3_fitsRow_34 : decode cX3_fitsRow 34 = .ok (.iload_n 1, 1) := by decide +kernel
theorem dX3_fitsRow_35 : decode cX3_fitsRow 35 = .ok (.bipush 6, 2) := by decide +kernel
theorem dX3_fitsRow_37 : decode cX3_fitsRow 37 = .ok (.imul, 1) := by decide +kernel
theorem dX3_fitsRow_38 : decode cX3_fitsRow 38 = .ok (.iload_n 3, 1) := by decide +kernel
theorem dX3_fitsRow_39 : decode cX3_fitsRow 39 = .ok (.iadd, 1) := by decide +kernel
theorem dX3_fitsRow_40 : decode cX3_fitsRow 40 = .ok (.iaload, 1) := by decide +kernel
theorem dX3_fitsRow_41 : decode cX3_fitsRow 41 = .ok (.aload_n 0, 1) := by decide +kernel
theorem dX3_fitsRow_42 : decode cX3_fitsRow 42 = .ok (.getfield 24, 3) := by decide +kernel
theorem dX3_fitsRow_45 : decode cX3_fitsRow 45 = .ok (.iload_n 2, 1) := by decide +kernel
theorem dX3_fitsRow_46 : decode cX3_fitsRow 46 = .ok (.iload_n 3, 1) := by decide +kernel
theorem dX3_fitsRow_47 : decode cX3_fitsRow 47 = .ok (.iadd, 1) := by decide +kernel
theorem dX3_fitsRow_48 : decode cX3_fitsRow 48 = .ok (.iaload, 1) := by decide +kernel
theorem dX3_fitsRow_49 : decode cX3_fitsRow 49 = .ok (.invokevirtual 69, 3) := by decide +kernel
theorem dX3_fitsRow_52 : decode cX3_fitsRow 52 = .ok (.ifCond .ne 5, 3) := by decide +kernel
theorem dX3_fitsRow_55 : decode cX3_fitsRow 55 = .ok (.iconst 0, 1) := by decide +kernel
theorem dX3_fitsRow_56 : decode cX3_fitsRow 56 = .ok (.ireturn, 1) := by decide +kernel
theorem dX3_fitsRow_57 : decode cX3_fitsRow 57 = .ok (.iinc 3 1, 3) := by decide +kernel
theorem dX3_fitsRow_60 : decode cX3_fitsRow 60 = .ok (.goto (-41), 3) := by decide +kernel
theorem dX3_fitsRow_63 : decode cX3_fitsRow 63 = .ok (.iconst 1, 1) := by decide +kernel
theorem dX3_fitsRow_64 : decode cX3_fitsRow 64 = .ok (.ireturn, 1) := by decide +kernel
theorem dX3_weightOf_0 : decode cX3_weightOf 0 = .ok (.iconst 0, 1) := by decide +kernel
theorem dX3_weightOf_1 : decode cX3_weightOf 1 = .ok (.istore_n 2, 1) := by decide +kernel
theorem dX3_weightOf_2 : decode cX3_weightOf 2 = .ok (.iconst 0, 1) := by decide +kernel
theorem dX3_weightOf_3 : decode cX3_weightOf 3 = .ok (.istore_n 3, 1) := by decide +kernel
theorem dX3_weightOf_4 : decode cX3_weightOf 4 = .ok (.iload_n 3, 1) := by decide +kernel
theorem dX3_weightOf_5 : decode cX3_weightOf 5 = .ok (.aload_n 0, 1) := by decide +kernel
theorem dX3_weightOf_6 : decode cX3_weightOf 6 = .ok (.getfield 36, 3) := by decide +kernel
theorem dX3_weightOf_9 : decode cX3_weightOf 9 = .ok (.if_icmp .ge 26, 3) := by decide +kernel
theorem dX3_weightOf_12 : decode cX3_weightOf 12 = .ok (.iload_n 1, 1) := by decide +kernel
theorem dX3_weightOf_13 : decode cX3_weightOf 13 = .ok (.iload_n 3, 1) := by decide +kernel
theorem dX3_weightOf_14 : decode cX3_weightOf 14 = .ok (.invokestatic 76, 3) := by decide +kernel
theorem dX3_weightOf_17 : decode cX3_weightOf 17 = .ok (.ifCond .eq 12, 3) := by decide +kernel
theorem dX3_weightOf_20 : decode cX3_weightOf 20 = .ok (.iload_n 2, 1) := by decide +kernel
theorem dX3_weightOf_21 : decode cX3_weightOf 21 = .ok (.aload_n 0, 1) := by decide +kernel
theorem dX3_weightOf_22 : decode cX3_weightOf 22 = .ok (.getfield 18, 3) := by decide +kernel
theorem dX3_weightOf_25 : decode cX3_weightOf 25 = .ok (.iload_n 3, 1) := by decide +kernel
theorem dX3_weightOf_26 : decode cX3_weightOf 26 = .ok (.iaload, 1) := by decide +kernel
theorem dX3_weightOf_27 : decode cX3_weightOf 27 = .ok (.iadd, 1) := by decide +kernel
theorem dX3_weightOf_28 : decode cX3_weightOf 28 = .ok (.istore_n 2, 1) := by decide +kernel
theorem dX3_weightOf_29 : decode cX3_weightOf 29 = .ok (.iinc 3 1, 3) := by decide +kernel
theorem dX3_weightOf_32 : decode cX3_weightOf 32 = .ok (.goto (-28), 3) := by decide +kernel
theorem dX3_weightOf_35 : decode cX3_weightOf 35 = .ok (.iload_n 2, 1) := by decide +kernel
theorem dX3_weightOf_36 : decode cX3_weightOf 36 = .ok (.ireturn, 1) := by decide +kernel
theorem dX3_mistakenWith_0 : decode cX3_mistakenWith 0 = .ok (.aload_n 0, 1) := by decide +kernel
theorem dX3_mistakenWith_1 : decode cX3_mistakenWith 1 = .ok (.invokevirtual 79, 3) := by decide +kernel
theorem dX3_mistakenWith_4 : decode cX3_mistakenWith 4 = .ok (.aload_n 0, 1) := by decide +kernel
theorem dX3_mistakenWith_5 : decode cX3_mistakenWith 5 = .ok (.iload_n 1, 1) := by decide +kernel
theorem dX3_mistakenWith_6 : decode cX3_mistakenWith 6 = .ok (.invokevirtual 82, 3) := by decide +kernel
theorem dX3_mistakenWith_9 : decode cX3_mistakenWith 9 = .ok (.ireturn, 1) := by decide +kernel
theorem dX3_mistakenBy_0 : decode cX3_mistakenBy 0 = .ok (.iconst 0, 1) := by decide +kernel
theorem dX3_mistakenBy_1 : decode cX3_mistakenBy 1 = .ok (.istore_n 2, 1) := by decide +kernel
theorem dX3_mistakenBy_2 : decode cX3_mistakenBy 2 = .ok (.iconst 0, 1) := by decide +kernel
theorem dX3_mistakenBy_3 : decode cX3_mistakenBy 3 = .ok (.istore_n 3, 1) := by decide +kernel
theorem dX3_mistakenBy_4 : decode cX3_mistakenBy 4 = .ok (.iload_n 3, 1) := by decide +kernel
theorem dX3_mistakenBy_5 : decode cX3_mistakenBy 5 = .ok (.aload_n 0, 1) := by decide +kernel
theorem dX3_mistakenBy_6 : decode cX3_mistakenBy 6 = .ok (.getfield 36, 3) := by decide +kernel
theorem dX3_mistakenBy_9 : decode cX3_mistakenBy 9 = .ok (.if_icmp .ge 41, 3) := by decide +kernel
theorem dX3_mistakenBy_12 : decode cX3_mistakenBy 12 = .ok (.iload_n 1, 1) := by decide +kernel
theorem dX3_mistakenBy_13 : decode cX3_mistakenBy 13 = .ok (.iload_n 3, 1) := by decide +kernel
theorem dX3_mistakenBy_14 : decode cX3_mistakenBy 14 = .ok (.invokestatic 76, 3) := by decide +kernel
theorem dX3_mistakenBy_17 : decode cX3_mistakenBy 17 = .ok (.ifCond .ne 27, 3) := by decide +kernel
theorem dX3_mistakenBy_20 : decode cX3_mistakenBy 20 = .ok (.iload_n 2, 1) := by decide +kernel
theorem dX3_mistakenBy_21 : decode cX3_mistakenBy 21 = .ok (.aload_n 0, 1) := by decide +kernel
theorem dX3_mistakenBy_22 : decode cX3_mistakenBy 22 = .ok (.getfield 18, 3) := by decide +kernel
theorem dX3_mistakenBy_25 : decode cX3_mistakenBy 25 = .ok (.iload_n 3, 1) := by decide +kernel
theorem dX3_mistakenBy_26 : decode cX3_mistakenBy 26 = .ok (.iaload, 1) := by decide +kernel
theorem dX3_mistakenBy_27 : decode cX3_mistakenBy 27 = .ok (.aload_n 0, 1) := by decide +kernel
theorem dX3_mistakenBy_28 : decode cX3_mistakenBy 28 = .ok (.aload_n 0, 1) := by decide +kernel
theorem dX3_mistakenBy_29 : decode cX3_mistakenBy 29 = .ok (.getfield 30, 3) := by decide +kernel
theorem dX3_mistakenBy_32 : decode cX3_mistakenBy 32 = .ok (.iload_n 3, 1) := by decide +kernel
theorem dX3_mistakenBy_33 : decode cX3_mistakenBy 33 = .ok (.iaload, 1) := by decide +kernel
theorem dX3_mistakenBy_34 : decode cX3_mistakenBy 34 = .ok (.iload_n 1, 1) := by decide +kernel
theorem dX3_mistakenBy_35 : decode cX3_mistakenBy 35 = .ok (.iconst (-1), 1) := by decide +kernel
theorem dX3_mistakenBy_36 : decode cX3_mistakenBy 36 = .ok (.ixor, 1) := by decide +kernel
theorem dX3_mistakenBy_37 : decode cX3_mistakenBy 37 = .ok (.iand, 1) := by decide +kernel
theorem dX3_mistakenBy_38 : decode cX3_mistakenBy 38 = .ok (.invokevirtual 86, 3) := by decide +kernel
theorem dX3_mistakenBy_41 : decode cX3_mistakenBy 41 = .ok (.imul, 1) := by decide +kernel
theorem dX3_mistakenBy_42 : decode cX3_mistakenBy 42 = .ok (.iadd, 1) := by decide +kernel
theorem dX3_mistakenBy_43 : decode cX3_mistakenBy 43 = .ok (.istore_n 2, 1) := by decide +kernel
theorem dX3_mistakenBy_44 : decode cX3_mistakenBy 44 = .ok (.iinc 3 1, 3) := by decide +kernel
theorem dX3_mistakenBy_47 : decode cX3_mistakenBy 47 = .ok (.goto (-43), 3) := by decide +kernel
theorem dX3_mistakenBy_50 : decode cX3_mistakenBy 50 = .ok (.iload_n 2, 1) := by decide +kernel
theorem dX3_mistakenBy_51 : decode cX3_mistakenBy 51 = .ok (.ireturn, 1) := by decide +kernel
theorem dX3_findLaterAlike_0 : decode cX3_findLaterAlike 0 = .ok (.iconst 0, 1) := by decide +kernel
theorem dX3_findLaterAlike_1 : decode cX3_findLaterAlike 1 = .ok (.istore_n 1, 1) := by decide +kernel
theorem dX3_findLaterAlike_2 : decode cX3_findLaterAlike 2 = .ok (.iload_n 1, 1) := by decide +kernel
theorem dX3_findLaterAlike_3 : decode cX3_findLaterAlike 3 = .ok (.aload_n 0, 1) := by decide +kernel
theorem dX3_findLaterAlike_4 : decode cX3_findLaterAlike 4 = .ok (.getfield 36, 3) := by decide +kernel
theorem dX3_findLaterAlike_7 : decode cX3_findLaterAlike 7 = .ok (.if_icmp .ge 55, 3) := by decide +kernel
theorem dX3_findLaterAlike_10 : decode cX3_findLaterAlike 10 = .ok (.aload_n 0, 1) := by decide +kernel
theorem dX3_findLaterAlike_11 : decode cX3_findLaterAlike 11 = .ok (.getfield 30, 3) := by decide +kernel
theorem dX3_findLaterAlike_14 : decode cX3_findLaterAlike 14 = .ok (.iload_n 1, 1) := by decide +kernel
theorem dX3_findLaterAlike_15 : decode cX3_findLaterAlike 15 = .ok (.iconst 0, 1) := by decide +kernel
theorem dX3_findLaterAlike_16 : decode cX3_findLaterAlike 16 = .ok (.iastore, 1) := by decide +kernel
theorem dX3_findLaterAlike_17 : decode cX3_findLaterAlike 17 = .ok (.iload_n 1, 1) := by decide +kernel
theorem dX3_findLaterAlike_18 : decode cX3_findLaterAlike 18 = .ok (.iconst 1, 1) := by decide +kernel
theorem dX3_findLaterAlike_19 : decode cX3_findLaterAlike 19 = .ok (.iadd, 1) := by decide +kernel
theorem dX3_findLaterAlike_20 : decode cX3_findLaterAlike 20 = .ok (.istore_n 2, 1) := by decide +kernel
theorem dX3_findLaterAlike_21 : decode cX3_findLaterAlike 21 = .ok (.iload_n 2, 1) := by decide +kernel
theorem dX3_findLaterAlike_22 : decode cX3_findLaterAlike 22 = .ok (.aload_n 0, 1) := by decide +kernel
theorem dX3_findLaterAlike_23 : decode cX3_findLaterAlike 23 = .ok (.getfield 36, 3) := by decide +kernel
theorem dX3_findLaterAlike_26 : decode cX3_findLaterAlike 26 = .ok (.if_icmp .ge 30, 3) := by decide +kernel
theorem dX3_findLaterAlike_29 : decode cX3_findLaterAlike 29 = .ok (.aload_n 0, 1) := by decide +kernel
theorem dX3_findLaterAlike_30 : decode cX3_findLaterAlike 30 = .ok (.iload_n 1, 1) := by decide +kernel
theorem dX3_findLaterAlike_31 : decode cX3_findLaterAlike 31 = .ok (.iload_n 2, 1) := by decide +kernel
theorem dX3_findLaterAlike_32 : decode cX3_findLaterAlike 32 = .ok (.invokevirtual 89, 3) := by decide +kernel
theorem dX3_findLaterAlike_35 : decode cX3_findLaterAlike 35 = .ok (.ifCond .eq 15, 3) := by decide +kernel
theorem dX3_findLaterAlike_38 : decode cX3_findLaterAlike 38 = .ok (.aload_n 0, 1) := by decide +kernel
theorem dX3_findLaterAlike_39 : decode cX3_findLaterAlike 39 = .ok (.getfield 30, 3) := by decide +kernel
theorem dX3_findLaterAlike_42 : decode cX3_findLaterAlike 42 = .ok (.iload_n 1, 1) := by decide +kernel
theorem dX3_findLaterAlike_43 : decode cX3_findLaterAlike 43 = .ok (.dup2, 1) := by decide +kernel
theorem dX3_findLaterAlike_44 : decode cX3_findLaterAlike 44 = .ok (.iaload, 1) := by decide +kernel
theorem dX3_findLaterAlike_45 : decode cX3_findLaterAlike 45 = .ok (.iconst 1, 1) := by decide +kernel
theorem dX3_findLaterAlike_46 : decode cX3_findLaterAlike 46 = .ok (.iload_n 2, 1) := by decide +kernel
theorem dX3_findLaterAlike_47 : decode cX3_findLaterAlike 47 = .ok (.ishl, 1) := by decide +kernel
theorem dX3_findLaterAlike_48 : decode cX3_findLaterAlike 48 = .ok (.ior, 1) := by decide +kernel
theorem dX3_findLaterAlike_49 : decode cX3_findLaterAlike 49 = .ok (.iastore, 1) := by decide +kernel
theorem dX3_findLaterAlike_50 : decode cX3_findLaterAlike 50 = .ok (.iinc 2 1, 3) := by decide +kernel
theorem dX3_findLaterAlike_53 : decode cX3_findLaterAlike 53 = .ok (.goto (-32), 3) := by decide +kernel
theorem dX3_findLaterAlike_56 : decode cX3_findLaterAlike 56 = .ok (.iinc 1 1, 3) := by decide +kernel
theorem dX3_findLaterAlike_59 : decode cX3_findLaterAlike 59 = .ok (.goto (-57), 3) := by decide +kernel
theorem dX3_findLaterAlike_62 : decode cX3_findLaterAlike 62 = .ok (.return_, 1) := by decide +kernel
theorem dX3_bestSigns_0 : decode cX3_bestSigns 0 = .ok (.aload_n 0, 1) := by decide +kernel
theorem dX3_bestSigns_1 : decode cX3_bestSigns 1 = .ok (.invokevirtual 79, 3) := by decide +kernel
theorem dX3_bestSigns_4 : decode cX3_bestSigns 4 = .ok (.iconst (-1), 1) := by decide +kernel
theorem dX3_bestSigns_5 : decode cX3_bestSigns 5 = .ok (.istore_n 2, 1) := by decide +kernel
theorem dX3_bestSigns_6 : decode cX3_bestSigns 6 = .ok (.iconst 0, 1) := by decide +kernel
theorem dX3_bestSigns_7 : decode cX3_bestSigns 7 = .ok (.istore_n 3, 1) := by decide +kernel
theorem dX3_bestSigns_8 : decode cX3_bestSigns 8 = .ok (.iconst 0, 1) := by decide +kernel
theorem dX3_bestSigns_9 : decode cX3_bestSigns 9 = .ok (.istore 4, 2) := by decide +kernel
theorem dX3_bestSigns_11 : decode cX3_bestSigns 11 = .ok (.iload 4, 2) := by decide +kernel
theorem dX3_bestSigns_13 : decode cX3_bestSigns 13 = .ok (.aload_n 0, 1) := by decide +kernel
theorem dX3_bestSigns_14 : decode cX3_bestSigns 14 = .ok (.invokevirtual 56, 3) := by decide +kernel
theorem dX3_bestSigns_17 : decode cX3_bestSigns 17 = .ok (.if_icmp .gt 46, 3) := by decide +kernel
theorem dX3_bestSigns_20 : decode cX3_bestSigns 20 = .ok (.iload 4, 2) := by decide +kernel
theorem dX3_bestSigns_22 : decode cX3_bestSigns 22 = .ok (.invokestatic 92, 3) := by decide +kernel
theorem dX3_bestSigns_25 : decode cX3_bestSigns 25 = .ok (.iload_n 1, 1) := by decide +kernel
theorem dX3_bestSigns_26 : decode cX3_bestSigns 26 = .ok (.if_icmp .eq 6, 3) := by decide +kernel
theorem dX3_bestSigns_29 : decode cX3_bestSigns 29 = .ok (.goto 28, 3) := by decide +kernel
theorem dX3_bestSigns_32 : decode cX3_bestSigns 32 = .ok (.aload_n 0, 1) := by decide +kernel
theorem dX3_bestSigns_33 : decode cX3_bestSigns 33 = .ok (.iload 4, 2) := by decide +kernel
theorem dX3_bestSigns_35 : decode cX3_bestSigns 35 = .ok (.invokevirtual 82, 3) := by decide +kernel
theorem dX3_bestSigns_38 : decode cX3_bestSigns 38 = .ok (.istore 5, 2) := by decide +kernel
theorem dX3_bestSigns_40 : decode cX3_bestSigns 40 = .ok (.iload_n 2, 1) := by decide +kernel
theorem dX3_bestSigns_41 : decode cX3_bestSigns 41 = .ok (.iconst (-1), 1) := by decide +kernel
theorem dX3_bestSigns_42 : decode cX3_bestSigns 42 = .ok (.if_icmp .eq 9, 3) := by decide +kernel
theorem dX3_bestSigns_45 : decode cX3_bestSigns 45 = .ok (.iload 5, 2) := by decide +kernel
theorem dX3_bestSigns_47 : decode cX3_bestSigns 47 = .ok (.iload_n 3, 1) := by decide +kernel
theorem dX3_bestSigns_48 : decode cX3_bestSigns 48 = .ok (.if_icmp .ge 9, 3) := by decide +kernel
theorem dX3_bestSigns_51 : decode cX3_bestSigns 51 = .ok (.iload 4, 2) := by decide +kernel
theorem dX3_bestSigns_53 : decode cX3_bestSigns 53 = .ok (.istore_n 2, 1) := by decide +kernel
theorem dX3_bestSigns_54 : decode cX3_bestSigns 54 = .ok (.iload 5, 2) := by decide +kernel
theorem dX3_bestSigns_56 : decode cX3_bestSigns 56 = .ok (.istore_n 3, 1) := by decide +kernel
theorem dX3_bestSigns_57 : decode cX3_bestSigns 57 = .ok (.iinc 4 1, 3) := by decide +kernel
theorem dX3_bestSigns_60 : decode cX3_bestSigns 60 = .ok (.goto (-49), 3) := by decide +kernel
theorem dX3_bestSigns_63 : decode cX3_bestSigns 63 = .ok (.iload_n 2, 1) := by decide +kernel
theorem dX3_bestSigns_64 : decode cX3_bestSigns 64 = .ok (.ireturn, 1) := by decide +kernel
theorem dX3_findBetterAlike_0 : decode cX3_findBetterAlike 0 = .ok (.iconst 0, 1) := by decide +kernel
theorem dX3_findBetterAlike_1 : decode cX3_findBetterAlike 1 = .ok (.istore_n 1, 1) := by decide +kernel
theorem dX3_findBetterAlike_2 : decode cX3_findBetterAlike 2 = .ok (.iload_n 1, 1) := by decide +kernel
theorem dX3_findBetterAlike_3 : decode cX3_findBetterAlike 3 = .ok (.aload_n 0, 1) := by decide +kernel
theorem dX3_findBetterAlike_4 : decode cX3_findBetterAlike 4 = .ok (.getfield 36, 3) := by decide +kernel
theorem dX3_findBetterAlike_7 : decode cX3_findBetterAlike 7 = .ok (.if_icmp .ge 98, 3) := by decide +kernel
theorem dX3_findBetterAlike_10 : decode cX3_findBetterAlike 10 = .ok (.aload_n 0, 1) := by decide +kernel
theorem dX3_findBetterAlike_11 : decode cX3_findBetterAlike 11 = .ok (.getfield 30, 3) := by decide +kernel
theorem dX3_findBetterAlike_14 : decode cX3_findBetterAlike 14 = .ok (.iload_n 1, 1) := by decide +kernel
theorem dX3_findBetterAlike_15 : decode cX3_findBetterAlike 15 = .ok (.iconst 0, 1) := by decide +kernel
theorem dX3_findBetterAlike_16 : decode cX3_findBetterAlike 16 = .ok (.iastore, 1) := by decide +kernel
theorem dX3_findBetterAlike_17 : decode cX3_findBetterAlike 17 = .ok (.iconst 0, 1) := by decide +kernel
theorem dX3_findBetterAlike_18 : decode cX3_findBetterAlike 18 = .ok (.istore_n 2, 1) := by decide +kernel
theorem dX3_findBetterAlike_19 : decode cX3_findBetterAlike 19 = .ok (.iload_n 2, 1) := by decide +kernel
theorem dX3_findBetterAlike_20 : decode cX3_findBetterAlike 20 = .ok (.aload_n 0, 1) := by decide +kernel
theorem dX3_findBetterAlike_21 : decode cX3_findBetterAlike 21 = .ok (.getfield 36, 3) := by decide +kernel
theorem dX3_findBetterAlike_24 : decode cX3_findBetterAlike 24 = .ok (.if_icmp .ge 75, 3) := by decide +kernel
theorem dX3_findBetterAlike_27 : decode cX3_findBetterAlike 27 = .ok (.aload_n 0, 1) := by decide +kernel
theorem dX3_findBetterAlike_28 : decode cX3_findBetterAlike 28 = .ok (.getfield 18, 3) := by decide +kernel
theorem dX3_findBetterAlike_31 : decode cX3_findBetterAlike 31 = .ok (.iload_n 2, 1) := by decide +kernel
theorem dX3_findBetterAlike_32 : decode cX3_findBetterAlike 32 = .ok (.iaload, 1) := by decide +kernel
theorem dX3_findBetterAlike_33 : decode cX3_findBetterAlike 33 = .ok (.aload_n 0, 1) := by decide +kernel
theorem dX3_findBetterAlike_34 : decode cX3_findBetterAlike 34 = .ok (.getfield 18, 3) := by decide +kernel
theorem dX3_findBetterAlike_37 : decode cX3_findBetterAlike 37 = .ok (.iload_n 1, 1) := by decide +kernel
theorem dX3_findBetterAlike_38 : decode cX3_findBetterAlike 38 = .ok (.iaload, 1) := by decide +kernel
theorem dX3_findBetterAlike_39 : decode cX3_findBetterAlike 39 = .ok (.if_icmp .gt 23, 3) := by decide +kernel
theorem dX3_findBetterAlike_42 : decode cX3_findBetterAlike 42 = .ok (.aload_n 0, 1) := by decide +kernel
theorem dX3_findBetterAlike_43 : decode cX3_findBetterAlike 43 = .ok (.getfield 18, 3) := by decide +kernel
theorem dX3_findBetterAlike_46 : decode cX3_findBetterAlike 46 = .ok (.iload_n 2, 1) := by decide +kernel
theorem dX3_findBetterAlike_47 : decode cX3_findBetterAlike 47 = .ok (.iaload, 1) := by decide +kernel
theorem dX3_findBetterAlike_48 : decode cX3_findBetterAlike 48 = .ok (.aload_n 0, 1) := by decide +kernel
theorem dX3_findBetterAlike_49 : decode cX3_findBetterAlike 49 = .ok (.getfield 18, 3) := by decide +kernel
theorem dX3_findBetterAlike_52 : decode cX3_findBetterAlike 52 = .ok (.iload_n 1, 1) := by decide +kernel
theorem dX3_findBetterAlike_53 : decode cX3_findBetterAlike 53 = .ok (.iaload, 1) := by decide +kernel
theorem dX3_findBetterAlike_54 : decode cX3_findBetterAlike 54 = .ok (.if_icmp .ne 12, 3) := by decide +kernel
theorem dX3_findBetterAlike_57 : decode cX3_findBetterAlike 57 = .ok (.iload_n 2, 1) := by decide +kernel
theorem dX3_findBetterAlike_58 : decode cX3_findBetterAlike 58 = .ok (.iload_n 1, 1) := by decide +kernel
theorem dX3_findBetterAlike_59 : decode cX3_findBetterAlike 59 = .ok (.if_icmp .ge 7, 3) := by decide +kernel
theorem dX3_findBetterAlike_62 : decode cX3_findBetterAlike 62 = .ok (.iconst 1, 1) := by decide +kernel
theorem dX3_findBetterAlike_63 : decode cX3_findBetterAlike 63 = .ok (.goto 4, 3) := by decide +kernel
theorem dX3_findBetterAlike_66 : decode cX3_findBetterAlike 66 = .ok (.iconst 0, 1) := by decide +kernel
theorem dX3_findBetterAlike_67 : decode cX3_findBetterAlike 67 = .ok (.istore_n 3, 1) := by decide +kernel
theorem dX3_findBetterAlike_68 : decode cX3_findBetterAlike 68 = .ok (.iload_n 3, 1) := by decide +kernel
theorem dX3_findBetterAlike_69 : decode cX3_findBetterAlike 69 = .ok (.ifCond .eq 24, 3) := by decide +kernel
theorem dX3_findBetterAlike_72 : decode cX3_findBetterAlike 72 = .ok (.aload_n 0, 1) := by decide +kernel
theorem dX3_findBetterAlike_73 : decode cX3_findBetterAlike 73 = .ok (.iload_n 1, 1) := by decide +kernel
theorem dX3_findBetterAlike_74 : decode cX3_findBetterAlike 74 = .ok (.iload_n 2, 1) := by decide +kernel
theorem dX3_findBetterAlike_75 : decode cX3_findBetterAlike 75 = .ok (.invokevirtual 89, 3) := by decide +kernel
theorem dX3_findBetterAlike_78 : decode cX3_findBetterAlike 78 = .ok (.ifCond .eq 15, 3) := by decide +kernel
theorem dX3_findBetterAlike_81 : decode cX3_findBetterAlike 81 = .ok (.aload_n 0, 1) := by decide +kernel
theorem dX3_findBetterAlike_82 : decode cX3_findBetterAlike 82 = .ok (.getfield 30, 3) := by decide +kernel
theorem dX3_findBetterAlike_85 : decode cX3_findBetterAlike 85 = .ok (.iload_n 1, 1) := by decide +kernel
theorem dX3_findBetterAlike_86 : decode cX3_findBetterAlike 86 = .ok (.dup2, 1) := by decide +kernel
theorem dX3_findBetterAlike_87 : decode cX3_findBetterAlike 87 = .ok (.iaload, 1) := by decide +kernel
theorem dX3_findBetterAlike_88 : decode cX3_findBetterAlike 88 = .ok (.iconst 1, 1) := by decide +kernel
theorem dX3_findBetterAlike_89 : decode cX3_findBetterAlike 89 = .ok (.iload_n 2, 1) := by decide +kernel
theorem dX3_findBetterAlike_90 : decode cX3_findBetterAlike 90 = .ok (.ishl, 1) := by decide +kernel
theorem dX3_findBetterAlike_91 : decode cX3_findBetterAlike 91 = .ok (.ior, 1) := by decide +kernel
theorem dX3_findBetterAlike_92 : decode cX3_findBetterAlike 92 = .ok (.iastore, 1) := by decide +kernel
theorem dX3_findBetterAlike_93 : decode cX3_findBetterAlike 93 = .ok (.iinc 2 1, 3) := by decide +kernel
theorem dX3_findBetterAlike_96 : decode cX3_findBetterAlike 96 = .ok (.goto (-77), 3) := by decide +kernel
theorem dX3_findBetterAlike_99 : decode cX3_findBetterAlike 99 = .ok (.iinc 1 1, 3) := by decide +kernel
theorem dX3_findBetterAlike_102 : decode cX3_findBetterAlike 102 = .ok (.goto (-100), 3) := by decide +kernel
theorem dX3_findBetterAlike_105 : decode cX3_findBetterAlike 105 = .ok (.return_, 1) := by decide +kernel
theorem dX3_gotten_0 : decode cX3_gotten 0 = .ok (.aload_n 0, 1) := by decide +kernel
theorem dX3_gotten_1 : decode cX3_gotten 1 = .ok (.invokevirtual 97, 3) := by decide +kernel
theorem dX3_gotten_4 : decode cX3_gotten 4 = .ok (.aload_n 0, 1) := by decide +kernel
theorem dX3_gotten_5 : decode cX3_gotten 5 = .ok (.iload_n 1, 1) := by decide +kernel
theorem dX3_gotten_6 : decode cX3_gotten 6 = .ok (.invokevirtual 100, 3) := by decide +kernel
theorem dX3_gotten_9 : decode cX3_gotten 9 = .ok (.ireturn, 1) := by decide +kernel
theorem dX3_gottenOf_0 : decode cX3_gottenOf 0 = .ok (.iconst 0, 1) := by decide +kernel
theorem dX3_gottenOf_1 : decode cX3_gottenOf 1 = .ok (.istore_n 2, 1) := by decide +kernel
theorem dX3_gottenOf_2 : decode cX3_gottenOf 2 = .ok (.iconst 0, 1) := by decide +kernel
theorem dX3_gottenOf_3 : decode cX3_gottenOf 3 = .ok (.istore_n 3, 1) := by decide +kernel
theorem dX3_gottenOf_4 : decode cX3_gottenOf 4 = .ok (.iload_n 3, 1) := by decide +kernel
theorem dX3_gottenOf_5 : decode cX3_gottenOf 5 = .ok (.aload_n 0, 1) := by decide +kernel
theorem dX3_gottenOf_6 : decode cX3_gottenOf 6 = .ok (.getfield 36, 3) := by decide +kernel
theorem dX3_gottenOf_9 : decode cX3_gottenOf 9 = .ok (.if_icmp .ge 34, 3) := by decide +kernel
theorem dX3_gottenOf_12 : decode cX3_gottenOf 12 = .ok (.iload_n 1, 1) := by decide +kernel
theorem dX3_gottenOf_13 : decode cX3_gottenOf 13 = .ok (.iload_n 3, 1) := by decide +kernel
theorem dX3_gottenOf_14 : decode cX3_gottenOf 14 = .ok (.invokestatic 76, 3) := by decide +kernel
theorem dX3_gottenOf_17 : decode cX3_gottenOf 17 = .ok (.ifCond .eq 20, 3) := by decide +kernel
theorem dX3_gottenOf_20 : decode cX3_gottenOf 20 = .ok (.aload_n 0, 1) := by decide +kernel
theorem dX3_gottenOf_21 : decode cX3_gottenOf 21 = .ok (.getfield 30, 3) := by decide +kernel
theorem dX3_gottenOf_24 : decode cX3_gottenOf 24 = .ok (.iload_n 3, 1) := by decide +kernel
theorem dX3_gottenOf_25 : decode cX3_gottenOf 25 = .ok (.iaload, 1) := by decide +kernel
theorem dX3_gottenOf_26 : decode cX3_gottenOf 26 = .ok (.iload_n 1, 1) := by decide +kernel
theorem dX3_gottenOf_27 : decode cX3_gottenOf 27 = .ok (.iand, 1) := by decide +kernel
theorem dX3_gottenOf_28 : decode cX3_gottenOf 28 = .ok (.ifCond .ne 9, 3) := by decide +kernel
theorem dX3_gottenOf_31 : decode cX3_gottenOf 31 = .ok (.iload_n 2, 1) := by decide +kernel
theorem dX3_gottenOf_32 : decode cX3_gottenOf 32 = .ok (.iconst 1, 1) := by decide +kernel
theorem dX3_gottenOf_33 : decode cX3_gottenOf 33 = .ok (.iload_n 3, 1) := by decide +kernel
theorem dX3_gottenOf_34 : decode cX3_gottenOf 34 = .ok (.ishl, 1) := by decide +kernel
theorem dX3_gottenOf_35 : decode cX3_gottenOf 35 = .ok (.ior, 1) := by decide +kernel
theorem dX3_gottenOf_36 : decode cX3_gottenOf 36 = .ok (.istore_n 2, 1) := by decide +kernel
theorem dX3_gottenOf_37 : decode cX3_gottenOf 37 = .ok (.iinc 3 1, 3) := by decide +kernel
theorem dX3_gottenOf_40 : decode cX3_gottenOf 40 = .ok (.goto (-36), 3) := by decide +kernel
theorem dX3_gottenOf_43 : decode cX3_gottenOf 43 = .ok (.iload_n 2, 1) := by decide +kernel
theorem dX3_gottenOf_44 : decode cX3_gottenOf 44 = .ok (.ireturn, 1) := by decide +kernel
theorem dX3_bestTaught_0 : decode cX3_bestTaught 0 = .ok (.aload_n 0, 1) := by decide +kernel
theorem dX3_bestTaught_1 : decode cX3_bestTaught 1 = .ok (.invokevirtual 97, 3) := by decide +kernel
theorem dX3_bestTaught_4 : decode cX3_bestTaught 4 = .ok (.iconst (-1), 1) := by decide +kernel
theorem dX3_bestTaught_5 : decode cX3_bestTaught 5 = .ok (.istore_n 2, 1) := by decide +kernel
theorem dX3_bestTaught_6 : decode cX3_bestTaught 6 = .ok (.iconst 0, 1) := by decide +kernel
theorem dX3_bestTaught_7 : decode cX3_bestTaught 7 = .ok (.istore_n 3, 1) := by decide +kernel
theorem dX3_bestTaught_8 : decode cX3_bestTaught 8 = .ok (.iconst 0, 1) := by decide +kernel
theorem dX3_bestTaught_9 : decode cX3_bestTaught 9 = .ok (.istore 4, 2) := by decide +kernel
theorem dX3_bestTaught_11 : decode cX3_bestTaught 11 = .ok (.iload 4, 2) := by decide +kernel
theorem dX3_bestTaught_13 : decode cX3_bestTaught 13 = .ok (.aload_n 0, 1) := by decide +kernel
theorem dX3_bestTaught_14 : decode cX3_bestTaught 14 = .ok (.invokevirtual 56, 3) := by decide +kernel
theorem dX3_bestTaught_17 : decode cX3_bestTaught 17 = .ok (.if_icmp .gt 65, 3) := by decide +kernel
theorem dX3_bestTaught_20 : decode cX3_bestTaught 20 = .ok (.iload 4, 2) := by decide +kernel
theorem dX3_bestTaught_22 : decode cX3_bestTaught 22 = .ok (.aload_n 0, 1) := by decide +kernel
theorem dX3_bestTaught_23 : decode cX3_bestTaught 23 = .ok (.getfield 43, 3) := by decide +kernel
theorem dX3_bestTaught_26 : decode cX3_bestTaught 26 = .ok (.iand, 1) := by decide +kernel
theorem dX3_bestTaught_27 : decode cX3_bestTaught 27 = .ok (.ifCond .ne 49, 3) := by decide +kernel
theorem dX3_bestTaught_30 : decode cX3_bestTaught 30 = .ok (.iload 4, 2) := by decide +kernel
theorem dX3_bestTaught_32 : decode cX3_bestTaught 32 = .ok (.invokestatic 92, 3) := by decide +kernel
theorem dX3_bestTaught_35 : decode cX3_bestTaught 35 = .ok (.iload_n 1, 1) := by decide +kernel
theorem dX3_bestTaught_36 : decode cX3_bestTaught 36 = .ok (.if_icmp .eq 6, 3) := by decide +kernel
theorem dX3_bestTaught_39 : decode cX3_bestTaught 39 = .ok (.goto 37, 3) := by decide +kernel
theorem dX3_bestTaught_42 : decode cX3_bestTaught 42 = .ok (.aload_n 0, 1) := by decide +kernel
theorem dX3_bestTaught_43 : decode cX3_bestTaught 43 = .ok (.aload_n 0, 1) := by decide +kernel
theorem dX3_bestTaught_44 : decode cX3_bestTaught 44 = .ok (.aload_n 0, 1) := by decide +kernel
theorem dX3_bestTaught_45 : decode cX3_bestTaught 45 = .ok (.getfield 43, 3) := by decide +kernel
theorem dX3_bestTaught_48 : decode cX3_bestTaught 48 = .ok (.iload 4, 2) := by decide +kernel
theorem dX3_bestTaught_50 : decode cX3_bestTaught 50 = .ok (.ior, 1) := by decide +kernel
theorem dX3_bestTaught_51 : decode cX3_bestTaught 51 = .ok (.invokevirtual 100, 3) := by decide +kernel
theorem dX3_bestTaught_54 : decode cX3_bestTaught 54 = .ok (.invokevirtual 86, 3) := by decide +kernel
theorem dX3_bestTaught_57 : decode cX3_bestTaught 57 = .ok (.istore 5, 2) := by decide +kernel
theorem dX3_bestTaught_59 : decode cX3_bestTaught 59 = .ok (.iload_n 2, 1) := by decide +kernel
theorem dX3_bestTaught_60 : decode cX3_bestTaught 60 = .ok (.iconst (-1), 1) := by decide +kernel
theorem dX3_bestTaught_61 : decode cX3_bestTaught 61 = .ok (.if_icmp .eq 9, 3) := by decide +kernel
theorem dX3_bestTaught_64 : decode cX3_bestTaught 64 = .ok (.iload 5, 2) := by decide +kernel
theorem dX3_bestTaught_66 : decode cX3_bestTaught 66 = .ok (.iload_n 3, 1) := by decide +kernel
theorem dX3_bestTaught_67 : decode cX3_bestTaught 67 = .ok (.if_icmp .le 9, 3) := by decide +kernel
theorem dX3_bestTaught_70 : decode cX3_bestTaught 70 = .ok (.iload 4, 2) := by decide +kernel
theorem dX3_bestTaught_72 : decode cX3_bestTaught 72 = .ok (.istore_n 2, 1) := by decide +kernel
theorem dX3_bestTaught_73 : decode cX3_bestTaught 73 = .ok (.iload 5, 2) := by decide +kernel
theorem dX3_bestTaught_75 : decode cX3_bestTaught 75 = .ok (.istore_n 3, 1) := by decide +kernel
theorem dX3_bestTaught_76 : decode cX3_bestTaught 76 = .ok (.iinc 4 1, 3) := by decide +kernel
theorem dX3_bestTaught_79 : decode cX3_bestTaught 79 = .ok (.goto (-68), 3) := by decide +kernel
theorem dX3_bestTaught_82 : decode cX3_bestTaught 82 = .ok (.iload_n 2, 1) := by decide +kernel
theorem dX3_bestTaught_83 : decode cX3_bestTaught 83 = .ok (.ireturn, 1) := by decide +kernel
theorem dX3_digestWordsOnto_0 : decode cX3_digestWordsOnto 0 = .ok (.lload_n 1, 1) := by decide +kernel
theorem dX3_digestWordsOnto_1 : decode cX3_digestWordsOnto 1 = .ok (.lstore_n 3, 1) := by decide +kernel
theorem dX3_digestWordsOnto_2 : decode cX3_digestWordsOnto 2 = .ok (.iconst 0, 1) := by decide +kernel
theorem dX3_digestWordsOnto_3 : decode cX3_digestWordsOnto 3 = .ok (.istore 5, 2) := by decide +kernel
theorem dX3_digestWordsOnto_5 : decode cX3_digestWordsOnto 5 = .ok (.iload 5, 2) := by decide +kernel
theorem dX3_digestWordsOnto_7 : decode cX3_digestWordsOnto 7 = .ok (.bipush 6, 2) := by decide +kernel
theorem dX3_digestWordsOnto_9 : decode cX3_digestWordsOnto 9 = .ok (.if_icmp .ge 21, 3) := by decide +kernel
theorem dX3_digestWordsOnto_12 : decode cX3_digestWordsOnto 12 = .ok (.lload_n 3, 1) := by decide +kernel
theorem dX3_digestWordsOnto_13 : decode cX3_digestWordsOnto 13 = .ok (.aload_n 0, 1) := by decide +kernel
theorem dX3_digestWordsOnto_14 : decode cX3_digestWordsOnto 14 = .ok (.getfield 21, 3) := by decide +kernel
theorem dX3_digestWordsOnto_17 : decode cX3_digestWordsOnto 17 = .ok (.iload 5, 2) := by decide +kernel
theorem dX3_digestWordsOnto_19 : decode cX3_digestWordsOnto 19 = .ok (.iaload, 1) := by decide +kernel
theorem dX3_digestWordsOnto_20 : decode cX3_digestWordsOnto 20 = .ok (.invokestatic 103, 3) := by decide +kernel
theorem dX3_digestWordsOnto_23 : decode cX3_digestWordsOnto 23 = .ok (.lstore_n 3, 1) := by decide +kernel
theorem dX3_digestWordsOnto_24 : decode cX3_digestWordsOnto 24 = .ok (.iinc 5 1, 3) := by decide +kernel
theorem dX3_digestWordsOnto_27 : decode cX3_digestWordsOnto 27 = .ok (.goto (-22), 3) := by decide +kernel
theorem dX3_digestWordsOnto_30 : decode cX3_digestWordsOnto 30 = .ok (.iconst 0, 1) := by decide +kernel
theorem dX3_digestWordsOnto_31 : decode cX3_digestWordsOnto 31 = .ok (.istore 5, 2) := by decide +kernel
theorem dX3_digestWordsOnto_33 : decode cX3_digestWordsOnto 33 = .ok (.iload 5, 2) := by decide +kernel
theorem dX3_digestWordsOnto_35 : decode cX3_digestWordsOnto 35 = .ok (.aload_n 0, 1) := by decide +kernel
theorem dX3_digestWordsOnto_36 : decode cX3_digestWordsOnto 36 = .ok (.getfield 36, 3) := by decide +kernel
theorem dX3_digestWordsOnto_39 : decode cX3_digestWordsOnto 39 = .ok (.if_icmp .ge 41, 3) := by decide +kernel
theorem dX3_digestWordsOnto_42 : decode cX3_digestWordsOnto 42 = .ok (.lload_n 3, 1) := by decide +kernel
theorem dX3_digestWordsOnto_43 : decode cX3_digestWordsOnto 43 = .ok (.aload_n 0, 1) := by decide +kernel
theorem dX3_digestWordsOnto_44 : decode cX3_digestWordsOnto 44 = .ok (.getfield 11, 3) := by decide +kernel
theorem dX3_digestWordsOnto_47 : decode cX3_digestWordsOnto 47 = .ok (.iload 5, 2) := by decide +kernel
theorem dX3_digestWordsOnto_49 : decode cX3_digestWordsOnto 49 = .ok (.iaload, 1) := by decide +kernel
theorem dX3_digestWordsOnto_50 : decode cX3_digestWordsOnto 50 = .ok (.invokestatic 103, 3) := by decide +kernel
theorem dX3_digestWordsOnto_53 : decode cX3_digestWordsOnto 53 = .ok (.aload_n 0, 1) := by decide +kernel
theorem dX3_digestWordsOnto_54 : decode cX3_digestWordsOnto 54 = .ok (.getfield 15, 3) := by decide +kernel
theorem dX3_digestWordsOnto_57 : decode cX3_digestWordsOnto 57 = .ok (.iload 5, 2) := by decide +kernel
theorem dX3_digestWordsOnto_59 : decode cX3_digestWordsOnto 59 = .ok (.iaload, 1) := by decide +kernel
theorem dX3_digestWordsOnto_60 : decode cX3_digestWordsOnto 60 = .ok (.invokestatic 103, 3) := by decide +kernel
theorem dX3_digestWordsOnto_63 : decode cX3_digestWordsOnto 63 = .ok (.aload_n 0, 1) := by decide +kernel
theorem dX3_digestWordsOnto_64 : decode cX3_digestWordsOnto 64 = .ok (.getfield 18, 3) := by decide +kernel
theorem dX3_digestWordsOnto_67 : decode cX3_digestWordsOnto 67 = .ok (.iload 5, 2) := by decide +kernel
theorem dX3_digestWordsOnto_69 : decode cX3_digestWordsOnto 69 = .ok (.iaload, 1) := by decide +kernel
theorem dX3_digestWordsOnto_70 : decode cX3_digestWordsOnto 70 = .ok (.invokestatic 103, 3) := by decide +kernel
theorem dX3_digestWordsOnto_73 : decode cX3_digestWordsOnto 73 = .ok (.lstore_n 3, 1) := by decide +kernel
theorem dX3_digestWordsOnto_74 : decode cX3_digestWordsOnto 74 = .ok (.iinc 5 1, 3) := by decide +kernel
theorem dX3_digestWordsOnto_77 : decode cX3_digestWordsOnto 77 = .ok (.goto (-44), 3) := by decide +kernel
theorem dX3_digestWordsOnto_80 : decode cX3_digestWordsOnto 80 = .ok (.iconst 0, 1) := by decide +kernel
theorem dX3_digestWordsOnto_81 : decode cX3_digestWordsOnto 81 = .ok (.istore 5, 2) := by decide +kernel
theorem dX3_digestWordsOnto_83 : decode cX3_digestWordsOnto 83 = .ok (.iload 5, 2) := by decide +kernel
theorem dX3_digestWordsOnto_85 : decode cX3_digestWordsOnto 85 = .ok (.aload_n 0, 1) := by decide +kernel
theorem dX3_digestWordsOnto_86 : decode cX3_digestWordsOnto 86 = .ok (.getfield 40, 3) := by decide +kernel
theorem dX3_digestWordsOnto_89 : decode cX3_digestWordsOnto 89 = .ok (.if_icmp .ge 21, 3) := by decide +kernel
theorem dX3_digestWordsOnto_92 : decode cX3_digestWordsOnto 92 = .ok (.lload_n 3, 1) := by decide +kernel
theorem dX3_digestWordsOnto_93 : decode cX3_digestWordsOnto 93 = .ok (.aload_n 0, 1) := by decide +kernel
theorem dX3_digestWordsOnto_94 : decode cX3_digestWordsOnto 94 = .ok (.getfield 24, 3) := by decide +kernel
theorem dX3_digestWordsOnto_97 : decode cX3_digestWordsOnto 97 = .ok (.iload 5, 2) := by decide +kernel
theorem dX3_digestWordsOnto_99 : decode cX3_digestWordsOnto 99 = .ok (.iaload, 1) := by decide +kernel
theorem dX3_digestWordsOnto_100 : decode cX3_digestWordsOnto 100 = .ok (.invokestatic 103, 3) := by decide +kernel
theorem dX3_digestWordsOnto_103 : decode cX3_digestWordsOnto 103 = .ok (.lstore_n 3, 1) := by decide +kernel
theorem dX3_digestWordsOnto_104 : decode cX3_digestWordsOnto 104 = .ok (.iinc 5 1, 3) := by decide +kernel
theorem dX3_digestWordsOnto_107 : decode cX3_digestWordsOnto 107 = .ok (.goto (-24), 3) := by decide +kernel
theorem dX3_digestWordsOnto_110 : decode cX3_digestWordsOnto 110 = .ok (.lload_n 3, 1) := by decide +kernel
theorem dX3_digestWordsOnto_111 : decode cX3_digestWordsOnto 111 = .ok (.lreturn, 1) := by decide +kernel
theorem dX4_init_0 : decode cX4_init 0 = .ok (.aload_n 0, 1) := by decide +kernel
theorem dX4_init_1 : decode cX4_init 1 = .ok (.invokespecial 5, 3) := by decide +kernel
theorem dX4_init_4 : decode cX4_init 4 = .ok (.aload_n 0, 1) := by decide +kernel
theorem dX4_init_5 : decode cX4_init 5 = .ok (.bipush 40, 2) := by decide +kernel
theorem dX4_init_7 : decode cX4_init 7 = .ok (.newarray .int, 2) := by decide +kernel
theorem dX4_init_9 : decode cX4_init 9 = .ok (.putfield 11, 3) := by decide +kernel
theorem dX4_init_12 : decode cX4_init 12 = .ok (.return_, 1) := by decide +kernel
theorem dX4_limbAt_0 : decode cX4_limbAt 0 = .ok (.iload_n 1, 1) := by decide +kernel
theorem dX4_limbAt_1 : decode cX4_limbAt 1 = .ok (.iconst 0, 1) := by decide +kernel
theorem dX4_limbAt_2 : decode cX4_limbAt 2 = .ok (.aload_n 0, 1) := by decide +kernel
theorem dX4_limbAt_3 : decode cX4_limbAt 3 = .ok (.getfield 15, 3) := by decide +kernel
theorem dX4_limbAt_6 : decode cX4_limbAt 6 = .ok (.iconst 1, 1) := by decide +kernel
theorem dX4_limbAt_7 : decode cX4_limbAt 7 = .ok (.isub, 1) := by decide +kernel
theorem dX4_limbAt_8 : decode cX4_limbAt 8 = .ok (.invokestatic 19, 3) := by decide +kernel
theorem dX4_limbAt_11 : decode cX4_limbAt 11 = .ok (.ifCond .eq 12, 3) := by decide +kernel
theorem dX4_limbAt_14 : decode cX4_limbAt 14 = .ok (.aload_n 0, 1) := by decide +kernel
theorem dX4_limbAt_15 : decode cX4_limbAt 15 = .ok (.getfield 11, 3) := by decide +kernel
theorem dX4_limbAt_18 : decode cX4_limbAt 18 = .ok (.iload_n 1, 1) := by decide +kernel
theorem dX4_limbAt_19 : decode cX4_limbAt 19 = .ok (.iaload, 1) := by decide +kernel
theorem dX4_limbAt_20 : decode cX4_limbAt 20 = .ok (.goto 4, 3) := by decide +kernel
theorem dX4_limbAt_23 : decode cX4_limbAt 23 = .ok (.iconst (-1), 1) := by decide +kernel
theorem dX4_limbAt_24 : decode cX4_limbAt 24 = .ok (.ireturn, 1) := by decide +kernel
theorem dX4_put_0 : decode cX4_put 0 = .ok (.aload_n 0, 1) := by decide +kernel
theorem dX4_put_1 : decode cX4_put 1 = .ok (.getfield 11, 3) := by decide +kernel
theorem dX4_put_4 : decode cX4_put 4 = .ok (.iconst 0, 1) := by decide +kernel
theorem dX4_put_5 : decode cX4_put 5 = .ok (.iload_n 1, 1) := by decide +kernel
theorem dX4_put_6 : decode cX4_put 6 = .ok (.iastore, 1) := by decide +kernel
theorem dX4_put_7 : decode cX4_put 7 = .ok (.aload_n 0, 1) := by decide +kernel
theorem dX4_put_8 : decode cX4_put 8 = .ok (.iload_n 1, 1) := by decide +kernel
theorem dX4_put_9 : decode cX4_put 9 = .ok (.ifCond .ne 7, 3) := by decide +kernel
theorem dX4_put_12 : decode cX4_put 12 = .ok (.iconst 0, 1) := by decide +kernel
theorem dX4_put_13 : decode cX4_put 13 = .ok (.goto 4, 3) := by decide +kernel
theorem dX4_put_16 : decode cX4_put 16 = .ok (.iconst 1, 1) := by decide +kernel
theorem dX4_put_17 : decode cX4_put 17 = .ok (.putfield 15, 3) := by decide +kernel
theorem dX4_put_20 : decode cX4_put 20 = .ok (.return_, 1) := by decide +kernel
theorem dX4_copyFrom_0 : decode cX4_copyFrom 0 = .ok (.aload_n 1, 1) := by decide +kernel
theorem dX4_copyFrom_1 : decode cX4_copyFrom 1 = .ok (.getfield 11, 3) := by decide +kernel
theorem dX4_copyFrom_4 : decode cX4_copyFrom 4 = .ok (.iconst 0, 1) := by decide +kernel
theorem dX4_copyFrom_5 : decode cX4_copyFrom 5 = .ok (.aload_n 0, 1) := by decide +kernel
theorem dX4_copyFrom_6 : decode cX4_copyFrom 6 = .ok (.getfield 11, 3) := by decide +kernel
theorem dX4_copyFrom_9 : decode cX4_copyFrom 9 = .ok (.iconst 0, 1) := by decide +kernel
theorem dX4_copyFrom_10 : decode cX4_copyFrom 10 = .ok (.aload_n 1, 1) := by decide +kernel
theorem dX4_copyFrom_11 : decode cX4_copyFrom 11 = .ok (.getfield 15, 3) := by decide +kernel
theorem dX4_copyFrom_14 : decode cX4_copyFrom 14 = .ok (.invokestatic 23, 3) := by decide +kernel
theorem dX4_copyFrom_17 : decode cX4_copyFrom 17 = .ok (.aload_n 0, 1) := by decide +kernel
theorem dX4_copyFrom_18 : decode cX4_copyFrom 18 = .ok (.aload_n 1, 1) := by decide +kernel
theorem dX4_copyFrom_19 : decode cX4_copyFrom 19 = .ok (.getfield 15, 3) := by decide +kernel
theorem dX4_copyFrom_22 : decode cX4_copyFrom 22 = .ok (.putfield 15, 3) := by decide +kernel
theorem dX4_copyFrom_25 : decode cX4_copyFrom 25 = .ok (.return_, 1) := by decide +kernel
theorem dX4_multiply_0 : decode cX4_multiply 0 = .ok (.lconst 0, 1) := by decide +kernel
theorem dX4_multiply_1 : decode cX4_multiply 1 = .ok (.lstore_n 2, 1) := by decide +kernel
theorem dX4_multiply_2 : decode cX4_multiply 2 = .ok (.iconst 0, 1) := by decide +kernel
theorem dX4_multiply_3 : decode cX4_multiply 3 = .ok (.istore 4, 2) := by decide +kernel
theorem dX4_multiply_5 : decode cX4_multiply 5 = .ok (.iload 4, 2) := by decide +kernel
theorem dX4_multiply_7 : decode cX4_multiply 7 = .ok (.aload_n 0, 1) := by decide +kernel
theorem dX4_multiply_8 : decode cX4_multiply 8 = .ok (.getfield 15, 3) := by decide +kernel
theorem dX4_multiply_11 : decode cX4_multiply 11 = .ok (.if_icmp .ge 41, 3) := by decide +kernel
theorem dX4_multiply_14 : decode cX4_multiply 14 = .ok (.lload_n 2, 1) := by decide +kernel
theorem dX4_multiply_15 : decode cX4_multiply 15 = .ok (.aload_n 0, 1) := by decide +kernel
theorem dX4_multiply_16 : decode cX4_multiply 16 = .ok (.getfield 11, 3) := by decide +kernel
theorem dX4_multiply_19 : decode cX4_multiply 19 = .ok (.iload 4, 2) := by decide +kernel
theorem dX4_multiply_21 : decode cX4_multiply 21 = .ok (.iaload, 1) := by decide +kernel
theorem dX4_multiply_22 : decode cX4_multiply 22 = .ok (.i2l, 1) := by decide +kernel
theorem dX4_multiply_23 : decode cX4_multiply 23 = .ok (.iload_n 1, 1) := by decide +kernel
theorem dX4_multiply_24 : decode cX4_multiply 24 = .ok (.i2l, 1) := by decide +kernel
theorem dX4_multiply_25 : decode cX4_multiply 25 = .ok (.lmul, 1) := by decide +kernel
theorem dX4_multiply_26 : decode cX4_multiply 26 = .ok (.ladd, 1) := by decide +kernel
theorem dX4_multiply_27 : decode cX4_multiply 27 = .ok (.lstore_n 2, 1) := by decide +kernel
theorem dX4_multiply_28 : decode cX4_multiply 28 = .ok (.aload_n 0, 1) := by decide +kernel
theorem dX4_multiply_29 : decode cX4_multiply 29 = .ok (.getfield 11, 3) := by decide +kernel
theorem dX4_multiply_32 : decode cX4_multiply 32 = .ok (.iload 4, 2) := by decide +kernel
theorem dX4_multiply_34 : decode cX4_multiply 34 = .ok (.lload_n 2, 1) := by decide +kernel
theorem dX4_multiply_35 : decode cX4_multiply 35 = .ok (.ldc2_w 29, 3) := by decide +kernel
theorem dX4_multiply_38 : decode cX4_multiply 38 = .ok (.land, 1) := by decide +kernel
theorem dX4_multiply_39 : decode cX4_multiply 39 = .ok (.l2i, 1) := by decide +kernel
theorem dX4_multiply_40 : decode cX4_multiply 40 = .ok (.iastore, 1) := by decide +kernel
theorem dX4_multiply_41 : decode cX4_multiply 41 = .ok (.lload_n 2, 1) := by decide +kernel
theorem dX4_multiply_42 : decode cX4_multiply 42 = .ok (.bipush 30, 2) := by decide +kernel
theorem dX4_multiply_44 : decode cX4_multiply 44 = .ok (.lshr, 1) := by decide +kernel
theorem dX4_multiply_45 : decode cX4_multiply 45 = .ok (.lstore_n 2, 1) := by decide +kernel
theorem dX4_multiply_46 : decode cX4_multiply 46 = .ok (.iinc 4 1, 3) := by decide +kernel
theorem dX4_multiply_49 : decode cX4_multiply 49 = .ok (.goto (-44), 3) := by decide +kernel
theorem dX4_multiply_52 : decode cX4_multiply 52 = .ok (.lload_n 2, 1) := by decide +kernel
theorem dX4_multiply_53 : decode cX4_multiply 53 = .ok (.lconst 0, 1) := by decide +kernel
theorem dX4_multiply_54 : decode cX4_multiply 54 = .ok (.lcmp, 1) := by decide +kernel
theorem dX4_multiply_55 : decode cX4_multiply 55 = .ok (.ifCond .le 33, 3) := by decide +kernel
theorem dX4_multiply_58 : decode cX4_multiply 58 = .ok (.aload_n 0, 1) := by decide +kernel
theorem dX4_multiply_59 : decode cX4_multiply 59 = .ok (.getfield 15, 3) := by decide +kernel
theorem dX4_multiply_62 : decode cX4_multiply 62 = .ok (.bipush 40, 2) := by decide +kernel
theorem dX4_multiply_64 : decode cX4_multiply 64 = .ok (.if_icmp .ge 24, 3) := by decide +kernel
theorem dX4_multiply_67 : decode cX4_multiply 67 = .ok (.aload_n 0, 1) := by decide +kernel
theorem dX4_multiply_68 : decode cX4_multiply 68 = .ok (.getfield 11, 3) := by decide +kernel
theorem dX4_multiply_71 : decode cX4_multiply 71 = .ok (.aload_n 0, 1) := by decide +kernel
theorem dX4_multiply_72 : decode cX4_multiply 72 = .ok (.getfield 15, 3) := by decide +kernel
theorem dX4_multiply_75 : decode cX4_multiply 75 = .ok (.lload_n 2, 1) := by decide +kernel
theorem dX4_multiply_76 : decode cX4_multiply 76 = .ok (.l2i, 1) := by decide +kernel
theorem dX4_multiply_77 : decode cX4_multiply 77 = .ok (.iastore, 1) := by decide +kernel
theorem dX4_multiply_78 : decode cX4_multiply 78 = .ok (.aload_n 0, 1) := by decide +kernel
theorem dX4_multiply_79 : decode cX4_multiply 79 = .ok (.dup, 1) := by decide +kernel
theorem dX4_multiply_80 : decode cX4_multiply 80 = .ok (.getfield 15, 3) := by decide +kernel
theorem dX4_multiply_83 : decode cX4_multiply 83 = .ok (.iconst 1, 1) := by decide +kernel
theorem dX4_multiply_84 : decode cX4_multiply 84 = .ok (.iadd, 1) := by decide +kernel
theorem dX4_multiply_85 : decode cX4_multiply 85 = .ok (.putfield 15, 3) := by decide +kernel
theorem dX4_multiply_88 : decode cX4_multiply 88 = .ok (.return_, 1) := by decide +kernel
theorem dX4_addTimes_0 : decode cX4_addTimes 0 = .ok (.lconst 0, 1) := by decide +kernel
theorem dX4_addTimes_1 : decode cX4_addTimes 1 = .ok (.lstore_n 3, 1) := by decide +kernel
theorem dX4_addTimes_2 : decode cX4_addTimes 2 = .ok (.iconst 0, 1) := by decide +kernel
theorem dX4_addTimes_3 : decode cX4_addTimes 3 = .ok (.istore 5, 2) := by decide +kernel
theorem dX4_addTimes_5 : decode cX4_addTimes 5 = .ok (.iload 5, 2) := by decide +kernel
theorem dX4_addTimes_7 : decode cX4_addTimes 7 = .ok (.bipush 40, 2) := by decide +kernel
theorem dX4_addTimes_9 : decode cX4_addTimes 9 = .ok (.if_icmp .ge 109, 3) := by decide +kernel
theorem dX4_addTimes_12 : decode cX4_addTimes 12 = .ok (.iload 5, 2) := by decide +kernel
theorem dX4_addTimes_14 : decode cX4_addTimes 14 = .ok (.aload_n 1, 1) := by decide +kernel
theorem dX4_addTimes_15 : decode cX4_addTimes 15 = .ok (.getfield 15, 3) := by decide +kernel
theorem dX4_addTimes_18 : decode cX4_addTimes 18 = .ok (.if_icmp .lt 9, 3) := by decide +kernel
theorem dX4_addTimes_21 : decode cX4_addTimes 21 = .ok (.lload_n 3, 1) := by decide +kernel
theorem dX4_addTimes_22 : decode cX4_addTimes 22 = .ok (.lconst 0, 1) := by decide +kernel
theorem dX4_addTimes_23 : decode cX4_addTimes 23 = .ok (.lcmp, 1) := by decide +kernel
theorem dX4_addTimes_24 : decode cX4_addTimes 24 = .ok (.ifCond .le 94, 3) := by decide +kernel
theorem dX4_addTimes_27 : decode cX4_addTimes 27 = .ok (.lload_n 3, 1) := by decide +kernel
theorem dX4_addTimes_28 : decode cX4_addTimes 28 = .ok (.iload 5, 2) := by decide +kernel
theorem dX4_addTimes_30 : decode cX4_addTimes 30 = .ok (.aload_n 0, 1) := by decide +kernel
theorem dX4_addTimes_31 : decode cX4_addTimes 31 = .ok (.getfield 15, 3) := by decide +kernel
theorem dX4_addTimes_34 : decode cX4_addTimes 34 = .ok (.if_icmp .ge 13, 3) := by decide +kernel
theorem dX4_addTimes_37 : decode cX4_addTimes 37 = .ok (.aload_n 0, 1) := by decide +kernel
theorem dX4_addTimes_38 : decode cX4_addTimes 38 = .ok (.getfield 11, 3) := by decide +kernel
theorem dX4_addTimes_41 : decode cX4_addTimes 41 = .ok (.iload 5, 2) := by decide +kernel
theorem dX4_addTimes_43 : decode cX4_addTimes 43 = .ok (.iaload, 1) := by decide +kernel
theorem dX4_addTimes_44 : decode cX4_addTimes 44 = .ok (.goto 4, 3) := by decide +kernel
theorem dX4_addTimes_47 : decode cX4_addTimes 47 = .ok (.iconst 0, 1) := by decide +kernel
theorem dX4_addTimes_48 : decode cX4_addTimes 48 = .ok (.i2l, 1) := by decide +kernel
theorem dX4_addTimes_49 : decode cX4_addTimes 49 = .ok (.ladd, 1) := by decide +kernel
theorem dX4_addTimes_50 : decode cX4_addTimes 50 = .ok (.lstore 6, 2) := by decide +kernel
theorem dX4_addTimes_52 : decode cX4_addTimes 52 = .ok (.iload 5, 2) := by decide +kernel
theorem dX4_addTimes_54 : decode cX4_addTimes 54 = .ok (.aload_n 1, 1) := by decide +kernel
theorem dX4_addTimes_55 : decode cX4_addTimes 55 = .ok (.getfield 15, 3) := by decide +kernel
theorem dX4_addTimes_58 : decode cX4_addTimes 58 = .ok (.if_icmp .ge 19, 3) := by decide +kernel
theorem dX4_addTimes_61 : decode cX4_addTimes 61 = .ok (.lload 6, 2) := by decide +kernel
theorem dX4_addTimes_63 : decode cX4_addTimes 63 = .ok (.aload_n 1, 1) := by decide +kernel
theorem dX4_addTimes_64 : decode cX4_addTimes 64 = .ok (.getfield 11, 3) := by decide +kernel
theorem dX4_addTimes_67 : decode cX4_addTimes 67 = .ok (.iload 5, 2) := by decide +kernel
theorem dX4_addTimes_69 : decode cX4_addTimes 69 = .ok (.iaload, 1) := by decide +kernel
theorem dX4_addTimes_70 : decode cX4_addTimes 70 = .ok (.i2l, 1) := by decide +kernel
theorem dX4_addTimes_71 : decode cX4_addTimes 71 = .ok (.iload_n 2, 1) := by decide +kernel
theorem dX4_addTimes_72 : decode cX4_addTimes 72 = .ok (.i2l, 1) := by decide +kernel
theorem dX4_addTimes_73 : decode cX4_addTimes 73 = .ok (.lmul, 1) := by decide +kernel
theorem dX4_addTimes_74 : decode cX4_addTimes 74 = .ok (.ladd, 1) := by decide +kernel
theorem dX4_addTimes_75 : decode cX4_addTimes 75 = .ok (.lstore 6, 2) := by decide +kernel
theorem dX4_addTimes_77 : decode cX4_addTimes 77 = .ok (.aload_n 0, 1) := by decide +kernel
theorem dX4_addTimes_78 : decode cX4_addTimes 78 = .ok (.getfield 11, 3) := by decide +kernel
theorem dX4_addTimes_81 : decode cX4_addTimes 81 = .ok (.iload 5, 2) := by decide +kernel
theorem dX4_addTimes_83 : decode cX4_addTimes 83 = .ok (.lload 6, 2) := by decide +kernel
theorem dX4_addTimes_85 : decode cX4_addTimes 85 = .ok (.ldc2_w 29, 3) := by decide +kernel
theorem dX4_addTimes_88 : decode cX4_addTimes 88 = .ok (.land, 1) := by decide +kernel
theorem dX4_addTimes_89 : decode cX4_addTimes 89 = .ok (.l2i, 1) := by decide +kernel
theorem dX4_addTimes_90 : decode cX4_addTimes 90 = .ok (.iastore, 1) := by decide +kernel
theorem dX4_addTimes_91 : decode cX4_addTimes 91 = .ok (.lload 6, 2) := by decide +kernel
theorem dX4_addTimes_93 : decode cX4_addTimes 93 = .ok (.bipush 30, 2) := by decide +kernel
theorem dX4_addTimes_95 : decode cX4_addTimes 95 = .ok (.lshr, 1) := by decide +kernel
theorem dX4_addTimes_96 : decode cX4_addTimes 96 = .ok (.lstore_n 3, 1) := by decide +kernel
theorem dX4_addTimes_97 : decode cX4_addTimes 97 = .ok (.aload_n 0, 1) := by decide +kernel
theorem dX4_addTimes_98 : decode cX4_addTimes 98 = .ok (.aload_n 0, 1) := by decide +kernel
theorem dX4_addTimes_99 : decode cX4_addTimes 99 = .ok (.getfield 15, 3) := by decide +kernel
theorem dX4_addTimes_102 : decode cX4_addTimes 102 = .ok (.iload 5, 2) := by decide +kernel
theorem dX4_addTimes_104 : decode cX4_addTimes 104 = .ok (.iconst 1, 1) := by decide +kernel
theorem dX4_addTimes_105 : decode cX4_addTimes 105 = .ok (.iadd, 1) := by decide +kernel
theorem dX4_addTimes_106 : decode cX4_addTimes 106 = .ok (.invokestatic 31, 3) := by decide +kernel
theorem dX4_addTimes_109 : decode cX4_addTimes 109 = .ok (.putfield 15, 3) := by decide +kernel
theorem dX4_addTimes_112 : decode cX4_addTimes 112 = .ok (.iinc 5 1, 3) := by decide +kernel
theorem dX4_addTimes_115 : decode cX4_addTimes 115 = .ok (.goto (-110), 3) := by decide +kernel
theorem dX4_addTimes_118 : decode cX4_addTimes 118 = .ok (.aload_n 0, 1) := by decide +kernel
theorem dX4_addTimes_119 : decode cX4_addTimes 119 = .ok (.invokevirtual 37, 3) := by decide +kernel
theorem dX4_addTimes_122 : decode cX4_addTimes 122 = .ok (.return_, 1) := by decide +kernel
theorem dX4_remainder_0 : decode cX4_remainder 0 = .ok (.iload_n 1, 1) := by decide +kernel
theorem dX4_remainder_1 : decode cX4_remainder 1 = .ok (.ifCond .gt 5, 3) := by decide +kernel
theorem dX4_remainder_4 : decode cX4_remainder 4 = .ok (.iconst 0, 1) := by decide +kernel
theorem dX4_remainder_5 : decode cX4_remainder 5 = .ok (.ireturn, 1) := by decide +kernel
theorem dX4_remainder_6 : decode cX4_remainder 6 = .ok (.lconst 0, 1) := by decide +kernel
theorem dX4_remainder_7 : decode cX4_remainder 7 = .ok (.lstore_n 2, 1) := by decide +kernel
theorem dX4_remainder_8 : decode cX4_remainder 8 = .ok (.aload_n 0, 1) := by decide +kernel
theorem dX4_remainder_9 : decode cX4_remainder 9 = .ok (.getfield 15, 3) := by decide +kernel
theorem dX4_remainder_12 : decode cX4_remainder 12 = .ok (.iconst 1, 1) := by decide +kernel
theorem dX4_remainder_13 : decode cX4_remainder 13 = .ok (.isub, 1) := by decide +kernel
theorem dX4_remainder_14 : decode cX4_remainder 14 = .ok (.istore 4, 2) := by decide +kernel
theorem dX4_remainder_16 : decode cX4_remainder 16 = .ok (.iload 4, 2) := by decide +kernel
theorem dX4_remainder_18 : decode cX4_remainder 18 = .ok (.ifCond .lt 26, 3) := by decide +kernel
theorem dX4_remainder_21 : decode cX4_remainder 21 = .ok (.lload_n 2, 1) := by decide +kernel
theorem dX4_remainder_22 : decode cX4_remainder 22 = .ok (.bipush 30, 2) := by decide +kernel
theorem dX4_remainder_24 : decode cX4_remainder 24 = .ok (.lshl, 1) := by decide +kernel
theorem dX4_remainder_25 : decode cX4_remainder 25 = .ok (.aload_n 0, 1) := by decide +kernel
theorem dX4_remainder_26 : decode cX4_remainder 26 = .ok (.getfield 11, 3) := by decide +kernel
theorem dX4_remainder_29 : decode cX4_remainder 29 = .ok (.iload 4, 2) := by decide +kernel
theorem dX4_remainder_31 : decode cX4_remainder 31 = .ok (.iaload, 1) := by decide +kernel
theorem dX4_remainder_32 : decode cX4_remainder 32 = .ok (.i2l, 1) := by decide +kernel
theorem dX4_remainder_33 : decode cX4_remainder 33 = .ok (.ladd, 1) := by decide +kernel
theorem dX4_remainder_34 : decode cX4_remainder 34 = .ok (.iload_n 1, 1) := by decide +kernel
theorem dX4_remainder_35 : decode cX4_remainder 35 = .ok (.i2l, 1) := by decide +kernel
theorem dX4_remainder_36 : decode cX4_remainder 36 = .ok (.lrem, 1) := by decide +kernel
theorem dX4_remainder_37 : decode cX4_remainder 37 = .ok (.lstore_n 2, 1) := by decide +kernel
theorem dX4_remainder_38 : decode cX4_remainder 38 = .ok (.iinc 4 (-1), 3) := by decide +kernel
theorem dX4_remainder_41 : decode cX4_remainder 41 = .ok (.goto (-25), 3) := by decide +kernel
theorem dX4_remainder_44 : decode cX4_remainder 44 = .ok (.lload_n 2, 1) := by decide +kernel
theorem dX4_remainder_45 : decode cX4_remainder 45 = .ok (.l2i, 1) := by decide +kernel
theorem dX4_remainder_46 : decode cX4_remainder 46 = .ok (.ireturn, 1) := by decide +kernel
theorem dX4_divide_0 : decode cX4_divide 0 = .ok (.iload_n 1, 1) := by decide +kernel
theorem dX4_divide_1 : decode cX4_divide 1 = .ok (.ifCond .gt 4, 3) := by decide +kernel
theorem dX4_divide_4 : decode cX4_divide 4 = .ok (.return_, 1) := by decide +kernel
theorem dX4_divide_5 : decode cX4_divide 5 = .ok (.lconst 0, 1) := by decide +kernel
theorem dX4_divide_6 : decode cX4_divide 6 = .ok (.lstore_n 2, 1) := by decide +kernel
theorem dX4_divide_7 : decode cX4_divide 7 = .ok (.aload_n 0, 1) := by decide +kernel
theorem dX4_divide_8 : decode cX4_divide 8 = .ok (.getfield 15, 3) := by decide +kernel
theorem dX4_divide_11 : decode cX4_divide 11 = .ok (.iconst 1, 1) := by decide +kernel
theorem dX4_divide_12 : decode cX4_divide 12 = .ok (.isub, 1) := by decide +kernel
theorem dX4_divide_13 : decode cX4_divide 13 = .ok (.istore 4, 2) := by decide +kernel
theorem dX4_divide_15 : decode cX4_divide 15 = .ok (.iload 4, 2) := by decide +kernel
theorem dX4_divide_17 : decode cX4_divide 17 = .ok (.ifCond .lt 40, 3) := by decide +kernel
theorem dX4_divide_20 : decode cX4_divide 20 = .ok (.lload_n 2, 1) := by decide +kernel
theorem dX4_divide_21 : decode cX4_divide 21 = .ok (.bipush 30, 2) := by decide +kernel
theorem dX4_divide_23 : decode cX4_divide 23 = .ok (.lshl, 1) := by decide +kernel
theorem dX4_divide_24 : decode cX4_divide 24 = .ok (.aload_n 0, 1) := by decide +kernel
theorem dX4_divide_25 : decode cX4_divide 25 = .ok (.getfield 11, 3) := by decide +kernel
theorem dX4_divide_28 : decode cX4_divide 28 = .ok (.iload 4, 2) := by decide +kernel
theorem dX4_divide_30 : decode cX4_divide 30 = .ok (.iaload, 1) := by decide +kernel
theorem dX4_divide_31 : decode cX4_divide 31 = .ok (.i2l, 1) := by decide +kernel
theorem dX4_divide_32 : decode cX4_divide 32 = .ok (.ladd, 1) := by decide +kernel
theorem dX4_divide_33 : decode cX4_divide 33 = .ok (.lstore_n 2, 1) := by decide +kernel
theorem dX4_divide_34 : decode cX4_divide 34 = .ok (.aload_n 0, 1) := by decide +kernel
theorem dX4_divide_35 : decode cX4_divide 35 = .ok (.getfield 11, 3) := by decide +kernel
theorem dX4_divide_38 : decode cX4_divide 38 = .ok (.iload 4, 2) := by decide +kernel
theorem dX4_divide_40 : decode cX4_divide 40 = .ok (.lload_n 2, 1) := by decide +kernel
theorem dX4_divide_41 : decode cX4_divide 41 = .ok (.iload_n 1, 1) := by decide +kernel
theorem dX4_divide_42 : decode cX4_divide 42 = .ok (.i2l, 1) := by decide +kernel
theorem dX4_divide_43 : decode cX4_divide 43 = .ok (.ldiv, 1) := by decide +kernel
theorem dX4_divide_44 : decode cX4_divide 44 = .ok (.l2i, 1) := by decide +kernel
theorem dX4_divide_45 : decode cX4_divide 45 = .ok (.iastore, 1) := by decide +kernel
theorem dX4_divide_46 : decode cX4_divide 46 = .ok (.lload_n 2, 1) := by decide +kernel
theorem dX4_divide_47 : decode cX4_divide 47 = .ok (.iload_n 1, 1) := by decide +kernel
theorem dX4_divide_48 : decode cX4_divide 48 = .ok (.i2l, 1) := by decide +kernel
theorem dX4_divide_49 : decode cX4_divide 49 = .ok (.lrem, 1) := by decide +kernel
theorem dX4_divide_50 : decode cX4_divide 50 = .ok (.lstore_n 2, 1) := by decide +kernel
theorem dX4_divide_51 : decode cX4_divide 51 = .ok (.iinc 4 (-1), 3) := by decide +kernel
theorem dX4_divide_54 : decode cX4_divide 54 = .ok (.goto (-39), 3) := by decide +kernel
theorem dX4_divide_57 : decode cX4_divide 57 = .ok (.aload_n 0, 1) := by decide +kernel
theorem dX4_divide_58 : decode cX4_divide 58 = .ok (.invokevirtual 37, 3) := by decide +kernel
theorem dX4_divide_61 : decode cX4_divide 61 = .ok (.return_, 1) := by decide +kernel
theorem dX4_trim_0 : decode cX4_trim 0 = .ok (.aload_n 0, 1) := by decide +kernel
theorem dX4_trim_1 : decode cX4_trim 1 = .ok (.getfield 15, 3) := by decide +kernel
theorem dX4_trim_4 : decode cX4_trim 4 = .ok (.iconst 1, 1) := by decide +kernel
theorem dX4_trim_5 : decode cX4_trim 5 = .ok (.isub, 1) := by decide +kernel
theorem dX4_trim_6 : decode cX4_trim 6 = .ok (.istore_n 1, 1) := by decide +kernel
theorem dX4_trim_7 : decode cX4_trim 7 = .ok (.iload_n 1, 1) := by decide +kernel
theorem dX4_trim_8 : decode cX4_trim 8 = .ok (.ifCond .lt 23, 3) := by decide +kernel
theorem dX4_trim_11 : decode cX4_trim 11 = .ok (.aload_n 0, 1) := by decide +kernel
theorem dX4_trim_12 : decode cX4_trim 12 = .ok (.getfield 11, 3) := by decide +kernel
theorem dX4_trim_15 : decode cX4_trim 15 = .ok (.iload_n 1, 1) := by decide +kernel
theorem dX4_trim_16 : decode cX4_trim 16 = .ok (.iaload, 1) := by decide +kernel
theorem dX4_trim_17 : decode cX4_trim 17 = .ok (.ifCond .ne 14, 3) := by decide +kernel
theorem dX4_trim_20 : decode cX4_trim 20 = .ok (.aload_n 0, 1) := by decide +kernel
theorem dX4_trim_21 : decode cX4_trim 21 = .ok (.iload_n 1, 1) := by decide +kernel
theorem dX4_trim_22 : decode cX4_trim 22 = .ok (.putfield 15, 3) := by decide +kernel
theorem dX4_trim_25 : decode cX4_trim 25 = .ok (.iinc 1 (-1), 3) := by decide +kernel
theorem dX4_trim_28 : decode cX4_trim 28 = .ok (.goto (-21), 3) := by decide +kernel
theorem dX4_trim_31 : decode cX4_trim 31 = .ok (.return_, 1) := by decide +kernel
theorem dX4_isLessThan_0 : decode cX4_isLessThan 0 = .ok (.aload_n 0, 1) := by decide +kernel
theorem dX4_isLessThan_1 : decode cX4_isLessThan 1 = .ok (.getfield 15, 3) := by decide +kernel
theorem dX4_isLessThan_4 : decode cX4_isLessThan 4 = .ok (.aload_n 1, 1) := by decide +kernel
theorem dX4_isLessThan_5 : decode cX4_isLessThan 5 = .ok (.getfield 15, 3) := by decide +kernel
theorem dX4_isLessThan_8 : decode cX4_isLessThan 8 = .ok (.if_icmp .eq 20, 3) := by decide +kernel
theorem dX4_isLessThan_11 : decode cX4_isLessThan 11 = .ok (.aload_n 0, 1) := by decide +kernel
theorem dX4_isLessThan_12 : decode cX4_isLessThan 12 = .ok (.getfield 15, 3) := by decide +kernel
theorem dX4_isLessThan_15 : decode cX4_isLessThan 15 = .ok (.aload_n 1, 1) := by decide +kernel
theorem dX4_isLessThan_16 : decode cX4_isLessThan 16 = .ok (.getfield 15, 3) := by decide +kernel
theorem dX4_isLessThan_19 : decode cX4_isLessThan 19 = .ok (.if_icmp .ge 7, 3) := by decide +kernel
theorem dX4_isLessThan_22 : decode cX4_isLessThan 22 = .ok (.iconst 1, 1) := by decide +kernel
theorem dX4_isLessThan_23 : decode cX4_isLessThan 23 = .ok (.goto 4, 3) := by decide +kernel
theorem dX4_isLessThan_26 : decode cX4_isLessThan 26 = .ok (.iconst 0, 1) := by decide +kernel
theorem dX4_isLessThan_27 : decode cX4_isLessThan 27 = .ok (.ireturn, 1) := by decide +kernel
theorem dX4_isLessThan_28 : decode cX4_isLessThan 28 = .ok (.aload_n 0, 1) := by decide +kernel
theorem dX4_isLessThan_29 : decode cX4_isLessThan 29 = .ok (.getfield 15, 3) := by decide +kernel
theorem dX4_isLessThan_32 : decode cX4_isLessThan 32 = .ok (.iconst 1, 1) := by decide +kernel
theorem dX4_isLessThan_33 : decode cX4_isLessThan 33 = .ok (.isub, 1) := by decide +kernel
theorem dX4_isLessThan_34 : decode cX4_isLessThan 34 = .ok (.istore_n 2, 1) := by decide +kernel
theorem dX4_isLessThan_35 : decode cX4_isLessThan 35 = .ok (.iload_n 2, 1) := by decide +kernel
theorem dX4_isLessThan_36 : decode cX4_isLessThan 36 = .ok (.ifCond .lt 45, 3) := by decide +kernel
theorem dX4_isLessThan_39 : decode cX4_isLessThan 39 = .ok (.aload_n 0, 1) := by decide +kernel
theorem dX4_isLessThan_40 : decode cX4_isLessThan 40 = .ok (.getfield 11, 3) := by decide +kernel
theorem dX4_isLessThan_43 : decode cX4_isLessThan 43 = .ok (.iload_n 2, 1) := by decide +kernel
theorem dX4_isLessThan_44 : decode cX4_isLessThan 44 = .ok (.iaload, 1) := by decide +kernel
theorem dX4_isLessThan_45 : decode cX4_isLessThan 45 = .ok (.aload_n 1, 1) := by decide +kernel
theorem dX4_isLessThan_46 : decode cX4_isLessThan 46 = .ok (.getfield 11, 3) := by decide +kernel
theorem dX4_isLessThan_49 : decode cX4_isLessThan 49 = .ok (.iload_n 2, 1) := by decide +kernel
theorem dX4_isLessThan_50 : decode cX4_isLessThan 50 = .ok (.iaload, 1) := by decide +kernel
theorem dX4_isLessThan_51 : decode cX4_isLessThan 51 = .ok (.if_icmp .eq 24, 3) := by decide +kernel
theorem dX4_isLessThan_54 : decode cX4_isLessThan 54 = .ok (.aload_n 0, 1) := by decide +kernel
theorem dX4_isLessThan_55 : decode cX4_isLessThan 55 = .ok (.getfield 11, 3) := by decide +kernel
theorem dX4_isLessThan_58 : decode cX4_isLessThan 58 = .ok (.iload_n 2, 1) := by decide +kernel
theorem dX4_isLessThan_59 : decode cX4_isLessThan 59 = .ok (.iaload, 1) := by decide +kernel
theorem dX4_isLessThan_60 : decode cX4_isLessThan 60 = .ok (.aload_n 1, 1) := by decide +kernel
theorem dX4_isLessThan_61 : decode cX4_isLessThan 61 = .ok (.getfield 11, 3) := by decide +kernel
theorem dX4_isLessThan_64 : decode cX4_isLessThan 64 = .ok (.iload_n 2, 1) := by decide +kernel
theorem dX4_isLessThan_65 : decode cX4_isLessThan 65 = .ok (.iaload, 1) := by decide +kernel
theorem dX4_isLessThan_66 : decode cX4_isLessThan 66 = .ok (.if_icmp .ge 7, 3) := by decide +kernel
theorem dX4_isLessThan_69 : decode cX4_isLessThan 69 = .ok (.iconst 1, 1) := by decide +kernel
theorem dX4_isLessThan_70 : decode cX4_isLessThan 70 = .ok (.goto 4, 3) := by decide +kernel
theorem dX4_isLessThan_73 : decode cX4_isLessThan 73 = .ok (.iconst 0, 1) := by decide +kernel
theorem dX4_isLessThan_74 : decode cX4_isLessThan 74 = .ok (.ireturn, 1) := by decide +kernel
theorem dX4_isLessThan_75 : decode cX4_isLessThan 75 = .ok (.iinc 2 (-1), 3) := by decide +kernel
theorem dX4_isLessThan_78 : decode cX4_isLessThan 78 = .ok (.goto (-43), 3) := by decide +kernel
theorem dX4_isLessThan_81 : decode cX4_isLessThan 81 = .ok (.iconst 0, 1) := by decide +kernel
theorem dX4_isLessThan_82 : decode cX4_isLessThan 82 = .ok (.ireturn, 1) := by decide +kernel
theorem dX4_digestOnto_0 : decode cX4_digestOnto 0 = .ok (.lload_n 1, 1) := by decide +kernel
theorem dX4_digestOnto_1 : decode cX4_digestOnto 1 = .ok (.lstore_n 3, 1) := by decide +kernel
theorem dX4_digestOnto_2 : decode cX4_digestOnto 2 = .ok (.iconst 0, 1) := by decide +kernel
theorem dX4_digestOnto_3 : decode cX4_digestOnto 3 = .ok (.istore 5, 2) := by decide +kernel
theorem dX4_digestOnto_5 : decode cX4_digestOnto 5 = .ok (.iload 5, 2) := by decide +kernel
theorem dX4_digestOnto_7 : decode cX4_digestOnto 7 = .ok (.aload_n 0, 1) := by decide +kernel
theorem dX4_digestOnto_8 : decode cX4_digestOnto 8 = .ok (.getfield 15, 3) := by decide +kernel
theorem dX4_digestOnto_11 : decode cX4_digestOnto 11 = .ok (.if_icmp .ge 21, 3) := by decide +kernel
theorem dX4_digestOnto_14 : decode cX4_digestOnto 14 = .ok (.lload_n 3, 1) := by decide +kernel
theorem dX4_digestOnto_15 : decode cX4_digestOnto 15 = .ok (.aload_n 0, 1) := by decide +kernel
theorem dX4_digestOnto_16 : decode cX4_digestOnto 16 = .ok (.getfield 11, 3) := by decide +kernel
theorem dX4_digestOnto_19 : decode cX4_digestOnto 19 = .ok (.iload 5, 2) := by decide +kernel
theorem dX4_digestOnto_21 : decode cX4_digestOnto 21 = .ok (.iaload, 1) := by decide +kernel
theorem dX4_digestOnto_22 : decode cX4_digestOnto 22 = .ok (.invokestatic 40, 3) := by decide +kernel
theorem dX4_digestOnto_25 : decode cX4_digestOnto 25 = .ok (.lstore_n 3, 1) := by decide +kernel
theorem dX4_digestOnto_26 : decode cX4_digestOnto 26 = .ok (.iinc 5 1, 3) := by decide +kernel
theorem dX4_digestOnto_29 : decode cX4_digestOnto 29 = .ok (.goto (-24), 3) := by decide +kernel
theorem dX4_digestOnto_32 : decode cX4_digestOnto 32 = .ok (.lload_n 3, 1) := by decide +kernel
theorem dX4_digestOnto_33 : decode cX4_digestOnto 33 = .ok (.lreturn, 1) := by decide +kernel
theorem dX5_init_0 : decode cX5_init 0 = .ok (.aload_n 0, 1) := by decide +kernel
theorem dX5_init_1 : decode cX5_init 1 = .ok (.invokespecial 3, 3) := by decide +kernel
theorem dX5_init_4 : decode cX5_init 4 = .ok (.aload_n 0, 1) := by decide +kernel
theorem dX5_init_5 : decode cX5_init 5 = .ok (.bipush 8, 2) := by decide +kernel
theorem dX5_init_7 : decode cX5_init 7 = .ok (.newarray .int, 2) := by decide +kernel
theorem dX5_init_9 : decode cX5_init 9 = .ok (.putfield 11, 3) := by decide +kernel
theorem dX5_init_12 : decode cX5_init 12 = .ok (.aload_n 0, 1) := by decide +kernel
theorem dX5_init_13 : decode cX5_init 13 = .ok (.bipush 8, 2) := by decide +kernel
theorem dX5_init_15 : decode cX5_init 15 = .ok (.newarray .int, 2) := by decide +kernel
theorem dX5_init_17 : decode cX5_init 17 = .ok (.putfield 17, 3) := by decide +kernel
theorem dX5_init_20 : decode cX5_init 20 = .ok (.aload_n 0, 1) := by decide +kernel
theorem dX5_init_21 : decode cX5_init 21 = .ok (.bipush 8, 2) := by decide +kernel
theorem dX5_init_23 : decode cX5_init 23 = .ok (.newarray .int, 2) := by decide +kernel
theorem dX5_init_25 : decode cX5_init 25 = .ok (.putfield 20, 3) := by decide +kernel
theorem dX5_init_28 : decode cX5_init 28 = .ok (.return_, 1) := by decide +kernel
theorem dX5_spread_0 : decode cX5_spread 0 = .ok (.iconst 0, 1) := by decide +kernel
theorem dX5_spread_1 : decode cX5_spread 1 = .ok (.istore 6, 2) := by decide +kernel
theorem dX5_spread_3 : decode cX5_spread 3 = .ok (.iload 6, 2) := by decide +kernel
theorem dX5_spread_5 : decode cX5_spread 5 = .ok (.bipush 8, 2) := by decide +kernel
theorem dX5_spread_7 : decode cX5_spread 7 = .ok (.if_icmp .ge 40, 3) := by decide +kernel
theorem dX5_spread_10 : decode cX5_spread 10 = .ok (.aload_n 0, 1) := by decide +kernel
theorem dX5_spread_11 : decode cX5_spread 11 = .ok (.getfield 20, 3) := by decide +kernel
theorem dX5_spread_14 : decode cX5_spread 14 = .ok (.iload 6, 2) := by decide +kernel
theorem dX5_spread_16 : decode cX5_spread 16 = .ok (.aload_n 1, 1) := by decide +kernel
theorem dX5_spread_17 : decode cX5_spread 17 = .ok (.iload 6, 2) := by decide +kernel
theorem dX5_spread_19 : decode cX5_spread 19 = .ok (.iload 4, 2) := by decide +kernel
theorem dX5_spread_21 : decode cX5_spread 21 = .ok (.invokevirtual 23, 3) := by decide +kernel
theorem dX5_spread_24 : decode cX5_spread 24 = .ok (.iastore, 1) := by decide +kernel
theorem dX5_spread_25 : decode cX5_spread 25 = .ok (.aload_n 0, 1) := by decide +kernel
theorem dX5_spread_26 : decode cX5_spread 26 = .ok (.getfield 11, 3) := by decide +kernel
theorem dX5_spread_29 : decode cX5_spread 29 = .ok (.iload 6, 2) := by decide +kernel
theorem dX5_spread_31 : decode cX5_spread 31 = .ok (.iconst (-1), 1) := by decide +kernel
theorem dX5_spread_32 : decode cX5_spread 32 = .ok (.iastore, 1) := by decide +kernel
theorem dX5_spread_33 : decode cX5_spread 33 = .ok (.aload_n 0, 1) := by decide +kernel
theorem dX5_spread_34 : decode cX5_spread 34 = .ok (.getfield 17, 3) := by decide +kernel
theorem dX5_spread_37 : decode cX5_spread 37 = .ok (.iload 6, 2) := by decide +kernel
theorem dX5_spread_39 : decode cX5_spread 39 = .ok (.iconst (-1), 1) := by decide +kernel
theorem dX5_spread_40 : decode cX5_spread 40 = .ok (.iastore, 1) := by decide +kernel
theorem dX5_spread_41 : decode cX5_spread 41 = .ok (.iinc 6 1, 3) := by decide +kernel
theorem dX5_spread_44 : decode cX5_spread 44 = .ok (.goto (-41), 3) := by decide +kernel
theorem dX5_spread_47 : decode cX5_spread 47 = .ok (.aload_n 0, 1) := by decide +kernel
theorem dX5_spread_48 : decode cX5_spread 48 = .ok (.getfield 11, 3) := by decide +kernel
theorem dX5_spread_51 : decode cX5_spread 51 = .ok (.iload_n 2, 1) := by decide +kernel
theorem dX5_spread_52 : decode cX5_spread 52 = .ok (.iload_n 3, 1) := by decide +kernel
theorem dX5_spread_53 : decode cX5_spread 53 = .ok (.iastore, 1) := by decide +kernel
theorem dX5_spread_54 : decode cX5_spread 54 = .ok (.aload_n 1, 1) := by decide +kernel
theorem dX5_spread_55 : decode cX5_spread 55 = .ok (.iload 5, 2) := by decide +kernel
theorem dX5_spread_57 : decode cX5_spread 57 = .ok (.invokevirtual 27, 3) := by decide +kernel
theorem dX5_spread_60 : decode cX5_spread 60 = .ok (.istore 6, 2) := by decide +kernel
theorem dX5_spread_62 : decode cX5_spread 62 = .ok (.iconst 1, 1) := by decide +kernel
theorem dX5_spread_63 : decode cX5_spread 63 = .ok (.iload_n 2, 1) := by decide +kernel
theorem dX5_spread_64 : decode cX5_spread 64 = .ok (.ishl, 1) := by decide +kernel
theorem dX5_spread_65 : decode cX5_spread 65 = .ok (.istore 7, 2) := by decide +kernel
theorem dX5_spread_67 : decode cX5_spread 67 = .ok (.iconst 1, 1) := by decide +kernel
theorem dX5_spread_68 : decode cX5_spread 68 = .ok (.aload_n 1, 1) := by decide +kernel
theorem dX5_spread_69 : decode cX5_spread 69 = .ok (.getfield 31, 3) := by decide +kernel
theorem dX5_spread_72 : decode cX5_spread 72 = .ok (.ishl, 1) := by decide +kernel
theorem dX5_spread_73 : decode cX5_spread 73 = .ok (.iconst 1, 1) := by decide +kernel
theorem dX5_spread_74 : decode cX5_spread 74 = .ok (.isub, 1) := by decide +kernel
theorem dX5_spread_75 : decode cX5_spread 75 = .ok (.istore 8, 2) := by decide +kernel
theorem dX5_spread_77 : decode cX5_spread 77 = .ok (.iload_n 3, 1) := by decide +kernel
theorem dX5_spread_78 : decode cX5_spread 78 = .ok (.istore 9, 2) := by decide +kernel
theorem dX5_spread_80 : decode cX5_spread 80 = .ok (.iload 9, 2) := by decide +kernel
theorem dX5_spread_82 : decode cX5_spread 82 = .ok (.sipush 240, 3) := by decide +kernel
theorem dX5_spread_85 : decode cX5_spread 85 = .ok (.if_icmp .ge 84, 3) := by decide +kernel
theorem dX5_spread_88 : decode cX5_spread 88 = .ok (.iload 7, 2) := by decide +kernel
theorem dX5_spread_90 : decode cX5_spread 90 = .ok (.iload 8, 2) := by decide +kernel
theorem dX5_spread_92 : decode cX5_spread 92 = .ok (.if_icmp .eq 77, 3) := by decide +kernel
theorem dX5_spread_95 : decode cX5_spread 95 = .ok (.aload_n 1, 1) := by decide +kernel
theorem dX5_spread_96 : decode cX5_spread 96 = .ok (.iload 9, 2) := by decide +kernel
theorem dX5_spread_98 : decode cX5_spread 98 = .ok (.invokevirtual 35, 3) := by decide +kernel
theorem dX5_spread_101 : decode cX5_spread 101 = .ok (.istore 10, 2) := by decide +kernel
theorem dX5_spread_103 : decode cX5_spread 103 = .ok (.iload 5, 2) := by decide +kernel
theorem dX5_spread_105 : decode cX5_spread 105 = .ok (.iconst (-1), 1) := by decide +kernel
theorem dX5_spread_106 : decode cX5_spread 106 = .ok (.if_icmp .eq 18, 3) := by decide +kernel
theorem dX5_spread_109 : decode cX5_spread 109 = .ok (.iload 10, 2) := by decide +kernel
theorem dX5_spread_111 : decode cX5_spread 111 = .ok (.iload 5, 2) := by decide +kernel
theorem dX5_spread_113 : decode cX5_spread 113 = .ok (.invokestatic 38, 3) := by decide +kernel
theorem dX5_spread_116 : decode cX5_spread 116 = .ok (.ifCond .eq 8, 3) := by decide +kernel
theorem dX5_spread_119 : decode cX5_spread 119 = .ok (.iload 6, 2) := by decide +kernel
theorem dX5_spread_121 : decode cX5_spread 121 = .ok (.goto 4, 3) := by decide +kernel
theorem dX5_spread_124 : decode cX5_spread 124 = .ok (.iconst 0, 1) := by decide +kernel
theorem dX5_spread_125 : decode cX5_spread 125 = .ok (.istore 11, 2) := by decide +kernel
theorem dX5_spread_127 : decode cX5_spread 127 = .ok (.iload 7, 2) := by decide +kernel
theorem dX5_spread_129 : decode cX5_spread 129 = .ok (.aload_n 1, 1) := by decide +kernel
theorem dX5_spread_130 : decode cX5_spread 130 = .ok (.iload 9, 2) := by decide +kernel
theorem dX5_spread_132 : decode cX5_spread 132 = .ok (.invokevirtual 42, 3) := by decide +kernel
theorem dX5_spread_135 : decode cX5_spread 135 = .ok (.iand, 1) := by decide +kernel
theorem dX5_spread_136 : decode cX5_spread 136 = .ok (.iload 11, 2) := by decide +kernel
theorem dX5_spread_138 : decode cX5_spread 138 = .ok (.iconst (-1), 1) := by decide +kernel
theorem dX5_spread_139 : decode cX5_spread 139 = .ok (.ixor, 1) := by decide +kernel
theorem dX5_spread_140 : decode cX5_spread 140 = .ok (.iand, 1) := by decide +kernel
theorem dX5_spread_141 : decode cX5_spread 141 = .ok (.istore 12, 2) := by decide +kernel
theorem dX5_spread_143 : decode cX5_spread 143 = .ok (.iload 7, 2) := by decide +kernel
theorem dX5_spread_145 : decode cX5_spread 145 = .ok (.aload_n 0, 1) := by decide +kernel
theorem dX5_spread_146 : decode cX5_spread 146 = .ok (.iload 9, 2) := by decide +kernel
theorem dX5_spread_148 : decode cX5_spread 148 = .ok (.iload 12, 2) := by decide +kernel
theorem dX5_spread_150 : decode cX5_spread 150 = .ok (.iload 10, 2) := by decide +kernel
theorem dX5_spread_152 : decode cX5_spread 152 = .ok (.iload 7, 2) := by decide +kernel
theorem dX5_spread_154 : decode cX5_spread 154 = .ok (.iconst (-1), 1) := by decide +kernel
theorem dX5_spread_155 : decode cX5_spread 155 = .ok (.ixor, 1) := by decide +kernel
theorem dX5_spread_156 : decode cX5_spread 156 = .ok (.iand, 1) := by decide +kernel
theorem dX5_spread_157 : decode cX5_spread 157 = .ok (.invokevirtual 45, 3) := by decide +kernel
theorem dX5_spread_160 : decode cX5_spread 160 = .ok (.ior, 1) := by decide +kernel
theorem dX5_spread_161 : decode cX5_spread 161 = .ok (.istore 7, 2) := by decide +kernel
theorem dX5_spread_163 : decode cX5_spread 163 = .ok (.iinc 9 1, 3) := by decide +kernel
theorem dX5_spread_166 : decode cX5_spread 166 = .ok (.goto (-86), 3) := by decide +kernel
theorem dX5_spread_169 : decode cX5_spread 169 = .ok (.return_, 1) := by decide +kernel
theorem dX5_tellInSecond_0 : decode cX5_tellInSecond 0 = .ok (.iconst 0, 1) := by decide +kernel
theorem dX5_tellInSecond_1 : decode cX5_tellInSecond 1 = .ok (.istore 4, 2) := by decide +kernel
theorem dX5_tellInSecond_3 : decode cX5_tellInSecond 3 = .ok (.iconst 0, 1) := by decide +kernel
theorem dX5_tellInSecond_4 : decode cX5_tellInSecond 4 = .ok (.istore 5, 2) := by decide +kernel
theorem dX5_tellInSecond_6 : decode cX5_tellInSecond 6 = .ok (.iload 5, 2) := by decide +kernel
theorem dX5_tellInSecond_8 : decode cX5_tellInSecond 8 = .ok (.bipush 8, 2) := by decide +kernel
theorem dX5_tellInSecond_10 : decode cX5_tellInSecond 10 = .ok (.if_icmp .ge 52, 3) := by decide +kernel
theorem dX5_tellInSecond_13 : decode cX5_tellInSecond 13 = .ok (.iload_n 2, 1) := by decide +kernel
theorem dX5_tellInSecond_14 : decode cX5_tellInSecond 14 = .ok (.iload 5, 2) := by decide +kernel
theorem dX5_tellInSecond_16 : decode cX5_tellInSecond 16 = .ok (.invokestatic 38, 3) := by decide +kernel
theorem dX5_tellInSecond_19 : decode cX5_tellInSecond 19 = .ok (.ifCond .eq 37, 3) := by decide +kernel
theorem dX5_tellInSecond_22 : decode cX5_tellInSecond 22 = .ok (.aload_n 0, 1) := by decide +kernel
theorem dX5_tellInSecond_23 : decode cX5_tellInSecond 23 = .ok (.getfield 20, 3) := by decide +kernel
theorem dX5_tellInSecond_26 : decode cX5_tellInSecond 26 = .ok (.iload 5, 2) := by decide +kernel
theorem dX5_tellInSecond_28 : decode cX5_tellInSecond 28 = .ok (.iaload, 1) := by decide +kernel
theorem dX5_tellInSecond_29 : decode cX5_tellInSecond 29 = .ok (.iload_n 3, 1) := by decide +kernel
theorem dX5_tellInSecond_30 : decode cX5_tellInSecond 30 = .ok (.iand, 1) := by decide +kernel
theorem dX5_tellInSecond_31 : decode cX5_tellInSecond 31 = .ok (.iload 4, 2) := by decide +kernel
theorem dX5_tellInSecond_33 : decode cX5_tellInSecond 33 = .ok (.iconst (-1), 1) := by decide +kernel
theorem dX5_tellInSecond_34 : decode cX5_tellInSecond 34 = .ok (.ixor, 1) := by decide +kernel
theorem dX5_tellInSecond_35 : decode cX5_tellInSecond 35 = .ok (.iand, 1) := by decide +kernel
theorem dX5_tellInSecond_36 : decode cX5_tellInSecond 36 = .ok (.istore 6, 2) := by decide +kernel
theorem dX5_tellInSecond_38 : decode cX5_tellInSecond 38 = .ok (.aload_n 0, 1) := by decide +kernel
theorem dX5_tellInSecond_39 : decode cX5_tellInSecond 39 = .ok (.iload 6, 2) := by decide +kernel
theorem dX5_tellInSecond_41 : decode cX5_tellInSecond 41 = .ok (.iload_n 1, 1) := by decide +kernel
theorem dX5_tellInSecond_42 : decode cX5_tellInSecond 42 = .ok (.iconst 1, 1) := by decide +kernel
theorem dX5_tellInSecond_43 : decode cX5_tellInSecond 43 = .ok (.iadd, 1) := by decide +kernel
theorem dX5_tellInSecond_44 : decode cX5_tellInSecond 44 = .ok (.iload 5, 2) := by decide +kernel
theorem dX5_tellInSecond_46 : decode cX5_tellInSecond 46 = .ok (.invokevirtual 49, 3) := by decide +kernel
theorem dX5_tellInSecond_49 : decode cX5_tellInSecond 49 = .ok (.iload 4, 2) := by decide +kernel
theorem dX5_tellInSecond_51 : decode cX5_tellInSecond 51 = .ok (.iload 6, 2) := by decide +kernel
theorem dX5_tellInSecond_53 : decode cX5_tellInSecond 53 = .ok (.ior, 1) := by decide +kernel
theorem dX5_tellInSecond_54 : decode cX5_tellInSecond 54 = .ok (.istore 4, 2) := by decide +kernel
theorem dX5_tellInSecond_56 : decode cX5_tellInSecond 56 = .ok (.iinc 5 1, 3) := by decide +kernel
theorem dX5_tellInSecond_59 : decode cX5_tellInSecond 59 = .ok (.goto (-53), 3) := by decide +kernel
theorem dX5_tellInSecond_62 : decode cX5_tellInSecond 62 = .ok (.iload 4, 2) := by decide +kernel
theorem dX5_tellInSecond_64 : decode cX5_tellInSecond 64 = .ok (.ireturn, 1) := by decide +kernel
theorem dX5_write_0 : decode cX5_write 0 = .ok (.iconst 0, 1) := by decide +kernel
theorem dX5_write_1 : decode cX5_write 1 = .ok (.istore 4, 2) := by decide +kernel
theorem dX5_write_3 : decode cX5_write 3 = .ok (.iload 4, 2) := by decide +kernel
theorem dX5_write_5 : decode cX5_write 5 = .ok (.bipush 8, 2) := by decide +kernel
theorem dX5_write_7 : decode cX5_write 7 = .ok (.if_icmp .ge 34, 3) := by decide +kernel
theorem dX5_write_10 : decode cX5_write 10 = .ok (.iload_n 1, 1) := by decide +kernel
theorem dX5_write_11 : decode cX5_write 11 = .ok (.iload 4, 2) := by decide +kernel
theorem dX5_write_13 : decode cX5_write 13 = .ok (.invokestatic 38, 3) := by decide +kernel
theorem dX5_write_16 : decode cX5_write 16 = .ok (.ifCond .eq 19, 3) := by decide +kernel
theorem dX5_write_19 : decode cX5_write 19 = .ok (.aload_n 0, 1) := by decide +kernel
theorem dX5_write_20 : decode cX5_write 20 = .ok (.getfield 11, 3) := by decide +kernel
theorem dX5_write_23 : decode cX5_write 23 = .ok (.iload 4, 2) := by decide +kernel
theorem dX5_write_25 : decode cX5_write 25 = .ok (.iload_n 2, 1) := by decide +kernel
theorem dX5_write_26 : decode cX5_write 26 = .ok (.iastore, 1) := by decide +kernel
theorem dX5_write_27 : decode cX5_write 27 = .ok (.aload_n 0, 1) := by decide +kernel
theorem dX5_write_28 : decode cX5_write 28 = .ok (.getfield 17, 3) := by decide +kernel
theorem dX5_write_31 : decode cX5_write 31 = .ok (.iload 4, 2) := by decide +kernel
theorem dX5_write_33 : decode cX5_write 33 = .ok (.iload_n 3, 1) := by decide +kernel
theorem dX5_write_34 : decode cX5_write 34 = .ok (.iastore, 1) := by decide +kernel
theorem dX5_write_35 : decode cX5_write 35 = .ok (.iinc 4 1, 3) := by decide +kernel
theorem dX5_write_38 : decode cX5_write 38 = .ok (.goto (-35), 3) := by decide +kernel
theorem dX5_write_41 : decode cX5_write 41 = .ok (.return_, 1) := by decide +kernel
theorem dX5_waysApart_0 : decode cX5_waysApart 0 = .ok (.iconst 0, 1) := by decide +kernel
theorem dX5_waysApart_1 : decode cX5_waysApart 1 = .ok (.istore 4, 2) := by decide +kernel
theorem dX5_waysApart_3 : decode cX5_waysApart 3 = .ok (.iload 4, 2) := by decide +kernel
theorem dX5_waysApart_5 : decode cX5_waysApart 5 = .ok (.aload_n 1, 1) := by decide +kernel
theorem dX5_waysApart_6 : decode cX5_waysApart 6 = .ok (.getfield 31, 3) := by decide +kernel
theorem dX5_waysApart_9 : decode cX5_waysApart 9 = .ok (.if_icmp .ge 23, 3) := by decide +kernel
theorem dX5_waysApart_12 : decode cX5_waysApart 12 = .ok (.aload_n 0, 1) := by decide +kernel
theorem dX5_waysApart_13 : decode cX5_waysApart 13 = .ok (.getfield 20, 3) := by decide +kernel
theorem dX5_waysApart_16 : decode cX5_waysApart 16 = .ok (.iload 4, 2) := by decide +kernel
theorem dX5_waysApart_18 : decode cX5_waysApart 18 = .ok (.aload_n 1, 1) := by decide +kernel
theorem dX5_waysApart_19 : decode cX5_waysApart 19 = .ok (.iload 4, 2) := by decide +kernel
theorem dX5_waysApart_21 : decode cX5_waysApart 21 = .ok (.iconst 0, 1) := by decide +kernel
theorem dX5_waysApart_22 : decode cX5_waysApart 22 = .ok (.invokevirtual 23, 3) := by decide +kernel
theorem dX5_waysApart_25 : decode cX5_waysApart 25 = .ok (.iastore, 1) := by decide +kernel
theorem dX5_waysApart_26 : decode cX5_waysApart 26 = .ok (.iinc 4 1, 3) := by decide +kernel
theorem dX5_waysApart_29 : decode cX5_waysApart 29 = .ok (.goto (-26), 3) := by decide +kernel
theorem dX5_waysApart_32 : decode cX5_waysApart 32 = .ok (.iconst 1, 1) := by decide +kernel
theorem dX5_waysApart_33 : decode cX5_waysApart 33 = .ok (.iload_n 2, 1) := by decide +kernel
theorem dX5_waysApart_34 : decode cX5_waysApart 34 = .ok (.ishl, 1) := by decide +kernel
theorem dX5_waysApart_35 : decode cX5_waysApart 35 = .ok (.iconst 1, 1) := by decide +kernel
theorem dX5_waysApart_36 : decode cX5_waysApart 36 = .ok (.iload_n 3, 1) := by decide +kernel
theorem dX5_waysApart_37 : decode cX5_waysApart 37 = .ok (.ishl, 1) := by decide +kernel
theorem dX5_waysApart_38 : decode cX5_waysApart 38 = .ok (.ior, 1) := by decide +kernel
theorem dX5_waysApart_39 : decode cX5_waysApart 39 = .ok (.istore 4, 2) := by decide +kernel
theorem dX5_waysApart_41 : decode cX5_waysApart 41 = .ok (.aload_n 0, 1) := by decide +kernel
theorem dX5_waysApart_42 : decode cX5_waysApart 42 = .ok (.getfield 20, 3) := by decide +kernel
theorem dX5_waysApart_45 : decode cX5_waysApart 45 = .ok (.iload_n 2, 1) := by decide +kernel
theorem dX5_waysApart_46 : decode cX5_waysApart 46 = .ok (.iaload, 1) := by decide +kernel
theorem dX5_waysApart_47 : decode cX5_waysApart 47 = .ok (.iload_n 3, 1) := by decide +kernel
theorem dX5_waysApart_48 : decode cX5_waysApart 48 = .ok (.invokestatic 38, 3) := by decide +kernel
theorem dX5_waysApart_51 : decode cX5_waysApart 51 = .ok (.invokestatic 53, 3) := by decide +kernel
theorem dX5_waysApart_54 : decode cX5_waysApart 54 = .ok (.istore 5, 2) := by decide +kernel
theorem dX5_waysApart_56 : decode cX5_waysApart 56 = .ok (.aload_n 0, 1) := by decide +kernel
theorem dX5_waysApart_57 : decode cX5_waysApart 57 = .ok (.getfield 20, 3) := by decide +kernel
theorem dX5_waysApart_60 : decode cX5_waysApart 60 = .ok (.iload_n 2, 1) := by decide +kernel
theorem dX5_waysApart_61 : decode cX5_waysApart 61 = .ok (.dup2, 1) := by decide +kernel
theorem dX5_waysApart_62 : decode cX5_waysApart 62 = .ok (.iaload, 1) := by decide +kernel
theorem dX5_waysApart_63 : decode cX5_waysApart 63 = .ok (.iconst 1, 1) := by decide +kernel
theorem dX5_waysApart_64 : decode cX5_waysApart 64 = .ok (.iload_n 3, 1) := by decide +kernel
theorem dX5_waysApart_65 : decode cX5_waysApart 65 = .ok (.ishl, 1) := by decide +kernel
theorem dX5_waysApart_66 : decode cX5_waysApart 66 = .ok (.iconst (-1), 1) := by decide +kernel
theorem dX5_waysApart_67 : decode cX5_waysApart 67 = .ok (.ixor, 1) := by decide +kernel
theorem dX5_waysApart_68 : decode cX5_waysApart 68 = .ok (.iand, 1) := by decide +kernel
theorem dX5_waysApart_69 : decode cX5_waysApart 69 = .ok (.iastore, 1) := by decide +kernel
theorem dX5_waysApart_70 : decode cX5_waysApart 70 = .ok (.bipush 8, 2) := by decide +kernel
theorem dX5_waysApart_72 : decode cX5_waysApart 72 = .ok (.istore 6, 2) := by decide +kernel
theorem dX5_waysApart_74 : decode cX5_waysApart 74 = .ok (.iconst 0, 1) := by decide +kernel
theorem dX5_waysApart_75 : decode cX5_waysApart 75 = .ok (.istore 7, 2) := by decide +kernel
theorem dX5_waysApart_77 : decode cX5_waysApart 77 = .ok (.iload 7, 2) := by decide +kernel
theorem dX5_waysApart_79 : decode cX5_waysApart 79 = .ok (.iconst 1, 1) := by decide +kernel
theorem dX5_waysApart_80 : decode cX5_waysApart 80 = .ok (.aload_n 1, 1) := by decide +kernel
theorem dX5_waysApart_81 : decode cX5_waysApart 81 = .ok (.getfield 31, 3) := by decide +kernel
theorem dX5_waysApart_84 : decode cX5_waysApart 84 = .ok (.ishl, 1) := by decide +kernel
theorem dX5_waysApart_85 : decode cX5_waysApart 85 = .ok (.if_icmp .ge 41, 3) := by decide +kernel
theorem dX5_waysApart_88 : decode cX5_waysApart 88 = .ok (.iload 7, 2) := by decide +kernel
theorem dX5_waysApart_90 : decode cX5_waysApart 90 = .ok (.iload 4, 2) := by decide +kernel
theorem dX5_waysApart_92 : decode cX5_waysApart 92 = .ok (.iand, 1) := by decide +kernel
theorem dX5_waysApart_93 : decode cX5_waysApart 93 = .ok (.ifCond .ne 27, 3) := by decide +kernel
theorem dX5_waysApart_96 : decode cX5_waysApart 96 = .ok (.aload_n 0, 1) := by decide +kernel
theorem dX5_waysApart_97 : decode cX5_waysApart 97 = .ok (.aload_n 1, 1) := by decide +kernel
theorem dX5_waysApart_98 : decode cX5_waysApart 98 = .ok (.iload_n 2, 1) := by decide +kernel
theorem dX5_waysApart_99 : decode cX5_waysApart 99 = .ok (.iload_n 3, 1) := by decide +kernel
theorem dX5_waysApart_100 : decode cX5_waysApart 100 = .ok (.iload 7, 2) := by decide +kernel
theorem dX5_waysApart_102 : decode cX5_waysApart 102 = .ok (.invokevirtual 57, 3) := by decide +kernel
theorem dX5_waysApart_105 : decode cX5_waysApart 105 = .ok (.ifCond .ne 15, 3) := by decide +kernel
theorem dX5_waysApart_108 : decode cX5_waysApart 108 = .ok (.iload 6, 2) := by decide +kernel
theorem dX5_waysApart_110 : decode cX5_waysApart 110 = .ok (.iload 7, 2) := by decide +kernel
theorem dX5_waysApart_112 : decode cX5_waysApart 112 = .ok (.invokestatic 61, 3) := by decide +kernel
theorem dX5_waysApart_115 : decode cX5_waysApart 115 = .ok (.invokestatic 66, 3) := by decide +kernel
theorem dX5_waysApart_118 : decode cX5_waysApart 118 = .ok (.istore 6, 2) := by decide +kernel
theorem dX5_waysApart_120 : decode cX5_waysApart 120 = .ok (.iinc 7 1, 3) := by decide +kernel
theorem dX5_waysApart_123 : decode cX5_waysApart 123 = .ok (.goto (-46), 3) := by decide +kernel
theorem dX5_waysApart_126 : decode cX5_waysApart 126 = .ok (.iload 5, 2) := by decide +kernel
theorem dX5_waysApart_128 : decode cX5_waysApart 128 = .ok (.iload 6, 2) := by decide +kernel
theorem dX5_waysApart_130 : decode cX5_waysApart 130 = .ok (.iadd, 1) := by decide +kernel
theorem dX5_waysApart_131 : decode cX5_waysApart 131 = .ok (.ireturn, 1) := by decide +kernel
theorem dX5_isReached_0 : decode cX5_isReached 0 = .ok (.iconst 1, 1) := by decide +kernel
theorem dX5_isReached_1 : decode cX5_isReached 1 = .ok (.iload_n 2, 1) := by decide +kernel
theorem dX5_isReached_2 : decode cX5_isReached 2 = .ok (.ishl, 1) := by decide +kernel
theorem dX5_isReached_3 : decode cX5_isReached 3 = .ok (.istore 5, 2) := by decide +kernel
theorem dX5_isReached_5 : decode cX5_isReached 5 = .ok (.iconst 0, 1) := by decide +kernel
theorem dX5_isReached_6 : decode cX5_isReached 6 = .ok (.istore 6, 2) := by decide +kernel
theorem dX5_isReached_8 : decode cX5_isReached 8 = .ok (.iload 6, 2) := by decide +kernel
theorem dX5_isReached_10 : decode cX5_isReached 10 = .ok (.aload_n 1, 1) := by decide +kernel
theorem dX5_isReached_11 : decode cX5_isReached 11 = .ok (.getfield 31, 3) := by decide +kernel
theorem dX5_isReached_14 : decode cX5_isReached 14 = .ok (.if_icmp .ge 54, 3) := by decide +kernel
theorem dX5_isReached_17 : decode cX5_isReached 17 = .ok (.iconst 0, 1) := by decide +kernel
theorem dX5_isReached_18 : decode cX5_isReached 18 = .ok (.istore 7, 2) := by decide +kernel
theorem dX5_isReached_20 : decode cX5_isReached 20 = .ok (.iload 7, 2) := by decide +kernel
theorem dX5_isReached_22 : decode cX5_isReached 22 = .ok (.aload_n 1, 1) := by decide +kernel
theorem dX5_isReached_23 : decode cX5_isReached 23 = .ok (.getfield 31, 3) := by decide +kernel
theorem dX5_isReached_26 : decode cX5_isReached 26 = .ok (.if_icmp .ge 36, 3) := by decide +kernel
theorem dX5_isReached_29 : decode cX5_isReached 29 = .ok (.iload 5, 2) := by decide +kernel
theorem dX5_isReached_31 : decode cX5_isReached 31 = .ok (.iload 7, 2) := by decide +kernel
theorem dX5_isReached_33 : decode cX5_isReached 33 = .ok (.invokestatic 38, 3) := by decide +kernel
theorem dX5_isReached_36 : decode cX5_isReached 36 = .ok (.ifCond .eq 20, 3) := by decide +kernel
theorem dX5_isReached_39 : decode cX5_isReached 39 = .ok (.iload 5, 2) := by decide +kernel
theorem dX5_isReached_41 : decode cX5_isReached 41 = .ok (.aload_n 0, 1) := by decide +kernel
theorem dX5_isReached_42 : decode cX5_isReached 42 = .ok (.getfield 20, 3) := by decide +kernel
theorem dX5_isReached_45 : decode cX5_isReached 45 = .ok (.iload 7, 2) := by decide +kernel
theorem dX5_isReached_47 : decode cX5_isReached 47 = .ok (.iaload, 1) := by decide +kernel
theorem dX5_isReached_48 : decode cX5_isReached 48 = .ok (.iload 4, 2) := by decide +kernel
theorem dX5_isReached_50 : decode cX5_isReached 50 = .ok (.iconst (-1), 1) := by decide +kernel
theorem dX5_isReached_51 : decode cX5_isReached 51 = .ok (.ixor, 1) := by decide +kernel
theorem dX5_isReached_52 : decode cX5_isReached 52 = .ok (.iand, 1) := by decide +kernel
theorem dX5_isReached_53 : decode cX5_isReached 53 = .ok (.ior, 1) := by decide +kernel
theorem dX5_isReached_54 : decode cX5_isReached 54 = .ok (.istore 5, 2) := by decide +kernel
theorem dX5_isReached_56 : decode cX5_isReached 56 = .ok (.iinc 7 1, 3) := by decide +kernel
theorem dX5_isReached_59 : decode cX5_isReached 59 = .ok (.goto (-39), 3) := by decide +kernel
theorem dX5_isReached_62 : decode cX5_isReached 62 = .ok (.iinc 6 1, 3) := by decide +kernel
theorem dX5_isReached_65 : decode cX5_isReached 65 = .ok (.goto (-57), 3) := by decide +kernel
theorem dX5_isReached_68 : decode cX5_isReached 68 = .ok (.iload 5, 2) := by decide +kernel
theorem dX5_isReached_70 : decode cX5_isReached 70 = .ok (.iload_n 3, 1) := by decide +kernel
theorem dX5_isReached_71 : decode cX5_isReached 71 = .ok (.invokestatic 38, 3) := by decide +kernel
theorem dX5_isReached_74 : decode cX5_isReached 74 = .ok (.ireturn, 1) := by decide +kernel
theorem dX6_init_0 : decode cX6_init 0 = .ok (.aload_n 0, 1) := by decide +kernel
theorem dX6_init_1 : decode cX6_init 1 = .ok (.invokespecial 3, 3) := by decide +kernel
theorem dX6_init_4 : decode cX6_init 4 = .ok (.aload_n 0, 1) := by decide +kernel
theorem dX6_init_5 : decode cX6_init 5 = .ok (.bipush 25, 2) := by decide +kernel
theorem dX6_init_7 : decode cX6_init 7 = .ok (.newarray .int, 2) := by decide +kernel
theorem dX6_init_9 : decode cX6_init 9 = .ok (.putfield 11, 3) := by decide +kernel
theorem dX6_init_12 : decode cX6_init 12 = .ok (.aload_n 0, 1) := by decide +kernel
theorem dX6_init_13 : decode cX6_init 13 = .ok (.bipush 25, 2) := by decide +kernel
theorem dX6_init_15 : decode cX6_init 15 = .ok (.newarray .int, 2) := by decide +kernel
theorem dX6_init_17 : decode cX6_init 17 = .ok (.putfield 17, 3) := by decide +kernel
theorem dX6_init_20 : decode cX6_init 20 = .ok (.aload_n 0, 1) := by decide +kernel
theorem dX6_init_21 : decode cX6_init 21 = .ok (.bipush 25, 2) := by decide +kernel
theorem dX6_init_23 : decode cX6_init 23 = .ok (.newarray .int, 2) := by decide +kernel
theorem dX6_init_25 : decode cX6_init 25 = .ok (.putfield 20, 3) := by decide +kernel
theorem dX6_init_28 : decode cX6_init 28 = .ok (.aload_n 0, 1) := by decide +kernel
theorem dX6_init_29 : decode cX6_init 29 = .ok (.bipush 25, 2) := by decide +kernel
theorem dX6_init_31 : decode cX6_init 31 = .ok (.newarray .int, 2) := by decide +kernel
theorem dX6_init_33 : decode cX6_init 33 = .ok (.putfield 23, 3) := by decide +kernel
theorem dX6_init_36 : decode cX6_init 36 = .ok (.return_, 1) := by decide +kernel
theorem dX6_reckon_0 : decode cX6_reckon 0 = .ok (.aload_n 1, 1) := by decide +kernel
theorem dX6_reckon_1 : decode cX6_reckon 1 = .ok (.getfield 26, 3) := by decide +kernel
theorem dX6_reckon_4 : decode cX6_reckon 4 = .ok (.istore_n 2, 1) := by decide +kernel
theorem dX6_reckon_5 : decode cX6_reckon 5 = .ok (.aload_n 0, 1) := by decide +kernel
theorem dX6_reckon_6 : decode cX6_reckon 6 = .ok (.getfield 11, 3) := by decide +kernel
theorem dX6_reckon_9 : decode cX6_reckon 9 = .ok (.iload_n 2, 1) := by decide +kernel
theorem dX6_reckon_10 : decode cX6_reckon 10 = .ok (.iconst 1, 1) := by decide +kernel
theorem dX6_reckon_11 : decode cX6_reckon 11 = .ok (.iastore, 1) := by decide +kernel
theorem dX6_reckon_12 : decode cX6_reckon 12 = .ok (.aload_n 0, 1) := by decide +kernel
theorem dX6_reckon_13 : decode cX6_reckon 13 = .ok (.getfield 17, 3) := by decide +kernel
theorem dX6_reckon_16 : decode cX6_reckon 16 = .ok (.iload_n 2, 1) := by decide +kernel
theorem dX6_reckon_17 : decode cX6_reckon 17 = .ok (.iconst 0, 1) := by decide +kernel
theorem dX6_reckon_18 : decode cX6_reckon 18 = .ok (.iastore, 1) := by decide +kernel
theorem dX6_reckon_19 : decode cX6_reckon 19 = .ok (.aload_n 0, 1) := by decide +kernel
theorem dX6_reckon_20 : decode cX6_reckon 20 = .ok (.getfield 20, 3) := by decide +kernel
theorem dX6_reckon_23 : decode cX6_reckon 23 = .ok (.iload_n 2, 1) := by decide +kernel
theorem dX6_reckon_24 : decode cX6_reckon 24 = .ok (.iconst 0, 1) := by decide +kernel
theorem dX6_reckon_25 : decode cX6_reckon 25 = .ok (.iastore, 1) := by decide +kernel
theorem dX6_reckon_26 : decode cX6_reckon 26 = .ok (.aload_n 0, 1) := by decide +kernel
theorem dX6_reckon_27 : decode cX6_reckon 27 = .ok (.getfield 23, 3) := by decide +kernel
theorem dX6_reckon_30 : decode cX6_reckon 30 = .ok (.iload_n 2, 1) := by decide +kernel
theorem dX6_reckon_31 : decode cX6_reckon 31 = .ok (.iconst (-1), 1) := by decide +kernel
theorem dX6_reckon_32 : decode cX6_reckon 32 = .ok (.iastore, 1) := by decide +kernel
theorem dX6_reckon_33 : decode cX6_reckon 33 = .ok (.iload_n 2, 1) := by decide +kernel
theorem dX6_reckon_34 : decode cX6_reckon 34 = .ok (.iconst 1, 1) := by decide +kernel
theorem dX6_reckon_35 : decode cX6_reckon 35 = .ok (.isub, 1) := by decide +kernel
theorem dX6_reckon_36 : decode cX6_reckon 36 = .ok (.istore_n 3, 1) := by decide +kernel
theorem dX6_reckon_37 : decode cX6_reckon 37 = .ok (.iload_n 3, 1) := by decide +kernel
theorem dX6_reckon_38 : decode cX6_reckon 38 = .ok (.ifCond .lt 88, 3) := by decide +kernel
theorem dX6_reckon_41 : decode cX6_reckon 41 = .ok (.aload_n 0, 1) := by decide +kernel
theorem dX6_reckon_42 : decode cX6_reckon 42 = .ok (.getfield 11, 3) := by decide +kernel
theorem dX6_reckon_45 : decode cX6_reckon 45 = .ok (.iload_n 3, 1) := by decide +kernel
theorem dX6_reckon_46 : decode cX6_reckon 46 = .ok (.iconst 0, 1) := by decide +kernel
theorem dX6_reckon_47 : decode cX6_reckon 47 = .ok (.iastore, 1) := by decide +kernel
theorem dX6_reckon_48 : decode cX6_reckon 48 = .ok (.aload_n 0, 1) := by decide +kernel
theorem dX6_reckon_49 : decode cX6_reckon 49 = .ok (.getfield 17, 3) := by decide +kernel
theorem dX6_reckon_52 : decode cX6_reckon 52 = .ok (.iload_n 3, 1) := by decide +kernel
theorem dX6_reckon_53 : decode cX6_reckon 53 = .ok (.iconst (-1), 1) := by decide +kernel
theorem dX6_reckon_54 : decode cX6_reckon 54 = .ok (.iastore, 1) := by decide +kernel
theorem dX6_reckon_55 : decode cX6_reckon 55 = .ok (.aload_n 0, 1) := by decide +kernel
theorem dX6_reckon_56 : decode cX6_reckon 56 = .ok (.getfield 20, 3) := by decide +kernel
theorem dX6_reckon_59 : decode cX6_reckon 59 = .ok (.iload_n 3, 1) := by decide +kernel
theorem dX6_reckon_60 : decode cX6_reckon 60 = .ok (.iconst 0, 1) := by decide +kernel
theorem dX6_reckon_61 : decode cX6_reckon 61 = .ok (.iastore, 1) := by decide +kernel
theorem dX6_reckon_62 : decode cX6_reckon 62 = .ok (.aload_n 0, 1) := by decide +kernel
theorem dX6_reckon_63 : decode cX6_reckon 63 = .ok (.getfield 23, 3) := by decide +kernel
theorem dX6_reckon_66 : decode cX6_reckon 66 = .ok (.iload_n 3, 1) := by decide +kernel
theorem dX6_reckon_67 : decode cX6_reckon 67 = .ok (.iconst (-1), 1) := by decide +kernel
theorem dX6_reckon_68 : decode cX6_reckon 68 = .ok (.iastore, 1) := by decide +kernel
theorem dX6_reckon_69 : decode cX6_reckon 69 = .ok (.iconst 0, 1) := by decide +kernel
theorem dX6_reckon_70 : decode cX6_reckon 70 = .ok (.istore 4, 2) := by decide +kernel
theorem dX6_reckon_72 : decode cX6_reckon 72 = .ok (.iload 4, 2) := by decide +kernel
theorem dX6_reckon_74 : decode cX6_reckon 74 = .ok (.aload_n 1, 1) := by decide +kernel
theorem dX6_reckon_75 : decode cX6_reckon 75 = .ok (.getfield 30, 3) := by decide +kernel
theorem dX6_reckon_78 : decode cX6_reckon 78 = .ok (.if_icmp .ge 42, 3) := by decide +kernel
theorem dX6_reckon_81 : decode cX6_reckon 81 = .ok (.aload_n 1, 1) := by decide +kernel
theorem dX6_reckon_82 : decode cX6_reckon 82 = .ok (.iload 4, 2) := by decide +kernel
theorem dX6_reckon_84 : decode cX6_reckon 84 = .ok (.iload_n 3, 1) := by decide +kernel
theorem dX6_reckon_85 : decode cX6_reckon 85 = .ok (.invokevirtual 33, 3) := by decide +kernel
theorem dX6_reckon_88 : decode cX6_reckon 88 = .ok (.ifCond .eq 26, 3) := by decide +kernel
theorem dX6_reckon_91 : decode cX6_reckon 91 = .ok (.aload_n 0, 1) := by decide +kernel
theorem dX6_reckon_92 : decode cX6_reckon 92 = .ok (.iload_n 3, 1) := by decide +kernel
theorem dX6_reckon_93 : decode cX6_reckon 93 = .ok (.iload 4, 2) := by decide +kernel
theorem dX6_reckon_95 : decode cX6_reckon 95 = .ok (.iload_n 3, 1) := by decide +kernel
theorem dX6_reckon_96 : decode cX6_reckon 96 = .ok (.aload_n 1, 1) := by decide +kernel
theorem dX6_reckon_97 : decode cX6_reckon 97 = .ok (.getfield 37, 3) := by decide +kernel
theorem dX6_reckon_100 : decode cX6_reckon 100 = .ok (.iload 4, 2) := by decide +kernel
theorem dX6_reckon_102 : decode cX6_reckon 102 = .ok (.iaload, 1) := by decide +kernel
theorem dX6_reckon_103 : decode cX6_reckon 103 = .ok (.iadd, 1) := by decide +kernel
theorem dX6_reckon_104 : decode cX6_reckon 104 = .ok (.aload_n 1, 1) := by decide +kernel
theorem dX6_reckon_105 : decode cX6_reckon 105 = .ok (.getfield 40, 3) := by decide +kernel
theorem dX6_reckon_108 : decode cX6_reckon 108 = .ok (.iload 4, 2) := by decide +kernel
theorem dX6_reckon_110 : decode cX6_reckon 110 = .ok (.iaload, 1) := by decide +kernel
theorem dX6_reckon_111 : decode cX6_reckon 111 = .ok (.invokevirtual 43, 3) := by decide +kernel
theorem dX6_reckon_114 : decode cX6_reckon 114 = .ok (.iinc 4 1, 3) := by decide +kernel
theorem dX6_reckon_117 : decode cX6_reckon 117 = .ok (.goto (-45), 3) := by decide +kernel
theorem dX6_reckon_120 : decode cX6_reckon 120 = .ok (.iinc 3 (-1), 3) := by decide +kernel
theorem dX6_reckon_123 : decode cX6_reckon 123 = .ok (.goto (-86), 3) := by decide +kernel
theorem dX6_reckon_126 : decode cX6_reckon 126 = .ok (.return_, 1) := by decide +kernel
theorem dX6_begin_0 : decode cX6_begin 0 = .ok (.aload_n 0, 1) := by decide +kernel
theorem dX6_begin_1 : decode cX6_begin 1 = .ok (.getfield 11, 3) := by decide +kernel
theorem dX6_begin_4 : decode cX6_begin 4 = .ok (.iload_n 1, 1) := by decide +kernel
theorem dX6_begin_5 : decode cX6_begin 5 = .ok (.aload_n 0, 1) := by decide +kernel
theorem dX6_begin_6 : decode cX6_begin 6 = .ok (.getfield 11, 3) := by decide +kernel
theorem dX6_begin_9 : decode cX6_begin 9 = .ok (.iload_n 1, 1) := by decide +kernel
theorem dX6_begin_10 : decode cX6_begin 10 = .ok (.iaload, 1) := by decide +kernel
theorem dX6_begin_11 : decode cX6_begin 11 = .ok (.aload_n 0, 1) := by decide +kernel
theorem dX6_begin_12 : decode cX6_begin 12 = .ok (.getfield 11, 3) := by decide +kernel
theorem dX6_begin_15 : decode cX6_begin 15 = .ok (.iload_n 3, 1) := by decide +kernel
theorem dX6_begin_16 : decode cX6_begin 16 = .ok (.iaload, 1) := by decide +kernel
theorem dX6_begin_17 : decode cX6_begin 17 = .ok (.iadd, 1) := by decide +kernel
theorem dX6_begin_18 : decode cX6_begin 18 = .ok (.ldc 47, 2) := by decide +kernel
theorem dX6_begin_20 : decode cX6_begin 20 = .ok (.irem, 1) := by decide +kernel
theorem dX6_begin_21 : decode cX6_begin 21 = .ok (.iastore, 1) := by decide +kernel
theorem dX6_begin_22 : decode cX6_begin 22 = .ok (.aload_n 0, 1) := by decide +kernel
theorem dX6_begin_23 : decode cX6_begin 23 = .ok (.getfield 17, 3) := by decide +kernel
theorem dX6_begin_26 : decode cX6_begin 26 = .ok (.iload_n 3, 1) := by decide +kernel
theorem dX6_begin_27 : decode cX6_begin 27 = .ok (.iaload, 1) := by decide +kernel
theorem dX6_begin_28 : decode cX6_begin 28 = .ok (.iconst (-1), 1) := by decide +kernel
theorem dX6_begin_29 : decode cX6_begin 29 = .ok (.if_icmp .ne 4, 3) := by decide +kernel
theorem dX6_begin_32 : decode cX6_begin 32 = .ok (.return_, 1) := by decide +kernel
theorem dX6_begin_33 : decode cX6_begin 33 = .ok (.aload_n 0, 1) := by decide +kernel
theorem dX6_begin_34 : decode cX6_begin 34 = .ok (.getfield 17, 3) := by decide +kernel
theorem dX6_begin_37 : decode cX6_begin 37 = .ok (.iload_n 3, 1) := by decide +kernel
theorem dX6_begin_38 : decode cX6_begin 38 = .ok (.iaload, 1) := by decide +kernel
theorem dX6_begin_39 : decode cX6_begin 39 = .ok (.iconst 1, 1) := by decide +kernel
theorem dX6_begin_40 : decode cX6_begin 40 = .ok (.iadd, 1) := by decide +kernel
theorem dX6_begin_41 : decode cX6_begin 41 = .ok (.istore 5, 2) := by decide +kernel
theorem dX6_begin_43 : decode cX6_begin 43 = .ok (.aload_n 0, 1) := by decide +kernel
theorem dX6_begin_44 : decode cX6_begin 44 = .ok (.getfield 20, 3) := by decide +kernel
theorem dX6_begin_47 : decode cX6_begin 47 = .ok (.iload_n 3, 1) := by decide +kernel
theorem dX6_begin_48 : decode cX6_begin 48 = .ok (.iaload, 1) := by decide +kernel
theorem dX6_begin_49 : decode cX6_begin 49 = .ok (.iload 4, 2) := by decide +kernel
theorem dX6_begin_51 : decode cX6_begin 51 = .ok (.iadd, 1) := by decide +kernel
theorem dX6_begin_52 : decode cX6_begin 52 = .ok (.istore 6, 2) := by decide +kernel
theorem dX6_begin_54 : decode cX6_begin 54 = .ok (.aload_n 0, 1) := by decide +kernel
theorem dX6_begin_55 : decode cX6_begin 55 = .ok (.getfield 17, 3) := by decide +kernel
theorem dX6_begin_58 : decode cX6_begin 58 = .ok (.iload_n 1, 1) := by decide +kernel
theorem dX6_begin_59 : decode cX6_begin 59 = .ok (.iaload, 1) := by decide +kernel
theorem dX6_begin_60 : decode cX6_begin 60 = .ok (.iconst (-1), 1) := by decide +kernel
theorem dX6_begin_61 : decode cX6_begin 61 = .ok (.if_icmp .eq 36, 3) := by decide +kernel
theorem dX6_begin_64 : decode cX6_begin 64 = .ok (.iload 5, 2) := by decide +kernel
theorem dX6_begin_66 : decode cX6_begin 66 = .ok (.aload_n 0, 1) := by decide +kernel
theorem dX6_begin_67 : decode cX6_begin 67 = .ok (.getfield 17, 3) := by decide +kernel
theorem dX6_begin_70 : decode cX6_begin 70 = .ok (.iload_n 1, 1) := by decide +kernel
theorem dX6_begin_71 : decode cX6_begin 71 = .ok (.iaload, 1) := by decide +kernel
theorem dX6_begin_72 : decode cX6_begin 72 = .ok (.if_icmp .lt 25, 3) := by decide +kernel
theorem dX6_begin_75 : decode cX6_begin 75 = .ok (.iload 5, 2) := by decide +kernel
theorem dX6_begin_77 : decode cX6_begin 77 = .ok (.aload_n 0, 1) := by decide +kernel
theorem dX6_begin_78 : decode cX6_begin 78 = .ok (.getfield 17, 3) := by decide +kernel
theorem dX6_begin_81 : decode cX6_begin 81 = .ok (.iload_n 1, 1) := by decide +kernel
theorem dX6_begin_82 : decode cX6_begin 82 = .ok (.iaload, 1) := by decide +kernel
theorem dX6_begin_83 : decode cX6_begin 83 = .ok (.if_icmp .ne 37, 3) := by decide +kernel
theorem dX6_begin_86 : decode cX6_begin 86 = .ok (.iload 6, 2) := by decide +kernel
theorem dX6_begin_88 : decode cX6_begin 88 = .ok (.aload_n 0, 1) := by decide +kernel
theorem dX6_begin_89 : decode cX6_begin 89 = .ok (.getfield 20, 3) := by decide +kernel
theorem dX6_begin_92 : decode cX6_begin 92 = .ok (.iload_n 1, 1) := by decide +kernel
theorem dX6_begin_93 : decode cX6_begin 93 = .ok (.iaload, 1) := by decide +kernel
theorem dX6_begin_94 : decode cX6_begin 94 = .ok (.if_icmp .le 26, 3) := by decide +kernel
theorem dX6_begin_97 : decode cX6_begin 97 = .ok (.aload_n 0, 1) := by decide +kernel
theorem dX6_begin_98 : decode cX6_begin 98 = .ok (.getfield 17, 3) := by decide +kernel
theorem dX6_begin_101 : decode cX6_begin 101 = .ok (.iload_n 1, 1) := by decide +kernel
theorem dX6_begin_102 : decode cX6_begin 102 = .ok (.iload 5, 2) := by decide +kernel
theorem dX6_begin_104 : decode cX6_begin 104 = .ok (.iastore, 1) := by decide +kernel
theorem dX6_begin_105 : decode cX6_begin 105 = .ok (.aload_n 0, 1) := by decide +kernel
theorem dX6_begin_106 : decode cX6_begin 106 = .ok (.getfield 20, 3) := by decide +kernel
theorem dX6_begin_109 : decode cX6_begin 109 = .ok (.iload_n 1, 1) := by decide +kernel
theorem dX6_begin_110 : decode cX6_begin 110 = .ok (.iload 6, 2) := by decide +kernel
theorem dX6_begin_112 : decode cX6_begin 112 = .ok (.iastore, 1) := by decide +kernel
theorem dX6_begin_113 : decode cX6_begin 113 = .ok (.aload_n 0, 1) := by decide +kernel
theorem dX6_begin_114 : decode cX6_begin 114 = .ok (.getfield 23, 3) := by decide +kernel
theorem dX6_begin_117 : decode cX6_begin 117 = .ok (.iload_n 1, 1) := by decide +kernel
theorem dX6_begin_118 : decode cX6_begin 118 = .ok (.iload_n 2, 1) := by decide +kernel
theorem dX6_begin_119 : decode cX6_begin 119 = .ok (.iastore, 1) := by decide +kernel
theorem dX6_begin_120 : decode cX6_begin 120 = .ok (.return_, 1) := by decide +kernel
theorem dX6_number_0 : decode cX6_number 0 = .ok (.aload_n 0, 1) := by decide +kernel
theorem dX6_number_1 : decode cX6_number 1 = .ok (.getfield 11, 3) := by decide +kernel
theorem dX6_number_4 : decode cX6_number 4 = .ok (.iconst 0, 1) := by decide +kernel
theorem dX6_number_5 : decode cX6_number 5 = .ok (.iaload, 1) := by decide +kernel
theorem dX6_number_6 : decode cX6_number 6 = .ok (.ireturn, 1) := by decide +kernel
theorem dX6_fewestWords_0 : decode cX6_fewestWords 0 = .ok (.aload_n 0, 1) := by decide +kernel
theorem dX6_fewestWords_1 : decode cX6_fewestWords 1 = .ok (.getfield 17, 3) := by decide +kernel
theorem dX6_fewestWords_4 : decode cX6_fewestWords 4 = .ok (.iconst 0, 1) := by decide +kernel
theorem dX6_fewestWords_5 : decode cX6_fewestWords 5 = .ok (.iaload, 1) := by decide +kernel
theorem dX6_fewestWords_6 : decode cX6_fewestWords 6 = .ok (.ireturn, 1) := by decide +kernel
theorem dX6_wordInPlace_0 : decode cX6_wordInPlace 0 = .ok (.iconst 0, 1) := by decide +kernel
theorem dX6_wordInPlace_1 : decode cX6_wordInPlace 1 = .ok (.istore_n 3, 1) := by decide +kernel
theorem dX6_wordInPlace_2 : decode cX6_wordInPlace 2 = .ok (.iconst 0, 1) := by decide +kernel
theorem dX6_wordInPlace_3 : decode cX6_wordInPlace 3 = .ok (.istore 4, 2) := by decide +kernel
theorem dX6_wordInPlace_5 : decode cX6_wordInPlace 5 = .ok (.iload 4, 2) := by decide +kernel
theorem dX6_wordInPlace_7 : decode cX6_wordInPlace 7 = .ok (.iload_n 2, 1) := by decide +kernel
theorem dX6_wordInPlace_8 : decode cX6_wordInPlace 8 = .ok (.if_icmp .ge 33, 3) := by decide +kernel
theorem dX6_wordInPlace_11 : decode cX6_wordInPlace 11 = .ok (.aload_n 0, 1) := by decide +kernel
theorem dX6_wordInPlace_12 : decode cX6_wordInPlace 12 = .ok (.getfield 23, 3) := by decide +kernel
theorem dX6_wordInPlace_15 : decode cX6_wordInPlace 15 = .ok (.iload_n 3, 1) := by decide +kernel
theorem dX6_wordInPlace_16 : decode cX6_wordInPlace 16 = .ok (.iaload, 1) := by decide +kernel
theorem dX6_wordInPlace_17 : decode cX6_wordInPlace 17 = .ok (.iconst (-1), 1) := by decide +kernel
theorem dX6_wordInPlace_18 : decode cX6_wordInPlace 18 = .ok (.if_icmp .eq 23, 3) := by decide +kernel
theorem dX6_wordInPlace_21 : decode cX6_wordInPlace 21 = .ok (.iload_n 3, 1) := by decide +kernel
theorem dX6_wordInPlace_22 : decode cX6_wordInPlace 22 = .ok (.aload_n 1, 1) := by decide +kernel
theorem dX6_wordInPlace_23 : decode cX6_wordInPlace 23 = .ok (.getfield 37, 3) := by decide +kernel
theorem dX6_wordInPlace_26 : decode cX6_wordInPlace 26 = .ok (.aload_n 0, 1) := by decide +kernel
theorem dX6_wordInPlace_27 : decode cX6_wordInPlace 27 = .ok (.getfield 23, 3) := by decide +kernel
theorem dX6_wordInPlace_30 : decode cX6_wordInPlace 30 = .ok (.iload_n 3, 1) := by decide +kernel
theorem dX6_wordInPlace_31 : decode cX6_wordInPlace 31 = .ok (.iaload, 1) := by decide +kernel
theorem dX6_wordInPlace_32 : decode cX6_wordInPlace 32 = .ok (.iaload, 1) := by decide +kernel
theorem dX6_wordInPlace_33 : decode cX6_wordInPlace 33 = .ok (.iadd, 1) := by decide +kernel
theorem dX6_wordInPlace_34 : decode cX6_wordInPlace 34 = .ok (.istore_n 3, 1) := by decide +kernel
theorem dX6_wordInPlace_35 : decode cX6_wordInPlace 35 = .ok (.iinc 4 1, 3) := by decide +kernel
theorem dX6_wordInPlace_38 : decode cX6_wordInPlace 38 = .ok (.goto (-33), 3) := by decide +kernel
theorem dX6_wordInPlace_41 : decode cX6_wordInPlace 41 = .ok (.aload_n 0, 1) := by decide +kernel
theorem dX6_wordInPlace_42 : decode cX6_wordInPlace 42 = .ok (.getfield 23, 3) := by decide +kernel
theorem dX6_wordInPlace_45 : decode cX6_wordInPlace 45 = .ok (.iload_n 3, 1) := by decide +kernel
theorem dX6_wordInPlace_46 : decode cX6_wordInPlace 46 = .ok (.iaload, 1) := by decide +kernel
theorem dX6_wordInPlace_47 : decode cX6_wordInPlace 47 = .ok (.ireturn, 1) := by decide +kernel
theorem dX7_init_0 : decode cX7_init 0 = .ok (.aload_n 0, 1) := by decide +kernel
theorem dX7_init_1 : decode cX7_init 1 = .ok (.invokespecial 1, 3) := by decide +kernel
theorem dX7_init_4 : decode cX7_init 4 = .ok (.aload_n 0, 1) := by decide +kernel
theorem dX7_init_5 : decode cX7_init 5 = .ok (.new 7, 3) := by decide +kernel
theorem dX7_init_8 : decode cX7_init 8 = .ok (.dup, 1) := by decide +kernel
theorem dX7_init_9 : decode cX7_init 9 = .ok (.invokespecial 9, 3) := by decide +kernel
theorem dX7_init_12 : decode cX7_init 12 = .ok (.putfield 10, 3) := by decide +kernel
theorem dX7_init_15 : decode cX7_init 15 = .ok (.aload_n 0, 1) := by decide +kernel
theorem dX7_init_16 : decode cX7_init 16 = .ok (.new 16, 3) := by decide +kernel
theorem dX7_init_19 : decode cX7_init 19 = .ok (.dup, 1) := by decide +kernel
theorem dX7_init_20 : decode cX7_init 20 = .ok (.invokespecial 18, 3) := by decide +kernel
theorem dX7_init_23 : decode cX7_init 23 = .ok (.putfield 19, 3) := by decide +kernel
theorem dX7_init_26 : decode cX7_init 26 = .ok (.aload_n 0, 1) := by decide +kernel
theorem dX7_init_27 : decode cX7_init 27 = .ok (.new 23, 3) := by decide +kernel
theorem dX7_init_30 : decode cX7_init 30 = .ok (.dup, 1) := by decide +kernel
theorem dX7_init_31 : decode cX7_init 31 = .ok (.invokespecial 25, 3) := by decide +kernel
theorem dX7_init_34 : decode cX7_init 34 = .ok (.putfield 26, 3) := by decide +kernel
theorem dX7_init_37 : decode cX7_init 37 = .ok (.aload_n 0, 1) := by decide +kernel
theorem dX7_init_38 : decode cX7_init 38 = .ok (.bipush 6, 2) := by decide +kernel
theorem dX7_init_40 : decode cX7_init 40 = .ok (.newarray .int, 2) := by decide +kernel
theorem dX7_init_42 : decode cX7_init 42 = .ok (.putfield 30, 3) := by decide +kernel
theorem dX7_init_45 : decode cX7_init 45 = .ok (.aload_n 0, 1) := by decide +kernel
theorem dX7_init_46 : decode cX7_init 46 = .ok (.bipush 6, 2) := by decide +kernel
theorem dX7_init_48 : decode cX7_init 48 = .ok (.newarray .int, 2) := by decide +kernel
theorem dX7_init_50 : decode cX7_init 50 = .ok (.putfield 34, 3) := by decide +kernel
theorem dX7_init_53 : decode cX7_init 53 = .ok (.aload_n 0, 1) := by decide +kernel
theorem dX7_init_54 : decode cX7_init 54 = .ok (.bipush 20, 2) := by decide +kernel
theorem dX7_init_56 : decode cX7_init 56 = .ok (.putfield 37, 3) := by decide +kernel
theorem dX7_init_59 : decode cX7_init 59 = .ok (.return_, 1) := by decide +kernel
theorem dX7_copyFrom_0 : decode cX7_copyFrom 0 = .ok (.aload_n 0, 1) := by decide +kernel
theorem dX7_copyFrom_1 : decode cX7_copyFrom 1 = .ok (.getfield 10, 3) := by decide +kernel
theorem dX7_copyFrom_4 : decode cX7_copyFrom 4 = .ok (.aload_n 1, 1) := by decide +kernel
theorem dX7_copyFrom_5 : decode cX7_copyFrom 5 = .ok (.getfield 10, 3) := by decide +kernel
theorem dX7_copyFrom_8 : decode cX7_copyFrom 8 = .ok (.invokevirtual 41, 3) := by decide +kernel
theorem dX7_copyFrom_11 : decode cX7_copyFrom 11 = .ok (.aload_n 0, 1) := by decide +kernel
theorem dX7_copyFrom_12 : decode cX7_copyFrom 12 = .ok (.getfield 19, 3) := by decide +kernel
theorem dX7_copyFrom_15 : decode cX7_copyFrom 15 = .ok (.aload_n 1, 1) := by decide +kernel
theorem dX7_copyFrom_16 : decode cX7_copyFrom 16 = .ok (.getfield 19, 3) := by decide +kernel
theorem dX7_copyFrom_19 : decode cX7_copyFrom 19 = .ok (.invokevirtual 45, 3) := by decide +kernel
theorem dX7_copyFrom_22 : decode cX7_copyFrom 22 = .ok (.aload_n 0, 1) := by decide +kernel
theorem dX7_copyFrom_23 : decode cX7_copyFrom 23 = .ok (.getfield 26, 3) := by decide +kernel
theorem dX7_copyFrom_26 : decode cX7_copyFrom 26 = .ok (.aload_n 1, 1) := by decide +kernel
theorem dX7_copyFrom_27 : decode cX7_copyFrom 27 = .ok (.getfield 26, 3) := by decide +kernel
theorem dX7_copyFrom_30 : decode cX7_copyFrom 30 = .ok (.invokevirtual 48, 3) := by decide +kernel
theorem dX7_copyFrom_33 : decode cX7_copyFrom 33 = .ok (.aload_n 1, 1) := by decide +kernel
theorem dX7_copyFrom_34 : decode cX7_copyFrom 34 = .ok (.getfield 30, 3) := by decide +kernel
theorem dX7_copyFrom_37 : decode cX7_copyFrom 37 = .ok (.iconst 0, 1) := by decide +kernel
theorem dX7_copyFrom_38 : decode cX7_copyFrom 38 = .ok (.aload_n 0, 1) := by decide +kernel
theorem dX7_copyFrom_39 : decode cX7_copyFrom 39 = .ok (.getfield 30, 3) := by decide +kernel
theorem dX7_copyFrom_42 : decode cX7_copyFrom 42 = .ok (.iconst 0, 1) := by decide +kernel
theorem dX7_copyFrom_43 : decode cX7_copyFrom 43 = .ok (.bipush 6, 2) := by decide +kernel
theorem dX7_copyFrom_45 : decode cX7_copyFrom 45 = .ok (.invokestatic 51, 3) := by decide +kernel
theorem dX7_copyFrom_48 : decode cX7_copyFrom 48 = .ok (.aload_n 1, 1) := by decide +kernel
theorem dX7_copyFrom_49 : decode cX7_copyFrom 49 = .ok (.getfield 34, 3) := by decide +kernel
theorem dX7_copyFrom_52 : decode cX7_copyFrom 52 = .ok (.iconst 0, 1) := by decide +kernel
theorem dX7_copyFrom_53 : decode cX7_copyFrom 53 = .ok (.aload_n 0, 1) := by decide +kernel
theorem dX7_copyFrom_54 : decode cX7_copyFrom 54 = .ok (.getfield 34, 3) := by decide +kernel
theorem dX7_copyFrom_57 : decode cX7_copyFrom 57 = .ok (.iconst 0, 1) := by decide +kernel
theorem dX7_copyFrom_58 : decode cX7_copyFrom 58 = .ok (.bipush 6, 2) := by decide +kernel
theorem dX7_copyFrom_60 : decode cX7_copyFrom 60 = .ok (.invokestatic 51, 3) := by decide +kernel
theorem dX7_copyFrom_63 : decode cX7_copyFrom 63 = .ok (.aload_n 0, 1) := by decide +kernel
theorem dX7_copyFrom_64 : decode cX7_copyFrom 64 = .ok (.aload_n 1, 1) := by decide +kernel
theorem dX7_copyFrom_65 : decode cX7_copyFrom 65 = .ok (.getfield 37, 3) := by decide +kernel
theorem dX7_copyFrom_68 : decode cX7_copyFrom 68 = .ok (.putfield 37, 3) := by decide +kernel
theorem dX7_copyFrom_71 : decode cX7_copyFrom 71 = .ok (.return_, 1) := by decide +kernel
theorem dX7_beginAnew_0 : decode cX7_beginAnew 0 = .ok (.aload_n 0, 1) := by decide +kernel
theorem dX7_beginAnew_1 : decode cX7_beginAnew 1 = .ok (.getfield 10, 3) := by decide +kernel
theorem dX7_beginAnew_4 : decode cX7_beginAnew 4 = .ok (.invokevirtual 57, 3) := by decide +kernel
theorem dX7_beginAnew_7 : decode cX7_beginAnew 7 = .ok (.aload_n 0, 1) := by decide +kernel
theorem dX7_beginAnew_8 : decode cX7_beginAnew 8 = .ok (.getfield 19, 3) := by decide +kernel
theorem dX7_beginAnew_11 : decode cX7_beginAnew 11 = .ok (.iconst 0, 1) := by decide +kernel
theorem dX7_beginAnew_12 : decode cX7_beginAnew 12 = .ok (.putfield 60, 3) := by decide +kernel
theorem dX7_beginAnew_15 : decode cX7_beginAnew 15 = .ok (.aload_n 0, 1) := by decide +kernel
theorem dX7_beginAnew_16 : decode cX7_beginAnew 16 = .ok (.getfield 26, 3) := by decide +kernel
theorem dX7_beginAnew_19 : decode cX7_beginAnew 19 = .ok (.invokevirtual 63, 3) := by decide +kernel
theorem dX7_beginAnew_22 : decode cX7_beginAnew 22 = .ok (.return_, 1) := by decide +kernel
theorem dX8_init_0 : decode cX8_init 0 = .ok (.aload_n 0, 1) := by decide +kernel
theorem dX8_init_1 : decode cX8_init 1 = .ok (.invokespecial 3, 3) := by decide +kernel
theorem dX8_init_4 : decode cX8_init 4 = .ok (.aload_n 0, 1) := by decide +kernel
theorem dX8_init_5 : decode cX8_init 5 = .ok (.bipush 10, 2) := by decide +kernel
theorem dX8_init_7 : decode cX8_init 7 = .ok (.newarray .int, 2) := by decide +kernel
theorem dX8_init_9 : decode cX8_init 9 = .ok (.putfield 11, 3) := by decide +kernel
theorem dX8_init_12 : decode cX8_init 12 = .ok (.aload_n 0, 1) := by decide +kernel
theorem dX8_init_13 : decode cX8_init 13 = .ok (.bipush 10, 2) := by decide +kernel
theorem dX8_init_15 : decode cX8_init 15 = .ok (.newarray .int, 2) := by decide +kernel
theorem dX8_init_17 : decode cX8_init 17 = .ok (.putfield 15, 3) := by decide +kernel
theorem dX8_init_20 : decode cX8_init 20 = .ok (.aload_n 0, 1) := by decide +kernel
theorem dX8_init_21 : decode cX8_init 21 = .ok (.bipush 10, 2) := by decide +kernel
theorem dX8_init_23 : decode cX8_init 23 = .ok (.newarray .int, 2) := by decide +kernel
theorem dX8_init_25 : decode cX8_init 25 = .ok (.putfield 18, 3) := by decide +kernel
theorem dX8_init_28 : decode cX8_init 28 = .ok (.return_, 1) := by decide +kernel
theorem dX8_copyFrom_0 : decode cX8_copyFrom 0 = .ok (.aload_n 0, 1) := by decide +kernel
theorem dX8_copyFrom_1 : decode cX8_copyFrom 1 = .ok (.aload_n 1, 1) := by decide +kernel
theorem dX8_copyFrom_2 : decode cX8_copyFrom 2 = .ok (.getfield 21, 3) := by decide +kernel
theorem dX8_copyFrom_5 : decode cX8_copyFrom 5 = .ok (.putfield 21, 3) := by decide +kernel
theorem dX8_copyFrom_8 : decode cX8_copyFrom 8 = .ok (.aload_n 1, 1) := by decide +kernel
theorem dX8_copyFrom_9 : decode cX8_copyFrom 9 = .ok (.getfield 11, 3) := by decide +kernel
theorem dX8_copyFrom_12 : decode cX8_copyFrom 12 = .ok (.iconst 0, 1) := by decide +kernel
theorem dX8_copyFrom_13 : decode cX8_copyFrom 13 = .ok (.aload_n 0, 1) := by decide +kernel
theorem dX8_copyFrom_14 : decode cX8_copyFrom 14 = .ok (.getfield 11, 3) := by decide +kernel
theorem dX8_copyFrom_17 : decode cX8_copyFrom 17 = .ok (.iconst 0, 1) := by decide +kernel
theorem dX8_copyFrom_18 : decode cX8_copyFrom 18 = .ok (.bipush 10, 2) := by decide +kernel
theorem dX8_copyFrom_20 : decode cX8_copyFrom 20 = .ok (.invokestatic 25, 3) := by decide +kernel
theorem dX8_copyFrom_23 : decode cX8_copyFrom 23 = .ok (.aload_n 1, 1) := by decide +kernel
theorem dX8_copyFrom_24 : decode cX8_copyFrom 24 = .ok (.getfield 15, 3) := by decide +kernel
theorem dX8_copyFrom_27 : decode cX8_copyFrom 27 = .ok (.iconst 0, 1) := by decide +kernel
theorem dX8_copyFrom_28 : decode cX8_copyFrom 28 = .ok (.aload_n 0, 1) := by decide +kernel
theorem dX8_copyFrom_29 : decode cX8_copyFrom 29 = .ok (.getfield 15, 3) := by decide +kernel
theorem dX8_copyFrom_32 : decode cX8_copyFrom 32 = .ok (.iconst 0, 1) := by decide +kernel
theorem dX8_copyFrom_33 : decode cX8_copyFrom 33 = .ok (.bipush 10, 2) := by decide +kernel
theorem dX8_copyFrom_35 : decode cX8_copyFrom 35 = .ok (.invokestatic 25, 3) := by decide +kernel
theorem dX8_copyFrom_38 : decode cX8_copyFrom 38 = .ok (.aload_n 1, 1) := by decide +kernel
theorem dX8_copyFrom_39 : decode cX8_copyFrom 39 = .ok (.getfield 18, 3) := by decide +kernel
theorem dX8_copyFrom_42 : decode cX8_copyFrom 42 = .ok (.iconst 0, 1) := by decide +kernel
theorem dX8_copyFrom_43 : decode cX8_copyFrom 43 = .ok (.aload_n 0, 1) := by decide +kernel
theorem dX8_copyFrom_44 : decode cX8_copyFrom 44 = .ok (.getfield 18, 3) := by decide +kernel
theorem dX8_copyFrom_47 : decode cX8_copyFrom 47 = .ok (.iconst 0, 1) := by decide +kernel
theorem dX8_copyFrom_48 : decode cX8_copyFrom 48 = .ok (.bipush 10, 2) := by decide +kernel
theorem dX8_copyFrom_50 : decode cX8_copyFrom 50 = .ok (.invokestatic 25, 3) := by decide +kernel
theorem dX8_copyFrom_53 : decode cX8_copyFrom 53 = .ok (.return_, 1) := by decide +kernel
theorem dX8_add_0 : decode cX8_add 0 = .ok (.iload_n 2, 1) := by decide +kernel
theorem dX8_add_1 : decode cX8_add 1 = .ok (.iconst 0, 1) := by decide +kernel
theorem dX8_add_2 : decode cX8_add 2 = .ok (.sipush 240, 3) := by decide +kernel
theorem dX8_add_5 : decode cX8_add 5 = .ok (.invokestatic 33, 3) := by decide +kernel
theorem dX8_add_8 : decode cX8_add 8 = .ok (.ifCond .ne 6, 3) := by decide +kernel
theorem dX8_add_11 : decode cX8_add 11 = .ok (.bipush (-2), 2) := by decide +kernel
theorem dX8_add_13 : decode cX8_add 13 = .ok (.ireturn, 1) := by decide +kernel
theorem dX8_add_14 : decode cX8_add 14 = .ok (.aload_n 0, 1) := by decide +kernel
theorem dX8_add_15 : decode cX8_add 15 = .ok (.getfield 21, 3) := by decide +kernel
theorem dX8_add_18 : decode cX8_add 18 = .ok (.bipush 10, 2) := by decide +kernel
theorem dX8_add_20 : decode cX8_add 20 = .ok (.if_icmp .lt 6, 3) := by decide +kernel
theorem dX8_add_23 : decode cX8_add 23 = .ok (.bipush (-4), 2) := by decide +kernel
theorem dX8_add_25 : decode cX8_add 25 = .ok (.ireturn, 1) := by decide +kernel
theorem dX8_add_26 : decode cX8_add 26 = .ok (.aload_n 0, 1) := by decide +kernel
theorem dX8_add_27 : decode cX8_add 27 = .ok (.getfield 11, 3) := by decide +kernel
theorem dX8_add_30 : decode cX8_add 30 = .ok (.aload_n 0, 1) := by decide +kernel
theorem dX8_add_31 : decode cX8_add 31 = .ok (.getfield 21, 3) := by decide +kernel
theorem dX8_add_34 : decode cX8_add 34 = .ok (.iload_n 1, 1) := by decide +kernel
theorem dX8_add_35 : decode cX8_add 35 = .ok (.iastore, 1) := by decide +kernel
theorem dX8_add_36 : decode cX8_add 36 = .ok (.aload_n 0, 1) := by decide +kernel
theorem dX8_add_37 : decode cX8_add 37 = .ok (.getfield 15, 3) := by decide +kernel
theorem dX8_add_40 : decode cX8_add 40 = .ok (.aload_n 0, 1) := by decide +kernel
theorem dX8_add_41 : decode cX8_add 41 = .ok (.getfield 21, 3) := by decide +kernel
theorem dX8_add_44 : decode cX8_add 44 = .ok (.iload_n 2, 1) := by decide +kernel
theorem dX8_add_45 : decode cX8_add 45 = .ok (.iastore, 1) := by decide +kernel
theorem dX8_add_46 : decode cX8_add 46 = .ok (.aload_n 0, 1) := by decide +kernel
theorem dX8_add_47 : decode cX8_add 47 = .ok (.getfield 18, 3) := by decide +kernel
theorem dX8_add_50 : decode cX8_add 50 = .ok (.aload_n 0, 1) := by decide +kernel
theorem dX8_add_51 : decode cX8_add 51 = .ok (.getfield 21, 3) := by decide +kernel
theorem dX8_add_54 : decode cX8_add 54 = .ok (.iload_n 3, 1) := by decide +kernel
theorem dX8_add_55 : decode cX8_add 55 = .ok (.invokestatic 37, 3) := by decide +kernel
theorem dX8_add_58 : decode cX8_add 58 = .ok (.iastore, 1) := by decide +kernel
theorem dX8_add_59 : decode cX8_add 59 = .ok (.aload_n 0, 1) := by decide +kernel
theorem dX8_add_60 : decode cX8_add 60 = .ok (.dup, 1) := by decide +kernel
theorem dX8_add_61 : decode cX8_add 61 = .ok (.getfield 21, 3) := by decide +kernel
theorem dX8_add_64 : decode cX8_add 64 = .ok (.iconst 1, 1) := by decide +kernel
theorem dX8_add_65 : decode cX8_add 65 = .ok (.iadd, 1) := by decide +kernel
theorem dX8_add_66 : decode cX8_add 66 = .ok (.putfield 21, 3) := by decide +kernel
theorem dX8_add_69 : decode cX8_add 69 = .ok (.aload_n 0, 1) := by decide +kernel
theorem dX8_add_70 : decode cX8_add 70 = .ok (.getfield 21, 3) := by decide +kernel
theorem dX8_add_73 : decode cX8_add 73 = .ok (.ireturn, 1) := by decide +kernel
theorem dX8_areBorneBy_0 : decode cX8_areBorneBy 0 = .ok (.iconst 0, 1) := by decide +kernel
theorem dX8_areBorneBy_1 : decode cX8_areBorneBy 1 = .ok (.istore_n 2, 1) := by decide +kernel
theorem dX8_areBorneBy_2 : decode cX8_areBorneBy 2 = .ok (.iload_n 2, 1) := by decide +kernel
theorem dX8_areBorneBy_3 : decode cX8_areBorneBy 3 = .ok (.aload_n 0, 1) := by decide +kernel
theorem dX8_areBorneBy_4 : decode cX8_areBorneBy 4 = .ok (.getfield 21, 3) := by decide +kernel
theorem dX8_areBorneBy_7 : decode cX8_areBorneBy 7 = .ok (.if_icmp .ge 59, 3) := by decide +kernel
theorem dX8_areBorneBy_10 : decode cX8_areBorneBy 10 = .ok (.aload_n 1, 1) := by decide +kernel
theorem dX8_areBorneBy_11 : decode cX8_areBorneBy 11 = .ok (.getfield 41, 3) := by decide +kernel
theorem dX8_areBorneBy_14 : decode cX8_areBorneBy 14 = .ok (.aload_n 0, 1) := by decide +kernel
theorem dX8_areBorneBy_15 : decode cX8_areBorneBy 15 = .ok (.getfield 11, 3) := by decide +kernel
theorem dX8_areBorneBy_18 : decode cX8_areBorneBy 18 = .ok (.iload_n 2, 1) := by decide +kernel
theorem dX8_areBorneBy_19 : decode cX8_areBorneBy 19 = .ok (.iaload, 1) := by decide +kernel
theorem dX8_areBorneBy_20 : decode cX8_areBorneBy 20 = .ok (.iaload, 1) := by decide +kernel
theorem dX8_areBorneBy_21 : decode cX8_areBorneBy 21 = .ok (.istore_n 3, 1) := by decide +kernel
theorem dX8_areBorneBy_22 : decode cX8_areBorneBy 22 = .ok (.iload_n 3, 1) := by decide +kernel
theorem dX8_areBorneBy_23 : decode cX8_areBorneBy 23 = .ok (.iconst (-1), 1) := by decide +kernel
theorem dX8_areBorneBy_24 : decode cX8_areBorneBy 24 = .ok (.if_icmp .eq 17, 3) := by decide +kernel
theorem dX8_areBorneBy_27 : decode cX8_areBorneBy 27 = .ok (.iload_n 3, 1) := by decide +kernel
theorem dX8_areBorneBy_28 : decode cX8_areBorneBy 28 = .ok (.aload_n 0, 1) := by decide +kernel
theorem dX8_areBorneBy_29 : decode cX8_areBorneBy 29 = .ok (.getfield 15, 3) := by decide +kernel
theorem dX8_areBorneBy_32 : decode cX8_areBorneBy 32 = .ok (.iload_n 2, 1) := by decide +kernel
theorem dX8_areBorneBy_33 : decode cX8_areBorneBy 33 = .ok (.iaload, 1) := by decide +kernel
theorem dX8_areBorneBy_34 : decode cX8_areBorneBy 34 = .ok (.if_icmp .gt 7, 3) := by decide +kernel
theorem dX8_areBorneBy_37 : decode cX8_areBorneBy 37 = .ok (.iconst 1, 1) := by decide +kernel
theorem dX8_areBorneBy_38 : decode cX8_areBorneBy 38 = .ok (.goto 4, 3) := by decide +kernel
theorem dX8_areBorneBy_41 : decode cX8_areBorneBy 41 = .ok (.iconst 0, 1) := by decide +kernel
theorem dX8_areBorneBy_42 : decode cX8_areBorneBy 42 = .ok (.istore 4, 2) := by decide +kernel
theorem dX8_areBorneBy_44 : decode cX8_areBorneBy 44 = .ok (.iload 4, 2) := by decide +kernel
theorem dX8_areBorneBy_46 : decode cX8_areBorneBy 46 = .ok (.invokestatic 37, 3) := by decide +kernel
theorem dX8_areBorneBy_49 : decode cX8_areBorneBy 49 = .ok (.aload_n 0, 1) := by decide +kernel
theorem dX8_areBorneBy_50 : decode cX8_areBorneBy 50 = .ok (.getfield 18, 3) := by decide +kernel
theorem dX8_areBorneBy_53 : decode cX8_areBorneBy 53 = .ok (.iload_n 2, 1) := by decide +kernel
theorem dX8_areBorneBy_54 : decode cX8_areBorneBy 54 = .ok (.iaload, 1) := by decide +kernel
theorem dX8_areBorneBy_55 : decode cX8_areBorneBy 55 = .ok (.if_icmp .eq 5, 3) := by decide +kernel
theorem dX8_areBorneBy_58 : decode cX8_areBorneBy 58 = .ok (.iconst 0, 1) := by decide +kernel
theorem dX8_areBorneBy_59 : decode cX8_areBorneBy 59 = .ok (.ireturn, 1) := by decide +kernel
theorem dX8_areBorneBy_60 : decode cX8_areBorneBy 60 = .ok (.iinc 2 1, 3) := by decide +kernel
theorem dX8_areBorneBy_63 : decode cX8_areBorneBy 63 = .ok (.goto (-61), 3) := by decide +kernel
theorem dX8_areBorneBy_66 : decode cX8_areBorneBy 66 = .ok (.iconst 1, 1) := by decide +kernel
theorem dX8_areBorneBy_67 : decode cX8_areBorneBy 67 = .ok (.ireturn, 1) := by decide +kernel
theorem dX8_digestOnto_0 : decode cX8_digestOnto 0 = .ok (.lload_n 1, 1) := by decide +kernel
theorem dX8_digestOnto_1 : decode cX8_digestOnto 1 = .ok (.lstore_n 3, 1) := by decide +kernel
theorem dX8_digestOnto_2 : decode cX8_digestOnto 2 = .ok (.iconst 0, 1) := by decide +kernel
theorem dX8_digestOnto_3 : decode cX8_digestOnto 3 = .ok (.istore 5, 2) := by decide +kernel
theorem dX8_digestOnto_5 : decode cX8_digestOnto 5 = .ok (.iload 5, 2) := by decide +kernel
theorem dX8_digestOnto_7 : decode cX8_digestOnto 7 = .ok (.aload_n 0, 1) := by decide +kernel
theorem dX8_digestOnto_8 : decode cX8_digestOnto 8 = .ok (.getfield 21, 3) := by decide +kernel
theorem dX8_digestOnto_11 : decode cX8_digestOnto 11 = .ok (.if_icmp .ge 41, 3) := by decide +kernel
theorem dX8_digestOnto_14 : decode cX8_digestOnto 14 = .ok (.lload_n 3, 1) := by decide +kernel
theorem dX8_digestOnto_15 : decode cX8_digestOnto 15 = .ok (.aload_n 0, 1) := by decide +kernel
theorem dX8_digestOnto_16 : decode cX8_digestOnto 16 = .ok (.getfield 11, 3) := by decide +kernel
theorem dX8_digestOnto_19 : decode cX8_digestOnto 19 = .ok (.iload 5, 2) := by decide +kernel
theorem dX8_digestOnto_21 : decode cX8_digestOnto 21 = .ok (.iaload, 1) := by decide +kernel
theorem dX8_digestOnto_22 : decode cX8_digestOnto 22 = .ok (.invokestatic 44, 3) := by decide +kernel
theorem dX8_digestOnto_25 : decode cX8_digestOnto 25 = .ok (.aload_n 0, 1) := by decide +kernel
theorem dX8_digestOnto_26 : decode cX8_digestOnto 26 = .ok (.getfield 15, 3) := by decide +kernel
theorem dX8_digestOnto_29 : decode cX8_digestOnto 29 = .ok (.iload 5, 2) := by decide +kernel
theorem dX8_digestOnto_31 : decode cX8_digestOnto 31 = .ok (.iaload, 1) := by decide +kernel
theorem dX8_digestOnto_32 : decode cX8_digestOnto 32 = .ok (.invokestatic 44, 3) := by decide +kernel
theorem dX8_digestOnto_35 : decode cX8_digestOnto 35 = .ok (.aload_n 0, 1) := by decide +kernel
theorem dX8_digestOnto_36 : decode cX8_digestOnto 36 = .ok (.getfield 18, 3) := by decide +kernel
theorem dX8_digestOnto_39 : decode cX8_digestOnto 39 = .ok (.iload 5, 2) := by decide +kernel
theorem dX8_digestOnto_41 : decode cX8_digestOnto 41 = .ok (.iaload, 1) := by decide +kernel
theorem dX8_digestOnto_42 : decode cX8_digestOnto 42 = .ok (.invokestatic 44, 3) := by decide +kernel
theorem dX8_digestOnto_45 : decode cX8_digestOnto 45 = .ok (.lstore_n 3, 1) := by decide +kernel
theorem dX8_digestOnto_46 : decode cX8_digestOnto 46 = .ok (.iinc 5 1, 3) := by decide +kernel
theorem dX8_digestOnto_49 : decode cX8_digestOnto 49 = .ok (.goto (-44), 3) := by decide +kernel
theorem dX8_digestOnto_52 : decode cX8_digestOnto 52 = .ok (.lload_n 3, 1) := by decide +kernel
theorem dX8_digestOnto_53 : decode cX8_digestOnto 53 = .ok (.lreturn, 1) := by decide +kernel
theorem dX9_init_0 : decode cX9_init 0 = .ok (.aload_n 0, 1) := by decide +kernel
theorem dX9_init_1 : decode cX9_init 1 = .ok (.invokespecial 5, 3) := by decide +kernel
theorem dX9_init_4 : decode cX9_init 4 = .ok (.aload_n 0, 1) := by decide +kernel
theorem dX9_init_5 : decode cX9_init 5 = .ok (.sipush 240, 3) := by decide +kernel
theorem dX9_init_8 : decode cX9_init 8 = .ok (.newarray .int, 2) := by decide +kernel
theorem dX9_init_10 : decode cX9_init 10 = .ok (.putfield 11, 3) := by decide +kernel
theorem dX9_init_13 : decode cX9_init 13 = .ok (.aload_n 0, 1) := by decide +kernel
theorem dX9_init_14 : decode cX9_init 14 = .ok (.bipush 34, 2) := by decide +kernel
theorem dX9_init_16 : decode cX9_init 16 = .ok (.newarray .int, 2) := by decide +kernel
theorem dX9_init_18 : decode cX9_init 18 = .ok (.putfield 15, 3) := by decide +kernel
theorem dX9_init_21 : decode cX9_init 21 = .ok (.aload_n 0, 1) := by decide +kernel
theorem dX9_init_22 : decode cX9_init 22 = .ok (.bipush 34, 2) := by decide +kernel
theorem dX9_init_24 : decode cX9_init 24 = .ok (.newarray .int, 2) := by decide +kernel
theorem dX9_init_26 : decode cX9_init 26 = .ok (.putfield 18, 3) := by decide +kernel
theorem dX9_init_29 : decode cX9_init 29 = .ok (.aload_n 0, 1) := by decide +kernel
theorem dX9_init_30 : decode cX9_init 30 = .ok (.bipush 34, 2) := by decide +kernel
theorem dX9_init_32 : decode cX9_init 32 = .ok (.bipush 7, 2) := by decide +kernel
theorem dX9_init_34 : decode cX9_init 34 = .ok (.multianewarray 21 2, 4) := by decide +kernel
theorem dX9_init_38 : decode cX9_init 38 = .ok (.putfield 23, 3) := by decide +kernel
theorem dX9_init_41 : decode cX9_init 41 = .ok (.return_, 1) := by decide +kernel
theorem dX9_add_0 : decode cX9_add 0 = .ok (.iload_n 3, 1) := by decide +kernel
theorem dX9_add_1 : decode cX9_add 1 = .ok (.iconst 1, 1) := by decide +kernel
theorem dX9_add_2 : decode cX9_add 2 = .ok (.bipush 8, 2) := by decide +kernel
theorem dX9_add_4 : decode cX9_add 4 = .ok (.invokestatic 26, 3) := by decide +kernel
theorem dX9_add_7 : decode cX9_add 7 = .ok (.ifCond .ne 6, 3) := by decide +kernel
theorem dX9_add_10 : decode cX9_add 10 = .ok (.bipush (-2), 2) := by decide +kernel
theorem dX9_add_12 : decode cX9_add 12 = .ok (.ireturn, 1) := by decide +kernel
theorem dX9_add_13 : decode cX9_add 13 = .ok (.aload_n 0, 1) := by decide +kernel
theorem dX9_add_14 : decode cX9_add 14 = .ok (.getfield 30, 3) := by decide +kernel
theorem dX9_add_17 : decode cX9_add 17 = .ok (.iload_n 3, 1) := by decide +kernel
theorem dX9_add_18 : decode cX9_add 18 = .ok (.iadd, 1) := by decide +kernel
theorem dX9_add_19 : decode cX9_add 19 = .ok (.sipush 240, 3) := by decide +kernel
theorem dX9_add_22 : decode cX9_add 22 = .ok (.if_icmp .le 6, 3) := by decide +kernel
theorem dX9_add_25 : decode cX9_add 25 = .ok (.bipush (-4), 2) := by decide +kernel
theorem dX9_add_27 : decode cX9_add 27 = .ok (.ireturn, 1) := by decide +kernel
theorem dX9_add_28 : decode cX9_add 28 = .ok (.iload_n 3, 1) := by decide +kernel
theorem dX9_add_29 : decode cX9_add 29 = .ok (.iconst 1, 1) := by decide +kernel
theorem dX9_add_30 : decode cX9_add 30 = .ok (.isub, 1) := by decide +kernel
theorem dX9_add_31 : decode cX9_add 31 = .ok (.istore 4, 2) := by decide +kernel
theorem dX9_add_33 : decode cX9_add 33 = .ok (.iload 4, 2) := by decide +kernel
theorem dX9_add_35 : decode cX9_add 35 = .ok (.ifCond .lt 40, 3) := by decide +kernel
theorem dX9_add_38 : decode cX9_add 38 = .ok (.aload_n 0, 1) := by decide +kernel
theorem dX9_add_39 : decode cX9_add 39 = .ok (.getfield 11, 3) := by decide +kernel
theorem dX9_add_42 : decode cX9_add 42 = .ok (.aload_n 0, 1) := by decide +kernel
theorem dX9_add_43 : decode cX9_add 43 = .ok (.getfield 30, 3) := by decide +kernel
theorem dX9_add_46 : decode cX9_add 46 = .ok (.lload_n 1, 1) := by decide +kernel
theorem dX9_add_47 : decode cX9_add 47 = .ok (.bipush 8, 2) := by decide +kernel
theorem dX9_add_49 : decode cX9_add 49 = .ok (.iload 4, 2) := by decide +kernel
theorem dX9_add_51 : decode cX9_add 51 = .ok (.imul, 1) := by decide +kernel
theorem dX9_add_52 : decode cX9_add 52 = .ok (.lushr, 1) := by decide +kernel
theorem dX9_add_53 : decode cX9_add 53 = .ok (.ldc2_w 34, 3) := by decide +kernel
theorem dX9_add_56 : decode cX9_add 56 = .ok (.land, 1) := by decide +kernel
theorem dX9_add_57 : decode cX9_add 57 = .ok (.l2i, 1) := by decide +kernel
theorem dX9_add_58 : decode cX9_add 58 = .ok (.iastore, 1) := by decide +kernel
theorem dX9_add_59 : decode cX9_add 59 = .ok (.aload_n 0, 1) := by decide +kernel
theorem dX9_add_60 : decode cX9_add 60 = .ok (.dup, 1) := by decide +kernel
theorem dX9_add_61 : decode cX9_add 61 = .ok (.getfield 30, 3) := by decide +kernel
theorem dX9_add_64 : decode cX9_add 64 = .ok (.iconst 1, 1) := by decide +kernel
theorem dX9_add_65 : decode cX9_add 65 = .ok (.iadd, 1) := by decide +kernel
theorem dX9_add_66 : decode cX9_add 66 = .ok (.putfield 30, 3) := by decide +kernel
theorem dX9_add_69 : decode cX9_add 69 = .ok (.iinc 4 (-1), 3) := by decide +kernel
theorem dX9_add_72 : decode cX9_add 72 = .ok (.goto (-39), 3) := by decide +kernel
theorem dX9_add_75 : decode cX9_add 75 = .ok (.aload_n 0, 1) := by decide +kernel
theorem dX9_add_76 : decode cX9_add 76 = .ok (.getfield 30, 3) := by decide +kernel
theorem dX9_add_79 : decode cX9_add 79 = .ok (.ireturn, 1) := by decide +kernel
theorem dX9_readItems_0 : decode cX9_readItems 0 = .ok (.aload_n 0, 1) := by decide +kernel
theorem dX9_readItems_1 : decode cX9_readItems 1 = .ok (.iconst 0, 1) := by decide +kernel
theorem dX9_readItems_2 : decode cX9_readItems 2 = .ok (.putfield 36, 3) := by decide +kernel
theorem dX9_readItems_5 : decode cX9_readItems 5 = .ok (.aload_n 0, 1) := by decide +kernel
theorem dX9_readItems_6 : decode cX9_readItems 6 = .ok (.iconst 0, 1) := by decide +kernel
theorem dX9_readItems_7 : decode cX9_readItems 7 = .ok (.putfield 39, 3) := by decide +kernel
theorem dX9_readItems_10 : decode cX9_readItems 10 = .ok (.iconst 0, 1) := by decide +kernel
theorem dX9_readItems_11 : decode cX9_readItems 11 = .ok (.istore_n 1, 1) := by decide +kernel
theorem dX9_readItems_12 : decode cX9_readItems 12 = .ok (.iload_n 1, 1) := by decide +kernel
theorem dX9_readItems_13 : decode cX9_readItems 13 = .ok (.bipush 34, 2) := by decide +kernel
theorem dX9_readItems_15 : decode cX9_readItems 15 = .ok (.if_icmp .gt 68, 3) := by decide +kernel
theorem dX9_readItems_18 : decode cX9_readItems 18 = .ok (.aload_n 0, 1) := by decide +kernel
theorem dX9_readItems_19 : decode cX9_readItems 19 = .ok (.invokevirtual 42, 3) := by decide +kernel
theorem dX9_readItems_22 : decode cX9_readItems 22 = .ok (.aload_n 0, 1) := by decide +kernel
theorem dX9_readItems_23 : decode cX9_readItems 23 = .ok (.getfield 45, 3) := by decide +kernel
theorem dX9_readItems_26 : decode cX9_readItems 26 = .ok (.iconst (-1), 1) := by decide +kernel
theorem dX9_readItems_27 : decode cX9_readItems 27 = .ok (.if_icmp .ne 5, 3) := by decide +kernel
theorem dX9_readItems_30 : decode cX9_readItems 30 = .ok (.iconst (-1), 1) := by decide +kernel
theorem dX9_readItems_31 : decode cX9_readItems 31 = .ok (.ireturn, 1) := by decide +kernel
theorem dX9_readItems_32 : decode cX9_readItems 32 = .ok (.aload_n 0, 1) := by decide +kernel
theorem dX9_readItems_33 : decode cX9_readItems 33 = .ok (.getfield 45, 3) := by decide +kernel
theorem dX9_readItems_36 : decode cX9_readItems 36 = .ok (.ifCond .lt 9, 3) := by decide +kernel
theorem dX9_readItems_39 : decode cX9_readItems 39 = .ok (.iload_n 1, 1) := by decide +kernel
theorem dX9_readItems_40 : decode cX9_readItems 40 = .ok (.bipush 34, 2) := by decide +kernel
theorem dX9_readItems_42 : decode cX9_readItems 42 = .ok (.if_icmp .ne 8, 3) := by decide +kernel
theorem dX9_readItems_45 : decode cX9_readItems 45 = .ok (.aload_n 0, 1) := by decide +kernel
theorem dX9_readItems_46 : decode cX9_readItems 46 = .ok (.getfield 48, 3) := by decide +kernel
theorem dX9_readItems_49 : decode cX9_readItems 49 = .ok (.ireturn, 1) := by decide +kernel
theorem dX9_readItems_50 : decode cX9_readItems 50 = .ok (.aload_n 0, 1) := by decide +kernel
theorem dX9_readItems_51 : decode cX9_readItems 51 = .ok (.aload_n 0, 1) := by decide +kernel
theorem dX9_readItems_52 : decode cX9_readItems 52 = .ok (.getfield 45, 3) := by decide +kernel
theorem dX9_readItems_55 : decode cX9_readItems 55 = .ok (.iload_n 1, 1) := by decide +kernel
theorem dX9_readItems_56 : decode cX9_readItems 56 = .ok (.invokevirtual 51, 3) := by decide +kernel
theorem dX9_readItems_59 : decode cX9_readItems 59 = .ok (.istore_n 2, 1) := by decide +kernel
theorem dX9_readItems_60 : decode cX9_readItems 60 = .ok (.iload_n 2, 1) := by decide +kernel
theorem dX9_readItems_61 : decode cX9_readItems 61 = .ok (.iconst (-1), 1) := by decide +kernel
theorem dX9_readItems_62 : decode cX9_readItems 62 = .ok (.if_icmp .eq 5, 3) := by decide +kernel
theorem dX9_readItems_65 : decode cX9_readItems 65 = .ok (.iload_n 2, 1) := by decide +kernel
theorem dX9_readItems_66 : decode cX9_readItems 66 = .ok (.ireturn, 1) := by decide +kernel
theorem dX9_readItems_67 : decode cX9_readItems 67 = .ok (.aload_n 0, 1) := by decide +kernel
theorem dX9_readItems_68 : decode cX9_readItems 68 = .ok (.dup, 1) := by decide +kernel
theorem dX9_readItems_69 : decode cX9_readItems 69 = .ok (.getfield 36, 3) := by decide +kernel
theorem dX9_readItems_72 : decode cX9_readItems 72 = .ok (.iconst 1, 1) := by decide +kernel
theorem dX9_readItems_73 : decode cX9_readItems 73 = .ok (.iadd, 1) := by decide +kernel
theorem dX9_readItems_74 : decode cX9_readItems 74 = .ok (.putfield 36, 3) := by decide +kernel
theorem dX9_readItems_77 : decode cX9_readItems 77 = .ok (.iinc 1 1, 3) := by decide +kernel
theorem dX9_readItems_80 : decode cX9_readItems 80 = .ok (.goto (-68), 3) := by decide +kernel
theorem dX9_readItems_83 : decode cX9_readItems 83 = .ok (.iconst (-1), 1) := by decide +kernel
theorem dX9_readItems_84 : decode cX9_readItems 84 = .ok (.ireturn, 1) := by decide +kernel
theorem dX9_readNumbers_0 : decode cX9_readNumbers 0 = .ok (.aload_n 0, 1) := by decide +kernel
theorem dX9_readNumbers_1 : decode cX9_readNumbers 1 = .ok (.getfield 15, 3) := by decide +kernel
theorem dX9_readNumbers_4 : decode cX9_readNumbers 4 = .ok (.iload_n 2, 1) := by decide +kernel
theorem dX9_readNumbers_5 : decode cX9_readNumbers 5 = .ok (.iload_n 1, 1) := by decide +kernel
theorem dX9_readNumbers_6 : decode cX9_readNumbers 6 = .ok (.iastore, 1) := by decide +kernel
theorem dX9_readNumbers_7 : decode cX9_readNumbers 7 = .ok (.iconst 0, 1) := by decide +kernel
theorem dX9_readNumbers_8 : decode cX9_readNumbers 8 = .ok (.istore_n 3, 1) := by decide +kernel
theorem dX9_readNumbers_9 : decode cX9_readNumbers 9 = .ok (.iload_n 3, 1) := by decide +kernel
theorem dX9_readNumbers_10 : decode cX9_readNumbers 10 = .ok (.bipush 7, 2) := by decide +kernel
theorem dX9_readNumbers_12 : decode cX9_readNumbers 12 = .ok (.if_icmp .gt 75, 3) := by decide +kernel
theorem dX9_readNumbers_15 : decode cX9_readNumbers 15 = .ok (.aload_n 0, 1) := by decide +kernel
theorem dX9_readNumbers_16 : decode cX9_readNumbers 16 = .ok (.invokevirtual 42, 3) := by decide +kernel
theorem dX9_readNumbers_19 : decode cX9_readNumbers 19 = .ok (.aload_n 0, 1) := by decide +kernel
theorem dX9_readNumbers_20 : decode cX9_readNumbers 20 = .ok (.getfield 45, 3) := by decide +kernel
theorem dX9_readNumbers_23 : decode cX9_readNumbers 23 = .ok (.bipush (-2), 2) := by decide +kernel
theorem dX9_readNumbers_25 : decode cX9_readNumbers 25 = .ok (.if_icmp .ne 21, 3) := by decide +kernel
theorem dX9_readNumbers_28 : decode cX9_readNumbers 28 = .ok (.iload_n 3, 1) := by decide +kernel
theorem dX9_readNumbers_29 : decode cX9_readNumbers 29 = .ok (.getstatic 55, 3) := by decide +kernel
theorem dX9_readNumbers_32 : decode cX9_readNumbers 32 = .ok (.iload_n 1, 1) := by decide +kernel
theorem dX9_readNumbers_33 : decode cX9_readNumbers 33 = .ok (.iaload, 1) := by decide +kernel
theorem dX9_readNumbers_34 : decode cX9_readNumbers 34 = .ok (.if_icmp .lt 12, 3) := by decide +kernel
theorem dX9_readNumbers_37 : decode cX9_readNumbers 37 = .ok (.aload_n 0, 1) := by decide +kernel
theorem dX9_readNumbers_38 : decode cX9_readNumbers 38 = .ok (.getfield 18, 3) := by decide +kernel
theorem dX9_readNumbers_41 : decode cX9_readNumbers 41 = .ok (.iload_n 2, 1) := by decide +kernel
theorem dX9_readNumbers_42 : decode cX9_readNumbers 42 = .ok (.iload_n 3, 1) := by decide +kernel
theorem dX9_readNumbers_43 : decode cX9_readNumbers 43 = .ok (.iastore, 1) := by decide +kernel
theorem dX9_readNumbers_44 : decode cX9_readNumbers 44 = .ok (.iconst (-1), 1) := by decide +kernel
theorem dX9_readNumbers_45 : decode cX9_readNumbers 45 = .ok (.ireturn, 1) := by decide +kernel
theorem dX9_readNumbers_46 : decode cX9_readNumbers 46 = .ok (.aload_n 0, 1) := by decide +kernel
theorem dX9_readNumbers_47 : decode cX9_readNumbers 47 = .ok (.getfield 45, 3) := by decide +kernel
theorem dX9_readNumbers_50 : decode cX9_readNumbers 50 = .ok (.bipush (-3), 2) := by decide +kernel
theorem dX9_readNumbers_52 : decode cX9_readNumbers 52 = .ok (.if_icmp .ne 12, 3) := by decide +kernel
theorem dX9_readNumbers_55 : decode cX9_readNumbers 55 = .ok (.iload_n 3, 1) := by decide +kernel
theorem dX9_readNumbers_56 : decode cX9_readNumbers 56 = .ok (.getstatic 58, 3) := by decide +kernel
theorem dX9_readNumbers_59 : decode cX9_readNumbers 59 = .ok (.iload_n 1, 1) := by decide +kernel
theorem dX9_readNumbers_60 : decode cX9_readNumbers 60 = .ok (.iaload, 1) := by decide +kernel
theorem dX9_readNumbers_61 : decode cX9_readNumbers 61 = .ok (.if_icmp .lt 8, 3) := by decide +kernel
theorem dX9_readNumbers_64 : decode cX9_readNumbers 64 = .ok (.aload_n 0, 1) := by decide +kernel
theorem dX9_readNumbers_65 : decode cX9_readNumbers 65 = .ok (.getfield 48, 3) := by decide +kernel
theorem dX9_readNumbers_68 : decode cX9_readNumbers 68 = .ok (.ireturn, 1) := by decide +kernel
theorem dX9_readNumbers_69 : decode cX9_readNumbers 69 = .ok (.aload_n 0, 1) := by decide +kernel
theorem dX9_readNumbers_70 : decode cX9_readNumbers 70 = .ok (.getfield 23, 3) := by decide +kernel
theorem dX9_readNumbers_73 : decode cX9_readNumbers 73 = .ok (.iload_n 2, 1) := by decide +kernel
theorem dX9_readNumbers_74 : decode cX9_readNumbers 74 = .ok (.aaload, 1) := by decide +kernel
theorem dX9_readNumbers_75 : decode cX9_readNumbers 75 = .ok (.iload_n 3, 1) := by decide +kernel
theorem dX9_readNumbers_76 : decode cX9_readNumbers 76 = .ok (.aload_n 0, 1) := by decide +kernel
theorem dX9_readNumbers_77 : decode cX9_readNumbers 77 = .ok (.getfield 61, 3) := by decide +kernel
theorem dX9_readNumbers_80 : decode cX9_readNumbers 80 = .ok (.iastore, 1) := by decide +kernel
theorem dX9_readNumbers_81 : decode cX9_readNumbers 81 = .ok (.iinc 3 1, 3) := by decide +kernel
theorem dX9_readNumbers_84 : decode cX9_readNumbers 84 = .ok (.goto (-75), 3) := by decide +kernel
theorem dX9_readNumbers_87 : decode cX9_readNumbers 87 = .ok (.aload_n 0, 1) := by decide +kernel
theorem dX9_readNumbers_88 : decode cX9_readNumbers 88 = .ok (.getfield 48, 3) := by decide +kernel
theorem dX9_readNumbers_91 : decode cX9_readNumbers 91 = .ok (.ireturn, 1) := by decide +kernel
theorem dX9_nextToken_0 : decode cX9_nextToken 0 = .ok (.aload_n 0, 1) := by decide +kernel
theorem dX9_nextToken_1 : decode cX9_nextToken 1 = .ok (.aload_n 0, 1) := by decide +kernel
theorem dX9_nextToken_2 : decode cX9_nextToken 2 = .ok (.aload_n 0, 1) := by decide +kernel
theorem dX9_nextToken_3 : decode cX9_nextToken 3 = .ok (.getfield 39, 3) := by decide +kernel
theorem dX9_nextToken_6 : decode cX9_nextToken 6 = .ok (.bipush 32, 2) := by decide +kernel
theorem dX9_nextToken_8 : decode cX9_nextToken 8 = .ok (.bipush 32, 2) := by decide +kernel
theorem dX9_nextToken_10 : decode cX9_nextToken 10 = .ok (.invokevirtual 64, 3) := by decide +kernel
theorem dX9_nextToken_13 : decode cX9_nextToken 13 = .ok (.putfield 48, 3) := by decide +kernel
theorem dX9_nextToken_16 : decode cX9_nextToken 16 = .ok (.aload_n 0, 1) := by decide +kernel
theorem dX9_nextToken_17 : decode cX9_nextToken 17 = .ok (.aload_n 0, 1) := by decide +kernel
theorem dX9_nextToken_18 : decode cX9_nextToken 18 = .ok (.getfield 48, 3) := by decide +kernel
theorem dX9_nextToken_21 : decode cX9_nextToken 21 = .ok (.invokevirtual 68, 3) := by decide +kernel
theorem dX9_nextToken_24 : decode cX9_nextToken 24 = .ok (.istore_n 1, 1) := by decide +kernel
theorem dX9_nextToken_25 : decode cX9_nextToken 25 = .ok (.aload_n 0, 1) := by decide +kernel
theorem dX9_nextToken_26 : decode cX9_nextToken 26 = .ok (.aload_n 0, 1) := by decide +kernel
theorem dX9_nextToken_27 : decode cX9_nextToken 27 = .ok (.getfield 48, 3) := by decide +kernel
theorem dX9_nextToken_30 : decode cX9_nextToken 30 = .ok (.iconst 1, 1) := by decide +kernel
theorem dX9_nextToken_31 : decode cX9_nextToken 31 = .ok (.iadd, 1) := by decide +kernel
theorem dX9_nextToken_32 : decode cX9_nextToken 32 = .ok (.putfield 39, 3) := by decide +kernel
theorem dX9_nextToken_35 : decode cX9_nextToken 35 = .ok (.iload_n 1, 1) := by decide +kernel
theorem dX9_nextToken_36 : decode cX9_nextToken 36 = .ok (.iconst (-1), 1) := by decide +kernel
theorem dX9_nextToken_37 : decode cX9_nextToken 37 = .ok (.if_icmp .ne 11, 3) := by decide +kernel
theorem dX9_nextToken_40 : decode cX9_nextToken 40 = .ok (.aload_n 0, 1) := by decide +kernel
theorem dX9_nextToken_41 : decode cX9_nextToken 41 = .ok (.iconst (-1), 1) := by decide +kernel
theorem dX9_nextToken_42 : decode cX9_nextToken 42 = .ok (.putfield 45, 3) := by decide +kernel
theorem dX9_nextToken_45 : decode cX9_nextToken 45 = .ok (.goto 120, 3) := by decide +kernel
theorem dX9_nextToken_48 : decode cX9_nextToken 48 = .ok (.iload_n 1, 1) := by decide +kernel
theorem dX9_nextToken_49 : decode cX9_nextToken 49 = .ok (.bipush 59, 2) := by decide +kernel
theorem dX9_nextToken_51 : decode cX9_nextToken 51 = .ok (.if_icmp .ne 12, 3) := by decide +kernel
theorem dX9_nextToken_54 : decode cX9_nextToken 54 = .ok (.aload_n 0, 1) := by decide +kernel
theorem dX9_nextToken_55 : decode cX9_nextToken 55 = .ok (.bipush (-2), 2) := by decide +kernel
theorem dX9_nextToken_57 : decode cX9_nextToken 57 = .ok (.putfield 45, 3) := by decide +kernel
theorem dX9_nextToken_60 : decode cX9_nextToken 60 = .ok (.goto 105, 3) := by decide +kernel
theorem dX9_nextToken_63 : decode cX9_nextToken 63 = .ok (.iload_n 1, 1) := by decide +kernel
theorem dX9_nextToken_64 : decode cX9_nextToken 64 = .ok (.bipush 48, 2) := by decide +kernel
theorem dX9_nextToken_66 : decode cX9_nextToken 66 = .ok (.bipush 57, 2) := by decide +kernel
theorem dX9_nextToken_68 : decode cX9_nextToken 68 = .ok (.invokestatic 26, 3) := by decide +kernel
theorem dX9_nextToken_71 : decode cX9_nextToken 71 = .ok (.ifCond .eq 50, 3) := by decide +kernel
theorem dX9_nextToken_74 : decode cX9_nextToken 74 = .ok (.aload_n 0, 1) := by decide +kernel
theorem dX9_nextToken_75 : decode cX9_nextToken 75 = .ok (.aload_n 0, 1) := by decide +kernel
theorem dX9_nextToken_76 : decode cX9_nextToken 76 = .ok (.aload_n 0, 1) := by decide +kernel
theorem dX9_nextToken_77 : decode cX9_nextToken 77 = .ok (.getfield 48, 3) := by decide +kernel
theorem dX9_nextToken_80 : decode cX9_nextToken 80 = .ok (.bipush 48, 2) := by decide +kernel
theorem dX9_nextToken_82 : decode cX9_nextToken 82 = .ok (.bipush 57, 2) := by decide +kernel
theorem dX9_nextToken_84 : decode cX9_nextToken 84 = .ok (.invokevirtual 64, 3) := by decide +kernel
theorem dX9_nextToken_87 : decode cX9_nextToken 87 = .ok (.putfield 39, 3) := by decide +kernel
theorem dX9_nextToken_90 : decode cX9_nextToken 90 = .ok (.aload_n 0, 1) := by decide +kernel
theorem dX9_nextToken_91 : decode cX9_nextToken 91 = .ok (.aload_n 0, 1) := by decide +kernel
theorem dX9_nextToken_92 : decode cX9_nextToken 92 = .ok (.getfield 39, 3) := by decide +kernel
theorem dX9_nextToken_95 : decode cX9_nextToken 95 = .ok (.aload_n 0, 1) := by decide +kernel
theorem dX9_nextToken_96 : decode cX9_nextToken 96 = .ok (.getfield 48, 3) := by decide +kernel
theorem dX9_nextToken_99 : decode cX9_nextToken 99 = .ok (.isub, 1) := by decide +kernel
theorem dX9_nextToken_100 : decode cX9_nextToken 100 = .ok (.iconst 3, 1) := by decide +kernel
theorem dX9_nextToken_101 : decode cX9_nextToken 101 = .ok (.if_icmp .gt 8, 3) := by decide +kernel
theorem dX9_nextToken_104 : decode cX9_nextToken 104 = .ok (.bipush (-3), 2) := by decide +kernel
theorem dX9_nextToken_106 : decode cX9_nextToken 106 = .ok (.goto 5, 3) := by decide +kernel
theorem dX9_nextToken_109 : decode cX9_nextToken 109 = .ok (.bipush (-4), 2) := by decide +kernel
theorem dX9_nextToken_111 : decode cX9_nextToken 111 = .ok (.putfield 45, 3) := by decide +kernel
theorem dX9_nextToken_114 : decode cX9_nextToken 114 = .ok (.aload_n 0, 1) := by decide +kernel
theorem dX9_nextToken_115 : decode cX9_nextToken 115 = .ok (.invokevirtual 72, 3) := by decide +kernel
theorem dX9_nextToken_118 : decode cX9_nextToken 118 = .ok (.goto 47, 3) := by decide +kernel
theorem dX9_nextToken_121 : decode cX9_nextToken 121 = .ok (.iload_n 1, 1) := by decide +kernel
theorem dX9_nextToken_122 : decode cX9_nextToken 122 = .ok (.bipush 97, 2) := by decide +kernel
theorem dX9_nextToken_124 : decode cX9_nextToken 124 = .ok (.bipush 122, 2) := by decide +kernel
theorem dX9_nextToken_126 : decode cX9_nextToken 126 = .ok (.invokestatic 26, 3) := by decide +kernel
theorem dX9_nextToken_129 : decode cX9_nextToken 129 = .ok (.ifCond .eq 30, 3) := by decide +kernel
theorem dX9_nextToken_132 : decode cX9_nextToken 132 = .ok (.aload_n 0, 1) := by decide +kernel
theorem dX9_nextToken_133 : decode cX9_nextToken 133 = .ok (.aload_n 0, 1) := by decide +kernel
theorem dX9_nextToken_134 : decode cX9_nextToken 134 = .ok (.aload_n 0, 1) := by decide +kernel
theorem dX9_nextToken_135 : decode cX9_nextToken 135 = .ok (.getfield 48, 3) := by decide +kernel
theorem dX9_nextToken_138 : decode cX9_nextToken 138 = .ok (.bipush 97, 2) := by decide +kernel
theorem dX9_nextToken_140 : decode cX9_nextToken 140 = .ok (.bipush 122, 2) := by decide +kernel
theorem dX9_nextToken_142 : decode cX9_nextToken 142 = .ok (.invokevirtual 64, 3) := by decide +kernel
theorem dX9_nextToken_145 : decode cX9_nextToken 145 = .ok (.putfield 39, 3) := by decide +kernel
theorem dX9_nextToken_148 : decode cX9_nextToken 148 = .ok (.aload_n 0, 1) := by decide +kernel
theorem dX9_nextToken_149 : decode cX9_nextToken 149 = .ok (.aload_n 0, 1) := by decide +kernel
theorem dX9_nextToken_150 : decode cX9_nextToken 150 = .ok (.invokevirtual 75, 3) := by decide +kernel
theorem dX9_nextToken_153 : decode cX9_nextToken 153 = .ok (.putfield 45, 3) := by decide +kernel
theorem dX9_nextToken_156 : decode cX9_nextToken 156 = .ok (.goto 9, 3) := by decide +kernel
theorem dX9_nextToken_159 : decode cX9_nextToken 159 = .ok (.aload_n 0, 1) := by decide +kernel
theorem dX9_nextToken_160 : decode cX9_nextToken 160 = .ok (.bipush (-4), 2) := by decide +kernel
theorem dX9_nextToken_162 : decode cX9_nextToken 162 = .ok (.putfield 45, 3) := by decide +kernel
theorem dX9_nextToken_165 : decode cX9_nextToken 165 = .ok (.return_, 1) := by decide +kernel
theorem dX9_byteAt_0 : decode cX9_byteAt 0 = .ok (.iload_n 1, 1) := by decide +kernel
theorem dX9_byteAt_1 : decode cX9_byteAt 1 = .ok (.ifCond .lt 20, 3) := by decide +kernel
theorem dX9_byteAt_4 : decode cX9_byteAt 4 = .ok (.iload_n 1, 1) := by decide +kernel
theorem dX9_byteAt_5 : decode cX9_byteAt 5 = .ok (.aload_n 0, 1) := by decide +kernel
theorem dX9_byteAt_6 : decode cX9_byteAt 6 = .ok (.getfield 30, 3) := by decide +kernel
theorem dX9_byteAt_9 : decode cX9_byteAt 9 = .ok (.if_icmp .ge 12, 3) := by decide +kernel
theorem dX9_byteAt_12 : decode cX9_byteAt 12 = .ok (.aload_n 0, 1) := by decide +kernel
theorem dX9_byteAt_13 : decode cX9_byteAt 13 = .ok (.getfield 11, 3) := by decide +kernel
theorem dX9_byteAt_16 : decode cX9_byteAt 16 = .ok (.iload_n 1, 1) := by decide +kernel
theorem dX9_byteAt_17 : decode cX9_byteAt 17 = .ok (.iaload, 1) := by decide +kernel
theorem dX9_byteAt_18 : decode cX9_byteAt 18 = .ok (.goto 4, 3) := by decide +kernel
theorem dX9_byteAt_21 : decode cX9_byteAt 21 = .ok (.iconst (-1), 1) := by decide +kernel
theorem dX9_byteAt_22 : decode cX9_byteAt 22 = .ok (.ireturn, 1) := by decide +kernel
theorem dX9_endOfRun_0 : decode cX9_endOfRun 0 = .ok (.iload_n 1, 1) := by decide +kernel
theorem dX9_endOfRun_1 : decode cX9_endOfRun 1 = .ok (.istore 4, 2) := by decide +kernel
theorem dX9_endOfRun_3 : decode cX9_endOfRun 3 = .ok (.iload_n 1, 1) := by decide +kernel
theorem dX9_endOfRun_4 : decode cX9_endOfRun 4 = .ok (.istore 5, 2) := by decide +kernel
theorem dX9_endOfRun_6 : decode cX9_endOfRun 6 = .ok (.iload 5, 2) := by decide +kernel
theorem dX9_endOfRun_8 : decode cX9_endOfRun 8 = .ok (.aload_n 0, 1) := by decide +kernel
theorem dX9_endOfRun_9 : decode cX9_endOfRun 9 = .ok (.getfield 30, 3) := by decide +kernel
theorem dX9_endOfRun_12 : decode cX9_endOfRun 12 = .ok (.if_icmp .ge 29, 3) := by decide +kernel
theorem dX9_endOfRun_15 : decode cX9_endOfRun 15 = .ok (.aload_n 0, 1) := by decide +kernel
theorem dX9_endOfRun_16 : decode cX9_endOfRun 16 = .ok (.iload 5, 2) := by decide +kernel
theorem dX9_endOfRun_18 : decode cX9_endOfRun 18 = .ok (.invokevirtual 68, 3) := by decide +kernel
theorem dX9_endOfRun_21 : decode cX9_endOfRun 21 = .ok (.iload_n 2, 1) := by decide +kernel
theorem dX9_endOfRun_22 : decode cX9_endOfRun 22 = .ok (.iload_n 3, 1) := by decide +kernel
theorem dX9_endOfRun_23 : decode cX9_endOfRun 23 = .ok (.invokestatic 26, 3) := by decide +kernel
theorem dX9_endOfRun_26 : decode cX9_endOfRun 26 = .ok (.ifCond .eq 15, 3) := by decide +kernel
theorem dX9_endOfRun_29 : decode cX9_endOfRun 29 = .ok (.iload 5, 2) := by decide +kernel
theorem dX9_endOfRun_31 : decode cX9_endOfRun 31 = .ok (.iconst 1, 1) := by decide +kernel
theorem dX9_endOfRun_32 : decode cX9_endOfRun 32 = .ok (.iadd, 1) := by decide +kernel
theorem dX9_endOfRun_33 : decode cX9_endOfRun 33 = .ok (.istore 4, 2) := by decide +kernel
theorem dX9_endOfRun_35 : decode cX9_endOfRun 35 = .ok (.iinc 5 1, 3) := by decide +kernel
theorem dX9_endOfRun_38 : decode cX9_endOfRun 38 = .ok (.goto (-32), 3) := by decide +kernel
theorem dX9_endOfRun_41 : decode cX9_endOfRun 41 = .ok (.iload 4, 2) := by decide +kernel
theorem dX9_endOfRun_43 : decode cX9_endOfRun 43 = .ok (.ireturn, 1) := by decide +kernel
theorem dX9_readNumber_0 : decode cX9_readNumber 0 = .ok (.aload_n 0, 1) := by decide +kernel
theorem dX9_readNumber_1 : decode cX9_readNumber 1 = .ok (.iconst 0, 1) := by decide +kernel
theorem dX9_readNumber_2 : decode cX9_readNumber 2 = .ok (.putfield 61, 3) := by decide +kernel
theorem dX9_readNumber_5 : decode cX9_readNumber 5 = .ok (.aload_n 0, 1) := by decide +kernel
theorem dX9_readNumber_6 : decode cX9_readNumber 6 = .ok (.getfield 48, 3) := by decide +kernel
theorem dX9_readNumber_9 : decode cX9_readNumber 9 = .ok (.istore_n 1, 1) := by decide +kernel
theorem dX9_readNumber_10 : decode cX9_readNumber 10 = .ok (.iload_n 1, 1) := by decide +kernel
theorem dX9_readNumber_11 : decode cX9_readNumber 11 = .ok (.aload_n 0, 1) := by decide +kernel
theorem dX9_readNumber_12 : decode cX9_readNumber 12 = .ok (.getfield 39, 3) := by decide +kernel
theorem dX9_readNumber_15 : decode cX9_readNumber 15 = .ok (.if_icmp .ge 38, 3) := by decide +kernel
theorem dX9_readNumber_18 : decode cX9_readNumber 18 = .ok (.aload_n 0, 1) := by decide +kernel
theorem dX9_readNumber_19 : decode cX9_readNumber 19 = .ok (.getfield 45, 3) := by decide +kernel
theorem dX9_readNumber_22 : decode cX9_readNumber 22 = .ok (.bipush (-3), 2) := by decide +kernel
theorem dX9_readNumber_24 : decode cX9_readNumber 24 = .ok (.if_icmp .ne 29, 3) := by decide +kernel
theorem dX9_readNumber_27 : decode cX9_readNumber 27 = .ok (.aload_n 0, 1) := by decide +kernel
theorem dX9_readNumber_28 : decode cX9_readNumber 28 = .ok (.bipush 10, 2) := by decide +kernel
theorem dX9_readNumber_30 : decode cX9_readNumber 30 = .ok (.aload_n 0, 1) := by decide +kernel
theorem dX9_readNumber_31 : decode cX9_readNumber 31 = .ok (.getfield 61, 3) := by decide +kernel
theorem dX9_readNumber_34 : decode cX9_readNumber 34 = .ok (.imul, 1) := by decide +kernel
theorem dX9_readNumber_35 : decode cX9_readNumber 35 = .ok (.aload_n 0, 1) := by decide +kernel
theorem dX9_readNumber_36 : decode cX9_readNumber 36 = .ok (.iload_n 1, 1) := by decide +kernel
theorem dX9_readNumber_37 : decode cX9_readNumber 37 = .ok (.invokevirtual 68, 3) := by decide +kernel
theorem dX9_readNumber_40 : decode cX9_readNumber 40 = .ok (.iadd, 1) := by decide +kernel
theorem dX9_readNumber_41 : decode cX9_readNumber 41 = .ok (.bipush 48, 2) := by decide +kernel
theorem dX9_readNumber_43 : decode cX9_readNumber 43 = .ok (.isub, 1) := by decide +kernel
theorem dX9_readNumber_44 : decode cX9_readNumber 44 = .ok (.putfield 61, 3) := by decide +kernel
theorem dX9_readNumber_47 : decode cX9_readNumber 47 = .ok (.iinc 1 1, 3) := by decide +kernel
theorem dX9_readNumber_50 : decode cX9_readNumber 50 = .ok (.goto (-40), 3) := by decide +kernel
theorem dX9_readNumber_53 : decode cX9_readNumber 53 = .ok (.return_, 1) := by decide +kernel
theorem dX9_kindNamed_0 : decode cX9_kindNamed 0 = .ok (.iconst 0, 1) := by decide +kernel
theorem dX9_kindNamed_1 : decode cX9_kindNamed 1 = .ok (.istore_n 1, 1) := by decide +kernel
theorem dX9_kindNamed_2 : decode cX9_kindNamed 2 = .ok (.iload_n 1, 1) := by decide +kernel
theorem dX9_kindNamed_3 : decode cX9_kindNamed 3 = .ok (.bipush 6, 2) := by decide +kernel
theorem dX9_kindNamed_5 : decode cX9_kindNamed 5 = .ok (.if_icmp .gt 22, 3) := by decide +kernel
theorem dX9_kindNamed_8 : decode cX9_kindNamed 8 = .ok (.aload_n 0, 1) := by decide +kernel
theorem dX9_kindNamed_9 : decode cX9_kindNamed 9 = .ok (.iload_n 1, 1) := by decide +kernel
theorem dX9_kindNamed_10 : decode cX9_kindNamed 10 = .ok (.invokestatic 79, 3) := by decide +kernel
theorem dX9_kindNamed_13 : decode cX9_kindNamed 13 = .ok (.invokevirtual 83, 3) := by decide +kernel
theorem dX9_kindNamed_16 : decode cX9_kindNamed 16 = .ok (.ifCond .eq 5, 3) := by decide +kernel
theorem dX9_kindNamed_19 : decode cX9_kindNamed 19 = .ok (.iload_n 1, 1) := by decide +kernel
theorem dX9_kindNamed_20 : decode cX9_kindNamed 20 = .ok (.ireturn, 1) := by decide +kernel
theorem dX9_kindNamed_21 : decode cX9_kindNamed 21 = .ok (.iinc 1 1, 3) := by decide +kernel
theorem dX9_kindNamed_24 : decode cX9_kindNamed 24 = .ok (.goto (-22), 3) := by decide +kernel
theorem dX9_kindNamed_27 : decode cX9_kindNamed 27 = .ok (.bipush (-4), 2) := by decide +kernel
theorem dX9_kindNamed_29 : decode cX9_kindNamed 29 = .ok (.ireturn, 1) := by decide +kernel
theorem dX9_tokenSpells_0 : decode cX9_tokenSpells 0 = .ok (.aload_n 0, 1) := by decide +kernel
theorem dX9_tokenSpells_1 : decode cX9_tokenSpells 1 = .ok (.getfield 39, 3) := by decide +kernel
theorem dX9_tokenSpells_4 : decode cX9_tokenSpells 4 = .ok (.aload_n 0, 1) := by decide +kernel
theorem dX9_tokenSpells_5 : decode cX9_tokenSpells 5 = .ok (.getfield 48, 3) := by decide +kernel
theorem dX9_tokenSpells_8 : decode cX9_tokenSpells 8 = .ok (.isub, 1) := by decide +kernel
theorem dX9_tokenSpells_9 : decode cX9_tokenSpells 9 = .ok (.aload_n 1, 1) := by decide +kernel
theorem dX9_tokenSpells_10 : decode cX9_tokenSpells 10 = .ok (.invokevirtual 87, 3) := by decide +kernel
theorem dX9_tokenSpells_13 : decode cX9_tokenSpells 13 = .ok (.if_icmp .eq 5, 3) := by decide +kernel
theorem dX9_tokenSpells_16 : decode cX9_tokenSpells 16 = .ok (.iconst 0, 1) := by decide +kernel
theorem dX9_tokenSpells_17 : decode cX9_tokenSpells 17 = .ok (.ireturn, 1) := by decide +kernel
theorem dX9_tokenSpells_18 : decode cX9_tokenSpells 18 = .ok (.iconst 0, 1) := by decide +kernel
theorem dX9_tokenSpells_19 : decode cX9_tokenSpells 19 = .ok (.istore_n 2, 1) := by decide +kernel
theorem dX9_tokenSpells_20 : decode cX9_tokenSpells 20 = .ok (.iload_n 2, 1) := by decide +kernel
theorem dX9_tokenSpells_21 : decode cX9_tokenSpells 21 = .ok (.aload_n 1, 1) := by decide +kernel
theorem dX9_tokenSpells_22 : decode cX9_tokenSpells 22 = .ok (.invokevirtual 87, 3) := by decide +kernel
theorem dX9_tokenSpells_25 : decode cX9_tokenSpells 25 = .ok (.if_icmp .ge 29, 3) := by decide +kernel
theorem dX9_tokenSpells_28 : decode cX9_tokenSpells 28 = .ok (.aload_n 0, 1) := by decide +kernel
theorem dX9_tokenSpells_29 : decode cX9_tokenSpells 29 = .ok (.aload_n 0, 1) := by decide +kernel
theorem dX9_tokenSpells_30 : decode cX9_tokenSpells 30 = .ok (.getfield 48, 3) := by decide +kernel
theorem dX9_tokenSpells_33 : decode cX9_tokenSpells 33 = .ok (.iload_n 2, 1) := by decide +kernel
theorem dX9_tokenSpells_34 : decode cX9_tokenSpells 34 = .ok (.iadd, 1) := by decide +kernel
theorem dX9_tokenSpells_35 : decode cX9_tokenSpells 35 = .ok (.invokevirtual 68, 3) := by decide +kernel
theorem dX9_tokenSpells_38 : decode cX9_tokenSpells 38 = .ok (.aload_n 1, 1) := by decide +kernel
theorem dX9_tokenSpells_39 : decode cX9_tokenSpells 39 = .ok (.iload_n 2, 1) := by decide +kernel
theorem dX9_tokenSpells_40 : decode cX9_tokenSpells 40 = .ok (.invokevirtual 92, 3) := by decide +kernel
theorem dX9_tokenSpells_43 : decode cX9_tokenSpells 43 = .ok (.if_icmp .eq 5, 3) := by decide +kernel
theorem dX9_tokenSpells_46 : decode cX9_tokenSpells 46 = .ok (.iconst 0, 1) := by decide +kernel
theorem dX9_tokenSpells_47 : decode cX9_tokenSpells 47 = .ok (.ireturn, 1) := by decide +kernel
theorem dX9_tokenSpells_48 : decode cX9_tokenSpells 48 = .ok (.iinc 2 1, 3) := by decide +kernel
theorem dX9_tokenSpells_51 : decode cX9_tokenSpells 51 = .ok (.goto (-31), 3) := by decide +kernel
theorem dX9_tokenSpells_54 : decode cX9_tokenSpells 54 = .ok (.iconst 1, 1) := by decide +kernel
theorem dX9_tokenSpells_55 : decode cX9_tokenSpells 55 = .ok (.ireturn, 1) := by decide +kernel
theorem dX9_nameOf_0 : decode cX9_nameOf 0 = .ok (.iload_n 0, 1) := by decide +kernel
theorem dX9_nameOf_1 : decode cX9_nameOf 1 = .ok (.tableswitch 57 0 5 #[39, 42, 45, 48, 51, 54], 39) := by decide +kernel
theorem dX9_nameOf_40 : decode cX9_nameOf 40 = .ok (.ldc 96, 2) := by decide +kernel
theorem dX9_nameOf_42 : decode cX9_nameOf 42 = .ok (.areturn, 1) := by decide +kernel
theorem dX9_nameOf_43 : decode cX9_nameOf 43 = .ok (.ldc 98, 2) := by decide +kernel
theorem dX9_nameOf_45 : decode cX9_nameOf 45 = .ok (.areturn, 1) := by decide +kernel
theorem dX9_nameOf_46 : decode cX9_nameOf 46 = .ok (.ldc 100, 2) := by decide +kernel
theorem dX9_nameOf_48 : decode cX9_nameOf 48 = .ok (.areturn, 1) := by decide +kernel
theorem dX9_nameOf_49 : decode cX9_nameOf 49 = .ok (.ldc 102, 2) := by decide +kernel
theorem dX9_nameOf_51 : decode cX9_nameOf 51 = .ok (.areturn, 1) := by decide +kernel
theorem dX9_nameOf_52 : decode cX9_nameOf 52 = .ok (.ldc 104, 2) := by decide +kernel
theorem dX9_nameOf_54 : decode cX9_nameOf 54 = .ok (.areturn, 1) := by decide +kernel
theorem dX9_nameOf_55 : decode cX9_nameOf 55 = .ok (.ldc 106, 2) := by decide +kernel
theorem dX9_nameOf_57 : decode cX9_nameOf 57 = .ok (.areturn, 1) := by decide +kernel
theorem dX9_nameOf_58 : decode cX9_nameOf 58 = .ok (.ldc 108, 2) := by decide +kernel
theorem dX9_nameOf_60 : decode cX9_nameOf 60 = .ok (.areturn, 1) := by decide +kernel
theorem dX9_tellItem_0 : decode cX9_tellItem 0 = .ok (.iload_n 1, 1) := by decide +kernel
theorem dX9_tellItem_1 : decode cX9_tellItem 1 = .ok (.iconst 0, 1) := by decide +kernel
theorem dX9_tellItem_2 : decode cX9_tellItem 2 = .ok (.aload_n 0, 1) := by decide +kernel
theorem dX9_tellItem_3 : decode cX9_tellItem 3 = .ok (.getfield 36, 3) := by decide +kernel
theorem dX9_tellItem_6 : decode cX9_tellItem 6 = .ok (.iconst 1, 1) := by decide +kernel
theorem dX9_tellItem_7 : decode cX9_tellItem 7 = .ok (.isub, 1) := by decide +kernel
theorem dX9_tellItem_8 : decode cX9_tellItem 8 = .ok (.invokestatic 26, 3) := by decide +kernel
theorem dX9_tellItem_11 : decode cX9_tellItem 11 = .ok (.ifCond .ne 6, 3) := by decide +kernel
theorem dX9_tellItem_14 : decode cX9_tellItem 14 = .ok (.bipush (-2), 2) := by decide +kernel
theorem dX9_tellItem_16 : decode cX9_tellItem 16 = .ok (.ireturn, 1) := by decide +kernel
theorem dX9_tellItem_17 : decode cX9_tellItem 17 = .ok (.aload_n 0, 1) := by decide +kernel
theorem dX9_tellItem_18 : decode cX9_tellItem 18 = .ok (.getfield 23, 3) := by decide +kernel
theorem dX9_tellItem_21 : decode cX9_tellItem 21 = .ok (.iload_n 1, 1) := by decide +kernel
theorem dX9_tellItem_22 : decode cX9_tellItem 22 = .ok (.aaload, 1) := by decide +kernel
theorem dX9_tellItem_23 : decode cX9_tellItem 23 = .ok (.astore_n 3, 1) := by decide +kernel
theorem dX9_tellItem_24 : decode cX9_tellItem 24 = .ok (.aload_n 2, 1) := by decide +kernel
theorem dX9_tellItem_25 : decode cX9_tellItem 25 = .ok (.getfield 110, 3) := by decide +kernel
theorem dX9_tellItem_28 : decode cX9_tellItem 28 = .ok (.astore 4, 2) := by decide +kernel
theorem dX9_tellItem_30 : decode cX9_tellItem 30 = .ok (.aload_n 0, 1) := by decide +kernel
theorem dX9_tellItem_31 : decode cX9_tellItem 31 = .ok (.getfield 15, 3) := by decide +kernel
theorem dX9_tellItem_34 : decode cX9_tellItem 34 = .ok (.iload_n 1, 1) := by decide +kernel
theorem dX9_tellItem_35 : decode cX9_tellItem 35 = .ok (.iaload, 1) := by decide +kernel
theorem dX9_tellItem_36 : decode cX9_tellItem 36 = .ok (.tableswitch 132 0 5 #[40, 49, 61, 77, 93, 115], 40) := by decide +kernel
theorem dX9_tellItem_76 : decode cX9_tellItem 76 = .ok (.aload 4, 2) := by decide +kernel
theorem dX9_tellItem_78 : decode cX9_tellItem 78 = .ok (.aload_n 3, 1) := by decide +kernel
theorem dX9_tellItem_79 : decode cX9_tellItem 79 = .ok (.iconst 0, 1) := by decide +kernel
theorem dX9_tellItem_80 : decode cX9_tellItem 80 = .ok (.iaload, 1) := by decide +kernel
theorem dX9_tellItem_81 : decode cX9_tellItem 81 = .ok (.invokevirtual 116, 3) := by decide +kernel
theorem dX9_tellItem_84 : decode cX9_tellItem 84 = .ok (.ireturn, 1) := by decide +kernel
theorem dX9_tellItem_85 : decode cX9_tellItem 85 = .ok (.aload 4, 2) := by decide +kernel
theorem dX9_tellItem_87 : decode cX9_tellItem 87 = .ok (.aload_n 3, 1) := by decide +kernel
theorem dX9_tellItem_88 : decode cX9_tellItem 88 = .ok (.iconst 0, 1) := by decide +kernel
theorem dX9_tellItem_89 : decode cX9_tellItem 89 = .ok (.iaload, 1) := by decide +kernel
theorem dX9_tellItem_90 : decode cX9_tellItem 90 = .ok (.aload_n 3, 1) := by decide +kernel
theorem dX9_tellItem_91 : decode cX9_tellItem 91 = .ok (.iconst 1, 1) := by decide +kernel
theorem dX9_tellItem_92 : decode cX9_tellItem 92 = .ok (.iaload, 1) := by decide +kernel
theorem dX9_tellItem_93 : decode cX9_tellItem 93 = .ok (.invokevirtual 121, 3) := by decide +kernel
theorem dX9_tellItem_96 : decode cX9_tellItem 96 = .ok (.ireturn, 1) := by decide +kernel
theorem dX9_tellItem_97 : decode cX9_tellItem 97 = .ok (.aload 4, 2) := by decide +kernel
theorem dX9_tellItem_99 : decode cX9_tellItem 99 = .ok (.aload_n 3, 1) := by decide +kernel
theorem dX9_tellItem_100 : decode cX9_tellItem 100 = .ok (.iconst 0, 1) := by decide +kernel
theorem dX9_tellItem_101 : decode cX9_tellItem 101 = .ok (.iaload, 1) := by decide +kernel
theorem dX9_tellItem_102 : decode cX9_tellItem 102 = .ok (.iconst 0, 1) := by decide +kernel
theorem dX9_tellItem_103 : decode cX9_tellItem 103 = .ok (.aload_n 3, 1) := by decide +kernel
theorem dX9_tellItem_104 : decode cX9_tellItem 104 = .ok (.iconst 1, 1) := by decide +kernel
theorem dX9_tellItem_105 : decode cX9_tellItem 105 = .ok (.iaload, 1) := by decide +kernel
theorem dX9_tellItem_106 : decode cX9_tellItem 106 = .ok (.aload_n 3, 1) := by decide +kernel
theorem dX9_tellItem_107 : decode cX9_tellItem 107 = .ok (.iconst 2, 1) := by decide +kernel
theorem dX9_tellItem_108 : decode cX9_tellItem 108 = .ok (.iaload, 1) := by decide +kernel
theorem dX9_tellItem_109 : decode cX9_tellItem 109 = .ok (.invokevirtual 124, 3) := by decide +kernel
theorem dX9_tellItem_112 : decode cX9_tellItem 112 = .ok (.ireturn, 1) := by decide +kernel
theorem dX9_tellItem_113 : decode cX9_tellItem 113 = .ok (.aload 4, 2) := by decide +kernel
theorem dX9_tellItem_115 : decode cX9_tellItem 115 = .ok (.aload_n 3, 1) := by decide +kernel
theorem dX9_tellItem_116 : decode cX9_tellItem 116 = .ok (.iconst 0, 1) := by decide +kernel
theorem dX9_tellItem_117 : decode cX9_tellItem 117 = .ok (.iaload, 1) := by decide +kernel
theorem dX9_tellItem_118 : decode cX9_tellItem 118 = .ok (.iconst 1, 1) := by decide +kernel
theorem dX9_tellItem_119 : decode cX9_tellItem 119 = .ok (.aload_n 3, 1) := by decide +kernel
theorem dX9_tellItem_120 : decode cX9_tellItem 120 = .ok (.iconst 1, 1) := by decide +kernel
theorem dX9_tellItem_121 : decode cX9_tellItem 121 = .ok (.iaload, 1) := by decide +kernel
theorem dX9_tellItem_122 : decode cX9_tellItem 122 = .ok (.aload_n 3, 1) := by decide +kernel
theorem dX9_tellItem_123 : decode cX9_tellItem 123 = .ok (.iconst 2, 1) := by decide +kernel
theorem dX9_tellItem_124 : decode cX9_tellItem 124 = .ok (.iaload, 1) := by decide +kernel
theorem dX9_tellItem_125 : decode cX9_tellItem 125 = .ok (.invokevirtual 124, 3) := by decide +kernel
theorem dX9_tellItem_128 : decode cX9_tellItem 128 = .ok (.ireturn, 1) := by decide +kernel
theorem dX9_tellItem_129 : decode cX9_tellItem 129 = .ok (.aload 4, 2) := by decide +kernel
theorem dX9_tellItem_131 : decode cX9_tellItem 131 = .ok (.iconst 0, 1) := by decide +kernel
theorem dX9_tellItem_132 : decode cX9_tellItem 132 = .ok (.aload_n 3, 1) := by decide +kernel
theorem dX9_tellItem_133 : decode cX9_tellItem 133 = .ok (.iconst 0, 1) := by decide +kernel
theorem dX9_tellItem_134 : decode cX9_tellItem 134 = .ok (.iaload, 1) := by decide +kernel
theorem dX9_tellItem_135 : decode cX9_tellItem 135 = .ok (.invokevirtual 128, 3) := by decide +kernel
theorem dX9_tellItem_138 : decode cX9_tellItem 138 = .ok (.aload 4, 2) := by decide +kernel
theorem dX9_tellItem_140 : decode cX9_tellItem 140 = .ok (.iconst 1, 1) := by decide +kernel
theorem dX9_tellItem_141 : decode cX9_tellItem 141 = .ok (.aload_n 3, 1) := by decide +kernel
theorem dX9_tellItem_142 : decode cX9_tellItem 142 = .ok (.iconst 1, 1) := by decide +kernel
theorem dX9_tellItem_143 : decode cX9_tellItem 143 = .ok (.iaload, 1) := by decide +kernel
theorem dX9_tellItem_144 : decode cX9_tellItem 144 = .ok (.invokevirtual 128, 3) := by decide +kernel
theorem dX9_tellItem_147 : decode cX9_tellItem 147 = .ok (.invokestatic 131, 3) := by decide +kernel
theorem dX9_tellItem_150 : decode cX9_tellItem 150 = .ok (.ireturn, 1) := by decide +kernel
theorem dX9_tellItem_151 : decode cX9_tellItem 151 = .ok (.aload_n 3, 1) := by decide +kernel
theorem dX9_tellItem_152 : decode cX9_tellItem 152 = .ok (.aload_n 0, 1) := by decide +kernel
theorem dX9_tellItem_153 : decode cX9_tellItem 153 = .ok (.getfield 18, 3) := by decide +kernel
theorem dX9_tellItem_156 : decode cX9_tellItem 156 = .ok (.iload_n 1, 1) := by decide +kernel
theorem dX9_tellItem_157 : decode cX9_tellItem 157 = .ok (.iaload, 1) := by decide +kernel
theorem dX9_tellItem_158 : decode cX9_tellItem 158 = .ok (.iconst 1, 1) := by decide +kernel
theorem dX9_tellItem_159 : decode cX9_tellItem 159 = .ok (.isub, 1) := by decide +kernel
theorem dX9_tellItem_160 : decode cX9_tellItem 160 = .ok (.aload_n 2, 1) := by decide +kernel
theorem dX9_tellItem_161 : decode cX9_tellItem 161 = .ok (.getfield 136, 3) := by decide +kernel
theorem dX9_tellItem_164 : decode cX9_tellItem 164 = .ok (.invokestatic 140, 3) := by decide +kernel
theorem dX9_tellItem_167 : decode cX9_tellItem 167 = .ok (.ireturn, 1) := by decide +kernel
theorem dX9_tellItem_168 : decode cX9_tellItem 168 = .ok (.aload_n 2, 1) := by decide +kernel
theorem dX9_tellItem_169 : decode cX9_tellItem 169 = .ok (.getfield 136, 3) := by decide +kernel
theorem dX9_tellItem_172 : decode cX9_tellItem 172 = .ok (.aload_n 3, 1) := by decide +kernel
theorem dX9_tellItem_173 : decode cX9_tellItem 173 = .ok (.iconst 0, 1) := by decide +kernel
theorem dX9_tellItem_174 : decode cX9_tellItem 174 = .ok (.iaload, 1) := by decide +kernel
theorem dX9_tellItem_175 : decode cX9_tellItem 175 = .ok (.aload_n 3, 1) := by decide +kernel
theorem dX9_tellItem_176 : decode cX9_tellItem 176 = .ok (.iconst 1, 1) := by decide +kernel
theorem dX9_tellItem_177 : decode cX9_tellItem 177 = .ok (.iaload, 1) := by decide +kernel
theorem dX9_tellItem_178 : decode cX9_tellItem 178 = .ok (.invokevirtual 144, 3) := by decide +kernel
theorem dX9_tellItem_181 : decode cX9_tellItem 181 = .ok (.ireturn, 1) := by decide +kernel
theorem dX9_tellWord_0 : decode cX9_tellWord 0 = .ok (.iconst 0, 1) := by decide +kernel
theorem dX9_tellWord_1 : decode cX9_tellWord 1 = .ok (.istore_n 3, 1) := by decide +kernel
theorem dX9_tellWord_2 : decode cX9_tellWord 2 = .ok (.iconst 1, 1) := by decide +kernel
theorem dX9_tellWord_3 : decode cX9_tellWord 3 = .ok (.istore 4, 2) := by decide +kernel
theorem dX9_tellWord_5 : decode cX9_tellWord 5 = .ok (.iload 4, 2) := by decide +kernel
theorem dX9_tellWord_7 : decode cX9_tellWord 7 = .ok (.iload_n 1, 1) := by decide +kernel
theorem dX9_tellWord_8 : decode cX9_tellWord 8 = .ok (.if_icmp .gt 31, 3) := by decide +kernel
theorem dX9_tellWord_11 : decode cX9_tellWord 11 = .ok (.aload_n 0, 1) := by decide +kernel
theorem dX9_tellWord_12 : decode cX9_tellWord 12 = .ok (.iload 4, 2) := by decide +kernel
theorem dX9_tellWord_14 : decode cX9_tellWord 14 = .ok (.iaload, 1) := by decide +kernel
theorem dX9_tellWord_15 : decode cX9_tellWord 15 = .ok (.bipush 6, 2) := by decide +kernel
theorem dX9_tellWord_17 : decode cX9_tellWord 17 = .ok (.if_icmp .lt 6, 3) := by decide +kernel
theorem dX9_tellWord_20 : decode cX9_tellWord 20 = .ok (.bipush (-2), 2) := by decide +kernel
theorem dX9_tellWord_22 : decode cX9_tellWord 22 = .ok (.ireturn, 1) := by decide +kernel
theorem dX9_tellWord_23 : decode cX9_tellWord 23 = .ok (.iload_n 3, 1) := by decide +kernel
theorem dX9_tellWord_24 : decode cX9_tellWord 24 = .ok (.bipush 6, 2) := by decide +kernel
theorem dX9_tellWord_26 : decode cX9_tellWord 26 = .ok (.imul, 1) := by decide +kernel
